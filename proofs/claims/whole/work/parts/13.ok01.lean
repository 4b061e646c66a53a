theorem s0_Ben4 : LBen S0 4 := LTol.s3 s0_Tol1
theorem s0_Ben21 : LBen S0 21 := LTol.s3 s0_Tol18
theorem s0_Ben38 : LBen S0 38 := LTol.s3 s0_Tol35
theorem s0_Ben56 : LBen S0 56 := LTol.s3 s0_Tol53
theorem s0_Tri10 : LTri S0 10 := LTol.s9 s0_Tol1
theorem s0_Tri14 : LTri S0 14 := LTol.s13 s0_Tol1
theorem s0_Tri27 : LTri S0 27 := LTol.s9 s0_Tol18
theorem s0_Tri31 : LTri S0 31 := LTol.s13 s0_Tol18
theorem s0_Tri44 : LTri S0 44 := LTol.s9 s0_Tol35
theorem s0_Tri48 : LTri S0 48 := LTol.s13 s0_Tol35
theorem s0_Tri62 : LTri S0 62 := LTol.s9 s0_Tol53
theorem s0_Tri66 : LTri S0 66 := LTol.s13 s0_Tol53
theorem s0_Cou73 : LCou S0 73 := LHea.s1 s0_Hea72
theorem s0_Cou80 : LCou S0 80 := LHea.s1 s0_Hea79
theorem s0_Cou88 : LCou S0 88 := LHea.s1 s0_Hea87
theorem ok_Ben_add {X : Sc} {l : Launch} {sh : List Shp} {a : Nat} {M : Mem} {x1 : Int32} {x2 : Int32} {x3 : Int32} {x4 : Int32} {x5 : Int32} {M' : Mem} (ha : LBen sh a) (h : f_Ben_add a x1 x2 x3 x4 x5 M = some M') : Mt X l yX0_add cX0_add 6 none 0 0 0 [.ref a, .int x1, .int x2, .int x3, .int x4, .int x5] sh M none sh M' := by
  refine Mt.ofV (by decide) (Nat.le_of_ble_eq_true rfl) ?_
  show V X yX0_add cX0_add 6 none (rmD 0 0 0) l (FM none sh M' 0 0) 0 [some (.ref a), some (.int x1), some (.int x2), some (.int x3), some (.int x4), some (.int x5)] [] sh M 0 0
  unfold f_Ben_add at h
  refine V.aload_n dX0_add_0 rfl ?_
  refine V.getI dX0_add_1 fl_RX0_9 (LBen.f0 ha) rfl rfl ?_
  refine V.if_lt (tgt := 16) dX0_add_4 (by decide) (fun hc1 => ?_) (fun hc1 => ?_)
  · replace h := ite_t hc1 h
    have e1 := inj1 h
    subst e1
    exact V.vret dX0_add_16 rfl
  replace h := ite_f hc1 h
  refine V.aload_n dX0_add_7 rfl ?_
  refine V.getI dX0_add_8 fl_RX0_9 (LBen.f0 ha) rfl rfl ?_
  refine V.bipush dX0_add_11 bp_8 ?_
  refine V.icmp_lt (tgt := 17) dX0_add_13 (by decide) (fun hc2 => ?_) (fun hc2 => ?_)
  · replace h := ite_t hc2 h
    refine V.aload_n dX0_add_17 rfl ?_
    refine V.getR dX0_add_18 fl_RX0_15 (LBen.f0 ha) rfl rfl ?_
    refine V.aload_n dX0_add_21 rfl ?_
    refine V.getI dX0_add_22 fl_RX0_9 (LBen.f0 ha) rfl rfl ?_
    refine V.iload_n dX0_add_25 rfl ?_
    obtain ⟨hb3, h⟩ := ck_s h
    refine V.iast dX0_add_26 (LBen.f1 ha) rfl (vp_of hb3) (fun M4 hM4 => ?_)
    replace h := setM_at h M4 hM4
    refine V.aload_n dX0_add_27 rfl ?_
    refine V.getR dX0_add_28 fl_RX0_19 (LBen.f0 ha) rfl rfl ?_
    refine V.aload_n dX0_add_31 rfl ?_
    refine V.getI dX0_add_32 fl_RX0_9 (LBen.f0 ha) rfl rfl ?_
    refine V.iload_n dX0_add_35 rfl ?_
    obtain ⟨hb5, h⟩ := ck_s h
    refine V.iast dX0_add_36 (LBen.f2 ha) rfl (vp_of hb5) (fun M6 hM6 => ?_)
    replace h := setM_at h M6 hM6
    refine V.aload_n dX0_add_37 rfl ?_
    refine V.getR dX0_add_38 fl_RX0_22 (LBen.f0 ha) rfl rfl ?_
    refine V.aload_n dX0_add_41 rfl ?_
    refine V.getI dX0_add_42 fl_RX0_9 (LBen.f0 ha) rfl rfl ?_
    refine V.iload_n dX0_add_45 rfl ?_
    obtain ⟨hb7, h⟩ := ck_s h
    refine V.iast dX0_add_46 (LBen.f3 ha) rfl (vp_of hb7) (fun M8 hM8 => ?_)
    replace h := setM_at h M8 hM8
    refine V.aload_n dX0_add_47 rfl ?_
    refine V.getR dX0_add_48 fl_RX0_25 (LBen.f0 ha) rfl rfl ?_
    refine V.aload_n dX0_add_51 rfl ?_
    refine V.getI dX0_add_52 fl_RX0_9 (LBen.f0 ha) rfl rfl ?_
    refine V.iload dX0_add_55 rfl ?_
    obtain ⟨hb9, h⟩ := ck_s h
    refine V.iast dX0_add_57 (LBen.f4 ha) rfl (vp_of hb9) (fun M10 hM10 => ?_)
    replace h := setM_at h M10 hM10
    refine V.aload_n dX0_add_58 rfl ?_
    refine V.getR dX0_add_59 fl_RX0_28 (LBen.f0 ha) rfl rfl ?_
    refine V.aload_n dX0_add_62 rfl ?_
    refine V.getI dX0_add_63 fl_RX0_9 (LBen.f0 ha) rfl rfl ?_
    refine V.iload dX0_add_66 rfl ?_
    obtain ⟨hb11, h⟩ := ck_s h
    refine V.iast dX0_add_68 (LBen.f5 ha) rfl (vp_of hb11) (fun M12 hM12 => ?_)
    replace h := setM_at h M12 hM12
    refine V.aload_n dX0_add_69 rfl ?_
    refine V.dup dX0_add_70 rfl ?_
    refine V.getI dX0_add_71 fl_RX0_9 (LBen.f0 ha) rfl rfl ?_
    refine V.iconst dX0_add_74 ic_1 ?_
    refine V.iadd dX0_add_75 ?_
    refine V.putI dX0_add_76 fp_RX0_9 (LBen.f0 ha) rfl rfl (fun M13 hM13 => ?_)
    replace h := setM_at h M13 hM13
    have e1 := inj1 h
    subst e1
    exact V.vret dX0_add_79 rfl
  replace h := ite_f hc2 h
  have e1 := inj1 h
  subst e1
  exact V.vret dX0_add_16 rfl
theorem ok_Ben_copyFrom {X : Sc} {l : Launch} {sh : List Shp} {a : Nat} {o : Nat} {M : Mem}  {M' : Mem} (ha : LBen sh a) (ho : LBen sh o) (h : f_Ben_copyFrom a o M = some M') : Mt X l yX0_copyFrom cX0_copyFrom 2 none 1 0 0 [.ref a, .ref o] sh M none sh M' := by
  refine Mt.ofV (by decide) (Nat.le_of_ble_eq_true rfl) ?_
  show V X yX0_copyFrom cX0_copyFrom 2 none (rmD 1 0 0) l (FM none sh M' 0 0) 0 [some (.ref a), some (.ref o)] [] sh M 0 0
  unfold f_Ben_copyFrom at h
  refine V.aload_n dX0_copyFrom_0 rfl ?_
  refine V.aload_n dX0_copyFrom_1 rfl ?_
  refine V.getI dX0_copyFrom_2 fl_RX0_9 (LBen.f0 ho) rfl rfl ?_
  refine V.putI dX0_copyFrom_5 fp_RX0_9 (LBen.f0 ha) rfl rfl (fun M1 hM1 => ?_)
  replace h := setM_at h M1 hM1
  refine V.aload_n dX0_copyFrom_8 rfl ?_
  refine V.getR dX0_copyFrom_9 fl_RX0_15 (LBen.f0 ho) rfl rfl ?_
  refine V.iconst dX0_copyFrom_12 ic_0 ?_
  refine V.aload_n dX0_copyFrom_13 rfl ?_
  refine V.getR dX0_copyFrom_14 fl_RX0_15 (LBen.f0 ha) rfl rfl ?_
  refine V.iconst dX0_copyFrom_17 ic_0 ?_
  refine V.bipush dX0_copyFrom_18 bp_8 ?_
  refine V.copyi dX0_copyFrom_20 rfl wm_RX0_31 w_acn w_acs w_aci (LBen.f1 ho) (LBen.f1 ha) rfl rfl (by decide) (by decide) (by decide) (by decide) (by decide) (by decide) (Nat.le_of_ble_eq_true rfl) (fun M2 hM2 => ?_)
  replace h := cpyM_at h M2 hM2
  refine V.aload_n dX0_copyFrom_23 rfl ?_
  refine V.getR dX0_copyFrom_24 fl_RX0_19 (LBen.f0 ho) rfl rfl ?_
  refine V.iconst dX0_copyFrom_27 ic_0 ?_
  refine V.aload_n dX0_copyFrom_28 rfl ?_
  refine V.getR dX0_copyFrom_29 fl_RX0_19 (LBen.f0 ha) rfl rfl ?_
  refine V.iconst dX0_copyFrom_32 ic_0 ?_
  refine V.bipush dX0_copyFrom_33 bp_8 ?_
  refine V.copyi dX0_copyFrom_35 rfl wm_RX0_31 w_acn w_acs w_aci (LBen.f2 ho) (LBen.f2 ha) rfl rfl (by decide) (by decide) (by decide) (by decide) (by decide) (by decide) (Nat.le_of_ble_eq_true rfl) (fun M3 hM3 => ?_)
  replace h := cpyM_at h M3 hM3
  refine V.aload_n dX0_copyFrom_38 rfl ?_
  refine V.getR dX0_copyFrom_39 fl_RX0_22 (LBen.f0 ho) rfl rfl ?_
  refine V.iconst dX0_copyFrom_42 ic_0 ?_
  refine V.aload_n dX0_copyFrom_43 rfl ?_
  refine V.getR dX0_copyFrom_44 fl_RX0_22 (LBen.f0 ha) rfl rfl ?_
  refine V.iconst dX0_copyFrom_47 ic_0 ?_
  refine V.bipush dX0_copyFrom_48 bp_8 ?_
  refine V.copyi dX0_copyFrom_50 rfl wm_RX0_31 w_acn w_acs w_aci (LBen.f3 ho) (LBen.f3 ha) rfl rfl (by decide) (by decide) (by decide) (by decide) (by decide) (by decide) (Nat.le_of_ble_eq_true rfl) (fun M4 hM4 => ?_)
  replace h := cpyM_at h M4 hM4
  refine V.aload_n dX0_copyFrom_53 rfl ?_
  refine V.getR dX0_copyFrom_54 fl_RX0_25 (LBen.f0 ho) rfl rfl ?_
  refine V.iconst dX0_copyFrom_57 ic_0 ?_
  refine V.aload_n dX0_copyFrom_58 rfl ?_
  refine V.getR dX0_copyFrom_59 fl_RX0_25 (LBen.f0 ha) rfl rfl ?_
  refine V.iconst dX0_copyFrom_62 ic_0 ?_
  refine V.bipush dX0_copyFrom_63 bp_8 ?_
  refine V.copyi dX0_copyFrom_65 rfl wm_RX0_31 w_acn w_acs w_aci (LBen.f4 ho) (LBen.f4 ha) rfl rfl (by decide) (by decide) (by decide) (by decide) (by decide) (by decide) (Nat.le_of_ble_eq_true rfl) (fun M5 hM5 => ?_)
  replace h := cpyM_at h M5 hM5
  refine V.aload_n dX0_copyFrom_68 rfl ?_
  refine V.getR dX0_copyFrom_69 fl_RX0_28 (LBen.f0 ho) rfl rfl ?_
  refine V.iconst dX0_copyFrom_72 ic_0 ?_
  refine V.aload_n dX0_copyFrom_73 rfl ?_
  refine V.getR dX0_copyFrom_74 fl_RX0_28 (LBen.f0 ha) rfl rfl ?_
  refine V.iconst dX0_copyFrom_77 ic_0 ?_
  refine V.bipush dX0_copyFrom_78 bp_8 ?_
  refine V.copyi dX0_copyFrom_80 rfl wm_RX0_31 w_acn w_acs w_aci (LBen.f5 ho) (LBen.f5 ha) rfl rfl (by decide) (by decide) (by decide) (by decide) (by decide) (by decide) (Nat.le_of_ble_eq_true rfl) (fun M6 hM6 => ?_)
  replace h := cpyM_at h M6 hM6
  have e1 := inj1 h
  subst e1
  exact V.vret dX0_copyFrom_83 rfl
theorem ok_Ben_exists {X : Sc} {l : Launch} {sh : List Shp} {a : Nat} {M : Mem} {x1 : Int32} {r : Int32} (ha : LBen sh a) (h : f_Ben_exists a M x1 = some r) : Mt X l yX0_exists cX0_exists 2 (some .boolean) 0 0 0 [.ref a, .int x1] sh M (some (.int r)) sh M := by
  refine Mt.ofV (by decide) (Nat.le_of_ble_eq_true rfl) ?_
  show V X yX0_exists cX0_exists 2 (some .boolean) (rmD 0 0 0) l (FM (some (.int r)) sh M 0 0) 0 [some (.ref a), some (.int x1)] [] sh M 0 0
  unfold f_Ben_exists at h
  refine V.iload_n dX0_exists_0 rfl ?_
  refine V.if_lt (tgt := 22) dX0_exists_1 (by decide) (fun hc1 => ?_) (fun hc1 => ?_)
  · replace h := ite_t hc1 h
    refine V.iconst dX0_exists_22 ic_0 ?_
    have e1 := inj1 h
    subst e1
    exact V.iret dX0_exists_23 rfl rfl
  replace h := ite_f hc1 h
  refine V.iload_n dX0_exists_4 rfl ?_
  refine V.aload_n dX0_exists_5 rfl ?_
  refine V.getI dX0_exists_6 fl_RX0_9 (LBen.f0 ha) rfl rfl ?_
  refine V.icmp_ge (tgt := 22) dX0_exists_9 (by decide) (fun hc2 => ?_) (fun hc2 => ?_)
  · replace h := ite_t hc2 h
    refine V.iconst dX0_exists_22 ic_0 ?_
    have e1 := inj1 h
    subst e1
    exact V.iret dX0_exists_23 rfl rfl
  replace h := ite_f hc2 h
  refine V.iload_n dX0_exists_12 rfl ?_
  refine V.bipush dX0_exists_13 bp_8 ?_
  refine V.icmp_ge (tgt := 22) dX0_exists_15 (by decide) (fun hc3 => ?_) (fun hc3 => ?_)
  · replace h := ite_t hc3 h
    refine V.iconst dX0_exists_22 ic_0 ?_
    have e1 := inj1 h
    subst e1
    exact V.iret dX0_exists_23 rfl rfl
  replace h := ite_f hc3 h
  refine V.iconst dX0_exists_18 ic_1 ?_
  refine V.goto (tgt := 23) dX0_exists_19 (by decide) ?_
  have e1 := inj1 h
  subst e1
  exact V.iret dX0_exists_23 rfl rfl
theorem okc_Ben_anyPutOn_2 {X : Sc} {l : Launch} {sh : List Shp}  {a : Nat} {M : Mem}  (ha : LBen sh a) : ∀ (n : Nat) (x1 : Int32) (x2 : Int32) (r : Int32), f_Ben_anyPutOn_L2 a M n x1 x2 = some r → V X yX0_anyPutOn cX0_anyPutOn 3 (some .boolean) (rmD 0 0 0) l (FM (some (.int r)) sh M 0 0) 2 [some (.ref a), some (.int x1), some (.int x2)] [] sh M 0 0 := by
  intro n
  induction n with
  | zero =>
    intro x1 x2 r h
    rw [f_Ben_anyPutOn_L2] at h
    cases h
  | succ n ih =>
    intro x1 x2 r h
    rw [f_Ben_anyPutOn_L2] at h
    refine V.iload_n dX0_anyPutOn_2 rfl ?_
    refine V.aload_n dX0_anyPutOn_3 rfl ?_
    refine V.getI dX0_anyPutOn_4 fl_RX0_9 (LBen.f0 ha) rfl rfl ?_
    refine V.icmp_ge (tgt := 44) dX0_anyPutOn_7 (by decide) (fun hc1 => ?_) (fun hc1 => ?_)
    · replace h := ite_t hc1 h
      refine V.iconst dX0_anyPutOn_44 ic_0 ?_
      have e1 := inj1 h
      subst e1
      exact V.iret dX0_anyPutOn_45 rfl rfl
    replace h := ite_f hc1 h
    refine V.iload_n dX0_anyPutOn_10 rfl ?_
    refine V.bipush dX0_anyPutOn_11 bp_8 ?_
    refine V.icmp_ge (tgt := 44) dX0_anyPutOn_13 (by decide) (fun hc2 => ?_) (fun hc2 => ?_)
    · replace h := ite_t hc2 h
      refine V.iconst dX0_anyPutOn_44 ic_0 ?_
      have e1 := inj1 h
      subst e1
      exact V.iret dX0_anyPutOn_45 rfl rfl
    replace h := ite_f hc2 h
    refine V.bipush dX0_anyPutOn_16 bp_9 ?_
    refine V.aload_n dX0_anyPutOn_18 rfl ?_
    refine V.getR dX0_anyPutOn_19 fl_RX0_19 (LBen.f0 ha) rfl rfl ?_
    refine V.iload_n dX0_anyPutOn_22 rfl ?_
    obtain ⟨hb3, h⟩ := ck_s h
    refine V.iald dX0_anyPutOn_23 (LBen.f2 ha) rfl (vp_of hb3) ?_
    refine V.imul dX0_anyPutOn_24 ?_
    refine V.aload_n dX0_anyPutOn_25 rfl ?_
    refine V.getR dX0_anyPutOn_26 fl_RX0_15 (LBen.f0 ha) rfl rfl ?_
    refine V.iload_n dX0_anyPutOn_29 rfl ?_
    obtain ⟨hb4, h⟩ := ck_s h
    refine V.iald dX0_anyPutOn_30 (LBen.f1 ha) rfl (vp_of hb4) ?_
    refine V.iadd dX0_anyPutOn_31 ?_
    refine V.iload_n dX0_anyPutOn_32 rfl ?_
    refine V.icmp_ne (tgt := 38) dX0_anyPutOn_33 (by decide) (fun hc5 => ?_) (fun hc5 => ?_)
    · replace h := ite_f hc5 h
      refine V.iinc dX0_anyPutOn_38 rfl (iinc_c ic_1) (by decide) rfl ?_
      refine V.goto (tgt := 2) dX0_anyPutOn_41 (by decide) ?_
      exact ih _ _ _ h
    replace h := ite_t hc5 h
    refine V.iconst dX0_anyPutOn_36 ic_1 ?_
    have e1 := inj1 h
    subst e1
    exact V.iret dX0_anyPutOn_37 rfl rfl
theorem ok_Ben_anyPutOn {X : Sc} {l : Launch} {sh : List Shp} {a : Nat} {M : Mem} {x1 : Int32} {r : Int32} (ha : LBen sh a) (h : f_Ben_anyPutOn a M x1 = some r) : Mt X l yX0_anyPutOn cX0_anyPutOn 3 (some .boolean) 0 0 0 [.ref a, .int x1] sh M (some (.int r)) sh M := by
  refine Mt.ofV (by decide) (Nat.le_of_ble_eq_true rfl) ?_
  show V X yX0_anyPutOn cX0_anyPutOn 3 (some .boolean) (rmD 0 0 0) l (FM (some (.int r)) sh M 0 0) 0 [some (.ref a), some (.int x1), none] [] sh M 0 0
  unfold f_Ben_anyPutOn at h
  refine V.iconst dX0_anyPutOn_0 ic_0 ?_
  refine V.istore_n dX0_anyPutOn_1 (by decide) rfl ?_
  exact okc_Ben_anyPutOn_2 ha _ _ _ _ h
theorem okc_Ben_cellIn_44 {X : Sc} {l : Launch} {sh : List Shp}  {a : Nat} {M : Mem}  (ha : LBen sh a) {x1 : Int32} {s0 : Int32} {r : Int32} (h : f_Ben_cellIn_J44 a M x1 s0 = some r) : V X yX0_cellIn cX0_cellIn 5 (some .int) (rmD 1 0 0) l (FM (some (.int r)) sh M 0 0) 44 [some (.ref a), some (.int x1), none, none, none] [.int s0] sh M 0 0 := by
  unfold f_Ben_cellIn_J44 at h
  refine V.istore dX0_cellIn_44 (by decide) rfl ?_
  refine V.bipush dX0_cellIn_46 bp_9 ?_
  refine V.aload_n dX0_cellIn_48 rfl ?_
  refine V.getR dX0_cellIn_49 fl_RX0_19 (LBen.f0 ha) rfl rfl ?_
  refine V.iload_n dX0_cellIn_52 rfl ?_
  obtain ⟨hb1, h⟩ := ck_s h
  refine V.iald dX0_cellIn_53 (LBen.f2 ha) rfl (vp_of hb1) ?_
  refine V.imul dX0_cellIn_54 ?_
  refine V.iload dX0_cellIn_55 rfl ?_
  refine V.iadd dX0_cellIn_57 ?_
  have e1 := inj1 h
  subst e1
  exact V.iret dX0_cellIn_58 rfl rfl
theorem okc_Ben_cellIn_38 {X : Sc} {l : Launch} {sh : List Shp}  {a : Nat} {M : Mem}  (ha : LBen sh a) {x1 : Int32} {r : Int32} (h : f_Ben_cellIn_J38 a M x1 = some r) : V X yX0_cellIn cX0_cellIn 5 (some .int) (rmD 1 0 0) l (FM (some (.int r)) sh M 0 0) 38 [some (.ref a), some (.int x1), none, none, none] [] sh M 0 0 := by
  unfold f_Ben_cellIn_J38 at h
  refine V.aload_n dX0_cellIn_38 rfl ?_
  refine V.getR dX0_cellIn_39 fl_RX0_15 (LBen.f0 ha) rfl rfl ?_
  refine V.iload_n dX0_cellIn_42 rfl ?_
  obtain ⟨hb1, h⟩ := ck_s h
  refine V.iald dX0_cellIn_43 (LBen.f1 ha) rfl (vp_of hb1) ?_
  exact okc_Ben_cellIn_44 ha h
theorem ok_Ben_cellIn {X : Sc} {l : Launch} {sh : List Shp} {a : Nat} {M : Mem} {x1 : Int32} {x2 : Int32} {x3 : Int32} {r : Int32} (ha : LBen sh a) (h : f_Ben_cellIn a M x1 x2 x3 = some r) : Mt X l yX0_cellIn cX0_cellIn 5 (some .int) 1 0 0 [.ref a, .int x1, .int x2, .int x3] sh M (some (.int r)) sh M := by
  refine Mt.ofV (by decide) (Nat.le_of_ble_eq_true rfl) ?_
  show V X yX0_cellIn cX0_cellIn 5 (some .int) (rmD 1 0 0) l (FM (some (.int r)) sh M 0 0) 0 [some (.ref a), some (.int x1), some (.int x2), some (.int x3), none] [] sh M 0 0
  unfold f_Ben_cellIn at h
  refine V.aload_n dX0_cellIn_0 rfl ?_
  refine V.iload_n dX0_cellIn_1 rfl ?_
  obtain ⟨v2, hv1, h⟩ := bnd_s h
  refine V.cVi dX0_cellIn_2 rfl mv_RX0_37 (ok_Ben_exists ha hv1) rfl rfl (LBen.f0 ha) rfl (by decide) ⟨Nat.zero_le _, Nat.zero_le _⟩ (Nat.le_of_ble_eq_true rfl) (Nat.zero_le _) ?_
  refine V.if_ne (tgt := 11) dX0_cellIn_5 (by decide) (fun hc3 => ?_) (fun hc3 => ?_)
  · replace h := ite_f hc3 h
    refine V.aload_n dX0_cellIn_11 rfl ?_
    refine V.getR dX0_cellIn_12 fl_RX0_28 (LBen.f0 ha) rfl rfl ?_
    refine V.iload_n dX0_cellIn_15 rfl ?_
    obtain ⟨hb4, h⟩ := ck_s h
    refine V.iald dX0_cellIn_16 (LBen.f5 ha) rfl (vp_of hb4) ?_
    refine V.iconst dX0_cellIn_17 ic_2 ?_
    refine V.icmp_ne (tgt := 38) dX0_cellIn_18 (by decide) (fun hc5 => ?_) (fun hc5 => ?_)
    · replace h := ite_f hc5 h
      refine V.mask [true, true, false, false, false] rfl ?_
      exact okc_Ben_cellIn_38 ha h
    replace h := ite_t hc5 h
    refine V.iload_n dX0_cellIn_21 rfl ?_
    refine V.if_le (tgt := 38) dX0_cellIn_22 (by decide) (fun hc6 => ?_) (fun hc6 => ?_)
    · replace h := ite_t hc6 h
      refine V.mask [true, true, false, false, false] rfl ?_
      exact okc_Ben_cellIn_38 ha h
    replace h := ite_f hc6 h
    refine V.aload_n dX0_cellIn_25 rfl ?_
    refine V.getR dX0_cellIn_26 fl_RX0_15 (LBen.f0 ha) rfl rfl ?_
    refine V.iload_n dX0_cellIn_29 rfl ?_
    obtain ⟨hb7, h⟩ := ck_s h
    refine V.iald dX0_cellIn_30 (LBen.f1 ha) rfl (vp_of hb7) ?_
    refine V.iload_n dX0_cellIn_31 rfl ?_
    refine V.iadd dX0_cellIn_32 ?_
    refine V.iload_n dX0_cellIn_33 rfl ?_
    obtain ⟨hz8, h⟩ := ite_z h
    refine V.irem dX0_cellIn_34 hz8 ?_
    refine V.goto (tgt := 44) dX0_cellIn_35 (by decide) ?_
    refine V.mask [true, true, false, false, false] rfl ?_
    exact okc_Ben_cellIn_44 ha h
  replace h := ite_t hc3 h
  refine V.bipush dX0_cellIn_8 bp_m4 ?_
  have e1 := inj1 h
  subst e1
  exact V.iret dX0_cellIn_10 rfl rfl
theorem okc_Ben_facingIn_36 {X : Sc} {l : Launch} {sh : List Shp}  {a : Nat} {M : Mem}  (ha : LBen sh a) {x1 : Int32} {x2 : Int32} {s0 : Int32} {r : Int32} (h : f_Ben_facingIn_J36 a M x1 x2 s0 = some r) : V X yX0_facingIn cX0_facingIn 4 (some .int) (rmD 1 0 0) l (FM (some (.int r)) sh M 0 0) 36 [some (.ref a), some (.int x1), some (.int x2), none] [.int s0] sh M 0 0 := by
  unfold f_Ben_facingIn_J36 at h
  refine V.istore_n dX0_facingIn_36 (by decide) rfl ?_
  refine V.iload_n dX0_facingIn_37 rfl ?_
  refine V.if_eq (tgt := 55) dX0_facingIn_38 (by decide) (fun hc1 => ?_) (fun hc1 => ?_)
  · replace h := ite_t hc1 h
    refine V.aload_n dX0_facingIn_55 rfl ?_
    refine V.getR dX0_facingIn_56 fl_RX0_22 (LBen.f0 ha) rfl rfl ?_
    refine V.iload_n dX0_facingIn_59 rfl ?_
    obtain ⟨hb2, h⟩ := ck_s h
    refine V.iald dX0_facingIn_60 (LBen.f3 ha) rfl (vp_of hb2) ?_
    have e1 := inj1 h
    subst e1
    exact V.iret dX0_facingIn_61 rfl rfl
  replace h := ite_f hc1 h
  refine V.aload_n dX0_facingIn_41 rfl ?_
  refine V.getR dX0_facingIn_42 fl_RX0_22 (LBen.f0 ha) rfl rfl ?_
  refine V.iload_n dX0_facingIn_45 rfl ?_
  obtain ⟨hb3, h⟩ := ck_s h
  refine V.iald dX0_facingIn_46 (LBen.f3 ha) rfl (vp_of hb3) ?_
  refine V.iload_n dX0_facingIn_47 rfl ?_
  refine V.iadd dX0_facingIn_48 ?_
  refine V.bipush dX0_facingIn_49 bp_8 ?_
  refine V.irem dX0_facingIn_51 (by decide) ?_
  refine V.goto (tgt := 61) dX0_facingIn_52 (by decide) ?_
  have e1 := inj1 h
  subst e1
  exact V.iret dX0_facingIn_61 rfl rfl
theorem okc_Ben_facingIn_31 {X : Sc} {l : Launch} {sh : List Shp}  {a : Nat} {M : Mem}  (ha : LBen sh a) {x1 : Int32} {x2 : Int32} {r : Int32} (h : f_Ben_facingIn_J31 a M x1 x2 = some r) : V X yX0_facingIn cX0_facingIn 4 (some .int) (rmD 1 0 0) l (FM (some (.int r)) sh M 0 0) 31 [some (.ref a), some (.int x1), some (.int x2), none] [] sh M 0 0 := by
  unfold f_Ben_facingIn_J31 at h
  refine V.iconst dX0_facingIn_31 ic_1 ?_
  refine V.goto (tgt := 36) dX0_facingIn_32 (by decide) ?_
  exact okc_Ben_facingIn_36 ha h
theorem ok_Ben_facingIn {X : Sc} {l : Launch} {sh : List Shp} {a : Nat} {M : Mem} {x1 : Int32} {x2 : Int32} {r : Int32} (ha : LBen sh a) (h : f_Ben_facingIn a M x1 x2 = some r) : Mt X l yX0_facingIn cX0_facingIn 4 (some .int) 1 0 0 [.ref a, .int x1, .int x2] sh M (some (.int r)) sh M := by
  refine Mt.ofV (by decide) (Nat.le_of_ble_eq_true rfl) ?_
  show V X yX0_facingIn cX0_facingIn 4 (some .int) (rmD 1 0 0) l (FM (some (.int r)) sh M 0 0) 0 [some (.ref a), some (.int x1), some (.int x2), none] [] sh M 0 0
  unfold f_Ben_facingIn at h
  refine V.aload_n dX0_facingIn_0 rfl ?_
  refine V.iload_n dX0_facingIn_1 rfl ?_
  obtain ⟨v2, hv1, h⟩ := bnd_s h
  refine V.cVi dX0_facingIn_2 rfl mv_RX0_37 (ok_Ben_exists ha hv1) rfl rfl (LBen.f0 ha) rfl (by decide) ⟨Nat.zero_le _, Nat.zero_le _⟩ (Nat.le_of_ble_eq_true rfl) (Nat.zero_le _) ?_
  refine V.if_ne (tgt := 11) dX0_facingIn_5 (by decide) (fun hc3 => ?_) (fun hc3 => ?_)
  · replace h := ite_f hc3 h
    refine V.aload_n dX0_facingIn_11 rfl ?_
    refine V.getR dX0_facingIn_12 fl_RX0_28 (LBen.f0 ha) rfl rfl ?_
    refine V.iload_n dX0_facingIn_15 rfl ?_
    obtain ⟨hb4, h⟩ := ck_s h
    refine V.iald dX0_facingIn_16 (LBen.f5 ha) rfl (vp_of hb4) ?_
    refine V.iconst dX0_facingIn_17 ic_1 ?_
    refine V.icmp_eq (tgt := 31) dX0_facingIn_18 (by decide) (fun hc5 => ?_) (fun hc5 => ?_)
    · replace h := ite_t hc5 h
      exact okc_Ben_facingIn_31 ha h
    replace h := ite_f hc5 h
    refine V.aload_n dX0_facingIn_21 rfl ?_
    refine V.getR dX0_facingIn_22 fl_RX0_28 (LBen.f0 ha) rfl rfl ?_
    refine V.iload_n dX0_facingIn_25 rfl ?_
    obtain ⟨hb6, h⟩ := ck_s h
    refine V.iald dX0_facingIn_26 (LBen.f5 ha) rfl (vp_of hb6) ?_
    refine V.iconst dX0_facingIn_27 ic_2 ?_
    refine V.icmp_ne (tgt := 35) dX0_facingIn_28 (by decide) (fun hc7 => ?_) (fun hc7 => ?_)
    · replace h := ite_f hc7 h
      refine V.iconst dX0_facingIn_35 ic_0 ?_
      exact okc_Ben_facingIn_36 ha h
    replace h := ite_t hc7 h
    exact okc_Ben_facingIn_31 ha h
  replace h := ite_t hc3 h
  refine V.bipush dX0_facingIn_8 bp_m4 ?_
  have e1 := inj1 h
  subst e1
  exact V.iret dX0_facingIn_10 rfl rfl
theorem ok_Ben_earOf {X : Sc} {l : Launch} {sh : List Shp} {a : Nat} {M : Mem} {x1 : Int32} {r : Int32} (ha : LBen sh a) (h : f_Ben_earOf a M x1 = some r) : Mt X l yX0_earOf cX0_earOf 2 (some .int) 1 0 0 [.ref a, .int x1] sh M (some (.int r)) sh M := by
  refine Mt.ofV (by decide) (Nat.le_of_ble_eq_true rfl) ?_
  show V X yX0_earOf cX0_earOf 2 (some .int) (rmD 1 0 0) l (FM (some (.int r)) sh M 0 0) 0 [some (.ref a), some (.int x1)] [] sh M 0 0
  unfold f_Ben_earOf at h
  refine V.aload_n dX0_earOf_0 rfl ?_
  refine V.iload_n dX0_earOf_1 rfl ?_
  obtain ⟨v2, hv1, h⟩ := bnd_s h
  refine V.cVi dX0_earOf_2 rfl mv_RX0_37 (ok_Ben_exists ha hv1) rfl rfl (LBen.f0 ha) rfl (by decide) ⟨Nat.zero_le _, Nat.zero_le _⟩ (Nat.le_of_ble_eq_true rfl) (Nat.zero_le _) ?_
  refine V.if_ne (tgt := 11) dX0_earOf_5 (by decide) (fun hc3 => ?_) (fun hc3 => ?_)
  · replace h := ite_f hc3 h
    refine V.aload_n dX0_earOf_11 rfl ?_
    refine V.getR dX0_earOf_12 fl_RX0_28 (LBen.f0 ha) rfl rfl ?_
    refine V.iload_n dX0_earOf_15 rfl ?_
    obtain ⟨hb4, h⟩ := ck_s h
    refine V.iald dX0_earOf_16 (LBen.f5 ha) rfl (vp_of hb4) ?_
    refine V.iconst dX0_earOf_17 ic_4 ?_
    refine V.icmp_ne (tgt := 36) dX0_earOf_18 (by decide) (fun hc5 => ?_) (fun hc5 => ?_)
    · replace h := ite_f hc5 h
      refine V.aload_n dX0_earOf_36 rfl ?_
      refine V.getR dX0_earOf_37 fl_RX0_25 (LBen.f0 ha) rfl rfl ?_
      refine V.iload_n dX0_earOf_40 rfl ?_
      obtain ⟨hb6, h⟩ := ck_s h
      refine V.iald dX0_earOf_41 (LBen.f4 ha) rfl (vp_of hb6) ?_
      have e1 := inj1 h
      subst e1
      exact V.iret dX0_earOf_42 rfl rfl
    replace h := ite_t hc5 h
    refine V.iconst dX0_earOf_21 ic_1 ?_
    refine V.aload_n dX0_earOf_22 rfl ?_
    refine V.getR dX0_earOf_23 fl_RX0_25 (LBen.f0 ha) rfl rfl ?_
    refine V.iload_n dX0_earOf_26 rfl ?_
    obtain ⟨hb7, h⟩ := ck_s h
    refine V.iald dX0_earOf_27 (LBen.f4 ha) rfl (vp_of hb7) ?_
    refine V.iconst dX0_earOf_28 ic_2 ?_
    refine V.idiv dX0_earOf_29 (by decide) ?_
    refine V.mmax dX0_earOf_30 rfl mv_RX0_41 (by decide) (Nat.le_of_ble_eq_true rfl) ?_
    refine V.goto (tgt := 42) dX0_earOf_33 (by decide) ?_
    have e1 := inj1 h
    subst e1
    exact V.iret dX0_earOf_42 rfl rfl
  replace h := ite_t hc3 h
  refine V.bipush dX0_earOf_8 bp_m4 ?_
  have e1 := inj1 h
  subst e1
  exact V.iret dX0_earOf_10 rfl rfl
theorem ok_Ben_kindOf {X : Sc} {l : Launch} {sh : List Shp} {a : Nat} {M : Mem} {x1 : Int32} {r : Int32} (ha : LBen sh a) (h : f_Ben_kindOf a M x1 = some r) : Mt X l yX0_kindOf cX0_kindOf 2 (some .int) 1 0 0 [.ref a, .int x1] sh M (some (.int r)) sh M := by
  refine Mt.ofV (by decide) (Nat.le_of_ble_eq_true rfl) ?_
  show V X yX0_kindOf cX0_kindOf 2 (some .int) (rmD 1 0 0) l (FM (some (.int r)) sh M 0 0) 0 [some (.ref a), some (.int x1)] [] sh M 0 0
  unfold f_Ben_kindOf at h
  refine V.aload_n dX0_kindOf_0 rfl ?_
  refine V.iload_n dX0_kindOf_1 rfl ?_
  obtain ⟨v2, hv1, h⟩ := bnd_s h
  refine V.cVi dX0_kindOf_2 rfl mv_RX0_37 (ok_Ben_exists ha hv1) rfl rfl (LBen.f0 ha) rfl (by decide) ⟨Nat.zero_le _, Nat.zero_le _⟩ (Nat.le_of_ble_eq_true rfl) (Nat.zero_le _) ?_
  refine V.if_eq (tgt := 17) dX0_kindOf_5 (by decide) (fun hc3 => ?_) (fun hc3 => ?_)
  · replace h := ite_t hc3 h
    refine V.bipush dX0_kindOf_17 bp_m4 ?_
    have e1 := inj1 h
    subst e1
    exact V.iret dX0_kindOf_19 rfl rfl
  replace h := ite_f hc3 h
  refine V.aload_n dX0_kindOf_8 rfl ?_
  refine V.getR dX0_kindOf_9 fl_RX0_28 (LBen.f0 ha) rfl rfl ?_
  refine V.iload_n dX0_kindOf_12 rfl ?_
  obtain ⟨hb4, h⟩ := ck_s h
  refine V.iald dX0_kindOf_13 (LBen.f5 ha) rfl (vp_of hb4) ?_
  refine V.goto (tgt := 19) dX0_kindOf_14 (by decide) ?_
  have e1 := inj1 h
  subst e1
  exact V.iret dX0_kindOf_19 rfl rfl
theorem ok_Tol_isCell {X : Sc} {l : Launch} {sh : List Shp} {t : Nat} {M : Mem} {x1 : Int32} {r : Int32} (ht : LTol sh t) (h : f_Tol_isCell t M x1 = some r) : Mt X l yX8_isCell cX8_isCell 2 (some .boolean) 0 0 0 [.ref t, .int x1] sh M (some (.int r)) sh M := by
  refine Mt.ofV (by decide) (Nat.le_of_ble_eq_true rfl) ?_
  show V X yX8_isCell cX8_isCell 2 (some .boolean) (rmD 0 0 0) l (FM (some (.int r)) sh M 0 0) 0 [some (.ref t), some (.int x1)] [] sh M 0 0
  unfold f_Tol_isCell at h
  refine V.iload_n dX8_isCell_0 rfl ?_
  refine V.if_lt (tgt := 36) dX8_isCell_1 (by decide) (fun hc1 => ?_) (fun hc1 => ?_)
  · replace h := ite_t hc1 h
    refine V.iconst dX8_isCell_36 ic_0 ?_
    have e1 := inj1 h
    subst e1
    exact V.iret dX8_isCell_37 rfl rfl
  replace h := ite_f hc1 h
  refine V.iload_n dX8_isCell_4 rfl ?_
  refine V.bipush dX8_isCell_5 bp_81 ?_
  refine V.icmp_ge (tgt := 36) dX8_isCell_7 (by decide) (fun hc2 => ?_) (fun hc2 => ?_)
  · replace h := ite_t hc2 h
    refine V.iconst dX8_isCell_36 ic_0 ?_
    have e1 := inj1 h
    subst e1
    exact V.iret dX8_isCell_37 rfl rfl
  replace h := ite_f hc2 h
  refine V.iload_n dX8_isCell_10 rfl ?_
  refine V.bipush dX8_isCell_11 bp_9 ?_
  refine V.irem dX8_isCell_13 (by decide) ?_
  refine V.aload_n dX8_isCell_14 rfl ?_
  refine V.getI dX8_isCell_15 fl_RX8_38 (LTol.f0 ht) rfl rfl ?_
  refine V.icmp_ge (tgt := 36) dX8_isCell_18 (by decide) (fun hc3 => ?_) (fun hc3 => ?_)
  · replace h := ite_t hc3 h
    refine V.iconst dX8_isCell_36 ic_0 ?_
    have e1 := inj1 h
    subst e1
    exact V.iret dX8_isCell_37 rfl rfl
  replace h := ite_f hc3 h
  refine V.iload_n dX8_isCell_21 rfl ?_
  refine V.bipush dX8_isCell_22 bp_9 ?_
  refine V.idiv dX8_isCell_24 (by decide) ?_
  refine V.aload_n dX8_isCell_25 rfl ?_
  refine V.getI dX8_isCell_26 fl_RX8_42 (LTol.f0 ht) rfl rfl ?_
  refine V.icmp_ge (tgt := 36) dX8_isCell_29 (by decide) (fun hc4 => ?_) (fun hc4 => ?_)
  · replace h := ite_t hc4 h
    refine V.iconst dX8_isCell_36 ic_0 ?_
    have e1 := inj1 h
    subst e1
    exact V.iret dX8_isCell_37 rfl rfl
  replace h := ite_f hc4 h
  refine V.iconst dX8_isCell_32 ic_1 ?_
  refine V.goto (tgt := 37) dX8_isCell_33 (by decide) ?_
  have e1 := inj1 h
  subst e1
  exact V.iret dX8_isCell_37 rfl rfl
theorem ok_Hal_within {X : Sc} {l : Launch} {sh : List Shp}  {M : Mem} {x0 : Int32} {x1 : Int32} {x2 : Int32} {r : Int32}  (h : f_Hal_within x0 x1 x2 = some r) : Mt X l yX10_within cX10_within 3 (some .boolean) 0 0 0 [.int x0, .int x1, .int x2] sh M (some (.int r)) sh M := by
  refine Mt.ofV (by decide) (Nat.le_of_ble_eq_true rfl) ?_
  show V X yX10_within cX10_within 3 (some .boolean) (rmD 0 0 0) l (FM (some (.int r)) sh M 0 0) 0 [some (.int x0), some (.int x1), some (.int x2)] [] sh M 0 0
  unfold f_Hal_within at h
  refine V.iload_n dX10_within_0 rfl ?_
  refine V.iload_n dX10_within_1 rfl ?_
  refine V.icmp_lt (tgt := 14) dX10_within_2 (by decide) (fun hc1 => ?_) (fun hc1 => ?_)
  · replace h := ite_t hc1 h
    refine V.iconst dX10_within_14 ic_0 ?_
    have e1 := inj1 h
    subst e1
    exact V.iret dX10_within_15 rfl rfl
  replace h := ite_f hc1 h
  refine V.iload_n dX10_within_5 rfl ?_
  refine V.iload_n dX10_within_6 rfl ?_
  refine V.icmp_gt (tgt := 14) dX10_within_7 (by decide) (fun hc2 => ?_) (fun hc2 => ?_)
  · replace h := ite_t hc2 h
    refine V.iconst dX10_within_14 ic_0 ?_
    have e1 := inj1 h
    subst e1
    exact V.iret dX10_within_15 rfl rfl
  replace h := ite_f hc2 h
  refine V.iconst dX10_within_10 ic_1 ?_
  refine V.goto (tgt := 15) dX10_within_11 (by decide) ?_
  have e1 := inj1 h
  subst e1
  exact V.iret dX10_within_15 rfl rfl
theorem ok_Tol_stateOf {X : Sc} {l : Launch} {sh : List Shp} {t : Nat} {M : Mem} {x1 : Int32} {r : Int32} (ht : LTol sh t) (h : f_Tol_stateOf t M x1 = some r) : Mt X l yX8_stateOf cX8_stateOf 2 (some .int) 0 0 0 [.ref t, .int x1] sh M (some (.int r)) sh M := by
  refine Mt.ofV (by decide) (Nat.le_of_ble_eq_true rfl) ?_
  show V X yX8_stateOf cX8_stateOf 2 (some .int) (rmD 0 0 0) l (FM (some (.int r)) sh M 0 0) 0 [some (.ref t), some (.int x1)] [] sh M 0 0
  unfold f_Tol_stateOf at h
  refine V.iload_n dX8_stateOf_0 rfl ?_
  refine V.if_lt (tgt := 19) dX8_stateOf_1 (by decide) (fun hc1 => ?_) (fun hc1 => ?_)
  · replace h := ite_t hc1 h
    refine V.iconst dX8_stateOf_19 ic_1 ?_
    have e1 := inj1 h
    subst e1
    exact V.iret dX8_stateOf_20 rfl rfl
  replace h := ite_f hc1 h
  refine V.iload_n dX8_stateOf_4 rfl ?_
  refine V.bipush dX8_stateOf_5 bp_81 ?_
  refine V.icmp_ge (tgt := 19) dX8_stateOf_7 (by decide) (fun hc2 => ?_) (fun hc2 => ?_)
  · replace h := ite_t hc2 h
    refine V.iconst dX8_stateOf_19 ic_1 ?_
    have e1 := inj1 h
    subst e1
    exact V.iret dX8_stateOf_20 rfl rfl
  replace h := ite_f hc2 h
  refine V.aload_n dX8_stateOf_10 rfl ?_
  refine V.getR dX8_stateOf_11 fl_RX8_9 (LTol.f0 ht) rfl rfl ?_
  refine V.iload_n dX8_stateOf_14 rfl ?_
  obtain ⟨hb3, h⟩ := ck_s h
  refine V.iald dX8_stateOf_15 (LTol.f1 ht) rfl (vp_of hb3) ?_
  refine V.goto (tgt := 20) dX8_stateOf_16 (by decide) ?_
  have e1 := inj1 h
  subst e1
  exact V.iret dX8_stateOf_20 rfl rfl
theorem okc_Cou_run_228 {X : Sc} {l : Launch} {k63 : Int32 → Int32 → Int32 → Int32 → Int32 → Int32 → Int32 → Mem → Option Mem} {c : Nat} (hk63 : ∀ (x4 : Int32) (x5 : Int32) (x6 : Int32) (x7 : Int32) (x8 : Int32) (x9 : Int32) (x10 : Int32) (M : Mem) (M' : Mem), k63 x4 x5 x6 x7 x8 x9 x10 M = some M' → V X yX1_run cX1_run 13 none (rmD 1 0 0) l (FM none S0 M' 0 0) 63 [some (.ref c), some (.ref 1), none, none, some (.int x4), some (.int x5), some (.int x6), some (.int x7), some (.int x8), some (.int x9), some (.int x10), none, none] [] S0 M 0 0) (hc : LCou S0 c) {x4 : Int32} {x5 : Int32} {x6 : Int32} {x7 : Int32} {x8 : Int32} {x9 : Int32} {x10 : Int32} {x12 : Int32} {M : Mem} {M' : Mem} (h : f_Cou_run_J228 k63 c x4 x5 x6 x7 x8 x9 x10 x12 M = some M') : V X yX1_run cX1_run 13 none (rmD 1 0 0) l (FM none S0 M' 0 0) 228 [some (.ref c), some (.ref 1), none, none, some (.int x4), some (.int x5), some (.int x6), some (.int x7), some (.int x8), some (.int x9), some (.int x10), none, some (.int x12)] [] S0 M 0 0 := by
  unfold f_Cou_run_J228 at h
  refine V.aload_n dX1_run_228 rfl ?_
  refine V.getR dX1_run_229 fl_RX1_15 (LCou.f0 hc) rfl rfl ?_
  refine V.iload dX1_run_232 rfl ?_
  refine V.bipush dX1_run_234 bp_9 ?_
  refine V.iload dX1_run_236 rfl ?_
  refine V.imul dX1_run_238 ?_
  refine V.iload dX1_run_239 rfl ?_
  refine V.iadd dX1_run_241 ?_
  obtain ⟨hb1, h⟩ := ck_s h
  refine V.iast dX1_run_242 (LCou.f1 hc) rfl (vp_of hb1) (fun M2 hM2 => ?_)
  replace h := setM_at h M2 hM2
  refine V.aload_n dX1_run_243 rfl ?_
  refine V.getR dX1_run_244 fl_RX1_19 (LCou.f0 hc) rfl rfl ?_
  refine V.iload dX1_run_247 rfl ?_
  refine V.iload dX1_run_249 rfl ?_
  obtain ⟨hb3, h⟩ := ck_s h
  refine V.iast dX1_run_251 (LCou.f2 hc) rfl (vp_of hb3) (fun M4 hM4 => ?_)
  replace h := setM_at h M4 hM4
  refine V.aload_n dX1_run_252 rfl ?_
  refine V.getR dX1_run_253 fl_RX1_22 (LCou.f0 hc) rfl rfl ?_
  refine V.iload dX1_run_256 rfl ?_
  refine V.iload dX1_run_258 rfl ?_
  obtain ⟨hb5, h⟩ := ck_s h
  refine V.iast dX1_run_260 (LCou.f3 hc) rfl (vp_of hb5) (fun M6 hM6 => ?_)
  replace h := setM_at h M6 hM6
  refine V.aload_n dX1_run_261 rfl ?_
  refine V.iload dX1_run_262 rfl ?_
  refine V.putI dX1_run_264 fp_RX1_9 (LCou.f0 hc) rfl rfl (fun M7 hM7 => ?_)
  replace h := setM_at h M7 hM7
  refine V.iinc dX1_run_267 rfl (iinc_c ic_1) (by decide) rfl ?_
  refine V.goto (tgt := 63) dX1_run_270 (by decide) ?_
  refine V.mask [true, true, false, false, true, true, true, true, true, true, true, false, false] rfl ?_
  exact hk63 _ _ _ _ _ _ _ _ _ h
theorem okc_Cou_run_171 {X : Sc} {l : Launch} {k63 : Int32 → Int32 → Int32 → Int32 → Int32 → Int32 → Int32 → Mem → Option Mem} {c : Nat} (hk63 : ∀ (x4 : Int32) (x5 : Int32) (x6 : Int32) (x7 : Int32) (x8 : Int32) (x9 : Int32) (x10 : Int32) (M : Mem) (M' : Mem), k63 x4 x5 x6 x7 x8 x9 x10 M = some M' → V X yX1_run cX1_run 13 none (rmD 1 0 0) l (FM none S0 M' 0 0) 63 [some (.ref c), some (.ref 1), none, none, some (.int x4), some (.int x5), some (.int x6), some (.int x7), some (.int x8), some (.int x9), some (.int x10), none, none] [] S0 M 0 0) (hc : LCou S0 c) {x4 : Int32} {x5 : Int32} {x6 : Int32} {x7 : Int32} {x8 : Int32} {x9 : Int32} {x10 : Int32} {M : Mem} {M' : Mem} (h : f_Cou_run_J171 k63 c x4 x5 x6 x7 x8 x9 x10 M = some M') : V X yX1_run cX1_run 13 none (rmD 1 0 0) l (FM none S0 M' 0 0) 171 [some (.ref c), some (.ref 1), none, none, some (.int x4), some (.int x5), some (.int x6), some (.int x7), some (.int x8), some (.int x9), some (.int x10), none, none] [] S0 M 0 0 := by
  unfold f_Cou_run_J171 at h
  refine V.aload_n dX1_run_171 rfl ?_
  refine V.bipush dX1_run_172 bp_9 ?_
  refine V.iload dX1_run_174 rfl ?_
  refine V.imul dX1_run_176 ?_
  refine V.iload dX1_run_177 rfl ?_
  refine V.iadd dX1_run_179 ?_
  obtain ⟨v2, hv1, h⟩ := bnd_s h
  refine V.cVi dX1_run_180 rfl mv_RX1_50 (ok_Tol_stateOf s0_Tol1 hv1) rfl rfl s0_1 rfl (by decide) ⟨Nat.zero_le _, Nat.zero_le _⟩ (Nat.le_of_ble_eq_true rfl) (Nat.zero_le _) ?_
  refine V.istore dX1_run_183 (by decide) rfl ?_
  refine V.bipush dX1_run_185 bp_100 ?_
  refine V.aload_n dX1_run_187 rfl ?_
  refine V.getI dX1_run_188 fl_RX1_54 s0_1 rfl rfl ?_
  refine V.iload dX1_run_191 rfl ?_
  refine V.imul dX1_run_193 ?_
  refine V.isub dX1_run_194 ?_
  refine V.aload_n dX1_run_195 rfl ?_
  refine V.getI dX1_run_196 fl_RX1_57 s0_1 rfl rfl ?_
  refine V.iload dX1_run_199 rfl ?_
  refine V.imul dX1_run_201 ?_
  refine V.isub dX1_run_202 ?_
  refine V.nmI (fun w3 hw3 => ?_)
  replace h := nmI_at h w3 hw3
  refine V.istore dX1_run_203 (by decide) rfl ?_
  refine V.iload dX1_run_205 rfl ?_
  refine V.if_le (tgt := 227) dX1_run_207 (by decide) (fun hc4 => ?_) (fun hc4 => ?_)
  · replace h := ite_t hc4 h
    have e1 := inj1 h
    subst e1
    exact V.vret dX1_run_227 rfl
  replace h := ite_f hc4 h
  refine V.iload dX1_run_210 rfl ?_
  refine V.iconst dX1_run_212 ic_1 ?_
  refine V.icmp_eq (tgt := 227) dX1_run_213 (by decide) (fun hc5 => ?_) (fun hc5 => ?_)
  · replace h := ite_t hc5 h
    have e1 := inj1 h
    subst e1
    exact V.vret dX1_run_227 rfl
  replace h := ite_f hc5 h
  refine V.iload dX1_run_216 rfl ?_
  refine V.iconst dX1_run_218 ic_2 ?_
  refine V.icmp_ne (tgt := 228) dX1_run_219 (by decide) (fun hc6 => ?_) (fun hc6 => ?_)
  · replace h := ite_f hc6 h
    refine V.mask [true, true, false, false, true, true, true, true, true, true, true, false, true] rfl ?_
    exact okc_Cou_run_228 hk63 hc h
  replace h := ite_t hc6 h
  refine V.iload dX1_run_222 rfl ?_
  refine V.if_ne (tgt := 228) dX1_run_224 (by decide) (fun hc7 => ?_) (fun hc7 => ?_)
  · replace h := ite_f hc7 h
    refine V.mask [true, true, false, false, true, true, true, true, true, true, true, false, true] rfl ?_
    exact okc_Cou_run_228 hk63 hc h
  replace h := ite_t hc7 h
  have e1 := inj1 h
  subst e1
  exact V.vret dX1_run_227 rfl
theorem okc_Cou_run_126 {X : Sc} {l : Launch} {k63 : Int32 → Int32 → Int32 → Int32 → Int32 → Int32 → Int32 → Mem → Option Mem} {c : Nat} (hk63 : ∀ (x4 : Int32) (x5 : Int32) (x6 : Int32) (x7 : Int32) (x8 : Int32) (x9 : Int32) (x10 : Int32) (M : Mem) (M' : Mem), k63 x4 x5 x6 x7 x8 x9 x10 M = some M' → V X yX1_run cX1_run 13 none (rmD 1 0 0) l (FM none S0 M' 0 0) 63 [some (.ref c), some (.ref 1), none, none, some (.int x4), some (.int x5), some (.int x6), some (.int x7), some (.int x8), some (.int x9), some (.int x10), none, none] [] S0 M 0 0) (hc : LCou S0 c) {x4 : Int32} {x5 : Int32} {x6 : Int32} {x7 : Int32} {x8 : Int32} {x9 : Int32} {x10 : Int32} {M : Mem} {M' : Mem} (h : f_Cou_run_J126 k63 c x4 x5 x6 x7 x8 x9 x10 M = some M') : V X yX1_run cX1_run 13 none (rmD 1 0 0) l (FM none S0 M' 0 0) 126 [some (.ref c), some (.ref 1), none, none, some (.int x4), some (.int x5), some (.int x6), some (.int x7), some (.int x8), some (.int x9), some (.int x10), none, none] [] S0 M 0 0 := by
  unfold f_Cou_run_J126 at h
  refine V.iload dX1_run_126 rfl ?_
  refine V.iload dX1_run_128 rfl ?_
  refine V.iadd dX1_run_130 ?_
  refine V.nmI (fun w1 hw1 => ?_)
  replace h := nmI_at h w1 hw1
  refine V.istore dX1_run_131 (by decide) rfl ?_
  refine V.iload dX1_run_133 rfl ?_
  refine V.iload dX1_run_135 rfl ?_
  refine V.iadd dX1_run_137 ?_
  refine V.nmI (fun w2 hw2 => ?_)
  replace h := nmI_at h w2 hw2
  refine V.istore dX1_run_138 (by decide) rfl ?_
  refine V.aload_n dX1_run_140 rfl ?_
  refine V.getI dX1_run_141 fl_RX1_47 s0_1 rfl rfl ?_
  refine V.if_le (tgt := 171) dX1_run_144 (by decide) (fun hc3 => ?_) (fun hc3 => ?_)
  · replace h := ite_t hc3 h
    exact okc_Cou_run_171 hk63 hc h
  replace h := ite_f hc3 h
  refine V.iload dX1_run_147 rfl ?_
  refine V.aload_n dX1_run_149 rfl ?_
  refine V.getI dX1_run_150 fl_RX1_47 s0_1 rfl rfl ?_
  obtain ⟨hz4, h⟩ := ite_z h
  refine V.irem dX1_run_153 hz4 ?_
  refine V.if_ne (tgt := 171) dX1_run_154 (by decide) (fun hc5 => ?_) (fun hc5 => ?_)
  · replace h := ite_f hc5 h
    exact okc_Cou_run_171 hk63 hc h
  replace h := ite_t hc5 h
  refine V.iload dX1_run_157 rfl ?_
  refine V.iconst dX1_run_159 ic_1 ?_
  refine V.iadd dX1_run_160 ?_
  refine V.aload_n dX1_run_161 rfl ?_
  refine V.getI dX1_run_162 fl_RX1_44 s0_1 rfl rfl ?_
  refine V.icmp_ge (tgt := 171) dX1_run_165 (by decide) (fun hc6 => ?_) (fun hc6 => ?_)
  · replace h := ite_t hc6 h
    exact okc_Cou_run_171 hk63 hc h
  replace h := ite_f hc6 h
  refine V.iinc dX1_run_168 rfl (iinc_c ic_1) (by decide) rfl ?_
  exact okc_Cou_run_171 hk63 hc h
theorem okc_Cou_run_118 {X : Sc} {l : Launch} {k63 : Int32 → Int32 → Int32 → Int32 → Int32 → Int32 → Int32 → Mem → Option Mem} {c : Nat} (hk63 : ∀ (x4 : Int32) (x5 : Int32) (x6 : Int32) (x7 : Int32) (x8 : Int32) (x9 : Int32) (x10 : Int32) (M : Mem) (M' : Mem), k63 x4 x5 x6 x7 x8 x9 x10 M = some M' → V X yX1_run cX1_run 13 none (rmD 1 0 0) l (FM none S0 M' 0 0) 63 [some (.ref c), some (.ref 1), none, none, some (.int x4), some (.int x5), some (.int x6), some (.int x7), some (.int x8), some (.int x9), some (.int x10), none, none] [] S0 M 0 0) (hc : LCou S0 c) {x4 : Int32} {x5 : Int32} {x6 : Int32} {x7 : Int32} {x8 : Int32} {x9 : Int32} {x10 : Int32} {M : Mem} {M' : Mem} (h : f_Cou_run_J118 k63 c x4 x5 x6 x7 x8 x9 x10 M = some M') : V X yX1_run cX1_run 13 none (rmD 1 0 0) l (FM none S0 M' 0 0) 118 [some (.ref c), some (.ref 1), none, none, some (.int x4), some (.int x5), some (.int x6), some (.int x7), some (.int x8), some (.int x9), some (.int x10), none, none] [] S0 M 0 0 := by
  unfold f_Cou_run_J118 at h
  refine V.iload dX1_run_118 rfl ?_
  refine V.ineg dX1_run_120 ?_
  refine V.nmI (fun w1 hw1 => ?_)
  replace h := nmI_at h w1 hw1
  refine V.istore dX1_run_121 (by decide) rfl ?_
  refine V.iinc dX1_run_123 rfl (iinc_c ic_1) (by decide) rfl ?_
  exact okc_Cou_run_126 hk63 hc h
theorem okc_Cou_run_98 {X : Sc} {l : Launch} {k63 : Int32 → Int32 → Int32 → Int32 → Int32 → Int32 → Int32 → Mem → Option Mem} {c : Nat} (hk63 : ∀ (x4 : Int32) (x5 : Int32) (x6 : Int32) (x7 : Int32) (x8 : Int32) (x9 : Int32) (x10 : Int32) (M : Mem) (M' : Mem), k63 x4 x5 x6 x7 x8 x9 x10 M = some M' → V X yX1_run cX1_run 13 none (rmD 1 0 0) l (FM none S0 M' 0 0) 63 [some (.ref c), some (.ref 1), none, none, some (.int x4), some (.int x5), some (.int x6), some (.int x7), some (.int x8), some (.int x9), some (.int x10), none, none] [] S0 M 0 0) (hc : LCou S0 c) {x4 : Int32} {x5 : Int32} {x6 : Int32} {x7 : Int32} {x8 : Int32} {x9 : Int32} {x10 : Int32} {M : Mem} {M' : Mem} (h : f_Cou_run_J98 k63 c x4 x5 x6 x7 x8 x9 x10 M = some M') : V X yX1_run cX1_run 13 none (rmD 1 0 0) l (FM none S0 M' 0 0) 98 [some (.ref c), some (.ref 1), none, none, some (.int x4), some (.int x5), some (.int x6), some (.int x7), some (.int x8), some (.int x9), some (.int x10), none, none] [] S0 M 0 0 := by
  unfold f_Cou_run_J98 at h
  refine V.iload dX1_run_98 rfl ?_
  refine V.iload dX1_run_100 rfl ?_
  refine V.iadd dX1_run_102 ?_
  refine V.if_lt (tgt := 118) dX1_run_103 (by decide) (fun hc1 => ?_) (fun hc1 => ?_)
  · replace h := ite_t hc1 h
    exact okc_Cou_run_118 hk63 hc h
  replace h := ite_f hc1 h
  refine V.iload dX1_run_106 rfl ?_
  refine V.iload dX1_run_108 rfl ?_
  refine V.iadd dX1_run_110 ?_
  refine V.aload_n dX1_run_111 rfl ?_
  refine V.getI dX1_run_112 fl_RX1_44 s0_1 rfl rfl ?_
  refine V.icmp_lt (tgt := 126) dX1_run_115 (by decide) (fun hc2 => ?_) (fun hc2 => ?_)
  · replace h := ite_t hc2 h
    exact okc_Cou_run_126 hk63 hc h
  replace h := ite_f hc2 h
  exact okc_Cou_run_118 hk63 hc h
theorem okc_Cou_run_90 {X : Sc} {l : Launch} {k63 : Int32 → Int32 → Int32 → Int32 → Int32 → Int32 → Int32 → Mem → Option Mem} {c : Nat} (hk63 : ∀ (x4 : Int32) (x5 : Int32) (x6 : Int32) (x7 : Int32) (x8 : Int32) (x9 : Int32) (x10 : Int32) (M : Mem) (M' : Mem), k63 x4 x5 x6 x7 x8 x9 x10 M = some M' → V X yX1_run cX1_run 13 none (rmD 1 0 0) l (FM none S0 M' 0 0) 63 [some (.ref c), some (.ref 1), none, none, some (.int x4), some (.int x5), some (.int x6), some (.int x7), some (.int x8), some (.int x9), some (.int x10), none, none] [] S0 M 0 0) (hc : LCou S0 c) {x4 : Int32} {x5 : Int32} {x6 : Int32} {x7 : Int32} {x8 : Int32} {x9 : Int32} {x10 : Int32} {M : Mem} {M' : Mem} (h : f_Cou_run_J90 k63 c x4 x5 x6 x7 x8 x9 x10 M = some M') : V X yX1_run cX1_run 13 none (rmD 1 0 0) l (FM none S0 M' 0 0) 90 [some (.ref c), some (.ref 1), none, none, some (.int x4), some (.int x5), some (.int x6), some (.int x7), some (.int x8), some (.int x9), some (.int x10), none, none] [] S0 M 0 0 := by
  unfold f_Cou_run_J90 at h
  refine V.iload dX1_run_90 rfl ?_
  refine V.ineg dX1_run_92 ?_
  refine V.nmI (fun w1 hw1 => ?_)
  replace h := nmI_at h w1 hw1
  refine V.istore dX1_run_93 (by decide) rfl ?_
  refine V.iinc dX1_run_95 rfl (iinc_c ic_1) (by decide) rfl ?_
  exact okc_Cou_run_98 hk63 hc h
theorem okc_Cou_run_63 {X : Sc} {l : Launch}  {c : Nat}  (hc : LCou S0 c) : ∀ (n : Nat) (x4 : Int32) (x5 : Int32) (x6 : Int32) (x7 : Int32) (x8 : Int32) (x9 : Int32) (x10 : Int32) (M : Mem) (M' : Mem), f_Cou_run_L63 c n x4 x5 x6 x7 x8 x9 x10 M = some M' → V X yX1_run cX1_run 13 none (rmD 1 0 0) l (FM none S0 M' 0 0) 63 [some (.ref c), some (.ref 1), none, none, some (.int x4), some (.int x5), some (.int x6), some (.int x7), some (.int x8), some (.int x9), some (.int x10), none, none] [] S0 M 0 0 := by
  intro n
  induction n with
  | zero =>
    intro x4 x5 x6 x7 x8 x9 x10 M M' h
    rw [f_Cou_run_L63] at h
    cases h
  | succ n ih =>
    intro x4 x5 x6 x7 x8 x9 x10 M M' h
    rw [f_Cou_run_L63] at h
    refine V.iload dX1_run_63 rfl ?_
    refine V.bipush dX1_run_65 bp_40 ?_
    refine V.icmp_gt (tgt := 273) dX1_run_67 (by decide) (fun hc1 => ?_) (fun hc1 => ?_)
    · replace h := ite_t hc1 h
      have e1 := inj1 h
      subst e1
      exact V.vret dX1_run_273 rfl
    replace h := ite_f hc1 h
    refine V.iload dX1_run_70 rfl ?_
    refine V.iload dX1_run_72 rfl ?_
    refine V.iadd dX1_run_74 ?_
    refine V.if_lt (tgt := 90) dX1_run_75 (by decide) (fun hc2 => ?_) (fun hc2 => ?_)
    · replace h := ite_t hc2 h
      exact okc_Cou_run_90 ih hc h
    replace h := ite_f hc2 h
    refine V.iload dX1_run_78 rfl ?_
    refine V.iload dX1_run_80 rfl ?_
    refine V.iadd dX1_run_82 ?_
    refine V.aload_n dX1_run_83 rfl ?_
    refine V.getI dX1_run_84 fl_RX1_41 s0_1 rfl rfl ?_
    refine V.icmp_lt (tgt := 98) dX1_run_87 (by decide) (fun hc3 => ?_) (fun hc3 => ?_)
    · replace h := ite_t hc3 h
      exact okc_Cou_run_98 ih hc h
    replace h := ite_f hc3 h
    exact okc_Cou_run_90 ih hc h
theorem ok_Cou_run {X : Sc} {l : Launch} {c : Nat} {M : Mem} {x2 : Int32} {x3 : Int32} {x4 : Int32} {M' : Mem} (hc : LCou S0 c) (h : f_Cou_run c x2 x3 x4 M = some M') : Mt X l yX1_run cX1_run 13 none 1 0 0 [.ref c, .ref 1, .int x2, .int x3, .int x4] S0 M none S0 M' := by
  refine Mt.ofV (by decide) (Nat.le_of_ble_eq_true rfl) ?_
  show V X yX1_run cX1_run 13 none (rmD 1 0 0) l (FM none S0 M' 0 0) 0 [some (.ref c), some (.ref 1), some (.int x2), some (.int x3), some (.int x4), none, none, none, none, none, none, none, none] [] S0 M 0 0
  unfold f_Cou_run at h
  refine V.aload_n dX1_run_0 rfl ?_
  refine V.iconst dX1_run_1 ic_0 ?_
  refine V.putI dX1_run_2 fp_RX1_9 (LCou.f0 hc) rfl rfl (fun M1 hM1 => ?_)
  replace h := setM_at h M1 hM1
  refine V.aload_n dX1_run_5 rfl ?_
  refine V.getR dX1_run_6 fl_RX1_15 (LCou.f0 hc) rfl rfl ?_
  refine V.iconst dX1_run_9 ic_0 ?_
  refine V.iload_n dX1_run_10 rfl ?_
  refine V.iast dX1_run_11 (LCou.f1 hc) rfl (vp_of (by decide)) (fun M2 hM2 => ?_)
  replace h := setM_at h M2 hM2
  refine V.aload_n dX1_run_12 rfl ?_
  refine V.iload_n dX1_run_13 rfl ?_
  obtain ⟨v4, hv3, h⟩ := bnd_s h
  refine V.cVi dX1_run_14 rfl mv_RX1_25 (ok_Tol_isCell s0_Tol1 hv3) rfl rfl s0_1 rfl (by decide) ⟨Nat.zero_le _, Nat.zero_le _⟩ (Nat.le_of_ble_eq_true rfl) (Nat.zero_le _) ?_
  refine V.if_eq (tgt := 30) dX1_run_17 (by decide) (fun hc5 => ?_) (fun hc5 => ?_)
  · replace h := ite_t hc5 h
    have e1 := inj1 h
    subst e1
    exact V.vret dX1_run_30 rfl
  replace h := ite_f hc5 h
  refine V.iload_n dX1_run_20 rfl ?_
  refine V.iconst dX1_run_21 ic_0 ?_
  refine V.bipush dX1_run_22 bp_7 ?_
  obtain ⟨v7, hv6, h⟩ := bnd_s h
  refine V.cSNi dX1_run_24 rfl wn_RX1_31 mn_RX1_31 (ok_Hal_within hv6) rfl rfl (by decide) ⟨Nat.zero_le _, Nat.zero_le _⟩ (Nat.le_of_ble_eq_true rfl) (Nat.zero_le _) ?_
  refine V.if_ne (tgt := 31) dX1_run_27 (by decide) (fun hc8 => ?_) (fun hc8 => ?_)
  · replace h := ite_f hc8 h
    refine V.iload_n dX1_run_31 rfl ?_
    refine V.bipush dX1_run_32 bp_9 ?_
    refine V.irem dX1_run_34 (by decide) ?_
    refine V.nmI (fun w9 hw9 => ?_)
    replace h := nmI_at h w9 hw9
    refine V.istore dX1_run_35 (by decide) rfl ?_
    refine V.iload_n dX1_run_37 rfl ?_
    refine V.bipush dX1_run_38 bp_9 ?_
    refine V.idiv dX1_run_40 (by decide) ?_
    refine V.nmI (fun w10 hw10 => ?_)
    replace h := nmI_at h w10 hw10
    refine V.istore dX1_run_41 (by decide) rfl ?_
    refine V.getX dX1_run_43 rfl wf_RX1_35 ?_
    refine V.iload_n dX1_run_46 rfl ?_
    obtain ⟨hb11, h⟩ := ck_s h
    refine V.aldX dX1_run_47 (vp_of hb11) ?_
    refine V.nmI (fun w12 hw12 => ?_)
    replace h := nmI_at h w12 hw12
    refine V.istore dX1_run_48 (by decide) rfl ?_
    refine V.getY dX1_run_50 rfl wf_RX1_38 ?_
    refine V.iload_n dX1_run_53 rfl ?_
    obtain ⟨hb13, h⟩ := ck_s h
    refine V.aldY dX1_run_54 (vp_of hb13) ?_
    refine V.nmI (fun w14 hw14 => ?_)
    replace h := nmI_at h w14 hw14
    refine V.istore dX1_run_55 (by decide) rfl ?_
    refine V.iconst dX1_run_57 ic_0 ?_
    refine V.istore dX1_run_58 (by decide) rfl ?_
    refine V.iconst dX1_run_60 ic_1 ?_
    refine V.istore dX1_run_61 (by decide) rfl ?_
    refine V.mask [true, true, false, false, true, true, true, true, true, true, true, false, false] rfl ?_
    exact okc_Cou_run_63 hc _ _ _ _ _ _ _ _ _ _ h
  replace h := ite_t hc8 h
  have e1 := inj1 h
  subst e1
  exact V.vret dX1_run_30 rfl
theorem ok_Cou_reaches {X : Sc} {l : Launch} {c : Nat} {M : Mem} {x1 : Int32} {r : Int32} (hc : LCou S0 c) (h : f_Cou_reaches c M x1 = some r) : Mt X l yX1_reaches cX1_reaches 2 (some .boolean) 0 0 0 [.ref c, .int x1] S0 M (some (.int r)) S0 M := by
  refine Mt.ofV (by decide) (Nat.le_of_ble_eq_true rfl) ?_
  show V X yX1_reaches cX1_reaches 2 (some .boolean) (rmD 0 0 0) l (FM (some (.int r)) S0 M 0 0) 0 [some (.ref c), some (.int x1)] [] S0 M 0 0
  unfold f_Cou_reaches at h
  refine V.iload_n dX1_reaches_0 rfl ?_
  refine V.if_lt (tgt := 22) dX1_reaches_1 (by decide) (fun hc1 => ?_) (fun hc1 => ?_)
  · replace h := ite_t hc1 h
    refine V.iconst dX1_reaches_22 ic_0 ?_
    have e1 := inj1 h
    subst e1
    exact V.iret dX1_reaches_23 rfl rfl
  replace h := ite_f hc1 h
  refine V.iload_n dX1_reaches_4 rfl ?_
  refine V.aload_n dX1_reaches_5 rfl ?_
  refine V.getI dX1_reaches_6 fl_RX1_9 (LCou.f0 hc) rfl rfl ?_
  refine V.icmp_gt (tgt := 22) dX1_reaches_9 (by decide) (fun hc2 => ?_) (fun hc2 => ?_)
  · replace h := ite_t hc2 h
    refine V.iconst dX1_reaches_22 ic_0 ?_
    have e1 := inj1 h
    subst e1
    exact V.iret dX1_reaches_23 rfl rfl
  replace h := ite_f hc2 h
  refine V.iload_n dX1_reaches_12 rfl ?_
  refine V.bipush dX1_reaches_13 bp_40 ?_
  refine V.icmp_gt (tgt := 22) dX1_reaches_15 (by decide) (fun hc3 => ?_) (fun hc3 => ?_)
  · replace h := ite_t hc3 h
    refine V.iconst dX1_reaches_22 ic_0 ?_
    have e1 := inj1 h
    subst e1
    exact V.iret dX1_reaches_23 rfl rfl
  replace h := ite_f hc3 h
  refine V.iconst dX1_reaches_18 ic_1 ?_
  refine V.goto (tgt := 23) dX1_reaches_19 (by decide) ?_
  have e1 := inj1 h
  subst e1
  exact V.iret dX1_reaches_23 rfl rfl
theorem ok_Cou_cellAt {X : Sc} {l : Launch} {c : Nat} {M : Mem} {x1 : Int32} {r : Int32} (hc : LCou S0 c) (h : f_Cou_cellAt c M x1 = some r) : Mt X l yX1_cellAt cX1_cellAt 2 (some .int) 1 0 0 [.ref c, .int x1] S0 M (some (.int r)) S0 M := by
  refine Mt.ofV (by decide) (Nat.le_of_ble_eq_true rfl) ?_
  show V X yX1_cellAt cX1_cellAt 2 (some .int) (rmD 1 0 0) l (FM (some (.int r)) S0 M 0 0) 0 [some (.ref c), some (.int x1)] [] S0 M 0 0
  unfold f_Cou_cellAt at h
  refine V.aload_n dX1_cellAt_0 rfl ?_
  refine V.iload_n dX1_cellAt_1 rfl ?_
  obtain ⟨v2, hv1, h⟩ := bnd_s h
  refine V.cVi dX1_cellAt_2 rfl mv_RX1_60 (ok_Cou_reaches hc hv1) rfl rfl (LCou.f0 hc) rfl (by decide) ⟨Nat.zero_le _, Nat.zero_le _⟩ (Nat.le_of_ble_eq_true rfl) (Nat.zero_le _) ?_
  refine V.if_eq (tgt := 17) dX1_cellAt_5 (by decide) (fun hc3 => ?_) (fun hc3 => ?_)
  · replace h := ite_t hc3 h
    refine V.bipush dX1_cellAt_17 bp_m4 ?_
    have e1 := inj1 h
    subst e1
    exact V.iret dX1_cellAt_19 rfl rfl
  replace h := ite_f hc3 h
  refine V.aload_n dX1_cellAt_8 rfl ?_
  refine V.getR dX1_cellAt_9 fl_RX1_15 (LCou.f0 hc) rfl rfl ?_
  refine V.iload_n dX1_cellAt_12 rfl ?_
  obtain ⟨hb4, h⟩ := ck_s h
  refine V.iald dX1_cellAt_13 (LCou.f1 hc) rfl (vp_of hb4) ?_
  refine V.goto (tgt := 19) dX1_cellAt_14 (by decide) ?_
  have e1 := inj1 h
  subst e1
  exact V.iret dX1_cellAt_19 rfl rfl
theorem ok_Cou_loudAt {X : Sc} {l : Launch} {c : Nat} {M : Mem} {x1 : Int32} {r : Int32} (hc : LCou S0 c) (h : f_Cou_loudAt c M x1 = some r) : Mt X l yX1_loudAt cX1_loudAt 2 (some .int) 1 0 0 [.ref c, .int x1] S0 M (some (.int r)) S0 M := by
  refine Mt.ofV (by decide) (Nat.le_of_ble_eq_true rfl) ?_
  show V X yX1_loudAt cX1_loudAt 2 (some .int) (rmD 1 0 0) l (FM (some (.int r)) S0 M 0 0) 0 [some (.ref c), some (.int x1)] [] S0 M 0 0
  unfold f_Cou_loudAt at h
  refine V.aload_n dX1_loudAt_0 rfl ?_
  refine V.iload_n dX1_loudAt_1 rfl ?_
  obtain ⟨v2, hv1, h⟩ := bnd_s h
  refine V.cVi dX1_loudAt_2 rfl mv_RX1_60 (ok_Cou_reaches hc hv1) rfl rfl (LCou.f0 hc) rfl (by decide) ⟨Nat.zero_le _, Nat.zero_le _⟩ (Nat.le_of_ble_eq_true rfl) (Nat.zero_le _) ?_
  refine V.if_eq (tgt := 17) dX1_loudAt_5 (by decide) (fun hc3 => ?_) (fun hc3 => ?_)
  · replace h := ite_t hc3 h
    refine V.bipush dX1_loudAt_17 bp_m4 ?_
    have e1 := inj1 h
    subst e1
    exact V.iret dX1_loudAt_19 rfl rfl
  replace h := ite_f hc3 h
  refine V.aload_n dX1_loudAt_8 rfl ?_
  refine V.getR dX1_loudAt_9 fl_RX1_19 (LCou.f0 hc) rfl rfl ?_
  refine V.iload_n dX1_loudAt_12 rfl ?_
  obtain ⟨hb4, h⟩ := ck_s h
  refine V.iald dX1_loudAt_13 (LCou.f2 hc) rfl (vp_of hb4) ?_
  refine V.goto (tgt := 19) dX1_loudAt_14 (by decide) ?_
  have e1 := inj1 h
  subst e1
  exact V.iret dX1_loudAt_19 rfl rfl
theorem ok_Cou_bouncesAt {X : Sc} {l : Launch} {c : Nat} {M : Mem} {x1 : Int32} {r : Int32} (hc : LCou S0 c) (h : f_Cou_bouncesAt c M x1 = some r) : Mt X l yX1_bouncesAt cX1_bouncesAt 2 (some .int) 1 0 0 [.ref c, .int x1] S0 M (some (.int r)) S0 M := by
  refine Mt.ofV (by decide) (Nat.le_of_ble_eq_true rfl) ?_
  show V X yX1_bouncesAt cX1_bouncesAt 2 (some .int) (rmD 1 0 0) l (FM (some (.int r)) S0 M 0 0) 0 [some (.ref c), some (.int x1)] [] S0 M 0 0
  unfold f_Cou_bouncesAt at h
  refine V.aload_n dX1_bouncesAt_0 rfl ?_
  refine V.iload_n dX1_bouncesAt_1 rfl ?_
  obtain ⟨v2, hv1, h⟩ := bnd_s h
  refine V.cVi dX1_bouncesAt_2 rfl mv_RX1_60 (ok_Cou_reaches hc hv1) rfl rfl (LCou.f0 hc) rfl (by decide) ⟨Nat.zero_le _, Nat.zero_le _⟩ (Nat.le_of_ble_eq_true rfl) (Nat.zero_le _) ?_
  refine V.if_eq (tgt := 17) dX1_bouncesAt_5 (by decide) (fun hc3 => ?_) (fun hc3 => ?_)
  · replace h := ite_t hc3 h
    refine V.bipush dX1_bouncesAt_17 bp_m4 ?_
    have e1 := inj1 h
    subst e1
    exact V.iret dX1_bouncesAt_19 rfl rfl
  replace h := ite_f hc3 h
  refine V.aload_n dX1_bouncesAt_8 rfl ?_
  refine V.getR dX1_bouncesAt_9 fl_RX1_22 (LCou.f0 hc) rfl rfl ?_
  refine V.iload_n dX1_bouncesAt_12 rfl ?_
  obtain ⟨hb4, h⟩ := ck_s h
  refine V.iald dX1_bouncesAt_13 (LCou.f3 hc) rfl (vp_of hb4) ?_
  refine V.goto (tgt := 19) dX1_bouncesAt_14 (by decide) ?_
  have e1 := inj1 h
  subst e1
  exact V.iret dX1_bouncesAt_19 rfl rfl
theorem okc_Cou_stepHeardOn_2 {X : Sc} {l : Launch}  {c : Nat} {M : Mem}  (hc : LCou S0 c) : ∀ (n : Nat) (x1 : Int32) (x2 : Int32) (x3 : Int32) (r : Int32), f_Cou_stepHeardOn_L2 c M n x1 x2 x3 = some r → V X yX1_stepHeardOn cX1_stepHeardOn 4 (some .int) (rmD 0 0 0) l (FM (some (.int r)) S0 M 0 0) 2 [some (.ref c), some (.int x1), some (.int x2), some (.int x3)] [] S0 M 0 0 := by
  intro n
  induction n with
  | zero =>
    intro x1 x2 x3 r h
    rw [f_Cou_stepHeardOn_L2] at h
    cases h
  | succ n ih =>
    intro x1 x2 x3 r h
    rw [f_Cou_stepHeardOn_L2] at h
    refine V.iload_n dX1_stepHeardOn_2 rfl ?_
    refine V.aload_n dX1_stepHeardOn_3 rfl ?_
    refine V.getI dX1_stepHeardOn_4 fl_RX1_9 (LCou.f0 hc) rfl rfl ?_
    refine V.icmp_gt (tgt := 48) dX1_stepHeardOn_7 (by decide) (fun hc1 => ?_) (fun hc1 => ?_)
    · replace h := ite_t hc1 h
      refine V.iconst dX1_stepHeardOn_48 ic_0 ?_
      have e1 := inj1 h
      subst e1
      exact V.iret dX1_stepHeardOn_49 rfl rfl
    replace h := ite_f hc1 h
    refine V.iload_n dX1_stepHeardOn_10 rfl ?_
    refine V.bipush dX1_stepHeardOn_11 bp_40 ?_
    refine V.icmp_gt (tgt := 48) dX1_stepHeardOn_13 (by decide) (fun hc2 => ?_) (fun hc2 => ?_)
    · replace h := ite_t hc2 h
      refine V.iconst dX1_stepHeardOn_48 ic_0 ?_
      have e1 := inj1 h
      subst e1
      exact V.iret dX1_stepHeardOn_49 rfl rfl
    replace h := ite_f hc2 h
    refine V.aload_n dX1_stepHeardOn_16 rfl ?_
    refine V.getR dX1_stepHeardOn_17 fl_RX1_15 (LCou.f0 hc) rfl rfl ?_
    refine V.iload_n dX1_stepHeardOn_20 rfl ?_
    obtain ⟨hb3, h⟩ := ck_s h
    refine V.iald dX1_stepHeardOn_21 (LCou.f1 hc) rfl (vp_of hb3) ?_
    refine V.iload_n dX1_stepHeardOn_22 rfl ?_
    refine V.icmp_ne (tgt := 42) dX1_stepHeardOn_23 (by decide) (fun hc4 => ?_) (fun hc4 => ?_)
    · replace h := ite_f hc4 h
      refine V.iinc dX1_stepHeardOn_42 rfl (iinc_c ic_1) (by decide) rfl ?_
      refine V.goto (tgt := 2) dX1_stepHeardOn_45 (by decide) ?_
      exact ih _ _ _ _ h
    replace h := ite_t hc4 h
    refine V.aload_n dX1_stepHeardOn_26 rfl ?_
    refine V.getR dX1_stepHeardOn_27 fl_RX1_19 (LCou.f0 hc) rfl rfl ?_
    refine V.iload_n dX1_stepHeardOn_30 rfl ?_
    obtain ⟨hb5, h⟩ := ck_s h
    refine V.iald dX1_stepHeardOn_31 (LCou.f2 hc) rfl (vp_of hb5) ?_
    refine V.iload_n dX1_stepHeardOn_32 rfl ?_
    refine V.icmp_lt (tgt := 40) dX1_stepHeardOn_33 (by decide) (fun hc6 => ?_) (fun hc6 => ?_)
    · replace h := ite_t hc6 h
      refine V.iconst dX1_stepHeardOn_40 ic_0 ?_
      have e1 := inj1 h
      subst e1
      exact V.iret dX1_stepHeardOn_41 rfl rfl
    replace h := ite_f hc6 h
    refine V.iload_n dX1_stepHeardOn_36 rfl ?_
    refine V.goto (tgt := 41) dX1_stepHeardOn_37 (by decide) ?_
    have e1 := inj1 h
    subst e1
    exact V.iret dX1_stepHeardOn_41 rfl rfl
theorem ok_Cou_stepHeardOn {X : Sc} {l : Launch} {c : Nat} {M : Mem} {x1 : Int32} {x2 : Int32} {r : Int32} (hc : LCou S0 c) (h : f_Cou_stepHeardOn c M x1 x2 = some r) : Mt X l yX1_stepHeardOn cX1_stepHeardOn 4 (some .int) 0 0 0 [.ref c, .int x1, .int x2] S0 M (some (.int r)) S0 M := by
  refine Mt.ofV (by decide) (Nat.le_of_ble_eq_true rfl) ?_
  show V X yX1_stepHeardOn cX1_stepHeardOn 4 (some .int) (rmD 0 0 0) l (FM (some (.int r)) S0 M 0 0) 0 [some (.ref c), some (.int x1), some (.int x2), none] [] S0 M 0 0
  unfold f_Cou_stepHeardOn at h
  refine V.iconst dX1_stepHeardOn_0 ic_1 ?_
  refine V.istore_n dX1_stepHeardOn_1 (by decide) rfl ?_
  exact okc_Cou_stepHeardOn_2 hc _ _ _ _ _ h
theorem okc_Arr_fill_5 {X : Sc} {l : Launch} {sh : List Shp}  {a : Nat} {n : Nat}  (ha : sh[a]? = some (20, n, [])) : ∀ (n0 : Nat) (x1 : Int32) (x2 : Int32) (x3 : Int32) (M : Mem) (M' : Mem), f_Arr_fill_L5 a n n0 x1 x2 x3 M = some M' → V X yJ7_fill_53178 cJ7_fill_53178 4 none (rmD 0 0 0) l (FM none sh M' 0 0) 5 [some (.ref a), some (.int x1), some (.int x2), some (.int x3)] [] sh M 0 0 := by
  intro n0
  induction n0 with
  | zero =>
    intro x1 x2 x3 M M' h
    rw [f_Arr_fill_L5] at h
    cases h
  | succ n0 ih =>
    intro x1 x2 x3 M M' h
    rw [f_Arr_fill_L5] at h
    refine V.iload_n dJ7_fill_53178_5 rfl ?_
    refine V.iload_n dJ7_fill_53178_6 rfl ?_
    refine V.icmp_ge (tgt := 20) dJ7_fill_53178_7 (by decide) (fun hc1 => ?_) (fun hc1 => ?_)
    · replace h := ite_t hc1 h
      have e1 := inj1 h
      subst e1
      exact V.vret dJ7_fill_53178_20 rfl
    replace h := ite_f hc1 h
    refine V.aload_n dJ7_fill_53178_10 rfl ?_
    refine V.iload_n dJ7_fill_53178_11 rfl ?_
    refine V.iload_n dJ7_fill_53178_12 rfl ?_
    obtain ⟨hb2, h⟩ := ck_s h
    refine V.iast dJ7_fill_53178_13 ha rfl (vp_of hb2) (fun M3 hM3 => ?_)
    replace h := setM_at h M3 hM3
    refine V.iinc dJ7_fill_53178_14 rfl (iinc_c ic_1) (by decide) rfl ?_
    refine V.goto (tgt := 5) dJ7_fill_53178_17 (by decide) ?_
    exact ih _ _ _ _ _ h
theorem ok_Arr_fill {X : Sc} {l : Launch} {sh : List Shp} {a : Nat} {n : Nat} {M : Mem} {x1 : Int32} {M' : Mem} (ha : sh[a]? = some (20, n, [])) (h : f_Arr_fill a n x1 M = some M') : Mt X l yJ7_fill_53178 cJ7_fill_53178 4 none 0 0 0 [.ref a, .int x1] sh M none sh M' := by
  refine Mt.ofV (by decide) (Nat.le_of_ble_eq_true rfl) ?_
  show V X yJ7_fill_53178 cJ7_fill_53178 4 none (rmD 0 0 0) l (FM none sh M' 0 0) 0 [some (.ref a), some (.int x1), none, none] [] sh M 0 0
  unfold f_Arr_fill at h
  refine V.iconst dJ7_fill_53178_0 ic_0 ?_
  refine V.istore_n dJ7_fill_53178_1 (by decide) rfl ?_
  refine V.aload_n dJ7_fill_53178_2 rfl ?_
  refine V.alen dJ7_fill_53178_3 ha rfl ?_
  refine V.nmI (fun w1 hw1 => ?_)
  replace h := nmI_at h w1 hw1
  refine V.istore_n dJ7_fill_53178_4 (by decide) rfl ?_
  exact okc_Arr_fill_5 ha _ _ _ _ _ _ h
theorem ok_Tri_part {X : Sc} {l : Launch} {sh : List Shp} {a : Nat} {M : Mem} {x1 : Int32} {x2 : Int32} {r : Int32} (ha : LTri sh a) (h : f_Tri_part a M x1 x2 = some r) : Mt X l yX9_part cX9_part 3 (some .int) 0 0 0 [.ref a, .int x1, .int x2] sh M (some (.int r)) sh M := by
  refine Mt.ofV (by decide) (Nat.le_of_ble_eq_true rfl) ?_
  show V X yX9_part cX9_part 3 (some .int) (rmD 0 0 0) l (FM (some (.int r)) sh M 0 0) 0 [some (.ref a), some (.int x1), some (.int x2)] [] sh M 0 0
  unfold f_Tri_part at h
  refine V.iload_n dX9_part_0 rfl ?_
  refine V.if_lt (tgt := 18) dX9_part_1 (by decide) (fun hc1 => ?_) (fun hc1 => ?_)
  · replace h := ite_t hc1 h
    refine V.iconst dX9_part_18 ic_m1 ?_
    have e1 := inj1 h
    subst e1
    exact V.iret dX9_part_19 rfl rfl
  replace h := ite_f hc1 h
  refine V.iload_n dX9_part_4 rfl ?_
  refine V.aload_n dX9_part_5 rfl ?_
  refine V.getI dX9_part_6 fl_RX9_9 (LTri.f0 ha) rfl rfl ?_
  refine V.icmp_ge (tgt := 18) dX9_part_9 (by decide) (fun hc2 => ?_) (fun hc2 => ?_)
  · replace h := ite_t hc2 h
    refine V.iconst dX9_part_18 ic_m1 ?_
    have e1 := inj1 h
    subst e1
    exact V.iret dX9_part_19 rfl rfl
  replace h := ite_f hc2 h
  refine V.iload_n dX9_part_12 rfl ?_
  refine V.bipush dX9_part_13 bp_12 ?_
  refine V.icmp_lt (tgt := 20) dX9_part_15 (by decide) (fun hc3 => ?_) (fun hc3 => ?_)
  · replace h := ite_t hc3 h
    refine V.iload_n dX9_part_20 rfl ?_
    by_cases hc4 : x2 = 0
    · replace h := ite_t hc4 h
      refine V.tabAt (off := 27) (tgt := 48) dX9_part_21 hc4 (by decide) (by decide) (by decide) (by decide) ?_
      refine V.aload_n dX9_part_48 rfl ?_
      refine V.getR dX9_part_49 fl_RX9_15 (LTri.f0 ha) rfl rfl ?_
      refine V.iload_n dX9_part_52 rfl ?_
      obtain ⟨hb5, h⟩ := ck_s h
      refine V.iald dX9_part_53 (LTri.f1 ha) rfl (vp_of hb5) ?_
      have e1 := inj1 h
      subst e1
      exact V.iret dX9_part_54 rfl rfl
    replace h := ite_f hc4 h
    by_cases hc6 : x2 = 1
    · replace h := ite_t hc6 h
      refine V.tabAt (off := 34) (tgt := 55) dX9_part_21 hc6 (by decide) (by decide) (by decide) (by decide) ?_
      refine V.aload_n dX9_part_55 rfl ?_
      refine V.getR dX9_part_56 fl_RX9_19 (LTri.f0 ha) rfl rfl ?_
      refine V.iload_n dX9_part_59 rfl ?_
      obtain ⟨hb7, h⟩ := ck_s h
      refine V.iald dX9_part_60 (LTri.f2 ha) rfl (vp_of hb7) ?_
      have e1 := inj1 h
      subst e1
      exact V.iret dX9_part_61 rfl rfl
    replace h := ite_f hc6 h
    by_cases hc8 : x2 = 2
    · replace h := ite_t hc8 h
      refine V.tabAt (off := 41) (tgt := 62) dX9_part_21 hc8 (by decide) (by decide) (by decide) (by decide) ?_
      refine V.aload_n dX9_part_62 rfl ?_
      refine V.getR dX9_part_63 fl_RX9_22 (LTri.f0 ha) rfl rfl ?_
      refine V.iload_n dX9_part_66 rfl ?_
      obtain ⟨hb9, h⟩ := ck_s h
      refine V.iald dX9_part_67 (LTri.f3 ha) rfl (vp_of hb9) ?_
      have e1 := inj1 h
      subst e1
      exact V.iret dX9_part_68 rfl rfl
    replace h := ite_f hc8 h
    refine V.tabOut (tgt := 69) dX9_part_21 (by have e0 := i32_lit (k := 0) hc4 (by decide); have e1 := i32_lit (k := 1) hc6 (by decide); have e2 := i32_lit (k := 2) hc8 (by decide); omega) (by decide) ?_
    refine V.iconst dX9_part_69 ic_m1 ?_
    have e1 := inj1 h
    subst e1
    exact V.iret dX9_part_70 rfl rfl
  replace h := ite_f hc3 h
  refine V.iconst dX9_part_18 ic_m1 ?_
  have e1 := inj1 h
  subst e1
  exact V.iret dX9_part_19 rfl rfl
theorem ok_Hal_isSecret {X : Sc} {l : Launch} {sh : List Shp}  {M : Mem} {x0 : Int32} {r : Int32}  (h : f_Hal_isSecret x0 = some r) : Mt X l yX10_isSecret cX10_isSecret 1 (some .boolean) 1 0 0 [.int x0] sh M (some (.int r)) sh M := by
  refine Mt.ofV (by decide) (Nat.le_of_ble_eq_true rfl) ?_
  show V X yX10_isSecret cX10_isSecret 1 (some .boolean) (rmD 1 0 0) l (FM (some (.int r)) sh M 0 0) 0 [some (.int x0)] [] sh M 0 0
  unfold f_Hal_isSecret at h
  refine V.iload_n dX10_isSecret_0 rfl ?_
  refine V.iconst dX10_isSecret_1 ic_0 ?_
  refine V.bipush dX10_isSecret_2 bp_7 ?_
  obtain ⟨v2, hv1, h⟩ := bnd_s h
  refine V.cSi dX10_isSecret_4 rfl mv_RX10_77 (ok_Hal_within hv1) rfl rfl (by decide) ⟨Nat.zero_le _, Nat.zero_le _⟩ (Nat.le_of_ble_eq_true rfl) (Nat.zero_le _) ?_
  obtain ⟨hB3, h⟩ := ck_s h
  have e1 := inj1 h
  subst e1
  exact V.iret dX10_isSecret_7 rfl (isB_n hB3)
theorem ok_Gos_knowersOf {X : Sc} {l : Launch}  {M : Mem} {x1 : Int32} {r : Int32}  (h : f_Gos_knowersOf M x1 = some r) : Mt X l yX2_knowersOf cX2_knowersOf 2 (some .int) 2 0 0 [.ref 78, .int x1] S0 M (some (.int r)) S0 M := by
  refine Mt.ofV (by decide) (Nat.le_of_ble_eq_true rfl) ?_
  show V X yX2_knowersOf cX2_knowersOf 2 (some .int) (rmD 2 0 0) l (FM (some (.int r)) S0 M 0 0) 0 [some (.ref 78), some (.int x1)] [] S0 M 0 0
  unfold f_Gos_knowersOf at h
  refine V.iload_n dX2_knowersOf_0 rfl ?_
  obtain ⟨v2, hv1, h⟩ := bnd_s h
  refine V.cSNi dX2_knowersOf_1 rfl wn_RX2_48 mn_RX2_48 (ok_Hal_isSecret hv1) rfl rfl (by decide) ⟨Nat.zero_le _, Nat.zero_le _⟩ (Nat.le_of_ble_eq_true rfl) (Nat.zero_le _) ?_
  refine V.if_eq (tgt := 16) dX2_knowersOf_4 (by decide) (fun hc3 => ?_) (fun hc3 => ?_)
  · replace h := ite_t hc3 h
    refine V.iconst dX2_knowersOf_16 ic_0 ?_
    have e1 := inj1 h
    subst e1
    exact V.iret dX2_knowersOf_17 rfl rfl
  replace h := ite_f hc3 h
  refine V.aload_n dX2_knowersOf_7 rfl ?_
  refine V.getR dX2_knowersOf_8 fl_RX2_18 s0_78 rfl rfl ?_
  refine V.iload_n dX2_knowersOf_11 rfl ?_
  obtain ⟨hb4, h⟩ := ck_s h
  refine V.iald dX2_knowersOf_12 s0_85 rfl (vp_of hb4) ?_
  refine V.goto (tgt := 17) dX2_knowersOf_13 (by decide) ?_
  have e1 := inj1 h
  subst e1
  exact V.iret dX2_knowersOf_17 rfl rfl
theorem ok_Hal_bit {X : Sc} {l : Launch} {sh : List Shp}  {M : Mem} {x0 : Int32} {x1 : Int32} {r : Int32}  (h : f_Hal_bit x0 x1 = some r) : Mt X l yX10_bit cX10_bit 2 (some .int) 0 0 0 [.int x0, .int x1] sh M (some (.int r)) sh M := by
  refine Mt.ofV (by decide) (Nat.le_of_ble_eq_true rfl) ?_
  show V X yX10_bit cX10_bit 2 (some .int) (rmD 0 0 0) l (FM (some (.int r)) sh M 0 0) 0 [some (.int x0), some (.int x1)] [] sh M 0 0
  unfold f_Hal_bit at h
  refine V.iload_n dX10_bit_0 rfl ?_
  refine V.iload_n dX10_bit_1 rfl ?_
  refine V.ishr dX10_bit_2 ?_
  refine V.iconst dX10_bit_3 ic_1 ?_
  refine V.iand dX10_bit_4 ?_
  have e1 := inj1 h
  subst e1
  exact V.iret dX10_bit_5 rfl rfl
theorem ok_Tol_seatOf {X : Sc} {l : Launch} {sh : List Shp} {t : Nat} {M : Mem} {x1 : Int32} {r : Int32} (ht : LTol sh t) (h : f_Tol_seatOf t M x1 = some r) : Mt X l yX8_seatOf cX8_seatOf 2 (some .int) 0 0 0 [.ref t, .int x1] sh M (some (.int r)) sh M := by
  refine Mt.ofV (by decide) (Nat.le_of_ble_eq_true rfl) ?_
  show V X yX8_seatOf cX8_seatOf 2 (some .int) (rmD 0 0 0) l (FM (some (.int r)) sh M 0 0) 0 [some (.ref t), some (.int x1)] [] sh M 0 0
  unfold f_Tol_seatOf at h
  refine V.iload_n dX8_seatOf_0 rfl ?_
  refine V.if_lt (tgt := 27) dX8_seatOf_1 (by decide) (fun hc1 => ?_) (fun hc1 => ?_)
  · replace h := ite_t hc1 h
    refine V.bipush dX8_seatOf_27 bp_m4 ?_
    have e1 := inj1 h
    subst e1
    exact V.iret dX8_seatOf_29 rfl rfl
  replace h := ite_f hc1 h
  refine V.iload_n dX8_seatOf_4 rfl ?_
  refine V.aload_n dX8_seatOf_5 rfl ?_
  refine V.getI dX8_seatOf_6 fl_RX8_54 (LTol.f0 ht) rfl rfl ?_
  refine V.icmp_ge (tgt := 27) dX8_seatOf_9 (by decide) (fun hc2 => ?_) (fun hc2 => ?_)
  · replace h := ite_t hc2 h
    refine V.bipush dX8_seatOf_27 bp_m4 ?_
    have e1 := inj1 h
    subst e1
    exact V.iret dX8_seatOf_29 rfl rfl
  replace h := ite_f hc2 h
  refine V.iload_n dX8_seatOf_12 rfl ?_
  refine V.bipush dX8_seatOf_13 bp_6 ?_
  refine V.icmp_ge (tgt := 27) dX8_seatOf_15 (by decide) (fun hc3 => ?_) (fun hc3 => ?_)
  · replace h := ite_t hc3 h
    refine V.bipush dX8_seatOf_27 bp_m4 ?_
    have e1 := inj1 h
    subst e1
    exact V.iret dX8_seatOf_29 rfl rfl
  replace h := ite_f hc3 h
  refine V.aload_n dX8_seatOf_18 rfl ?_
  refine V.getR dX8_seatOf_19 fl_RX8_15 (LTol.f0 ht) rfl rfl ?_
  refine V.iload_n dX8_seatOf_22 rfl ?_
  obtain ⟨hb4, h⟩ := ck_s h
  refine V.iald dX8_seatOf_23 (LTol.f2 ht) rfl (vp_of hb4) ?_
  refine V.goto (tgt := 29) dX8_seatOf_24 (by decide) ?_
  have e1 := inj1 h
  subst e1
  exact V.iret dX8_seatOf_29 rfl rfl
theorem okc_Hea_whisperFromBench_17 {X : Sc} {l : Launch}  {g : Nat}  (hg : LHea S0 g) {x2 : Int32} {x3 : Int32} {s0 : Int32} {M : Mem} {M' : Mem} (h : f_Hea_whisperFromBench_J17 g x2 x3 s0 M = some M') : V X yX3_whisperFromBench cX3_whisperFromBench 5 none (rmD 2 0 0) l (FM none S0 M' 0 0) 17 [some (.ref g), some (.ref 1), some (.int x2), some (.int x3), none] [.int s0] S0 M 0 0 := by
  unfold f_Hea_whisperFromBench_J17 at h
  refine V.istore dX3_whisperFromBench_17 (by decide) rfl ?_
  refine V.aload_n dX3_whisperFromBench_19 rfl ?_
  refine V.getR dX3_whisperFromBench_20 fl_RX3_12 (LHea.f0 hg) rfl rfl ?_
  refine V.aload_n dX3_whisperFromBench_23 rfl ?_
  refine V.aload_n dX3_whisperFromBench_24 rfl ?_
  refine V.getR dX3_whisperFromBench_25 fl_RX3_22 s0_1 rfl rfl ?_
  refine V.iload_n dX3_whisperFromBench_28 rfl ?_
  refine V.iload_n dX3_whisperFromBench_29 rfl ?_
  refine V.aload_n dX3_whisperFromBench_30 rfl ?_
  refine V.getI dX3_whisperFromBench_31 fl_RX3_34 s0_1 rfl rfl ?_
  obtain ⟨v2, hv1, h⟩ := bnd_s h
  refine V.cVi dX3_whisperFromBench_34 rfl mv_RX3_38 (ok_Ben_cellIn s0_Ben4 hv1) rfl rfl s0_4 rfl (by decide) ⟨Nat.zero_le _, Nat.zero_le _⟩ (Nat.le_of_ble_eq_true rfl) (Nat.zero_le _) ?_
  refine V.aload_n dX3_whisperFromBench_37 rfl ?_
  refine V.getR dX3_whisperFromBench_38 fl_RX3_22 s0_1 rfl rfl ?_
  refine V.iload_n dX3_whisperFromBench_41 rfl ?_
  refine V.iload_n dX3_whisperFromBench_42 rfl ?_
  obtain ⟨v4, hv3, h⟩ := bnd_s h
  refine V.cVi dX3_whisperFromBench_43 rfl mv_RX3_42 (ok_Ben_facingIn s0_Ben4 hv3) rfl rfl s0_4 rfl (by decide) ⟨Nat.zero_le _, Nat.zero_le _⟩ (Nat.le_of_ble_eq_true rfl) (Nat.zero_le _) ?_
  refine V.iload dX3_whisperFromBench_46 rfl ?_
  obtain ⟨M6, hv5, h⟩ := bnd_s h
  refine V.cVv dX3_whisperFromBench_48 rfl mv_RX3_46 (ok_Cou_run (LHea.s1 hg) hv5) rfl rfl (LHea.f1 hg) rfl (by decide) ⟨Nat.zero_le _, Nat.zero_le _⟩ (Nat.le_of_ble_eq_true rfl) (Nat.zero_le _) ?_
  have e1 := inj1 h
  subst e1
  exact V.vret dX3_whisperFromBench_51 rfl
theorem ok_Hea_whisperFromBench {X : Sc} {l : Launch} {g : Nat} {M : Mem} {x2 : Int32} {x3 : Int32} {M' : Mem} (hg : LHea S0 g) (h : f_Hea_whisperFromBench g x2 x3 M = some M') : Mt X l yX3_whisperFromBench cX3_whisperFromBench 5 none 2 0 0 [.ref g, .ref 1, .int x2, .int x3] S0 M none S0 M' := by
  refine Mt.ofV (by decide) (Nat.le_of_ble_eq_true rfl) ?_
  show V X yX3_whisperFromBench cX3_whisperFromBench 5 none (rmD 2 0 0) l (FM none S0 M' 0 0) 0 [some (.ref g), some (.ref 1), some (.int x2), some (.int x3), none] [] S0 M 0 0
  unfold f_Hea_whisperFromBench at h
  refine V.aload_n dX3_whisperFromBench_0 rfl ?_
  refine V.getR dX3_whisperFromBench_1 fl_RX3_22 s0_1 rfl rfl ?_
  refine V.iload_n dX3_whisperFromBench_4 rfl ?_
  obtain ⟨v2, hv1, h⟩ := bnd_s h
  refine V.cVi dX3_whisperFromBench_5 rfl mv_RX3_28 (ok_Ben_kindOf s0_Ben4 hv1) rfl rfl s0_4 rfl (by decide) ⟨Nat.zero_le _, Nat.zero_le _⟩ (Nat.le_of_ble_eq_true rfl) (Nat.zero_le _) ?_
  refine V.iconst dX3_whisperFromBench_8 ic_3 ?_
  refine V.icmp_ne (tgt := 16) dX3_whisperFromBench_9 (by decide) (fun hc3 => ?_) (fun hc3 => ?_)
  · replace h := ite_f hc3 h
    refine V.iconst dX3_whisperFromBench_16 ic_0 ?_
    exact okc_Hea_whisperFromBench_17 hg h
  replace h := ite_t hc3 h
  refine V.iconst dX3_whisperFromBench_12 ic_1 ?_
  refine V.goto (tgt := 17) dX3_whisperFromBench_13 (by decide) ?_
  exact okc_Hea_whisperFromBench_17 hg h
theorem okc_Hea_hearersOfLatest_5 {X : Sc} {l : Launch}  {g : Nat} {M : Mem}  (hg : LHea S0 g) : ∀ (n : Nat) (x2 : Int32) (x3 : Int32) (x4 : Int32) (r : Int32), f_Hea_hearersOfLatest_L5 g M n x2 x3 x4 = some r → V X yX3_hearersOfLatest cX3_hearersOfLatest 6 (some .int) (rmD 2 0 0) l (FM (some (.int r)) S0 M 0 0) 5 [some (.ref g), some (.ref 1), some (.int x2), some (.int x3), some (.int x4), none] [] S0 M 0 0 := by
  intro n
  induction n with
  | zero =>
    intro x2 x3 x4 r h
    rw [f_Hea_hearersOfLatest_L5] at h
    cases h
  | succ n ih =>
    intro x2 x3 x4 r h
    rw [f_Hea_hearersOfLatest_L5] at h
    refine V.iload dX3_hearersOfLatest_5 rfl ?_
    refine V.aload_n dX3_hearersOfLatest_7 rfl ?_
    refine V.getR dX3_hearersOfLatest_8 fl_RX3_22 s0_1 rfl rfl ?_
    refine V.getI dX3_hearersOfLatest_11 fl_RX3_56 s0_4 rfl rfl ?_
    refine V.icmp_ge (tgt := 67) dX3_hearersOfLatest_14 (by decide) (fun hc1 => ?_) (fun hc1 => ?_)
    · replace h := ite_t hc1 h
      refine V.iload_n dX3_hearersOfLatest_67 rfl ?_
      have e1 := inj1 h
      subst e1
      exact V.iret dX3_hearersOfLatest_68 rfl rfl
    replace h := ite_f hc1 h
    refine V.aload_n dX3_hearersOfLatest_17 rfl ?_
    refine V.getR dX3_hearersOfLatest_18 fl_RX3_22 s0_1 rfl rfl ?_
    refine V.iload dX3_hearersOfLatest_21 rfl ?_
    refine V.iload_n dX3_hearersOfLatest_23 rfl ?_
    refine V.aload_n dX3_hearersOfLatest_24 rfl ?_
    refine V.getI dX3_hearersOfLatest_25 fl_RX3_34 s0_1 rfl rfl ?_
    obtain ⟨v3, hv2, h⟩ := bnd_s h
    refine V.cVi dX3_hearersOfLatest_28 rfl mv_RX3_38 (ok_Ben_cellIn s0_Ben4 hv2) rfl rfl s0_4 rfl (by decide) ⟨Nat.zero_le _, Nat.zero_le _⟩ (Nat.le_of_ble_eq_true rfl) (Nat.zero_le _) ?_
    refine V.istore dX3_hearersOfLatest_31 (by decide) rfl ?_
    refine V.aload_n dX3_hearersOfLatest_33 rfl ?_
    refine V.getR dX3_hearersOfLatest_34 fl_RX3_12 (LHea.f0 hg) rfl rfl ?_
    refine V.iload dX3_hearersOfLatest_37 rfl ?_
    refine V.aload_n dX3_hearersOfLatest_39 rfl ?_
    refine V.getR dX3_hearersOfLatest_40 fl_RX3_22 s0_1 rfl rfl ?_
    refine V.iload dX3_hearersOfLatest_43 rfl ?_
    obtain ⟨v5, hv4, h⟩ := bnd_s h
    refine V.cVi dX3_hearersOfLatest_45 rfl mv_RX3_50 (ok_Ben_earOf s0_Ben4 hv4) rfl rfl s0_4 rfl (by decide) ⟨Nat.zero_le _, Nat.zero_le _⟩ (Nat.le_of_ble_eq_true rfl) (Nat.zero_le _) ?_
    obtain ⟨v7, hv6, h⟩ := bnd_s h
    refine V.cVi dX3_hearersOfLatest_48 rfl mv_RX3_53 (ok_Cou_stepHeardOn (LHea.s1 hg) hv6) rfl rfl (LHea.f1 hg) rfl (by decide) ⟨Nat.zero_le _, Nat.zero_le _⟩ (Nat.le_of_ble_eq_true rfl) (Nat.zero_le _) ?_
    refine V.if_le (tgt := 61) dX3_hearersOfLatest_51 (by decide) (fun hc8 => ?_) (fun hc8 => ?_)
    · replace h := ite_t hc8 h
      refine V.iinc dX3_hearersOfLatest_61 rfl (iinc_c ic_1) (by decide) rfl ?_
      refine V.goto (tgt := 5) dX3_hearersOfLatest_64 (by decide) ?_
      refine V.mask [true, true, true, true, true, false] rfl ?_
      exact ih _ _ _ _ h
    replace h := ite_f hc8 h
    refine V.iload_n dX3_hearersOfLatest_54 rfl ?_
    refine V.iconst dX3_hearersOfLatest_55 ic_1 ?_
    refine V.iload dX3_hearersOfLatest_56 rfl ?_
    refine V.ishl dX3_hearersOfLatest_58 ?_
    refine V.ior dX3_hearersOfLatest_59 ?_
    refine V.nmI (fun w9 hw9 => ?_)
    replace h := nmI_at h w9 hw9
    refine V.istore_n dX3_hearersOfLatest_60 (by decide) rfl ?_
    refine V.iinc dX3_hearersOfLatest_61 rfl (iinc_c ic_1) (by decide) rfl ?_
    refine V.goto (tgt := 5) dX3_hearersOfLatest_64 (by decide) ?_
    refine V.mask [true, true, true, true, true, false] rfl ?_
    exact ih _ _ _ _ h
theorem ok_Hea_hearersOfLatest {X : Sc} {l : Launch} {g : Nat} {M : Mem} {x2 : Int32} {r : Int32} (hg : LHea S0 g) (h : f_Hea_hearersOfLatest g M x2 = some r) : Mt X l yX3_hearersOfLatest cX3_hearersOfLatest 6 (some .int) 2 0 0 [.ref g, .ref 1, .int x2] S0 M (some (.int r)) S0 M := by
  refine Mt.ofV (by decide) (Nat.le_of_ble_eq_true rfl) ?_
  show V X yX3_hearersOfLatest cX3_hearersOfLatest 6 (some .int) (rmD 2 0 0) l (FM (some (.int r)) S0 M 0 0) 0 [some (.ref g), some (.ref 1), some (.int x2), none, none, none] [] S0 M 0 0
  unfold f_Hea_hearersOfLatest at h
  refine V.iconst dX3_hearersOfLatest_0 ic_0 ?_
  refine V.istore_n dX3_hearersOfLatest_1 (by decide) rfl ?_
  refine V.iconst dX3_hearersOfLatest_2 ic_0 ?_
  refine V.istore dX3_hearersOfLatest_3 (by decide) rfl ?_
  exact okc_Hea_hearersOfLatest_5 hg _ _ _ _ _ h
theorem ok_Hea_hearersOf {X : Sc} {l : Launch} {g : Nat} {M : Mem} {x2 : Int32} {x3 : Int32} {r : Int32} {M' : Mem} (hg : LHea S0 g) (h : f_Hea_hearersOf g x2 x3 M = some (r, M')) : Mt X l yX3_hearersOf cX3_hearersOf 4 (some .int) 3 0 0 [.ref g, .ref 1, .int x2, .int x3] S0 M (some (.int r)) S0 M' := by
  refine Mt.ofV (by decide) (Nat.le_of_ble_eq_true rfl) ?_
  show V X yX3_hearersOf cX3_hearersOf 4 (some .int) (rmD 3 0 0) l (FM (some (.int r)) S0 M' 0 0) 0 [some (.ref g), some (.ref 1), some (.int x2), some (.int x3)] [] S0 M 0 0
  unfold f_Hea_hearersOf at h
  refine V.aload_n dX3_hearersOf_0 rfl ?_
  refine V.aload_n dX3_hearersOf_1 rfl ?_
  refine V.iload_n dX3_hearersOf_2 rfl ?_
  refine V.iload_n dX3_hearersOf_3 rfl ?_
  obtain ⟨M2, hv1, h⟩ := bnd_s h
  refine V.cVv dX3_hearersOf_4 rfl mv_RX3_59 (ok_Hea_whisperFromBench hg hv1) rfl rfl (LHea.f0 hg) rfl (by decide) ⟨Nat.zero_le _, Nat.zero_le _⟩ (Nat.le_of_ble_eq_true rfl) (Nat.zero_le _) ?_
  refine V.aload_n dX3_hearersOf_7 rfl ?_
  refine V.aload_n dX3_hearersOf_8 rfl ?_
  refine V.iload_n dX3_hearersOf_9 rfl ?_
  obtain ⟨v4, hv3, h⟩ := bnd_s h
  refine V.cVi dX3_hearersOf_10 rfl mv_RX3_63 (ok_Hea_hearersOfLatest hg hv3) rfl rfl (LHea.f0 hg) rfl (by decide) ⟨Nat.zero_le _, Nat.zero_le _⟩ (Nat.le_of_ble_eq_true rfl) (Nat.zero_le _) ?_
  refine V.iconst dX3_hearersOf_13 ic_1 ?_
  refine V.iload_n dX3_hearersOf_14 rfl ?_
  refine V.ishl dX3_hearersOf_15 ?_
  refine V.iconst dX3_hearersOf_16 ic_m1 ?_
  refine V.ixor dX3_hearersOf_17 ?_
  refine V.iand dX3_hearersOf_18 ?_
  obtain ⟨e1, e2⟩ := inj2 h
  subst e1
  subst e2
  exact V.iret dX3_hearersOf_19 rfl rfl
theorem okc_Hea_peopleHearing_34 {X : Sc} {l : Launch}  {g : Nat}  (hg : LHea S0 g) : ∀ (n : Nat) (x5 : Int32) (x6 : Int32) (x7 : Int32) (M : Mem) (r : Int32) (M' : Mem), f_Hea_peopleHearing_L34 g n x5 x6 x7 M = some (r, M') → V X yX3_peopleHearing cX3_peopleHearing 9 (some .int) (rmD 4 0 0) l (FM (some (.int r)) S0 M' 0 0) 34 [none, some (.ref 1), none, none, none, some (.int x5), some (.int x6), some (.int x7), none] [] S0 M 0 0 := by
  intro n
  induction n with
  | zero =>
    intro x5 x6 x7 M r M' h
    rw [f_Hea_peopleHearing_L34] at h
    cases h
  | succ n ih =>
    intro x5 x6 x7 M r M' h
    rw [f_Hea_peopleHearing_L34] at h
    refine V.iload dX3_peopleHearing_34 rfl ?_
    refine V.aload_n dX3_peopleHearing_36 rfl ?_
    refine V.getI dX3_peopleHearing_37 fl_RX3_98 s0_1 rfl rfl ?_
    refine V.icmp_ge (tgt := 84) dX3_peopleHearing_40 (by decide) (fun hc1 => ?_) (fun hc1 => ?_)
    · replace h := ite_t hc1 h
      refine V.iload dX3_peopleHearing_84 rfl ?_
      obtain ⟨e1, e2⟩ := inj2 h
      subst e1
      subst e2
      exact V.iret dX3_peopleHearing_86 rfl rfl
    replace h := ite_f hc1 h
    refine V.aload_n dX3_peopleHearing_43 rfl ?_
    refine V.iload dX3_peopleHearing_44 rfl ?_
    obtain ⟨v3, hv2, h⟩ := bnd_s h
    refine V.cVi dX3_peopleHearing_46 rfl mv_RX3_92 (ok_Tol_seatOf s0_Tol1 hv2) rfl rfl s0_1 rfl (by decide) ⟨Nat.zero_le _, Nat.zero_le _⟩ (Nat.le_of_ble_eq_true rfl) (Nat.zero_le _) ?_
    refine V.istore dX3_peopleHearing_49 (by decide) rfl ?_
    refine V.iload dX3_peopleHearing_51 rfl ?_
    refine V.bipush dX3_peopleHearing_53 bp_m4 ?_
    refine V.icmp_eq (tgt := 78) dX3_peopleHearing_55 (by decide) (fun hc4 => ?_) (fun hc4 => ?_)
    · replace h := ite_t hc4 h
      refine V.iinc dX3_peopleHearing_78 rfl (iinc_c ic_1) (by decide) rfl ?_
      refine V.goto (tgt := 34) dX3_peopleHearing_81 (by decide) ?_
      refine V.mask [false, true, false, false, false, true, true, true, false] rfl ?_
      exact ih _ _ _ _ _ _ h
    replace h := ite_f hc4 h
    refine V.iload dX3_peopleHearing_58 rfl ?_
    refine V.iload dX3_peopleHearing_60 rfl ?_
    obtain ⟨v6, hv5, h⟩ := bnd_s h
    refine V.cSNi dX3_peopleHearing_62 rfl wn_RX3_75 mn_RX3_75 (ok_Hal_bit hv5) rfl rfl (by decide) ⟨Nat.zero_le _, Nat.zero_le _⟩ (Nat.le_of_ble_eq_true rfl) (Nat.zero_le _) ?_
    refine V.iconst dX3_peopleHearing_65 ic_1 ?_
    refine V.icmp_ne (tgt := 78) dX3_peopleHearing_66 (by decide) (fun hc7 => ?_) (fun hc7 => ?_)
    · replace h := ite_f hc7 h
      refine V.iinc dX3_peopleHearing_78 rfl (iinc_c ic_1) (by decide) rfl ?_
      refine V.goto (tgt := 34) dX3_peopleHearing_81 (by decide) ?_
      refine V.mask [false, true, false, false, false, true, true, true, false] rfl ?_
      exact ih _ _ _ _ _ _ h
    replace h := ite_t hc7 h
    refine V.iload dX3_peopleHearing_69 rfl ?_
    refine V.iconst dX3_peopleHearing_71 ic_1 ?_
    refine V.iload dX3_peopleHearing_72 rfl ?_
    refine V.ishl dX3_peopleHearing_74 ?_
    refine V.ior dX3_peopleHearing_75 ?_
    refine V.nmI (fun w8 hw8 => ?_)
    replace h := nmI_at h w8 hw8
    refine V.istore dX3_peopleHearing_76 (by decide) rfl ?_
    refine V.iinc dX3_peopleHearing_78 rfl (iinc_c ic_1) (by decide) rfl ?_
    refine V.goto (tgt := 34) dX3_peopleHearing_81 (by decide) ?_
    refine V.mask [false, true, false, false, false, true, true, true, false] rfl ?_
    exact ih _ _ _ _ _ _ h
theorem okc_Hea_peopleHearing_26 {X : Sc} {l : Launch}  {g : Nat}  (hg : LHea S0 g) {s0 : Int32} {M : Mem} {r : Int32} {M' : Mem} (h : f_Hea_peopleHearing_J26 g s0 M = some (r, M')) : V X yX3_peopleHearing cX3_peopleHearing 9 (some .int) (rmD 4 0 0) l (FM (some (.int r)) S0 M' 0 0) 26 [none, some (.ref 1), none, none, none, none, none, none, none] [.int s0] S0 M 0 0 := by
  unfold f_Hea_peopleHearing_J26 at h
  refine V.istore dX3_peopleHearing_26 (by decide) rfl ?_
  refine V.iconst dX3_peopleHearing_28 ic_0 ?_
  refine V.istore dX3_peopleHearing_29 (by decide) rfl ?_
  refine V.iconst dX3_peopleHearing_31 ic_0 ?_
  refine V.istore dX3_peopleHearing_32 (by decide) rfl ?_
  exact okc_Hea_peopleHearing_34 hg _ _ _ _ _ _ _ h
theorem ok_Hea_peopleHearing {X : Sc} {l : Launch} {g : Nat} {M : Mem} {x2 : Int32} {x3 : Int32} {r : Int32} {M' : Mem} (hg : LHea S0 g) (h : f_Hea_peopleHearing g x2 x3 M = some (r, M')) : Mt X l yX3_peopleHearing cX3_peopleHearing 9 (some .int) 4 0 0 [.ref g, .ref 1, .int x2, .int x3] S0 M (some (.int r)) S0 M' := by
  refine Mt.ofV (by decide) (Nat.le_of_ble_eq_true rfl) ?_
  show V X yX3_peopleHearing cX3_peopleHearing 9 (some .int) (rmD 4 0 0) l (FM (some (.int r)) S0 M' 0 0) 0 [some (.ref g), some (.ref 1), some (.int x2), some (.int x3), none, none, none, none, none] [] S0 M 0 0
  unfold f_Hea_peopleHearing at h
  refine V.aload_n dX3_peopleHearing_0 rfl ?_
  refine V.iload_n dX3_peopleHearing_1 rfl ?_
  obtain ⟨v2, hv1, h⟩ := bnd_s h
  refine V.cVi dX3_peopleHearing_2 rfl mv_RX3_92 (ok_Tol_seatOf s0_Tol1 hv1) rfl rfl s0_1 rfl (by decide) ⟨Nat.zero_le _, Nat.zero_le _⟩ (Nat.le_of_ble_eq_true rfl) (Nat.zero_le _) ?_
  refine V.istore dX3_peopleHearing_5 (by decide) rfl ?_
  refine V.iload dX3_peopleHearing_7 rfl ?_
  refine V.bipush dX3_peopleHearing_9 bp_m4 ?_
  refine V.icmp_ne (tgt := 18) dX3_peopleHearing_11 (by decide) (fun hc3 => ?_) (fun hc3 => ?_)
  · replace h := ite_f hc3 h
    refine V.aload_n dX3_peopleHearing_18 rfl ?_
    refine V.aload_n dX3_peopleHearing_19 rfl ?_
    refine V.iload dX3_peopleHearing_20 rfl ?_
    refine V.iload_n dX3_peopleHearing_22 rfl ?_
    obtain ⟨v5, M6, hv4, h⟩ := bnd2_s h
    refine V.cVi dX3_peopleHearing_23 rfl mv_RX3_67 (ok_Hea_hearersOf hg hv4) rfl rfl (LHea.f0 hg) rfl (by decide) ⟨Nat.zero_le _, Nat.zero_le _⟩ (Nat.le_of_ble_eq_true rfl) (Nat.zero_le _) ?_
    refine V.mask [false, true, false, false, false, false, false, false, false] rfl ?_
    exact okc_Hea_peopleHearing_26 hg h
  replace h := ite_t hc3 h
  refine V.iconst dX3_peopleHearing_14 ic_0 ?_
  refine V.goto (tgt := 26) dX3_peopleHearing_15 (by decide) ?_
  refine V.mask [false, true, false, false, false, false, false, false, false] rfl ?_
  exact okc_Hea_peopleHearing_26 hg h
theorem okc_Gos_tellOne_67 {X : Sc} {l : Launch}     {x2 : Int32} {x3 : Int32} {x4 : Int32} {x5 : Int32} {M : Mem} {r : Int32} {M' : Mem} (h : f_Gos_tellOne_J67  x2 x3 x4 x5 M = some (r, M')) : V X yX2_tellOne cX2_tellOne 6 (some .int) (rmD 5 0 0) l (FM (some (.int r)) S0 M' 0 0) 67 [some (.ref 78), some (.ref 1), some (.int x2), some (.int x3), some (.int x4), some (.int x5)] [] S0 M 0 0 := by
  unfold f_Gos_tellOne_J67 at h
  refine V.aload_n dX2_tellOne_67 rfl ?_
  refine V.getR dX2_tellOne_68 fl_RX2_18 s0_78 rfl rfl ?_
  refine V.iload dX2_tellOne_71 rfl ?_
  refine V.iload dX2_tellOne_73 rfl ?_
  refine V.iconst dX2_tellOne_75 ic_1 ?_
  refine V.iload_n dX2_tellOne_76 rfl ?_
  refine V.ishl dX2_tellOne_77 ?_
  refine V.ior dX2_tellOne_78 ?_
  refine V.aload_n dX2_tellOne_79 rfl ?_
  refine V.getR dX2_tellOne_80 fl_RX2_12 s0_78 rfl rfl ?_
  refine V.aload_n dX2_tellOne_83 rfl ?_
  refine V.iload_n dX2_tellOne_84 rfl ?_
  refine V.aload_n dX2_tellOne_85 rfl ?_
  refine V.getR dX2_tellOne_86 fl_RX2_32 s0_1 rfl rfl ?_
  refine V.iload_n dX2_tellOne_89 rfl ?_
  refine V.iconst dX2_tellOne_90 ic_0 ?_
  obtain ⟨v2, hv1, h⟩ := bnd_s h
  refine V.cVi dX2_tellOne_91 rfl mv_RX2_56 (ok_Tri_part s0_Tri14 hv1) rfl rfl s0_14 rfl (by decide) ⟨Nat.zero_le _, Nat.zero_le _⟩ (Nat.le_of_ble_eq_true rfl) (Nat.zero_le _) ?_
  obtain ⟨v4, M5, hv3, h⟩ := bnd2_s h
  refine V.cVi dX2_tellOne_94 rfl mv_RX2_66 (ok_Hea_peopleHearing s0_Hea79 hv3) rfl rfl s0_79 rfl (by decide) ⟨Nat.zero_le _, Nat.zero_le _⟩ (Nat.le_of_ble_eq_true rfl) (Nat.zero_le _) ?_
  refine V.ior dX2_tellOne_97 ?_
  obtain ⟨hb6, h⟩ := ck_s h
  refine V.iast dX2_tellOne_98 s0_85 rfl (vp_of hb6) (fun M7 hM7 => ?_)
  replace h := setM_at h M7 hM7
  refine V.iconst dX2_tellOne_99 ic_1 ?_
  obtain ⟨e1, e2⟩ := inj2 h
  subst e1
  subst e2
  exact V.iret dX2_tellOne_100 rfl rfl
theorem ok_Gos_tellOne {X : Sc} {l : Launch}  {M : Mem} {x2 : Int32} {r : Int32} {M' : Mem}  (h : f_Gos_tellOne x2 M = some (r, M')) : Mt X l yX2_tellOne cX2_tellOne 6 (some .int) 5 0 0 [.ref 78, .ref 1, .int x2] S0 M (some (.int r)) S0 M' := by
  refine Mt.ofV (by decide) (Nat.le_of_ble_eq_true rfl) ?_
  show V X yX2_tellOne cX2_tellOne 6 (some .int) (rmD 5 0 0) l (FM (some (.int r)) S0 M' 0 0) 0 [some (.ref 78), some (.ref 1), some (.int x2), none, none, none] [] S0 M 0 0
  unfold f_Gos_tellOne at h
  refine V.aload_n dX2_tellOne_0 rfl ?_
  refine V.getR dX2_tellOne_1 fl_RX2_32 s0_1 rfl rfl ?_
  refine V.iload_n dX2_tellOne_4 rfl ?_
  refine V.iconst dX2_tellOne_5 ic_1 ?_
  obtain ⟨v2, hv1, h⟩ := bnd_s h
  refine V.cVi dX2_tellOne_6 rfl mv_RX2_56 (ok_Tri_part s0_Tri14 hv1) rfl rfl s0_14 rfl (by decide) ⟨Nat.zero_le _, Nat.zero_le _⟩ (Nat.le_of_ble_eq_true rfl) (Nat.zero_le _) ?_
  refine V.istore_n dX2_tellOne_9 (by decide) rfl ?_
  refine V.aload_n dX2_tellOne_10 rfl ?_
  refine V.getR dX2_tellOne_11 fl_RX2_32 s0_1 rfl rfl ?_
  refine V.iload_n dX2_tellOne_14 rfl ?_
  refine V.iconst dX2_tellOne_15 ic_2 ?_
  obtain ⟨v4, hv3, h⟩ := bnd_s h
  refine V.cVi dX2_tellOne_16 rfl mv_RX2_56 (ok_Tri_part s0_Tri14 hv3) rfl rfl s0_14 rfl (by decide) ⟨Nat.zero_le _, Nat.zero_le _⟩ (Nat.le_of_ble_eq_true rfl) (Nat.zero_le _) ?_
  refine V.istore dX2_tellOne_19 (by decide) rfl ?_
  refine V.aload_n dX2_tellOne_21 rfl ?_
  refine V.iload dX2_tellOne_22 rfl ?_
  obtain ⟨v6, hv5, h⟩ := bnd_s h
  refine V.cVi dX2_tellOne_24 rfl mv_RX2_44 (ok_Gos_knowersOf hv5) rfl rfl s0_78 rfl (by decide) ⟨Nat.zero_le _, Nat.zero_le _⟩ (Nat.le_of_ble_eq_true rfl) (Nat.zero_le _) ?_
  refine V.istore dX2_tellOne_27 (by decide) rfl ?_
  refine V.iload_n dX2_tellOne_29 rfl ?_
  refine V.iconst dX2_tellOne_30 ic_0 ?_
  refine V.aload_n dX2_tellOne_31 rfl ?_
  refine V.getI dX2_tellOne_32 fl_RX2_59 s0_1 rfl rfl ?_
  refine V.iconst dX2_tellOne_35 ic_1 ?_
  refine V.isub dX2_tellOne_36 ?_
  obtain ⟨v8, hv7, h⟩ := bnd_s h
  refine V.cSNi dX2_tellOne_37 rfl wn_RX2_62 mn_RX2_62 (ok_Hal_within hv7) rfl rfl (by decide) ⟨Nat.zero_le _, Nat.zero_le _⟩ (Nat.le_of_ble_eq_true rfl) (Nat.zero_le _) ?_
  refine V.if_eq (tgt := 65) dX2_tellOne_40 (by decide) (fun hc9 => ?_) (fun hc9 => ?_)
  · replace h := ite_t hc9 h
    refine V.iconst dX2_tellOne_65 ic_0 ?_
    obtain ⟨e1, e2⟩ := inj2 h
    subst e1
    subst e2
    exact V.iret dX2_tellOne_66 rfl rfl
  replace h := ite_f hc9 h
  refine V.iload dX2_tellOne_43 rfl ?_
  obtain ⟨v11, hv10, h⟩ := bnd_s h
  refine V.cSNi dX2_tellOne_45 rfl wn_RX2_48 mn_RX2_48 (ok_Hal_isSecret hv10) rfl rfl (by decide) ⟨Nat.zero_le _, Nat.zero_le _⟩ (Nat.le_of_ble_eq_true rfl) (Nat.zero_le _) ?_
  refine V.if_eq (tgt := 65) dX2_tellOne_48 (by decide) (fun hc12 => ?_) (fun hc12 => ?_)
  · replace h := ite_t hc12 h
    refine V.iconst dX2_tellOne_65 ic_0 ?_
    obtain ⟨e1, e2⟩ := inj2 h
    subst e1
    subst e2
    exact V.iret dX2_tellOne_66 rfl rfl
  replace h := ite_f hc12 h
  refine V.iload dX2_tellOne_51 rfl ?_
  refine V.if_eq (tgt := 67) dX2_tellOne_53 (by decide) (fun hc13 => ?_) (fun hc13 => ?_)
  · replace h := ite_t hc13 h
    exact okc_Gos_tellOne_67 h
  replace h := ite_f hc13 h
  refine V.iload dX2_tellOne_56 rfl ?_
  refine V.iload_n dX2_tellOne_58 rfl ?_
  obtain ⟨v15, hv14, h⟩ := bnd_s h
  refine V.cSNi dX2_tellOne_59 rfl wn_RX2_52 mn_RX2_52 (ok_Hal_bit hv14) rfl rfl (by decide) ⟨Nat.zero_le _, Nat.zero_le _⟩ (Nat.le_of_ble_eq_true rfl) (Nat.zero_le _) ?_
  refine V.if_ne (tgt := 67) dX2_tellOne_62 (by decide) (fun hc16 => ?_) (fun hc16 => ?_)
  · replace h := ite_f hc16 h
    exact okc_Gos_tellOne_67 h
  replace h := ite_t hc16 h
  refine V.iconst dX2_tellOne_65 ic_0 ?_
  obtain ⟨e1, e2⟩ := inj2 h
  subst e1
  subst e2
  exact V.iret dX2_tellOne_66 rfl rfl
theorem okc_Gos_tellFirst_13 {X : Sc} {l : Launch}     : ∀ (n : Nat) (x2 : Int32) (x3 : Int32) (x4 : Int32) (M : Mem) (r : Int32) (M' : Mem), f_Gos_tellFirst_L13  n x2 x3 x4 M = some (r, M') → V X yX2_tellFirst cX2_tellFirst 5 (some .int) (rmD 6 0 0) l (FM (some (.int r)) S0 M' 0 0) 13 [some (.ref 78), some (.ref 1), some (.int x2), some (.int x3), some (.int x4)] [] S0 M 0 0 := by
  intro n
  induction n with
  | zero =>
    intro x2 x3 x4 M r M' h
    rw [f_Gos_tellFirst_L13] at h
    cases h
  | succ n ih =>
    intro x2 x3 x4 M r M' h
    rw [f_Gos_tellFirst_L13] at h
    refine V.iload dX2_tellFirst_13 rfl ?_
    refine V.iload_n dX2_tellFirst_15 rfl ?_
    refine V.icmp_ge (tgt := 35) dX2_tellFirst_16 (by decide) (fun hc1 => ?_) (fun hc1 => ?_)
    · replace h := ite_t hc1 h
      refine V.iload_n dX2_tellFirst_35 rfl ?_
      obtain ⟨e1, e2⟩ := inj2 h
      subst e1
      subst e2
      exact V.iret dX2_tellFirst_36 rfl rfl
    replace h := ite_f hc1 h
    refine V.iload_n dX2_tellFirst_19 rfl ?_
    refine V.aload_n dX2_tellFirst_20 rfl ?_
    refine V.aload_n dX2_tellFirst_21 rfl ?_
    refine V.iload dX2_tellFirst_22 rfl ?_
    obtain ⟨v3, M4, hv2, h⟩ := bnd2_s h
    refine V.cVi dX2_tellFirst_24 rfl mv_RX2_28 (ok_Gos_tellOne hv2) rfl rfl s0_78 rfl (by decide) ⟨Nat.zero_le _, Nat.zero_le _⟩ (Nat.le_of_ble_eq_true rfl) (Nat.zero_le _) ?_
    refine V.iadd dX2_tellFirst_27 ?_
    refine V.nmI (fun w5 hw5 => ?_)
    replace h := nmI_at h w5 hw5
    refine V.istore_n dX2_tellFirst_28 (by decide) rfl ?_
    refine V.iinc dX2_tellFirst_29 rfl (iinc_c ic_1) (by decide) rfl ?_
    refine V.goto (tgt := 13) dX2_tellFirst_32 (by decide) ?_
    exact ih _ _ _ _ _ _ h
theorem ok_Gos_tellFirst {X : Sc} {l : Launch}  {M : Mem} {x2 : Int32} {r : Int32} {M' : Mem}  (h : f_Gos_tellFirst x2 M = some (r, M')) : Mt X l yX2_tellFirst cX2_tellFirst 5 (some .int) 6 0 0 [.ref 78, .ref 1, .int x2] S0 M (some (.int r)) S0 M' := by
  refine Mt.ofV (by decide) (Nat.le_of_ble_eq_true rfl) ?_
  show V X yX2_tellFirst cX2_tellFirst 5 (some .int) (rmD 6 0 0) l (FM (some (.int r)) S0 M' 0 0) 0 [some (.ref 78), some (.ref 1), some (.int x2), none, none] [] S0 M 0 0
  unfold f_Gos_tellFirst at h
  refine V.aload_n dX2_tellFirst_0 rfl ?_
  refine V.getR dX2_tellFirst_1 fl_RX2_18 s0_78 rfl rfl ?_
  refine V.iconst dX2_tellFirst_4 ic_0 ?_
  obtain ⟨M2, hv1, h⟩ := bnd_s h
  refine V.cSv dX2_tellFirst_5 rfl mv_RX2_22 (ok_Arr_fill s0_85 hv1) rfl rfl (by decide) ⟨Nat.zero_le _, Nat.zero_le _⟩ (Nat.le_of_ble_eq_true rfl) (Nat.zero_le _) ?_
  refine V.iconst dX2_tellFirst_8 ic_0 ?_
  refine V.istore_n dX2_tellFirst_9 (by decide) rfl ?_
  refine V.iconst dX2_tellFirst_10 ic_0 ?_
  refine V.istore dX2_tellFirst_11 (by decide) rfl ?_
  exact okc_Gos_tellFirst_13 _ _ _ _ _ _ _ h
theorem okc_Gos_tellAllBut_10 {X : Sc} {l : Launch}     : ∀ (n : Nat) (x2 : Int32) (x3 : Int32) (M : Mem) (M' : Mem), f_Gos_tellAllBut_L10  n x2 x3 M = some M' → V X yX2_tellAllBut cX2_tellAllBut 4 none (rmD 6 0 0) l (FM none S0 M' 0 0) 10 [some (.ref 78), some (.ref 1), some (.int x2), some (.int x3)] [] S0 M 0 0 := by
  intro n
  induction n with
  | zero =>
    intro x2 x3 M M' h
    rw [f_Gos_tellAllBut_L10] at h
    cases h
  | succ n ih =>
    intro x2 x3 M M' h
    rw [f_Gos_tellAllBut_L10] at h
    refine V.iload_n dX2_tellAllBut_10 rfl ?_
    refine V.aload_n dX2_tellAllBut_11 rfl ?_
    refine V.getR dX2_tellAllBut_12 fl_RX2_32 s0_1 rfl rfl ?_
    refine V.getI dX2_tellAllBut_15 fl_RX2_38 s0_14 rfl rfl ?_
    refine V.icmp_ge (tgt := 39) dX2_tellAllBut_18 (by decide) (fun hc1 => ?_) (fun hc1 => ?_)
    · replace h := ite_t hc1 h
      have e1 := inj1 h
      subst e1
      exact V.vret dX2_tellAllBut_39 rfl
    replace h := ite_f hc1 h
    refine V.iload_n dX2_tellAllBut_21 rfl ?_
    refine V.iload_n dX2_tellAllBut_22 rfl ?_
    refine V.icmp_eq (tgt := 33) dX2_tellAllBut_23 (by decide) (fun hc2 => ?_) (fun hc2 => ?_)
    · replace h := ite_t hc2 h
      refine V.iinc dX2_tellAllBut_33 rfl (iinc_c ic_1) (by decide) rfl ?_
      refine V.goto (tgt := 10) dX2_tellAllBut_36 (by decide) ?_
      exact ih _ _ _ _ h
    replace h := ite_f hc2 h
    refine V.aload_n dX2_tellAllBut_26 rfl ?_
    refine V.aload_n dX2_tellAllBut_27 rfl ?_
    refine V.iload_n dX2_tellAllBut_28 rfl ?_
    obtain ⟨v4, M5, hv3, h⟩ := bnd2_s h
    refine V.cVi dX2_tellAllBut_29 rfl mv_RX2_28 (ok_Gos_tellOne hv3) rfl rfl s0_78 rfl (by decide) ⟨Nat.zero_le _, Nat.zero_le _⟩ (Nat.le_of_ble_eq_true rfl) (Nat.zero_le _) ?_
    refine V.pop dX2_tellAllBut_32 rfl ?_
    refine V.iinc dX2_tellAllBut_33 rfl (iinc_c ic_1) (by decide) rfl ?_
    refine V.goto (tgt := 10) dX2_tellAllBut_36 (by decide) ?_
    exact ih _ _ _ _ h
theorem ok_Gos_tellAllBut {X : Sc} {l : Launch}  {M : Mem} {x2 : Int32} {M' : Mem}  (h : f_Gos_tellAllBut x2 M = some M') : Mt X l yX2_tellAllBut cX2_tellAllBut 4 none 6 0 0 [.ref 78, .ref 1, .int x2] S0 M none S0 M' := by
  refine Mt.ofV (by decide) (Nat.le_of_ble_eq_true rfl) ?_
  show V X yX2_tellAllBut cX2_tellAllBut 4 none (rmD 6 0 0) l (FM none S0 M' 0 0) 0 [some (.ref 78), some (.ref 1), some (.int x2), none] [] S0 M 0 0
  unfold f_Gos_tellAllBut at h
  refine V.aload_n dX2_tellAllBut_0 rfl ?_
  refine V.getR dX2_tellAllBut_1 fl_RX2_18 s0_78 rfl rfl ?_
  refine V.iconst dX2_tellAllBut_4 ic_0 ?_
  obtain ⟨M2, hv1, h⟩ := bnd_s h
  refine V.cSv dX2_tellAllBut_5 rfl mv_RX2_22 (ok_Arr_fill s0_85 hv1) rfl rfl (by decide) ⟨Nat.zero_le _, Nat.zero_le _⟩ (Nat.le_of_ble_eq_true rfl) (Nat.zero_le _) ?_
  refine V.iconst dX2_tellAllBut_8 ic_0 ?_
  refine V.istore_n dX2_tellAllBut_9 (by decide) rfl ?_
  exact okc_Gos_tellAllBut_10 _ _ _ _ _ h
theorem okc_Gos_firstKnownOutside_11 {X : Sc} {l : Launch}     : ∀ (n : Nat) (x2 : Int32) (x3 : Int32) (x4 : Int32) (M : Mem) (r : Int32) (M' : Mem), f_Gos_firstKnownOutside_L11  n x2 x3 x4 M = some (r, M') → V X yX2_firstKnownOutside cX2_firstKnownOutside 5 (some .int) (rmD 6 0 0) l (FM (some (.int r)) S0 M' 0 0) 11 [some (.ref 78), some (.ref 1), some (.int x2), some (.int x3), some (.int x4)] [] S0 M 0 0 := by
  intro n
  induction n with
  | zero =>
    intro x2 x3 x4 M r M' h
    rw [f_Gos_firstKnownOutside_L11] at h
    cases h
  | succ n ih =>
    intro x2 x3 x4 M r M' h
    rw [f_Gos_firstKnownOutside_L11] at h
    refine V.iload dX2_firstKnownOutside_11 rfl ?_
    refine V.aload_n dX2_firstKnownOutside_13 rfl ?_
    refine V.getR dX2_firstKnownOutside_14 fl_RX2_32 s0_1 rfl rfl ?_
    refine V.getI dX2_firstKnownOutside_17 fl_RX2_38 s0_14 rfl rfl ?_
    refine V.icmp_ge (tgt := 52) dX2_firstKnownOutside_20 (by decide) (fun hc1 => ?_) (fun hc1 => ?_)
    · replace h := ite_t hc1 h
      refine V.bipush dX2_firstKnownOutside_52 bp_m4 ?_
      obtain ⟨e1, e2⟩ := inj2 h
      subst e1
      subst e2
      exact V.iret dX2_firstKnownOutside_54 rfl rfl
    replace h := ite_f hc1 h
    refine V.aload_n dX2_firstKnownOutside_23 rfl ?_
    refine V.aload_n dX2_firstKnownOutside_24 rfl ?_
    refine V.iload dX2_firstKnownOutside_25 rfl ?_
    obtain ⟨v3, M4, hv2, h⟩ := bnd2_s h
    refine V.cVi dX2_firstKnownOutside_27 rfl mv_RX2_28 (ok_Gos_tellOne hv2) rfl rfl s0_78 rfl (by decide) ⟨Nat.zero_le _, Nat.zero_le _⟩ (Nat.le_of_ble_eq_true rfl) (Nat.zero_le _) ?_
    refine V.pop dX2_firstKnownOutside_30 rfl ?_
    refine V.aload_n dX2_firstKnownOutside_31 rfl ?_
    refine V.iload_n dX2_firstKnownOutside_32 rfl ?_
    obtain ⟨v6, hv5, h⟩ := bnd_s h
    refine V.cVi dX2_firstKnownOutside_33 rfl mv_RX2_44 (ok_Gos_knowersOf hv5) rfl rfl s0_78 rfl (by decide) ⟨Nat.zero_le _, Nat.zero_le _⟩ (Nat.le_of_ble_eq_true rfl) (Nat.zero_le _) ?_
    refine V.iload_n dX2_firstKnownOutside_36 rfl ?_
    refine V.iconst dX2_firstKnownOutside_37 ic_m1 ?_
    refine V.ixor dX2_firstKnownOutside_38 ?_
    refine V.iand dX2_firstKnownOutside_39 ?_
    refine V.if_eq (tgt := 46) dX2_firstKnownOutside_40 (by decide) (fun hc7 => ?_) (fun hc7 => ?_)
    · replace h := ite_t hc7 h
      refine V.iinc dX2_firstKnownOutside_46 rfl (iinc_c ic_1) (by decide) rfl ?_
      refine V.goto (tgt := 11) dX2_firstKnownOutside_49 (by decide) ?_
      exact ih _ _ _ _ _ _ h
    replace h := ite_f hc7 h
    refine V.iload dX2_firstKnownOutside_43 rfl ?_
    obtain ⟨e1, e2⟩ := inj2 h
    subst e1
    subst e2
    exact V.iret dX2_firstKnownOutside_45 rfl rfl
theorem ok_Gos_firstKnownOutside {X : Sc} {l : Launch}  {M : Mem} {x2 : Int32} {x3 : Int32} {r : Int32} {M' : Mem}  (h : f_Gos_firstKnownOutside x2 x3 M = some (r, M')) : Mt X l yX2_firstKnownOutside cX2_firstKnownOutside 5 (some .int) 6 0 0 [.ref 78, .ref 1, .int x2, .int x3] S0 M (some (.int r)) S0 M' := by
  refine Mt.ofV (by decide) (Nat.le_of_ble_eq_true rfl) ?_
  show V X yX2_firstKnownOutside cX2_firstKnownOutside 5 (some .int) (rmD 6 0 0) l (FM (some (.int r)) S0 M' 0 0) 0 [some (.ref 78), some (.ref 1), some (.int x2), some (.int x3), none] [] S0 M 0 0
  unfold f_Gos_firstKnownOutside at h
  refine V.aload_n dX2_firstKnownOutside_0 rfl ?_
  refine V.getR dX2_firstKnownOutside_1 fl_RX2_18 s0_78 rfl rfl ?_
  refine V.iconst dX2_firstKnownOutside_4 ic_0 ?_
  obtain ⟨M2, hv1, h⟩ := bnd_s h
  refine V.cSv dX2_firstKnownOutside_5 rfl mv_RX2_22 (ok_Arr_fill s0_85 hv1) rfl rfl (by decide) ⟨Nat.zero_le _, Nat.zero_le _⟩ (Nat.le_of_ble_eq_true rfl) (Nat.zero_le _) ?_
  refine V.iconst dX2_firstKnownOutside_8 ic_0 ?_
  refine V.istore dX2_firstKnownOutside_9 (by decide) rfl ?_
  exact okc_Gos_firstKnownOutside_11 _ _ _ _ _ _ _ h
theorem okc_Gos_secretsOf_4 {X : Sc} {l : Launch}   {M : Mem}   : ∀ (n : Nat) (x1 : Int32) (x2 : Int32) (x3 : Int32) (r : Int32), f_Gos_secretsOf_L4 M n x1 x2 x3 = some r → V X yX2_secretsOf cX2_secretsOf 4 (some .int) (rmD 3 0 0) l (FM (some (.int r)) S0 M 0 0) 4 [some (.ref 78), some (.int x1), some (.int x2), some (.int x3)] [] S0 M 0 0 := by
  intro n
  induction n with
  | zero =>
    intro x1 x2 x3 r h
    rw [f_Gos_secretsOf_L4] at h
    cases h
  | succ n ih =>
    intro x1 x2 x3 r h
    rw [f_Gos_secretsOf_L4] at h
    refine V.iload_n dX2_secretsOf_4 rfl ?_
    refine V.bipush dX2_secretsOf_5 bp_8 ?_
    refine V.icmp_ge (tgt := 30) dX2_secretsOf_7 (by decide) (fun hc1 => ?_) (fun hc1 => ?_)
    · replace h := ite_t hc1 h
      refine V.iload_n dX2_secretsOf_30 rfl ?_
      have e1 := inj1 h
      subst e1
      exact V.iret dX2_secretsOf_31 rfl rfl
    replace h := ite_f hc1 h
    refine V.iload_n dX2_secretsOf_10 rfl ?_
    refine V.aload_n dX2_secretsOf_11 rfl ?_
    refine V.iload_n dX2_secretsOf_12 rfl ?_
    obtain ⟨v3, hv2, h⟩ := bnd_s h
    refine V.cVi dX2_secretsOf_13 rfl mv_RX2_44 (ok_Gos_knowersOf hv2) rfl rfl s0_78 rfl (by decide) ⟨Nat.zero_le _, Nat.zero_le _⟩ (Nat.le_of_ble_eq_true rfl) (Nat.zero_le _) ?_
    refine V.iload_n dX2_secretsOf_16 rfl ?_
    obtain ⟨v5, hv4, h⟩ := bnd_s h
    refine V.cSNi dX2_secretsOf_17 rfl wn_RX2_52 mn_RX2_52 (ok_Hal_bit hv4) rfl rfl (by decide) ⟨Nat.zero_le _, Nat.zero_le _⟩ (Nat.le_of_ble_eq_true rfl) (Nat.zero_le _) ?_
    refine V.iload_n dX2_secretsOf_20 rfl ?_
    refine V.ishl dX2_secretsOf_21 ?_
    refine V.ior dX2_secretsOf_22 ?_
    refine V.nmI (fun w6 hw6 => ?_)
    replace h := nmI_at h w6 hw6
    refine V.istore_n dX2_secretsOf_23 (by decide) rfl ?_
    refine V.iinc dX2_secretsOf_24 rfl (iinc_c ic_1) (by decide) rfl ?_
    refine V.goto (tgt := 4) dX2_secretsOf_27 (by decide) ?_
    exact ih _ _ _ _ h
theorem ok_Gos_secretsOf {X : Sc} {l : Launch}  {M : Mem} {x1 : Int32} {r : Int32}  (h : f_Gos_secretsOf M x1 = some r) : Mt X l yX2_secretsOf cX2_secretsOf 4 (some .int) 3 0 0 [.ref 78, .int x1] S0 M (some (.int r)) S0 M := by
  refine Mt.ofV (by decide) (Nat.le_of_ble_eq_true rfl) ?_
  show V X yX2_secretsOf cX2_secretsOf 4 (some .int) (rmD 3 0 0) l (FM (some (.int r)) S0 M 0 0) 0 [some (.ref 78), some (.int x1), none, none] [] S0 M 0 0
  unfold f_Gos_secretsOf at h
  refine V.iconst dX2_secretsOf_0 ic_0 ?_
  refine V.istore_n dX2_secretsOf_1 (by decide) rfl ?_
  refine V.iconst dX2_secretsOf_2 ic_0 ?_
  refine V.istore_n dX2_secretsOf_3 (by decide) rfl ?_
  exact okc_Gos_secretsOf_4 _ _ _ _ _ h
theorem ok_Hea_stepOfHearing {X : Sc} {l : Launch} {g : Nat} {M : Mem} {x2 : Int32} {x3 : Int32} {r : Int32} (hg : LHea S0 g) (h : f_Hea_stepOfHearing g M x2 x3 = some r) : Mt X l yX3_stepOfHearing cX3_stepOfHearing 4 (some .int) 2 0 0 [.ref g, .ref 1, .int x2, .int x3] S0 M (some (.int r)) S0 M := by
  refine Mt.ofV (by decide) (Nat.le_of_ble_eq_true rfl) ?_
  show V X yX3_stepOfHearing cX3_stepOfHearing 4 (some .int) (rmD 2 0 0) l (FM (some (.int r)) S0 M 0 0) 0 [some (.ref g), some (.ref 1), some (.int x2), some (.int x3)] [] S0 M 0 0
  unfold f_Hea_stepOfHearing at h
  refine V.aload_n dX3_stepOfHearing_0 rfl ?_
  refine V.getR dX3_stepOfHearing_1 fl_RX3_12 (LHea.f0 hg) rfl rfl ?_
  refine V.aload_n dX3_stepOfHearing_4 rfl ?_
  refine V.getR dX3_stepOfHearing_5 fl_RX3_22 s0_1 rfl rfl ?_
  refine V.iload_n dX3_stepOfHearing_8 rfl ?_
  refine V.iload_n dX3_stepOfHearing_9 rfl ?_
  refine V.aload_n dX3_stepOfHearing_10 rfl ?_
  refine V.getI dX3_stepOfHearing_11 fl_RX3_34 s0_1 rfl rfl ?_
  obtain ⟨v2, hv1, h⟩ := bnd_s h
  refine V.cVi dX3_stepOfHearing_14 rfl mv_RX3_38 (ok_Ben_cellIn s0_Ben4 hv1) rfl rfl s0_4 rfl (by decide) ⟨Nat.zero_le _, Nat.zero_le _⟩ (Nat.le_of_ble_eq_true rfl) (Nat.zero_le _) ?_
  refine V.aload_n dX3_stepOfHearing_17 rfl ?_
  refine V.getR dX3_stepOfHearing_18 fl_RX3_22 s0_1 rfl rfl ?_
  refine V.iload_n dX3_stepOfHearing_21 rfl ?_
  obtain ⟨v4, hv3, h⟩ := bnd_s h
  refine V.cVi dX3_stepOfHearing_22 rfl mv_RX3_50 (ok_Ben_earOf s0_Ben4 hv3) rfl rfl s0_4 rfl (by decide) ⟨Nat.zero_le _, Nat.zero_le _⟩ (Nat.le_of_ble_eq_true rfl) (Nat.zero_le _) ?_
  obtain ⟨v6, hv5, h⟩ := bnd_s h
  refine V.cVi dX3_stepOfHearing_25 rfl mv_RX3_53 (ok_Cou_stepHeardOn (LHea.s1 hg) hv5) rfl rfl (LHea.f1 hg) rfl (by decide) ⟨Nat.zero_le _, Nat.zero_le _⟩ (Nat.le_of_ble_eq_true rfl) (Nat.zero_le _) ?_
  have e1 := inj1 h
  subst e1
  exact V.iret dX3_stepOfHearing_28 rfl rfl
theorem okc_Hea_listenToAll_2 {X : Sc} {l : Launch}  {g : Nat}  (hg : LHea S0 g) : ∀ (n : Nat) (x2 : Int32) (x3 : Int32) (M : Mem) (M' : Mem), f_Hea_listenToAll_L2 g n x2 x3 M = some M' → V X yX3_listenToAll cX3_listenToAll 4 none (rmD 4 0 0) l (FM none S0 M' 0 0) 2 [some (.ref g), some (.ref 1), some (.int x2), some (.int x3)] [] S0 M 0 0 := by
  intro n
  induction n with
  | zero =>
    intro x2 x3 M M' h
    rw [f_Hea_listenToAll_L2] at h
    cases h
  | succ n ih =>
    intro x2 x3 M M' h
    rw [f_Hea_listenToAll_L2] at h
    refine V.iload_n dX3_listenToAll_2 rfl ?_
    refine V.aload_n dX3_listenToAll_3 rfl ?_
    refine V.getR dX3_listenToAll_4 fl_RX3_22 s0_1 rfl rfl ?_
    refine V.getI dX3_listenToAll_7 fl_RX3_56 s0_4 rfl rfl ?_
    refine V.icmp_ge (tgt := 38) dX3_listenToAll_10 (by decide) (fun hc1 => ?_) (fun hc1 => ?_)
    · replace h := ite_t hc1 h
      have e1 := inj1 h
      subst e1
      exact V.vret dX3_listenToAll_38 rfl
    replace h := ite_f hc1 h
    refine V.iload_n dX3_listenToAll_13 rfl ?_
    refine V.bipush dX3_listenToAll_14 bp_8 ?_
    refine V.icmp_ge (tgt := 38) dX3_listenToAll_16 (by decide) (fun hc2 => ?_) (fun hc2 => ?_)
    · replace h := ite_t hc2 h
      have e1 := inj1 h
      subst e1
      exact V.vret dX3_listenToAll_38 rfl
    replace h := ite_f hc2 h
    refine V.aload_n dX3_listenToAll_19 rfl ?_
    refine V.getR dX3_listenToAll_20 fl_RX3_18 (LHea.f0 hg) rfl rfl ?_
    refine V.iload_n dX3_listenToAll_23 rfl ?_
    refine V.aload_n dX3_listenToAll_24 rfl ?_
    refine V.aload_n dX3_listenToAll_25 rfl ?_
    refine V.iload_n dX3_listenToAll_26 rfl ?_
    refine V.iload_n dX3_listenToAll_27 rfl ?_
    obtain ⟨v4, M5, hv3, h⟩ := bnd2_s h
    refine V.cVi dX3_listenToAll_28 rfl mv_RX3_67 (ok_Hea_hearersOf hg hv3) rfl rfl (LHea.f0 hg) rfl (by decide) ⟨Nat.zero_le _, Nat.zero_le _⟩ (Nat.le_of_ble_eq_true rfl) (Nat.zero_le _) ?_
    obtain ⟨hb6, h⟩ := ck_s h
    refine V.iast dX3_listenToAll_31 (LHea.f5 hg) rfl (vp_of hb6) (fun M7 hM7 => ?_)
    replace h := setM_at h M7 hM7
    refine V.iinc dX3_listenToAll_32 rfl (iinc_c ic_1) (by decide) rfl ?_
    refine V.goto (tgt := 2) dX3_listenToAll_35 (by decide) ?_
    exact ih _ _ _ _ h
theorem ok_Hea_listenToAll {X : Sc} {l : Launch} {g : Nat} {M : Mem} {x2 : Int32} {M' : Mem} (hg : LHea S0 g) (h : f_Hea_listenToAll g x2 M = some M') : Mt X l yX3_listenToAll cX3_listenToAll 4 none 4 0 0 [.ref g, .ref 1, .int x2] S0 M none S0 M' := by
  refine Mt.ofV (by decide) (Nat.le_of_ble_eq_true rfl) ?_
  show V X yX3_listenToAll cX3_listenToAll 4 none (rmD 4 0 0) l (FM none S0 M' 0 0) 0 [some (.ref g), some (.ref 1), some (.int x2), none] [] S0 M 0 0
  unfold f_Hea_listenToAll at h
  refine V.iconst dX3_listenToAll_0 ic_0 ?_
  refine V.istore_n dX3_listenToAll_1 (by decide) rfl ?_
  exact okc_Hea_listenToAll_2 hg _ _ _ _ _ h
theorem ok_Hea_isHeardBy {X : Sc} {l : Launch} {g : Nat} {M : Mem} {x1 : Int32} {x2 : Int32} {r : Int32} (hg : LHea S0 g) (h : f_Hea_isHeardBy g M x1 x2 = some r) : Mt X l yX3_isHeardBy cX3_isHeardBy 3 (some .int) 1 0 0 [.ref g, .int x1, .int x2] S0 M (some (.int r)) S0 M := by
  refine Mt.ofV (by decide) (Nat.le_of_ble_eq_true rfl) ?_
  show V X yX3_isHeardBy cX3_isHeardBy 3 (some .int) (rmD 1 0 0) l (FM (some (.int r)) S0 M 0 0) 0 [some (.ref g), some (.int x1), some (.int x2)] [] S0 M 0 0
  unfold f_Hea_isHeardBy at h
  refine V.iload_n dX3_isHeardBy_0 rfl ?_
  refine V.iconst dX3_isHeardBy_1 ic_0 ?_
  refine V.bipush dX3_isHeardBy_2 bp_7 ?_
  obtain ⟨v2, hv1, h⟩ := bnd_s h
  refine V.cSNi dX3_isHeardBy_4 rfl wn_RX3_71 mn_RX3_71 (ok_Hal_within hv1) rfl rfl (by decide) ⟨Nat.zero_le _, Nat.zero_le _⟩ (Nat.le_of_ble_eq_true rfl) (Nat.zero_le _) ?_
  refine V.if_eq (tgt := 33) dX3_isHeardBy_7 (by decide) (fun hc3 => ?_) (fun hc3 => ?_)
  · replace h := ite_t hc3 h
    refine V.iconst dX3_isHeardBy_33 ic_0 ?_
    have e1 := inj1 h
    subst e1
    exact V.iret dX3_isHeardBy_34 rfl rfl
  replace h := ite_f hc3 h
  refine V.iload_n dX3_isHeardBy_10 rfl ?_
  refine V.iconst dX3_isHeardBy_11 ic_0 ?_
  refine V.bipush dX3_isHeardBy_12 bp_7 ?_
  obtain ⟨v5, hv4, h⟩ := bnd_s h
  refine V.cSNi dX3_isHeardBy_14 rfl wn_RX3_71 mn_RX3_71 (ok_Hal_within hv4) rfl rfl (by decide) ⟨Nat.zero_le _, Nat.zero_le _⟩ (Nat.le_of_ble_eq_true rfl) (Nat.zero_le _) ?_
  refine V.if_eq (tgt := 33) dX3_isHeardBy_17 (by decide) (fun hc6 => ?_) (fun hc6 => ?_)
  · replace h := ite_t hc6 h
    refine V.iconst dX3_isHeardBy_33 ic_0 ?_
    have e1 := inj1 h
    subst e1
    exact V.iret dX3_isHeardBy_34 rfl rfl
  replace h := ite_f hc6 h
  refine V.aload_n dX3_isHeardBy_20 rfl ?_
  refine V.getR dX3_isHeardBy_21 fl_RX3_18 (LHea.f0 hg) rfl rfl ?_
  refine V.iload_n dX3_isHeardBy_24 rfl ?_
  obtain ⟨hb7, h⟩ := ck_s h
  refine V.iald dX3_isHeardBy_25 (LHea.f5 hg) rfl (vp_of hb7) ?_
  refine V.iload_n dX3_isHeardBy_26 rfl ?_
  obtain ⟨v9, hv8, h⟩ := bnd_s h
  refine V.cSNi dX3_isHeardBy_27 rfl wn_RX3_75 mn_RX3_75 (ok_Hal_bit hv8) rfl rfl (by decide) ⟨Nat.zero_le _, Nat.zero_le _⟩ (Nat.le_of_ble_eq_true rfl) (Nat.zero_le _) ?_
  refine V.goto (tgt := 34) dX3_isHeardBy_30 (by decide) ?_
  have e1 := inj1 h
  subst e1
  exact V.iret dX3_isHeardBy_34 rfl rfl
theorem okc_Hea_brokenWants_11 {X : Sc} {l : Launch}  {g : Nat}  (hg : LHea S0 g) : ∀ (n : Nat) (x3 : Int32) (x4 : Int32) (M : Mem) (r : Int32) (M' : Mem), f_Hea_brokenWants_L11 g n x3 x4 M = some (r, M') → V X yX3_brokenWants cX3_brokenWants 7 (some .int) (rmD 5 0 0) l (FM (some (.int r)) S0 M' 0 0) 11 [some (.ref g), some (.ref 1), none, some (.int x3), some (.int x4), none, none] [] S0 M 0 0 := by
  intro n
  induction n with
  | zero =>
    intro x3 x4 M r M' h
    rw [f_Hea_brokenWants_L11] at h
    cases h
  | succ n ih =>
    intro x3 x4 M r M' h
    rw [f_Hea_brokenWants_L11] at h
    refine V.iload dX3_brokenWants_11 rfl ?_
    refine V.aload_n dX3_brokenWants_13 rfl ?_
    refine V.getR dX3_brokenWants_14 fl_RX3_82 s0_1 rfl rfl ?_
    refine V.getI dX3_brokenWants_17 fl_RX3_86 s0_10 rfl rfl ?_
    refine V.icmp_ge (tgt := 89) dX3_brokenWants_20 (by decide) (fun hc1 => ?_) (fun hc1 => ?_)
    · replace h := ite_t hc1 h
      refine V.iload_n dX3_brokenWants_89 rfl ?_
      obtain ⟨e1, e2⟩ := inj2 h
      subst e1
      subst e2
      exact V.iret dX3_brokenWants_90 rfl rfl
    replace h := ite_f hc1 h
    refine V.aload_n dX3_brokenWants_23 rfl ?_
    refine V.aload_n dX3_brokenWants_24 rfl ?_
    refine V.getR dX3_brokenWants_25 fl_RX3_82 s0_1 rfl rfl ?_
    refine V.iload dX3_brokenWants_28 rfl ?_
    refine V.iconst dX3_brokenWants_30 ic_0 ?_
    obtain ⟨v3, hv2, h⟩ := bnd_s h
    refine V.cVi dX3_brokenWants_31 rfl mv_RX3_89 (ok_Tri_part s0_Tri10 hv2) rfl rfl s0_10 rfl (by decide) ⟨Nat.zero_le _, Nat.zero_le _⟩ (Nat.le_of_ble_eq_true rfl) (Nat.zero_le _) ?_
    obtain ⟨v5, hv4, h⟩ := bnd_s h
    refine V.cVi dX3_brokenWants_34 rfl mv_RX3_92 (ok_Tol_seatOf s0_Tol1 hv4) rfl rfl s0_1 rfl (by decide) ⟨Nat.zero_le _, Nat.zero_le _⟩ (Nat.le_of_ble_eq_true rfl) (Nat.zero_le _) ?_
    refine V.istore dX3_brokenWants_37 (by decide) rfl ?_
    refine V.aload_n dX3_brokenWants_39 rfl ?_
    refine V.aload_n dX3_brokenWants_40 rfl ?_
    refine V.getR dX3_brokenWants_41 fl_RX3_82 s0_1 rfl rfl ?_
    refine V.iload dX3_brokenWants_44 rfl ?_
    refine V.iconst dX3_brokenWants_46 ic_1 ?_
    obtain ⟨v7, hv6, h⟩ := bnd_s h
    refine V.cVi dX3_brokenWants_47 rfl mv_RX3_89 (ok_Tri_part s0_Tri10 hv6) rfl rfl s0_10 rfl (by decide) ⟨Nat.zero_le _, Nat.zero_le _⟩ (Nat.le_of_ble_eq_true rfl) (Nat.zero_le _) ?_
    obtain ⟨v9, hv8, h⟩ := bnd_s h
    refine V.cVi dX3_brokenWants_50 rfl mv_RX3_92 (ok_Tol_seatOf s0_Tol1 hv8) rfl rfl s0_1 rfl (by decide) ⟨Nat.zero_le _, Nat.zero_le _⟩ (Nat.le_of_ble_eq_true rfl) (Nat.zero_le _) ?_
    refine V.istore dX3_brokenWants_53 (by decide) rfl ?_
    refine V.aload_n dX3_brokenWants_55 rfl ?_
    refine V.iload dX3_brokenWants_56 rfl ?_
    refine V.iload dX3_brokenWants_58 rfl ?_
    obtain ⟨v11, hv10, h⟩ := bnd_s h
    refine V.cVi dX3_brokenWants_60 rfl mv_RX3_95 (ok_Hea_isHeardBy hg hv10) rfl rfl (LHea.f0 hg) rfl (by decide) ⟨Nat.zero_le _, Nat.zero_le _⟩ (Nat.le_of_ble_eq_true rfl) (Nat.zero_le _) ?_
    refine V.aload_n dX3_brokenWants_63 rfl ?_
    refine V.getR dX3_brokenWants_64 fl_RX3_82 s0_1 rfl rfl ?_
    refine V.iload dX3_brokenWants_67 rfl ?_
    refine V.iconst dX3_brokenWants_69 ic_2 ?_
    obtain ⟨v13, hv12, h⟩ := bnd_s h
    refine V.cVi dX3_brokenWants_70 rfl mv_RX3_89 (ok_Tri_part s0_Tri10 hv12) rfl rfl s0_10 rfl (by decide) ⟨Nat.zero_le _, Nat.zero_le _⟩ (Nat.le_of_ble_eq_true rfl) (Nat.zero_le _) ?_
    refine V.icmp_eq (tgt := 83) dX3_brokenWants_73 (by decide) (fun hc14 => ?_) (fun hc14 => ?_)
    · replace h := ite_t hc14 h
      refine V.iinc dX3_brokenWants_83 rfl (iinc_c ic_1) (by decide) rfl ?_
      refine V.goto (tgt := 11) dX3_brokenWants_86 (by decide) ?_
      refine V.mask [true, true, false, true, true, false, false] rfl ?_
      exact ih _ _ _ _ _ h
    replace h := ite_f hc14 h
    refine V.iload_n dX3_brokenWants_76 rfl ?_
    refine V.iconst dX3_brokenWants_77 ic_1 ?_
    refine V.iload dX3_brokenWants_78 rfl ?_
    refine V.ishl dX3_brokenWants_80 ?_
    refine V.ior dX3_brokenWants_81 ?_
    refine V.nmI (fun w15 hw15 => ?_)
    replace h := nmI_at h w15 hw15
    refine V.istore_n dX3_brokenWants_82 (by decide) rfl ?_
    refine V.iinc dX3_brokenWants_83 rfl (iinc_c ic_1) (by decide) rfl ?_
    refine V.goto (tgt := 11) dX3_brokenWants_86 (by decide) ?_
    refine V.mask [true, true, false, true, true, false, false] rfl ?_
    exact ih _ _ _ _ _ h
theorem ok_Hea_brokenWants {X : Sc} {l : Launch} {g : Nat} {M : Mem} {x2 : Int32} {r : Int32} {M' : Mem} (hg : LHea S0 g) (h : f_Hea_brokenWants g x2 M = some (r, M')) : Mt X l yX3_brokenWants cX3_brokenWants 7 (some .int) 5 0 0 [.ref g, .ref 1, .int x2] S0 M (some (.int r)) S0 M' := by
  refine Mt.ofV (by decide) (Nat.le_of_ble_eq_true rfl) ?_
  show V X yX3_brokenWants cX3_brokenWants 7 (some .int) (rmD 5 0 0) l (FM (some (.int r)) S0 M' 0 0) 0 [some (.ref g), some (.ref 1), some (.int x2), none, none, none, none] [] S0 M 0 0
  unfold f_Hea_brokenWants at h
  refine V.aload_n dX3_brokenWants_0 rfl ?_
  refine V.aload_n dX3_brokenWants_1 rfl ?_
  refine V.iload_n dX3_brokenWants_2 rfl ?_
  obtain ⟨M2, hv1, h⟩ := bnd_s h
  refine V.cVv dX3_brokenWants_3 rfl mv_RX3_78 (ok_Hea_listenToAll hg hv1) rfl rfl (LHea.f0 hg) rfl (by decide) ⟨Nat.zero_le _, Nat.zero_le _⟩ (Nat.le_of_ble_eq_true rfl) (Nat.zero_le _) ?_
  refine V.iconst dX3_brokenWants_6 ic_0 ?_
  refine V.istore_n dX3_brokenWants_7 (by decide) rfl ?_
  refine V.iconst dX3_brokenWants_8 ic_0 ?_
  refine V.istore dX3_brokenWants_9 (by decide) rfl ?_
  refine V.mask [true, true, false, true, true, false, false] rfl ?_
  exact okc_Hea_brokenWants_11 hg _ _ _ _ _ _ h
theorem okc_Sea_takeSeating_33 {X : Sc} {l : Launch}      {M : Mem} {M' : Mem} (h : f_Sea_takeSeating_J33  M = some M') : V X yX4_takeSeating cX4_takeSeating 2 none (rmD 1 0 0) l (FM none S0 M' 0 0) 33 [some (.ref 86), none] [] S0 M 0 0 := by
  unfold f_Sea_takeSeating_J33 at h
  refine V.aload_n dX4_takeSeating_33 rfl ?_
  refine V.dup dX4_takeSeating_34 rfl ?_
  refine V.getI dX4_takeSeating_35 fl_RX4_15 s0_86 rfl rfl ?_
  refine V.iconst dX4_takeSeating_38 ic_1 ?_
  refine V.iadd dX4_takeSeating_39 ?_
  refine V.putI dX4_takeSeating_40 fp_RX4_15 s0_86 rfl rfl (fun M1 hM1 => ?_)
  replace h := setM_at h M1 hM1
  have e1 := inj1 h
  subst e1
  exact V.vret dX4_takeSeating_43 rfl
theorem ok_Sea_takeSeating {X : Sc} {l : Launch}  {M : Mem} {x1 : Int32} {M' : Mem}  (h : f_Sea_takeSeating x1 M = some M') : Mt X l yX4_takeSeating cX4_takeSeating 2 none 1 0 0 [.ref 86, .int x1] S0 M none S0 M' := by
  refine Mt.ofV (by decide) (Nat.le_of_ble_eq_true rfl) ?_
  show V X yX4_takeSeating cX4_takeSeating 2 none (rmD 1 0 0) l (FM none S0 M' 0 0) 0 [some (.ref 86), some (.int x1)] [] S0 M 0 0
  unfold f_Sea_takeSeating at h
  refine V.iload_n dX4_takeSeating_0 rfl ?_
  refine V.aload_n dX4_takeSeating_1 rfl ?_
  refine V.getI dX4_takeSeating_2 fl_RX4_9 s0_86 rfl rfl ?_
  refine V.icmp_ge (tgt := 33) dX4_takeSeating_5 (by decide) (fun hc1 => ?_) (fun hc1 => ?_)
  · replace h := ite_t hc1 h
    refine V.mask [true, false] rfl ?_
    exact okc_Sea_takeSeating_33 h
  replace h := ite_f hc1 h
  refine V.aload_n dX4_takeSeating_8 rfl ?_
  refine V.iload_n dX4_takeSeating_9 rfl ?_
  refine V.putI dX4_takeSeating_10 fp_RX4_9 s0_86 rfl rfl (fun M2 hM2 => ?_)
  replace h := setM_at h M2 hM2
  refine V.aload_n dX4_takeSeating_13 rfl ?_
  refine V.iconst dX4_takeSeating_14 ic_0 ?_
  refine V.putI dX4_takeSeating_15 fp_RX4_15 s0_86 rfl rfl (fun M3 hM3 => ?_)
  replace h := setM_at h M3 hM3
  refine V.aload_n dX4_takeSeating_18 rfl ?_
  refine V.getR dX4_takeSeating_19 fl_RX4_29 s0_86 rfl rfl ?_
  refine V.iconst dX4_takeSeating_22 ic_0 ?_
  refine V.aload_n dX4_takeSeating_23 rfl ?_
  refine V.getR dX4_takeSeating_24 fl_RX4_25 s0_86 rfl rfl ?_
  refine V.iconst dX4_takeSeating_27 ic_0 ?_
  refine V.bipush dX4_takeSeating_28 bp_6 ?_
  refine V.copyi dX4_takeSeating_30 rfl wm_RX4_70 w_acn w_acs w_aci s0_94 s0_93 rfl rfl (by decide) (by decide) (by decide) (by decide) (by decide) (by decide) (Nat.le_of_ble_eq_true rfl) (fun M4 hM4 => ?_)
  replace h := cpyM_at h M4 hM4
  refine V.mask [true, false] rfl ?_
  exact okc_Sea_takeSeating_33 h
theorem ok_Sea_benchTried {X : Sc} {l : Launch}  {M : Mem} {x1 : Int32} {r : Int32}  (h : f_Sea_benchTried M x1 = some r) : Mt X l yX4_benchTried cX4_benchTried 2 (some .int) 1 0 0 [.ref 86, .int x1] S0 M (some (.int r)) S0 M := by
  refine Mt.ofV (by decide) (Nat.le_of_ble_eq_true rfl) ?_
  show V X yX4_benchTried cX4_benchTried 2 (some .int) (rmD 1 0 0) l (FM (some (.int r)) S0 M 0 0) 0 [some (.ref 86), some (.int x1)] [] S0 M 0 0
  unfold f_Sea_benchTried at h
  refine V.iload_n dX4_benchTried_0 rfl ?_
  refine V.iconst dX4_benchTried_1 ic_0 ?_
  refine V.iconst dX4_benchTried_2 ic_5 ?_
  obtain ⟨v2, hv1, h⟩ := bnd_s h
  refine V.cSNi dX4_benchTried_3 rfl wn_RX4_40 mn_RX4_40 (ok_Hal_within hv1) rfl rfl (by decide) ⟨Nat.zero_le _, Nat.zero_le _⟩ (Nat.le_of_ble_eq_true rfl) (Nat.zero_le _) ?_
  refine V.if_eq (tgt := 18) dX4_benchTried_6 (by decide) (fun hc3 => ?_) (fun hc3 => ?_)
  · replace h := ite_t hc3 h
    refine V.bipush dX4_benchTried_18 bp_m4 ?_
    have e1 := inj1 h
    subst e1
    exact V.iret dX4_benchTried_20 rfl rfl
  replace h := ite_f hc3 h
  refine V.aload_n dX4_benchTried_9 rfl ?_
  refine V.getR dX4_benchTried_10 fl_RX4_29 s0_86 rfl rfl ?_
  refine V.iload_n dX4_benchTried_13 rfl ?_
  obtain ⟨hb4, h⟩ := ck_s h
  refine V.iald dX4_benchTried_14 s0_94 rfl (vp_of hb4) ?_
  refine V.goto (tgt := 20) dX4_benchTried_15 (by decide) ?_
  have e1 := inj1 h
  subst e1
  exact V.iret dX4_benchTried_20 rfl rfl
theorem okc_Sea_brokenBy_5 {X : Sc} {l : Launch}   {M : Mem}   : ∀ (n : Nat) (x2 : Int32) (x3 : Int32) (x4 : Int32) (r : Int32), f_Sea_brokenBy_L5 M n x2 x3 x4 = some r → V X yX4_brokenBy cX4_brokenBy 7 (some .int) (rmD 2 0 0) l (FM (some (.int r)) S0 M 0 0) 5 [some (.ref 86), some (.ref 1), some (.int x2), some (.int x3), some (.int x4), none, none] [] S0 M 0 0 := by
  intro n
  induction n with
  | zero =>
    intro x2 x3 x4 r h
    rw [f_Sea_brokenBy_L5] at h
    cases h
  | succ n ih =>
    intro x2 x3 x4 r h
    rw [f_Sea_brokenBy_L5] at h
    refine V.iload dX4_brokenBy_5 rfl ?_
    refine V.aload_n dX4_brokenBy_7 rfl ?_
    refine V.getR dX4_brokenBy_8 fl_RX4_76 s0_1 rfl rfl ?_
    refine V.getI dX4_brokenBy_11 fl_RX4_80 s0_10 rfl rfl ?_
    refine V.icmp_ge (tgt := 93) dX4_brokenBy_14 (by decide) (fun hc1 => ?_) (fun hc1 => ?_)
    · replace h := ite_t hc1 h
      refine V.iload_n dX4_brokenBy_93 rfl ?_
      have e1 := inj1 h
      subst e1
      exact V.iret dX4_brokenBy_94 rfl rfl
    replace h := ite_f hc1 h
    refine V.aload_n dX4_brokenBy_17 rfl ?_
    refine V.getR dX4_brokenBy_18 fl_RX4_76 s0_1 rfl rfl ?_
    refine V.iload dX4_brokenBy_21 rfl ?_
    refine V.iconst dX4_brokenBy_23 ic_0 ?_
    obtain ⟨v3, hv2, h⟩ := bnd_s h
    refine V.cVi dX4_brokenBy_24 rfl mv_RX4_83 (ok_Tri_part s0_Tri10 hv2) rfl rfl s0_10 rfl (by decide) ⟨Nat.zero_le _, Nat.zero_le _⟩ (Nat.le_of_ble_eq_true rfl) (Nat.zero_le _) ?_
    refine V.istore dX4_brokenBy_27 (by decide) rfl ?_
    refine V.aload_n dX4_brokenBy_29 rfl ?_
    refine V.getR dX4_brokenBy_30 fl_RX4_76 s0_1 rfl rfl ?_
    refine V.iload dX4_brokenBy_33 rfl ?_
    refine V.iconst dX4_brokenBy_35 ic_1 ?_
    obtain ⟨v5, hv4, h⟩ := bnd_s h
    refine V.cVi dX4_brokenBy_36 rfl mv_RX4_83 (ok_Tri_part s0_Tri10 hv4) rfl rfl s0_10 rfl (by decide) ⟨Nat.zero_le _, Nat.zero_le _⟩ (Nat.le_of_ble_eq_true rfl) (Nat.zero_le _) ?_
    refine V.istore dX4_brokenBy_39 (by decide) rfl ?_
    refine V.iload dX4_brokenBy_41 rfl ?_
    refine V.iload dX4_brokenBy_43 rfl ?_
    refine V.mmax dX4_brokenBy_45 rfl mv_RX4_86 (by decide) (Nat.le_of_ble_eq_true rfl) ?_
    refine V.iload_n dX4_brokenBy_48 rfl ?_
    refine V.icmp_ne (tgt := 87) dX4_brokenBy_49 (by decide) (fun hc6 => ?_) (fun hc6 => ?_)
    · replace h := ite_f hc6 h
      refine V.iinc dX4_brokenBy_87 rfl (iinc_c ic_1) (by decide) rfl ?_
      refine V.goto (tgt := 5) dX4_brokenBy_90 (by decide) ?_
      refine V.mask [true, true, true, true, true, false, false] rfl ?_
      exact ih _ _ _ _ h
    replace h := ite_t hc6 h
    refine V.aload_n dX4_brokenBy_52 rfl ?_
    refine V.getR dX4_brokenBy_53 fl_RX4_21 s0_86 rfl rfl ?_
    refine V.aload_n dX4_brokenBy_56 rfl ?_
    refine V.iload dX4_brokenBy_57 rfl ?_
    obtain ⟨v8, hv7, h⟩ := bnd_s h
    refine V.cVi dX4_brokenBy_59 rfl mv_RX4_91 (ok_Sea_benchTried hv7) rfl rfl s0_86 rfl (by decide) ⟨Nat.zero_le _, Nat.zero_le _⟩ (Nat.le_of_ble_eq_true rfl) (Nat.zero_le _) ?_
    refine V.aload_n dX4_brokenBy_62 rfl ?_
    refine V.iload dX4_brokenBy_63 rfl ?_
    obtain ⟨v10, hv9, h⟩ := bnd_s h
    refine V.cVi dX4_brokenBy_65 rfl mv_RX4_91 (ok_Sea_benchTried hv9) rfl rfl s0_86 rfl (by decide) ⟨Nat.zero_le _, Nat.zero_le _⟩ (Nat.le_of_ble_eq_true rfl) (Nat.zero_le _) ?_
    obtain ⟨v12, hv11, h⟩ := bnd_s h
    refine V.cVi dX4_brokenBy_68 rfl mv_RX4_95 (ok_Hea_isHeardBy s0_Hea87 hv11) rfl rfl s0_87 rfl (by decide) ⟨Nat.zero_le _, Nat.zero_le _⟩ (Nat.le_of_ble_eq_true rfl) (Nat.zero_le _) ?_
    refine V.aload_n dX4_brokenBy_71 rfl ?_
    refine V.getR dX4_brokenBy_72 fl_RX4_76 s0_1 rfl rfl ?_
    refine V.iload dX4_brokenBy_75 rfl ?_
    refine V.iconst dX4_brokenBy_77 ic_2 ?_
    obtain ⟨v14, hv13, h⟩ := bnd_s h
    refine V.cVi dX4_brokenBy_78 rfl mv_RX4_83 (ok_Tri_part s0_Tri10 hv13) rfl rfl s0_10 rfl (by decide) ⟨Nat.zero_le _, Nat.zero_le _⟩ (Nat.le_of_ble_eq_true rfl) (Nat.zero_le _) ?_
    refine V.icmp_eq (tgt := 87) dX4_brokenBy_81 (by decide) (fun hc15 => ?_) (fun hc15 => ?_)
    · replace h := ite_t hc15 h
      refine V.iinc dX4_brokenBy_87 rfl (iinc_c ic_1) (by decide) rfl ?_
      refine V.goto (tgt := 5) dX4_brokenBy_90 (by decide) ?_
      refine V.mask [true, true, true, true, true, false, false] rfl ?_
      exact ih _ _ _ _ h
    replace h := ite_f hc15 h
    refine V.iinc dX4_brokenBy_84 rfl (iinc_c ic_1) (by decide) rfl ?_
    refine V.iinc dX4_brokenBy_87 rfl (iinc_c ic_1) (by decide) rfl ?_
    refine V.goto (tgt := 5) dX4_brokenBy_90 (by decide) ?_
    refine V.mask [true, true, true, true, true, false, false] rfl ?_
    exact ih _ _ _ _ h
theorem ok_Sea_brokenBy {X : Sc} {l : Launch}  {M : Mem} {x2 : Int32} {r : Int32}  (h : f_Sea_brokenBy M x2 = some r) : Mt X l yX4_brokenBy cX4_brokenBy 7 (some .int) 2 0 0 [.ref 86, .ref 1, .int x2] S0 M (some (.int r)) S0 M := by
  refine Mt.ofV (by decide) (Nat.le_of_ble_eq_true rfl) ?_
  show V X yX4_brokenBy cX4_brokenBy 7 (some .int) (rmD 2 0 0) l (FM (some (.int r)) S0 M 0 0) 0 [some (.ref 86), some (.ref 1), some (.int x2), none, none, none, none] [] S0 M 0 0
  unfold f_Sea_brokenBy at h
  refine V.iconst dX4_brokenBy_0 ic_0 ?_
  refine V.istore_n dX4_brokenBy_1 (by decide) rfl ?_
  refine V.iconst dX4_brokenBy_2 ic_0 ?_
  refine V.istore dX4_brokenBy_3 (by decide) rfl ?_
  exact okc_Sea_brokenBy_5 _ _ _ _ _ h
theorem okc_Sea_seatNext_38 {X : Sc} {l : Launch} {kr : Int32 → Int32 → Int32 → Mem → Option Mem} {d : Nat} (hkr : ∀ (x2 x3 x4 : Int32) (M M' : Mem), kr x2 x3 x4 M = some M' → Mt X l yX4_seatNext cX4_seatNext 6 none (3 + d) 0 0 [.ref 86, .ref 1, .int x2, .int x3, .int x4] S0 M none S0 M')     : ∀ (n : Nat) (x2 : Int32) (x3 : Int32) (x4 : Int32) (x5 : Int32) (M : Mem) (M' : Mem), f_Sea_seatNext_L38 kr n x2 x3 x4 x5 M = some M' → V X yX4_seatNext cX4_seatNext 6 none (rmD (3 + (d + 1)) 0 0) l (FM none S0 M' 0 0) 38 [some (.ref 86), some (.ref 1), some (.int x2), some (.int x3), some (.int x4), some (.int x5)] [] S0 M 0 0 := by
  intro n
  induction n with
  | zero =>
    intro x2 x3 x4 x5 M M' h
    rw [f_Sea_seatNext_L38] at h
    cases h
  | succ n ih =>
    intro x2 x3 x4 x5 M M' h
    rw [f_Sea_seatNext_L38] at h
    refine V.iload dX4_seatNext_38 rfl ?_
    refine V.aload_n dX4_seatNext_40 rfl ?_
    refine V.getR dX4_seatNext_41 fl_RX4_53 s0_1 rfl rfl ?_
    refine V.getI dX4_seatNext_44 fl_RX4_57 s0_4 rfl rfl ?_
    refine V.icmp_ge (tgt := 96) dX4_seatNext_47 (by decide) (fun hc1 => ?_) (fun hc1 => ?_)
    · replace h := ite_t hc1 h
      have e1 := inj1 h
      subst e1
      exact V.vret dX4_seatNext_96 rfl
    replace h := ite_f hc1 h
    refine V.iload_n dX4_seatNext_50 rfl ?_
    refine V.iload dX4_seatNext_51 rfl ?_
    obtain ⟨v3, hv2, h⟩ := bnd_s h
    refine V.cSNi dX4_seatNext_53 rfl wn_RX4_62 mn_RX4_62 (ok_Hal_bit hv2) rfl rfl (rec_R (by decide)) ⟨Nat.zero_le _, Nat.zero_le _⟩ (Nat.le_of_ble_eq_true rfl) (Nat.zero_le _) ?_
    refine V.if_ne (tgt := 90) dX4_seatNext_56 (by decide) (fun hc4 => ?_) (fun hc4 => ?_)
    · replace h := ite_f hc4 h
      refine V.iinc dX4_seatNext_90 rfl (iinc_c ic_1) (by decide) rfl ?_
      refine V.goto (tgt := 38) dX4_seatNext_93 (by decide) ?_
      exact ih _ _ _ _ _ _ h
    replace h := ite_t hc4 h
    refine V.aload_n dX4_seatNext_59 rfl ?_
    refine V.getR dX4_seatNext_60 fl_RX4_29 s0_86 rfl rfl ?_
    refine V.iload_n dX4_seatNext_63 rfl ?_
    refine V.iload dX4_seatNext_64 rfl ?_
    obtain ⟨hb5, h⟩ := ck_s h
    refine V.iast dX4_seatNext_66 s0_94 rfl (vp_of hb5) (fun M6 hM6 => ?_)
    replace h := setM_at h M6 hM6
    refine V.aload_n dX4_seatNext_67 rfl ?_
    refine V.aload_n dX4_seatNext_68 rfl ?_
    refine V.iload_n dX4_seatNext_69 rfl ?_
    refine V.iconst dX4_seatNext_70 ic_1 ?_
    refine V.iadd dX4_seatNext_71 ?_
    refine V.iload_n dX4_seatNext_72 rfl ?_
    refine V.iconst dX4_seatNext_73 ic_1 ?_
    refine V.iload dX4_seatNext_74 rfl ?_
    refine V.ishl dX4_seatNext_76 ?_
    refine V.ior dX4_seatNext_77 ?_
    refine V.iload dX4_seatNext_78 rfl ?_
    refine V.aload_n dX4_seatNext_80 rfl ?_
    refine V.aload_n dX4_seatNext_81 rfl ?_
    refine V.iload_n dX4_seatNext_82 rfl ?_
    obtain ⟨v8, hv7, h⟩ := bnd_s h
    refine V.cVi dX4_seatNext_83 rfl mv_RX4_66 (ok_Sea_brokenBy hv7) rfl rfl s0_86 rfl (rec_R (by decide)) ⟨Nat.zero_le _, Nat.zero_le _⟩ (Nat.le_of_ble_eq_true rfl) (Nat.zero_le _) ?_
    refine V.iadd dX4_seatNext_86 ?_
    obtain ⟨M10, hv9, h⟩ := bnd_s h
    refine V.cSv dX4_seatNext_87 rfl mv_RX4_36 (hkr _ _ _ _ _ hv9) rfl rfl (rec_S (by decide)) ⟨Nat.zero_le _, Nat.zero_le _⟩ (Nat.le_of_ble_eq_true rfl) (Nat.zero_le _) ?_
    refine V.iinc dX4_seatNext_90 rfl (iinc_c ic_1) (by decide) rfl ?_
    refine V.goto (tgt := 38) dX4_seatNext_93 (by decide) ?_
    exact ih _ _ _ _ _ _ h
theorem okc_Sea_seatNext_28 {X : Sc} {l : Launch} {kr : Int32 → Int32 → Int32 → Mem → Option Mem} {d : Nat} (hkr : ∀ (x2 x3 x4 : Int32) (M M' : Mem), kr x2 x3 x4 M = some M' → Mt X l yX4_seatNext cX4_seatNext 6 none (3 + d) 0 0 [.ref 86, .ref 1, .int x2, .int x3, .int x4] S0 M none S0 M')     {x4 : Int32} {M : Mem} {M' : Mem} (h : f_Sea_seatNext_J28 kr x4 M = some M') : V X yX4_seatNext cX4_seatNext 6 none (rmD (3 + (d + 1)) 0 0) l (FM none S0 M' 0 0) 28 [some (.ref 86), none, none, none, some (.int x4), none] [] S0 M 0 0 := by
  unfold f_Sea_seatNext_J28 at h
  refine V.aload_n dX4_seatNext_28 rfl ?_
  refine V.iload dX4_seatNext_29 rfl ?_
  obtain ⟨M2, hv1, h⟩ := bnd_s h
  refine V.cVv dX4_seatNext_31 rfl mv_RX4_49 (ok_Sea_takeSeating hv1) rfl rfl s0_86 rfl (rec_R (by decide)) ⟨Nat.zero_le _, Nat.zero_le _⟩ (Nat.le_of_ble_eq_true rfl) (Nat.zero_le _) ?_
  have e1 := inj1 h
  subst e1
  exact V.vret dX4_seatNext_34 rfl
theorem okr_Sea_seatNext {X : Sc} {l : Launch} : ∀ (d : Nat) (x2 : Int32) (x3 : Int32) (x4 : Int32) (M M' : Mem), f_Sea_seatNext d x2 x3 x4 M = some M' → Mt X l yX4_seatNext cX4_seatNext 6 none (3 + d) 0 0 [.ref 86, .ref 1, .int x2, .int x3, .int x4] S0 M none S0 M' := by
  intro d
  induction d with
  | zero =>
    intro x2 x3 x4 M M' h
    rw [f_Sea_seatNext] at h
    cases h
  | succ d ih =>
    intro x2 x3 x4 M M' h
    rw [f_Sea_seatNext] at h
    refine Mt.ofV (by decide) (Nat.le_of_ble_eq_true rfl) ?_
    show V X yX4_seatNext cX4_seatNext 6 none (rmD (3 + (d + 1)) 0 0) l (FM none S0 M' 0 0) 0 [some (.ref 86), some (.ref 1), some (.int x2), some (.int x3), some (.int x4), none] [] S0 M 0 0
    refine V.iload dX4_seatNext_0 rfl ?_
    refine V.aload_n dX4_seatNext_2 rfl ?_
    refine V.getI dX4_seatNext_3 fl_RX4_9 s0_86 rfl rfl ?_
    refine V.icmp_le (tgt := 10) dX4_seatNext_6 (by decide) (fun hc1 => ?_) (fun hc1 => ?_)
    · replace h := ite_t hc1 h
      refine V.iload_n dX4_seatNext_10 rfl ?_
      refine V.if_lt (tgt := 28) dX4_seatNext_11 (by decide) (fun hc2 => ?_) (fun hc2 => ?_)
      · replace h := ite_t hc2 h
        refine V.mask [true, false, false, false, true, false] rfl ?_
        exact okc_Sea_seatNext_28 ih h
      replace h := ite_f hc2 h
      refine V.iload_n dX4_seatNext_14 rfl ?_
      refine V.aload_n dX4_seatNext_15 rfl ?_
      refine V.getI dX4_seatNext_16 fl_RX4_44 s0_1 rfl rfl ?_
      refine V.icmp_ge (tgt := 28) dX4_seatNext_19 (by decide) (fun hc3 => ?_) (fun hc3 => ?_)
      · replace h := ite_t hc3 h
        refine V.mask [true, false, false, false, true, false] rfl ?_
        exact okc_Sea_seatNext_28 ih h
      replace h := ite_f hc3 h
      refine V.iload_n dX4_seatNext_22 rfl ?_
      refine V.bipush dX4_seatNext_23 bp_6 ?_
      refine V.icmp_lt (tgt := 35) dX4_seatNext_25 (by decide) (fun hc4 => ?_) (fun hc4 => ?_)
      · replace h := ite_t hc4 h
        refine V.iconst dX4_seatNext_35 ic_0 ?_
        refine V.istore dX4_seatNext_36 (by decide) rfl ?_
        exact okc_Sea_seatNext_38 ih _ _ _ _ _ _ _ h
      replace h := ite_f hc4 h
      refine V.mask [true, false, false, false, true, false] rfl ?_
      exact okc_Sea_seatNext_28 ih h
    replace h := ite_f hc1 h
    have e1 := inj1 h
    subst e1
    exact V.vret dX4_seatNext_9 rfl
theorem ok_Sea_seatNext {X : Sc} {l : Launch} {x2 : Int32} {x3 : Int32} {x4 : Int32} {M M' : Mem} (h : f_Sea_seatNext 12 x2 x3 x4 M = some M') : Mt X l yX4_seatNext cX4_seatNext 6 none 15 0 0 [.ref 86, .ref 1, .int x2, .int x3, .int x4] S0 M none S0 M' := okr_Sea_seatNext 12 _ _ _ _ _ h
theorem ok_Sea_search {X : Sc} {l : Launch}  {M : Mem} {x2 : Int32} {M' : Mem}  (h : f_Sea_search x2 M = some M') : Mt X l yX4_search cX4_search 3 none 16 0 0 [.ref 86, .ref 1, .int x2] S0 M none S0 M' := by
  refine Mt.ofV (by decide) (Nat.le_of_ble_eq_true rfl) ?_
  show V X yX4_search cX4_search 3 none (rmD 16 0 0) l (FM none S0 M' 0 0) 0 [some (.ref 86), some (.ref 1), some (.int x2)] [] S0 M 0 0
  unfold f_Sea_search at h
  refine V.aload_n dX4_search_0 rfl ?_
  refine V.getR dX4_search_1 fl_RX4_21 s0_86 rfl rfl ?_
  refine V.aload_n dX4_search_4 rfl ?_
  refine V.iload_n dX4_search_5 rfl ?_
  obtain ⟨M2, hv1, h⟩ := bnd_s h
  refine V.cVv dX4_search_6 rfl mv_RX4_32 (ok_Hea_listenToAll s0_Hea87 hv1) rfl rfl s0_87 rfl (by decide) ⟨Nat.zero_le _, Nat.zero_le _⟩ (Nat.le_of_ble_eq_true rfl) (Nat.zero_le _) ?_
  refine V.aload_n dX4_search_9 rfl ?_
  refine V.bipush dX4_search_10 bp_9 ?_
  refine V.putI dX4_search_12 fp_RX4_9 s0_86 rfl rfl (fun M3 hM3 => ?_)
  replace h := setM_at h M3 hM3
  refine V.aload_n dX4_search_15 rfl ?_
  refine V.iconst dX4_search_16 ic_0 ?_
  refine V.putI dX4_search_17 fp_RX4_15 s0_86 rfl rfl (fun M4 hM4 => ?_)
  replace h := setM_at h M4 hM4
  refine V.aload_n dX4_search_20 rfl ?_
  refine V.aload_n dX4_search_21 rfl ?_
  refine V.iconst dX4_search_22 ic_0 ?_
  refine V.iconst dX4_search_23 ic_0 ?_
  refine V.iconst dX4_search_24 ic_0 ?_
  obtain ⟨M6, hv5, h⟩ := bnd_s h
  refine V.cSv dX4_search_25 rfl mv_RX4_36 (ok_Sea_seatNext hv5) rfl rfl (by decide) ⟨Nat.zero_le _, Nat.zero_le _⟩ (Nat.le_of_ble_eq_true rfl) (Nat.zero_le _) ?_
  have e1 := inj1 h
  subst e1
  exact V.vret dX4_search_28 rfl
theorem ok_Sea_benchInFirst {X : Sc} {l : Launch}  {M : Mem} {x1 : Int32} {r : Int32}  (h : f_Sea_benchInFirst M x1 = some r) : Mt X l yX4_benchInFirst cX4_benchInFirst 2 (some .int) 1 0 0 [.ref 86, .int x1] S0 M (some (.int r)) S0 M := by
  refine Mt.ofV (by decide) (Nat.le_of_ble_eq_true rfl) ?_
  show V X yX4_benchInFirst cX4_benchInFirst 2 (some .int) (rmD 1 0 0) l (FM (some (.int r)) S0 M 0 0) 0 [some (.ref 86), some (.int x1)] [] S0 M 0 0
  unfold f_Sea_benchInFirst at h
  refine V.iload_n dX4_benchInFirst_0 rfl ?_
  refine V.iconst dX4_benchInFirst_1 ic_0 ?_
  refine V.iconst dX4_benchInFirst_2 ic_5 ?_
  obtain ⟨v2, hv1, h⟩ := bnd_s h
  refine V.cSNi dX4_benchInFirst_3 rfl wn_RX4_40 mn_RX4_40 (ok_Hal_within hv1) rfl rfl (by decide) ⟨Nat.zero_le _, Nat.zero_le _⟩ (Nat.le_of_ble_eq_true rfl) (Nat.zero_le _) ?_
  refine V.if_eq (tgt := 18) dX4_benchInFirst_6 (by decide) (fun hc3 => ?_) (fun hc3 => ?_)
  · replace h := ite_t hc3 h
    refine V.bipush dX4_benchInFirst_18 bp_m4 ?_
    have e1 := inj1 h
    subst e1
    exact V.iret dX4_benchInFirst_20 rfl rfl
  replace h := ite_f hc3 h
  refine V.aload_n dX4_benchInFirst_9 rfl ?_
  refine V.getR dX4_benchInFirst_10 fl_RX4_25 s0_86 rfl rfl ?_
  refine V.iload_n dX4_benchInFirst_13 rfl ?_
  obtain ⟨hb4, h⟩ := ck_s h
  refine V.iald dX4_benchInFirst_14 s0_93 rfl (vp_of hb4) ?_
  refine V.goto (tgt := 20) dX4_benchInFirst_15 (by decide) ?_
  have e1 := inj1 h
  subst e1
  exact V.iret dX4_benchInFirst_20 rfl rfl
theorem ok_She_isSheet {X : Sc} {l : Launch} {sh : List Shp}  {M : Mem} {x0 : Int32} {r : Int32}  (h : f_She_isSheet x0 = some r) : Mt X l yX5_isSheet cX5_isSheet 1 (some .boolean) 1 0 0 [.int x0] sh M (some (.int r)) sh M := by
  refine Mt.ofV (by decide) (Nat.le_of_ble_eq_true rfl) ?_
  show V X yX5_isSheet cX5_isSheet 1 (some .boolean) (rmD 1 0 0) l (FM (some (.int r)) sh M 0 0) 0 [some (.int x0)] [] sh M 0 0
  unfold f_She_isSheet at h
  refine V.iload_n dX5_isSheet_0 rfl ?_
  refine V.iconst dX5_isSheet_1 ic_0 ?_
  refine V.iconst dX5_isSheet_2 ic_3 ?_
  obtain ⟨v2, hv1, h⟩ := bnd_s h
  refine V.cSNi dX5_isSheet_3 rfl wn_RX5_29 mn_RX5_29 (ok_Hal_within hv1) rfl rfl (by decide) ⟨Nat.zero_le _, Nat.zero_le _⟩ (Nat.le_of_ble_eq_true rfl) (Nat.zero_le _) ?_
  obtain ⟨hB3, h⟩ := ck_s h
  have e1 := inj1 h
  subst e1
  exact V.iret dX5_isSheet_6 rfl (isB_n hB3)
theorem ok_She_renew {X : Sc} {l : Launch}  {M : Mem} {x1 : Int32} {x2 : Int32} {x3 : Int32} {M' : Mem}  (h : f_She_renew x1 x2 x3 M = some M') : Mt X l yX5_renew cX5_renew 4 none 2 0 0 [.ref 95, .int x1, .int x2, .int x3] S0 M none S0 M' := by
  refine Mt.ofV (by decide) (Nat.le_of_ble_eq_true rfl) ?_
  show V X yX5_renew cX5_renew 4 none (rmD 2 0 0) l (FM none S0 M' 0 0) 0 [some (.ref 95), some (.int x1), some (.int x2), some (.int x3)] [] S0 M 0 0
  unfold f_She_renew at h
  refine V.iload_n dX5_renew_0 rfl ?_
  obtain ⟨v2, hv1, h⟩ := bnd_s h
  refine V.cSi dX5_renew_1 rfl mv_RX5_33 (ok_She_isSheet hv1) rfl rfl (by decide) ⟨Nat.zero_le _, Nat.zero_le _⟩ (Nat.le_of_ble_eq_true rfl) (Nat.zero_le _) ?_
  refine V.if_eq (tgt := 41) dX5_renew_4 (by decide) (fun hc3 => ?_) (fun hc3 => ?_)
  · replace h := ite_t hc3 h
    have e1 := inj1 h
    subst e1
    exact V.vret dX5_renew_41 rfl
  replace h := ite_f hc3 h
  refine V.iload_n dX5_renew_7 rfl ?_
  refine V.iconst dX5_renew_8 ic_0 ?_
  refine V.bipush dX5_renew_9 bp_40 ?_
  obtain ⟨v5, hv4, h⟩ := bnd_s h
  refine V.cSNi dX5_renew_11 rfl wn_RX5_29 mn_RX5_29 (ok_Hal_within hv4) rfl rfl (by decide) ⟨Nat.zero_le _, Nat.zero_le _⟩ (Nat.le_of_ble_eq_true rfl) (Nat.zero_le _) ?_
  refine V.if_eq (tgt := 41) dX5_renew_14 (by decide) (fun hc6 => ?_) (fun hc6 => ?_)
  · replace h := ite_t hc6 h
    have e1 := inj1 h
    subst e1
    exact V.vret dX5_renew_41 rfl
  replace h := ite_f hc6 h
  refine V.aload_n dX5_renew_17 rfl ?_
  refine V.getR dX5_renew_18 fl_RX5_11 s0_95 rfl rfl ?_
  refine V.iload_n dX5_renew_21 rfl ?_
  obtain ⟨hb7, h⟩ := ck_s h
  refine V.aald dX5_renew_22 s0_96 rfl (vp_of hb7) (s0_rowR (inb_lt hb7)) ?_
  refine V.iconst dX5_renew_23 ic_0 ?_
  obtain ⟨M9, hv8, h⟩ := bnd_s h
  refine V.cSv dX5_renew_24 rfl mv_RX5_23 (ok_Arr_fill (s0_row (inb_lt hb7)) hv8) rfl rfl (by decide) ⟨Nat.zero_le _, Nat.zero_le _⟩ (Nat.le_of_ble_eq_true rfl) (Nat.zero_le _) ?_
  refine V.aload_n dX5_renew_27 rfl ?_
  refine V.getR dX5_renew_28 fl_RX5_16 s0_95 rfl rfl ?_
  refine V.iload_n dX5_renew_31 rfl ?_
  refine V.iload_n dX5_renew_32 rfl ?_
  obtain ⟨hb10, h⟩ := ck_s h
  refine V.iast dX5_renew_33 s0_101 rfl (vp_of hb10) (fun M11 hM11 => ?_)
  replace h := setM_at h M11 hM11
  refine V.aload_n dX5_renew_34 rfl ?_
  refine V.getR dX5_renew_35 fl_RX5_20 s0_95 rfl rfl ?_
  refine V.iload_n dX5_renew_38 rfl ?_
  refine V.iload_n dX5_renew_39 rfl ?_
  obtain ⟨hb12, h⟩ := ck_s h
  refine V.iast dX5_renew_40 s0_102 rfl (vp_of hb12) (fun M13 hM13 => ?_)
  replace h := setM_at h M13 hM13
  have e1 := inj1 h
  subst e1
  exact V.vret dX5_renew_41 rfl
theorem ok_She_cellsOf {X : Sc} {l : Launch}  {M : Mem} {x1 : Int32} {r : Int32}  (h : f_She_cellsOf M x1 = some r) : Mt X l yX5_cellsOf cX5_cellsOf 2 (some .int) 2 0 0 [.ref 95, .int x1] S0 M (some (.int r)) S0 M := by
  refine Mt.ofV (by decide) (Nat.le_of_ble_eq_true rfl) ?_
  show V X yX5_cellsOf cX5_cellsOf 2 (some .int) (rmD 2 0 0) l (FM (some (.int r)) S0 M 0 0) 0 [some (.ref 95), some (.int x1)] [] S0 M 0 0
  unfold f_She_cellsOf at h
  refine V.iload_n dX5_cellsOf_0 rfl ?_
  obtain ⟨v2, hv1, h⟩ := bnd_s h
  refine V.cSi dX5_cellsOf_1 rfl mv_RX5_33 (ok_She_isSheet hv1) rfl rfl (by decide) ⟨Nat.zero_le _, Nat.zero_le _⟩ (Nat.le_of_ble_eq_true rfl) (Nat.zero_le _) ?_
  refine V.if_eq (tgt := 26) dX5_cellsOf_4 (by decide) (fun hc3 => ?_) (fun hc3 => ?_)
  · replace h := ite_t hc3 h
    refine V.bipush dX5_cellsOf_26 bp_m4 ?_
    have e1 := inj1 h
    subst e1
    exact V.iret dX5_cellsOf_28 rfl rfl
  replace h := ite_f hc3 h
  refine V.aload_n dX5_cellsOf_7 rfl ?_
  refine V.getR dX5_cellsOf_8 fl_RX5_16 s0_95 rfl rfl ?_
  refine V.iload_n dX5_cellsOf_11 rfl ?_
  obtain ⟨hb4, h⟩ := ck_s h
  refine V.iald dX5_cellsOf_12 s0_101 rfl (vp_of hb4) ?_
  refine V.iconst dX5_cellsOf_13 ic_m1 ?_
  refine V.icmp_eq (tgt := 26) dX5_cellsOf_14 (by decide) (fun hc5 => ?_) (fun hc5 => ?_)
  · replace h := ite_t hc5 h
    refine V.bipush dX5_cellsOf_26 bp_m4 ?_
    have e1 := inj1 h
    subst e1
    exact V.iret dX5_cellsOf_28 rfl rfl
  replace h := ite_f hc5 h
  refine V.aload_n dX5_cellsOf_17 rfl ?_
  refine V.getR dX5_cellsOf_18 fl_RX5_20 s0_95 rfl rfl ?_
  refine V.iload_n dX5_cellsOf_21 rfl ?_
  obtain ⟨hb6, h⟩ := ck_s h
  refine V.iald dX5_cellsOf_22 s0_102 rfl (vp_of hb6) ?_
  refine V.goto (tgt := 28) dX5_cellsOf_23 (by decide) ?_
  have e1 := inj1 h
  subst e1
  exact V.iret dX5_cellsOf_28 rfl rfl
theorem ok_She_faultOfLane {X : Sc} {l : Launch}  {M : Mem} {x1 : Int32} {x2 : Int32} {r : Int32}  (h : f_She_faultOfLane M x1 x2 = some r) : Mt X l yX5_faultOfLane cX5_faultOfLane 3 (some .int) 2 0 0 [.ref 95, .int x1, .int x2] S0 M (some (.int r)) S0 M := by
  refine Mt.ofV (by decide) (Nat.le_of_ble_eq_true rfl) ?_
  show V X yX5_faultOfLane cX5_faultOfLane 3 (some .int) (rmD 2 0 0) l (FM (some (.int r)) S0 M 0 0) 0 [some (.ref 95), some (.int x1), some (.int x2)] [] S0 M 0 0
  unfold f_She_faultOfLane at h
  refine V.iload_n dX5_faultOfLane_0 rfl ?_
  obtain ⟨v2, hv1, h⟩ := bnd_s h
  refine V.cSi dX5_faultOfLane_1 rfl mv_RX5_33 (ok_She_isSheet hv1) rfl rfl (by decide) ⟨Nat.zero_le _, Nat.zero_le _⟩ (Nat.le_of_ble_eq_true rfl) (Nat.zero_le _) ?_
  refine V.if_eq (tgt := 17) dX5_faultOfLane_4 (by decide) (fun hc3 => ?_) (fun hc3 => ?_)
  · replace h := ite_t hc3 h
    refine V.iconst dX5_faultOfLane_17 ic_1 ?_
    have e1 := inj1 h
    subst e1
    exact V.iret dX5_faultOfLane_18 rfl rfl
  replace h := ite_f hc3 h
  refine V.aload_n dX5_faultOfLane_7 rfl ?_
  refine V.getR dX5_faultOfLane_8 fl_RX5_16 s0_95 rfl rfl ?_
  refine V.iload_n dX5_faultOfLane_11 rfl ?_
  obtain ⟨hb4, h⟩ := ck_s h
  refine V.iald dX5_faultOfLane_12 s0_101 rfl (vp_of hb4) ?_
  refine V.iconst dX5_faultOfLane_13 ic_m1 ?_
  refine V.icmp_ne (tgt := 19) dX5_faultOfLane_14 (by decide) (fun hc5 => ?_) (fun hc5 => ?_)
  · replace h := ite_f hc5 h
    refine V.aload_n dX5_faultOfLane_19 rfl ?_
    refine V.getR dX5_faultOfLane_20 fl_RX5_16 s0_95 rfl rfl ?_
    refine V.iload_n dX5_faultOfLane_23 rfl ?_
    obtain ⟨hb6, h⟩ := ck_s h
    refine V.iald dX5_faultOfLane_24 s0_101 rfl (vp_of hb6) ?_
    refine V.iload_n dX5_faultOfLane_25 rfl ?_
    refine V.icmp_ne (tgt := 33) dX5_faultOfLane_26 (by decide) (fun hc7 => ?_) (fun hc7 => ?_)
    · replace h := ite_f hc7 h
      refine V.iconst dX5_faultOfLane_33 ic_3 ?_
      have e1 := inj1 h
      subst e1
      exact V.iret dX5_faultOfLane_34 rfl rfl
    replace h := ite_t hc7 h
    refine V.iconst dX5_faultOfLane_29 ic_0 ?_
    refine V.goto (tgt := 34) dX5_faultOfLane_30 (by decide) ?_
    have e1 := inj1 h
    subst e1
    exact V.iret dX5_faultOfLane_34 rfl rfl
  replace h := ite_t hc5 h
  refine V.iconst dX5_faultOfLane_17 ic_1 ?_
  have e1 := inj1 h
  subst e1
  exact V.iret dX5_faultOfLane_18 rfl rfl
theorem ok_She_faultOfCells {X : Sc} {l : Launch}  {M : Mem} {x1 : Int32} {x2 : Int32} {x3 : Int32} {r : Int32}  (h : f_She_faultOfCells M x1 x2 x3 = some r) : Mt X l yX5_faultOfCells cX5_faultOfCells 4 (some .int) 2 0 0 [.ref 95, .int x1, .int x2, .int x3] S0 M (some (.int r)) S0 M := by
  refine Mt.ofV (by decide) (Nat.le_of_ble_eq_true rfl) ?_
  show V X yX5_faultOfCells cX5_faultOfCells 4 (some .int) (rmD 2 0 0) l (FM (some (.int r)) S0 M 0 0) 0 [some (.ref 95), some (.int x1), some (.int x2), some (.int x3)] [] S0 M 0 0
  unfold f_She_faultOfCells at h
  refine V.iload_n dX5_faultOfCells_0 rfl ?_
  obtain ⟨v2, hv1, h⟩ := bnd_s h
  refine V.cSi dX5_faultOfCells_1 rfl mv_RX5_33 (ok_She_isSheet hv1) rfl rfl (by decide) ⟨Nat.zero_le _, Nat.zero_le _⟩ (Nat.le_of_ble_eq_true rfl) (Nat.zero_le _) ?_
  refine V.if_eq (tgt := 17) dX5_faultOfCells_4 (by decide) (fun hc3 => ?_) (fun hc3 => ?_)
  · replace h := ite_t hc3 h
    refine V.iconst dX5_faultOfCells_17 ic_1 ?_
    have e1 := inj1 h
    subst e1
    exact V.iret dX5_faultOfCells_18 rfl rfl
  replace h := ite_f hc3 h
  refine V.aload_n dX5_faultOfCells_7 rfl ?_
  refine V.getR dX5_faultOfCells_8 fl_RX5_16 s0_95 rfl rfl ?_
  refine V.iload_n dX5_faultOfCells_11 rfl ?_
  obtain ⟨hb4, h⟩ := ck_s h
  refine V.iald dX5_faultOfCells_12 s0_101 rfl (vp_of hb4) ?_
  refine V.iconst dX5_faultOfCells_13 ic_m1 ?_
  refine V.icmp_ne (tgt := 19) dX5_faultOfCells_14 (by decide) (fun hc5 => ?_) (fun hc5 => ?_)
  · replace h := ite_f hc5 h
    refine V.iload_n dX5_faultOfCells_19 rfl ?_
    refine V.iconst dX5_faultOfCells_20 ic_0 ?_
    refine V.aload_n dX5_faultOfCells_21 rfl ?_
    refine V.getR dX5_faultOfCells_22 fl_RX5_20 s0_95 rfl rfl ?_
    refine V.iload_n dX5_faultOfCells_25 rfl ?_
    obtain ⟨hb6, h⟩ := ck_s h
    refine V.iald dX5_faultOfCells_26 s0_102 rfl (vp_of hb6) ?_
    refine V.iload_n dX5_faultOfCells_27 rfl ?_
    refine V.isub dX5_faultOfCells_28 ?_
    obtain ⟨v8, hv7, h⟩ := bnd_s h
    refine V.cSNi dX5_faultOfCells_29 rfl wn_RX5_29 mn_RX5_29 (ok_Hal_within hv7) rfl rfl (by decide) ⟨Nat.zero_le _, Nat.zero_le _⟩ (Nat.le_of_ble_eq_true rfl) (Nat.zero_le _) ?_
    refine V.if_eq (tgt := 39) dX5_faultOfCells_32 (by decide) (fun hc9 => ?_) (fun hc9 => ?_)
    · replace h := ite_t hc9 h
      refine V.iconst dX5_faultOfCells_39 ic_2 ?_
      have e1 := inj1 h
      subst e1
      exact V.iret dX5_faultOfCells_40 rfl rfl
    replace h := ite_f hc9 h
    refine V.iconst dX5_faultOfCells_35 ic_0 ?_
    refine V.goto (tgt := 40) dX5_faultOfCells_36 (by decide) ?_
    have e1 := inj1 h
    subst e1
    exact V.iret dX5_faultOfCells_40 rfl rfl
  replace h := ite_t hc5 h
  refine V.iconst dX5_faultOfCells_17 ic_1 ?_
  have e1 := inj1 h
  subst e1
  exact V.iret dX5_faultOfCells_18 rfl rfl
theorem ok_She_put {X : Sc} {l : Launch}  {M : Mem} {x1 : Int32} {x2 : Int32} {x3 : Int32} {M' : Mem}  (h : f_She_put x1 x2 x3 M = some M') : Mt X l yX5_put cX5_put 4 none 3 0 0 [.ref 95, .int x1, .int x2, .int x3] S0 M none S0 M' := by
  refine Mt.ofV (by decide) (Nat.le_of_ble_eq_true rfl) ?_
  show V X yX5_put cX5_put 4 none (rmD 3 0 0) l (FM none S0 M' 0 0) 0 [some (.ref 95), some (.int x1), some (.int x2), some (.int x3)] [] S0 M 0 0
  unfold f_She_put at h
  refine V.aload_n dX5_put_0 rfl ?_
  refine V.iload_n dX5_put_1 rfl ?_
  refine V.iload_n dX5_put_2 rfl ?_
  refine V.iconst dX5_put_3 ic_1 ?_
  obtain ⟨v2, hv1, h⟩ := bnd_s h
  refine V.cVi dX5_put_4 rfl mv_RX5_37 (ok_She_faultOfCells hv1) rfl rfl s0_95 rfl (by decide) ⟨Nat.zero_le _, Nat.zero_le _⟩ (Nat.le_of_ble_eq_true rfl) (Nat.zero_le _) ?_
  refine V.if_ne (tgt := 16) dX5_put_7 (by decide) (fun hc3 => ?_) (fun hc3 => ?_)
  · replace h := ite_f hc3 h
    have e1 := inj1 h
    subst e1
    exact V.vret dX5_put_16 rfl
  replace h := ite_t hc3 h
  refine V.iload_n dX5_put_10 rfl ?_
  refine V.bipush dX5_put_11 bp_40 ?_
  refine V.icmp_lt (tgt := 17) dX5_put_13 (by decide) (fun hc4 => ?_) (fun hc4 => ?_)
  · replace h := ite_t hc4 h
    refine V.aload_n dX5_put_17 rfl ?_
    refine V.getR dX5_put_18 fl_RX5_16 s0_95 rfl rfl ?_
    refine V.iload_n dX5_put_21 rfl ?_
    obtain ⟨hb5, h⟩ := ck_s h
    refine V.iald dX5_put_22 s0_101 rfl (vp_of hb5) ?_
    by_cases hc6 : M 101 (ix x1) = 0
    · replace h := ite_t hc6 h
      refine V.lookup (off := 25) (tgt := 48) dX5_put_23 (by decide) (by rw [hc6]; decide) (by decide) ?_
      refine V.aload_n dX5_put_48 rfl ?_
      refine V.getR dX5_put_49 fl_RX5_11 s0_95 rfl rfl ?_
      refine V.iload_n dX5_put_52 rfl ?_
      obtain ⟨hb7, h⟩ := ck_s h
      refine V.aald dX5_put_53 s0_96 rfl (vp_of hb7) (s0_rowR (inb_lt hb7)) ?_
      refine V.iload_n dX5_put_54 rfl ?_
      refine V.iload_n dX5_put_55 rfl ?_
      refine V.i2b dX5_put_56 ?_
      obtain ⟨hb8, h⟩ := ck_s h
      refine V.iast dX5_put_57 (s0_row (inb_lt hb7)) rfl (vp_of hb8) (fun M9 hM9 => ?_)
      replace h := setM_at h M9 hM9
      refine V.goto (tgt := 83) dX5_put_58 (by decide) ?_
      have e1 := inj1 h
      subst e1
      exact V.vret dX5_put_83 rfl
    replace h := ite_f hc6 h
    by_cases hc10 : M 101 (ix x1) = 1
    · replace h := ite_t hc10 h
      refine V.lookup (off := 38) (tgt := 61) dX5_put_23 (by decide) (by rw [hc10]; decide) (by decide) ?_
      refine V.aload_n dX5_put_61 rfl ?_
      refine V.getR dX5_put_62 fl_RX5_11 s0_95 rfl rfl ?_
      refine V.iload_n dX5_put_65 rfl ?_
      obtain ⟨hb11, h⟩ := ck_s h
      refine V.aald dX5_put_66 s0_96 rfl (vp_of hb11) (s0_rowR (inb_lt hb11)) ?_
      refine V.iload_n dX5_put_67 rfl ?_
      refine V.iload_n dX5_put_68 rfl ?_
      refine V.i2s dX5_put_69 ?_
      obtain ⟨hb12, h⟩ := ck_s h
      refine V.iast dX5_put_70 (s0_row (inb_lt hb11)) rfl (vp_of hb12) (fun M13 hM13 => ?_)
      replace h := setM_at h M13 hM13
      refine V.goto (tgt := 83) dX5_put_71 (by decide) ?_
      have e1 := inj1 h
      subst e1
      exact V.vret dX5_put_83 rfl
    replace h := ite_f hc10 h
    refine V.lookup (off := 51) (tgt := 74) dX5_put_23 (by decide) (by show Op.lookupswitch.offset [(0, 25), (1, 38)] 51 _ = _; rw [lv_osw hc6 (by decide), lv_osw hc10 (by decide)]; rfl) (by decide) ?_
    refine V.aload_n dX5_put_74 rfl ?_
    refine V.getR dX5_put_75 fl_RX5_11 s0_95 rfl rfl ?_
    refine V.iload_n dX5_put_78 rfl ?_
    obtain ⟨hb14, h⟩ := ck_s h
    refine V.aald dX5_put_79 s0_96 rfl (vp_of hb14) (s0_rowR (inb_lt hb14)) ?_
    refine V.iload_n dX5_put_80 rfl ?_
    refine V.iload_n dX5_put_81 rfl ?_
    obtain ⟨hb15, h⟩ := ck_s h
    refine V.iast dX5_put_82 (s0_row (inb_lt hb14)) rfl (vp_of hb15) (fun M16 hM16 => ?_)
    replace h := setM_at h M16 hM16
    have e1 := inj1 h
    subst e1
    exact V.vret dX5_put_83 rfl
  replace h := ite_f hc4 h
  have e1 := inj1 h
  subst e1
  exact V.vret dX5_put_16 rfl
theorem ok_She_valueAt {X : Sc} {l : Launch}  {M : Mem} {x1 : Int32} {x2 : Int32} {r : Int32}  (h : f_She_valueAt M x1 x2 = some r) : Mt X l yX5_valueAt cX5_valueAt 3 (some .int) 3 0 0 [.ref 95, .int x1, .int x2] S0 M (some (.int r)) S0 M := by
  refine Mt.ofV (by decide) (Nat.le_of_ble_eq_true rfl) ?_
  show V X yX5_valueAt cX5_valueAt 3 (some .int) (rmD 3 0 0) l (FM (some (.int r)) S0 M 0 0) 0 [some (.ref 95), some (.int x1), some (.int x2)] [] S0 M 0 0
  unfold f_She_valueAt at h
  refine V.aload_n dX5_valueAt_0 rfl ?_
  refine V.iload_n dX5_valueAt_1 rfl ?_
  refine V.iload_n dX5_valueAt_2 rfl ?_
  refine V.iconst dX5_valueAt_3 ic_1 ?_
  obtain ⟨v2, hv1, h⟩ := bnd_s h
  refine V.cVi dX5_valueAt_4 rfl mv_RX5_37 (ok_She_faultOfCells hv1) rfl rfl s0_95 rfl (by decide) ⟨Nat.zero_le _, Nat.zero_le _⟩ (Nat.le_of_ble_eq_true rfl) (Nat.zero_le _) ?_
  refine V.if_ne (tgt := 27) dX5_valueAt_7 (by decide) (fun hc3 => ?_) (fun hc3 => ?_)
  · replace h := ite_f hc3 h
    refine V.iconst dX5_valueAt_27 ic_0 ?_
    have e1 := inj1 h
    subst e1
    exact V.iret dX5_valueAt_28 rfl rfl
  replace h := ite_t hc3 h
  refine V.iload_n dX5_valueAt_10 rfl ?_
  refine V.bipush dX5_valueAt_11 bp_40 ?_
  refine V.icmp_ge (tgt := 27) dX5_valueAt_13 (by decide) (fun hc4 => ?_) (fun hc4 => ?_)
  · replace h := ite_t hc4 h
    refine V.iconst dX5_valueAt_27 ic_0 ?_
    have e1 := inj1 h
    subst e1
    exact V.iret dX5_valueAt_28 rfl rfl
  replace h := ite_f hc4 h
  refine V.aload_n dX5_valueAt_16 rfl ?_
  refine V.getR dX5_valueAt_17 fl_RX5_11 s0_95 rfl rfl ?_
  refine V.iload_n dX5_valueAt_20 rfl ?_
  obtain ⟨hb5, h⟩ := ck_s h
  refine V.aald dX5_valueAt_21 s0_96 rfl (vp_of hb5) (s0_rowR (inb_lt hb5)) ?_
  refine V.iload_n dX5_valueAt_22 rfl ?_
  obtain ⟨hb6, h⟩ := ck_s h
  refine V.iald dX5_valueAt_23 (s0_row (inb_lt hb5)) rfl (vp_of hb6) ?_
  refine V.goto (tgt := 28) dX5_valueAt_24 (by decide) ?_
  have e1 := inj1 h
  subst e1
  exact V.iret dX5_valueAt_28 rfl rfl
theorem okc_Tap_append_22 {X : Sc} {l : Launch}     : ∀ (n : Nat) (x1 : Int64) (x3 : Int32) (M : Mem) (r : Int32) (M' : Mem), f_Tap_append_L22  n x1 x3 M = some (r, M') → V X yX6_append cX6_append 4 (some .int) (rmD 0 0 0) l (FM (some (.int r)) S0 M' 0 0) 22 [some (.ref 70), some (.long x1), none, some (.int x3)] [] S0 M 0 0 := by
  intro n
  induction n with
  | zero =>
    intro x1 x3 M r M' h
    rw [f_Tap_append_L22] at h
    cases h
  | succ n ih =>
    intro x1 x3 M r M' h
    rw [f_Tap_append_L22] at h
    refine V.iload_n dX6_append_22 rfl ?_
    refine V.bipush dX6_append_23 bp_8 ?_
    refine V.icmp_ge (tgt := 56) dX6_append_25 (by decide) (fun hc1 => ?_) (fun hc1 => ?_)
    · replace h := ite_t hc1 h
      refine V.aload_n dX6_append_56 rfl ?_
      refine V.dup dX6_append_57 rfl ?_
      refine V.getI dX6_append_58 fl_RX6_9 s0_70 rfl rfl ?_
      refine V.bipush dX6_append_61 bp_8 ?_
      refine V.iadd dX6_append_63 ?_
      refine V.putI dX6_append_64 fp_RX6_9 s0_70 rfl rfl (fun M2 hM2 => ?_)
      replace h := setM_at h M2 hM2
      refine V.aload_n dX6_append_67 rfl ?_
      refine V.getI dX6_append_68 fl_RX6_9 s0_70 rfl rfl ?_
      obtain ⟨e1, e2⟩ := inj2 h
      subst e1
      subst e2
      exact V.iret dX6_append_71 rfl rfl
    replace h := ite_f hc1 h
    refine V.aload_n dX6_append_28 rfl ?_
    refine V.getR dX6_append_29 fl_RX6_33 s0_70 rfl rfl ?_
    refine V.aload_n dX6_append_32 rfl ?_
    refine V.getI dX6_append_33 fl_RX6_9 s0_70 rfl rfl ?_
    refine V.iload_n dX6_append_36 rfl ?_
    refine V.iadd dX6_append_37 ?_
    refine V.lload_n dX6_append_38 rfl ?_
    refine V.bipush dX6_append_39 bp_56 ?_
    refine V.bipush dX6_append_41 bp_8 ?_
    refine V.iload_n dX6_append_43 rfl ?_
    refine V.imul dX6_append_44 ?_
    refine V.isub dX6_append_45 ?_
    refine V.lshr dX6_append_46 ?_
    refine V.l2i dX6_append_47 ?_
    refine V.i2b dX6_append_48 ?_
    obtain ⟨hb3, h⟩ := ck_s h
    refine V.bast dX6_append_49 s0_71 rfl (vp_of hb3) (fun M4 hM4 => ?_)
    replace h := setM_at h M4 hM4
    refine V.iinc dX6_append_50 rfl (iinc_c ic_1) (by decide) rfl ?_
    refine V.goto (tgt := 22) dX6_append_53 (by decide) ?_
    exact ih _ _ _ _ _ h
theorem ok_Tap_append {X : Sc} {l : Launch}  {M : Mem} {x1 : Int64} {r : Int32} {M' : Mem}  (h : f_Tap_append x1 M = some (r, M')) : Mt X l yX6_append cX6_append 4 (some .int) 0 0 0 [.ref 70, .long x1] S0 M (some (.int r)) S0 M' := by
  refine Mt.ofV (by decide) (Nat.le_of_ble_eq_true rfl) ?_
  show V X yX6_append cX6_append 4 (some .int) (rmD 0 0 0) l (FM (some (.int r)) S0 M' 0 0) 0 [some (.ref 70), some (.long x1), none, none] [] S0 M 0 0
  unfold f_Tap_append at h
  refine V.aload_n dX6_append_0 rfl ?_
  refine V.getI dX6_append_1 fl_RX6_9 s0_70 rfl rfl ?_
  refine V.if_lt (tgt := 17) dX6_append_4 (by decide) (fun hc1 => ?_) (fun hc1 => ?_)
  · replace h := ite_t hc1 h
    refine V.bipush dX6_append_17 bp_m3 ?_
    obtain ⟨e1, e2⟩ := inj2 h
    subst e1
    subst e2
    exact V.iret dX6_append_19 rfl rfl
  replace h := ite_f hc1 h
  refine V.aload_n dX6_append_7 rfl ?_
  refine V.getI dX6_append_8 fl_RX6_9 s0_70 rfl rfl ?_
  refine V.sipush dX6_append_11 sp_312 ?_
  refine V.icmp_le (tgt := 20) dX6_append_14 (by decide) (fun hc2 => ?_) (fun hc2 => ?_)
  · replace h := ite_t hc2 h
    refine V.iconst dX6_append_20 ic_0 ?_
    refine V.istore_n dX6_append_21 (by decide) rfl ?_
    exact okc_Tap_append_22 _ _ _ _ _ _ h
  replace h := ite_f hc2 h
  refine V.bipush dX6_append_17 bp_m3 ?_
  obtain ⟨e1, e2⟩ := inj2 h
  subst e1
  subst e2
  exact V.iret dX6_append_19 rfl rfl
