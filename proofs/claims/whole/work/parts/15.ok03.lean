theorem ok_Hal_isOne {X : Sc} {l : Launch}  {M : Mem} {x1 : Int32} {r : Int32}  (h : f_Hal_isOne M x1 = some r) : Mt X l yX10_isOne cX10_isOne 2 (some .boolean) 1 0 0 [.ref 0, .int x1] S0 M (some (.int r)) S0 M := by
  refine Mt.ofV (by decide) (Nat.le_of_ble_eq_true rfl) ?_
  show V X yX10_isOne cX10_isOne 2 (some .boolean) (rmD 1 0 0) l (FM (some (.int r)) S0 M 0 0) 0 [some (.ref 0), some (.int x1)] [] S0 M 0 0
  unfold f_Hal_isOne at h
  refine V.iload_n dX10_isOne_0 rfl ?_
  refine V.iconst dX10_isOne_1 ic_0 ?_
  refine V.aload_n dX10_isOne_2 rfl ?_
  refine V.getR dX10_isOne_3 fl_RX10_10 s0_0 rfl rfl ?_
  refine V.getI dX10_isOne_6 fl_RX10_264 s0_1 rfl rfl ?_
  refine V.iconst dX10_isOne_9 ic_1 ?_
  refine V.isub dX10_isOne_10 ?_
  obtain ⟨v2, hv1, h⟩ := bnd_s h
  refine V.cSi dX10_isOne_11 rfl mv_RX10_77 (ok_Hal_within hv1) rfl rfl (by decide) ⟨Nat.zero_le _, Nat.zero_le _⟩ (Nat.le_of_ble_eq_true rfl) (Nat.zero_le _) ?_
  obtain ⟨hB3, h⟩ := ck_s h
  have e1 := inj1 h
  subst e1
  exact V.iret dX10_isOne_14 rfl (isB_n hB3)
theorem ok_Hal_sit {X : Sc} {l : Launch}  {M : Mem} {x1 : Int32} {x2 : Int32} {r : Int32} {M' : Mem}  (h : f_Hal_sit x1 x2 M = some (r, M')) : Mt X l yX10_sit cX10_sit 3 (some .int) 3 0 0 [.ref 0, .int x1, .int x2] S0 M (some (.int r)) S0 M' := by
  refine Mt.ofV (by decide) (Nat.le_of_ble_eq_true rfl) ?_
  show V X yX10_sit cX10_sit 3 (some .int) (rmD 3 0 0) l (FM (some (.int r)) S0 M' 0 0) 0 [some (.ref 0), some (.int x1), some (.int x2)] [] S0 M 0 0
  unfold f_Hal_sit at h
  refine V.aload_n dX10_sit_0 rfl ?_
  refine V.iload_n dX10_sit_1 rfl ?_
  obtain ⟨v2, hv1, h⟩ := bnd_s h
  refine V.cVi dX10_sit_2 rfl mv_RX10_166 (ok_Hal_isOne hv1) rfl rfl s0_0 rfl (by decide) ⟨Nat.zero_le _, Nat.zero_le _⟩ (Nat.le_of_ble_eq_true rfl) (Nat.zero_le _) ?_
  refine V.if_eq (tgt := 16) dX10_sit_5 (by decide) (fun hc3 => ?_) (fun hc3 => ?_)
  · replace h := ite_t hc3 h
    refine V.iconst dX10_sit_16 ic_m1 ?_
    obtain ⟨e1, e2⟩ := inj2 h
    subst e1
    subst e2
    exact V.iret dX10_sit_17 rfl rfl
  replace h := ite_f hc3 h
  refine V.aload_n dX10_sit_8 rfl ?_
  refine V.iload_n dX10_sit_9 rfl ?_
  obtain ⟨v5, hv4, h⟩ := bnd_s h
  refine V.cVi dX10_sit_10 rfl mv_RX10_121 (ok_Hal_isBench hv4) rfl rfl s0_0 rfl (by decide) ⟨Nat.zero_le _, Nat.zero_le _⟩ (Nat.le_of_ble_eq_true rfl) (Nat.zero_le _) ?_
  refine V.if_ne (tgt := 18) dX10_sit_13 (by decide) (fun hc6 => ?_) (fun hc6 => ?_)
  · replace h := ite_f hc6 h
    refine V.aload_n dX10_sit_18 rfl ?_
    refine V.getR dX10_sit_19 fl_RX10_10 s0_0 rfl rfl ?_
    refine V.iload_n dX10_sit_22 rfl ?_
    refine V.iload_n dX10_sit_23 rfl ?_
    obtain ⟨v8, M9, hv7, h⟩ := bnd2_s h
    refine V.cVi dX10_sit_24 rfl mv_RX10_169 (ok_Tol_seatOn s0_Tol1 hv7) rfl rfl s0_1 rfl (by decide) ⟨Nat.zero_le _, Nat.zero_le _⟩ (Nat.le_of_ble_eq_true rfl) (Nat.zero_le _) ?_
    obtain ⟨e1, e2⟩ := inj2 h
    subst e1
    subst e2
    exact V.iret dX10_sit_27 rfl rfl
  replace h := ite_t hc6 h
  refine V.iconst dX10_sit_16 ic_m1 ?_
  obtain ⟨e1, e2⟩ := inj2 h
  subst e1
  subst e2
  exact V.iret dX10_sit_17 rfl rfl
theorem ok_Hal_way {X : Sc} {l : Launch}  {M : Mem} {x1 : Int32} {x2 : Int32} {x3 : Int32} {r : Int32} {M' : Mem}  (h : f_Hal_way x1 x2 x3 M = some (r, M')) : Mt X l yX10_way cX10_way 4 (some .int) 3 0 0 [.ref 0, .int x1, .int x2, .int x3] S0 M (some (.int r)) S0 M' := by
  refine Mt.ofV (by decide) (Nat.le_of_ble_eq_true rfl) ?_
  show V X yX10_way cX10_way 4 (some .int) (rmD 3 0 0) l (FM (some (.int r)) S0 M' 0 0) 0 [some (.ref 0), some (.int x1), some (.int x2), some (.int x3)] [] S0 M 0 0
  unfold f_Hal_way at h
  refine V.aload_n dX10_way_0 rfl ?_
  refine V.iload_n dX10_way_1 rfl ?_
  obtain ⟨v2, hv1, h⟩ := bnd_s h
  refine V.cVi dX10_way_2 rfl mv_RX10_121 (ok_Hal_isBench hv1) rfl rfl s0_0 rfl (by decide) ⟨Nat.zero_le _, Nat.zero_le _⟩ (Nat.le_of_ble_eq_true rfl) (Nat.zero_le _) ?_
  refine V.if_eq (tgt := 25) dX10_way_5 (by decide) (fun hc3 => ?_) (fun hc3 => ?_)
  · replace h := ite_t hc3 h
    refine V.iconst dX10_way_25 ic_m1 ?_
    obtain ⟨e1, e2⟩ := inj2 h
    subst e1
    subst e2
    exact V.iret dX10_way_26 rfl rfl
  replace h := ite_f hc3 h
  refine V.iload_n dX10_way_8 rfl ?_
  obtain ⟨v5, hv4, h⟩ := bnd_s h
  refine V.cSi dX10_way_9 rfl mv_RX10_124 (ok_Hal_isHour hv4) rfl rfl (by decide) ⟨Nat.zero_le _, Nat.zero_le _⟩ (Nat.le_of_ble_eq_true rfl) (Nat.zero_le _) ?_
  refine V.if_eq (tgt := 25) dX10_way_12 (by decide) (fun hc6 => ?_) (fun hc6 => ?_)
  · replace h := ite_t hc6 h
    refine V.iconst dX10_way_25 ic_m1 ?_
    obtain ⟨e1, e2⟩ := inj2 h
    subst e1
    subst e2
    exact V.iret dX10_way_26 rfl rfl
  replace h := ite_f hc6 h
  refine V.iload_n dX10_way_15 rfl ?_
  refine V.iconst dX10_way_16 ic_0 ?_
  refine V.bipush dX10_way_17 bp_40 ?_
  obtain ⟨v8, hv7, h⟩ := bnd_s h
  refine V.cSi dX10_way_19 rfl mv_RX10_77 (ok_Hal_within hv7) rfl rfl (by decide) ⟨Nat.zero_le _, Nat.zero_le _⟩ (Nat.le_of_ble_eq_true rfl) (Nat.zero_le _) ?_
  refine V.if_ne (tgt := 27) dX10_way_22 (by decide) (fun hc9 => ?_) (fun hc9 => ?_)
  · replace h := ite_f hc9 h
    refine V.aload_n dX10_way_27 rfl ?_
    refine V.getR dX10_way_28 fl_RX10_36 s0_0 rfl rfl ?_
    refine V.aload_n dX10_way_31 rfl ?_
    refine V.getR dX10_way_32 fl_RX10_10 s0_0 rfl rfl ?_
    refine V.iload_n dX10_way_35 rfl ?_
    refine V.iload_n dX10_way_36 rfl ?_
    obtain ⟨M11, hv10, h⟩ := bnd_s h
    refine V.cVv dX10_way_37 rfl mv_RX10_172 (ok_Hea_whisperFromBench s0_Hea72 hv10) rfl rfl s0_72 rfl (by decide) ⟨Nat.zero_le _, Nat.zero_le _⟩ (Nat.le_of_ble_eq_true rfl) (Nat.zero_le _) ?_
    refine V.aload_n dX10_way_40 rfl ?_
    refine V.getR dX10_way_41 fl_RX10_36 s0_0 rfl rfl ?_
    refine V.getR dX10_way_44 fl_RX10_176 s0_72 rfl rfl ?_
    refine V.iload_n dX10_way_47 rfl ?_
    obtain ⟨v13, hv12, h⟩ := bnd_s h
    refine V.cVi dX10_way_48 rfl mv_RX10_180 (ok_Cou_cellAt s0_Cou73 hv12) rfl rfl s0_73 rfl (by decide) ⟨Nat.zero_le _, Nat.zero_le _⟩ (Nat.le_of_ble_eq_true rfl) (Nat.zero_le _) ?_
    obtain ⟨e1, e2⟩ := inj2 h
    subst e1
    subst e2
    exact V.iret dX10_way_51 rfl rfl
  replace h := ite_t hc9 h
  refine V.iconst dX10_way_25 ic_m1 ?_
  obtain ⟨e1, e2⟩ := inj2 h
  subst e1
  subst e2
  exact V.iret dX10_way_26 rfl rfl
theorem ok_Hal_steps {X : Sc} {l : Launch}  {M : Mem} {x1 : Int32} {x2 : Int32} {r : Int32} {M' : Mem}  (h : f_Hal_steps x1 x2 M = some (r, M')) : Mt X l yX10_steps cX10_steps 3 (some .int) 3 0 0 [.ref 0, .int x1, .int x2] S0 M (some (.int r)) S0 M' := by
  refine Mt.ofV (by decide) (Nat.le_of_ble_eq_true rfl) ?_
  show V X yX10_steps cX10_steps 3 (some .int) (rmD 3 0 0) l (FM (some (.int r)) S0 M' 0 0) 0 [some (.ref 0), some (.int x1), some (.int x2)] [] S0 M 0 0
  unfold f_Hal_steps at h
  refine V.aload_n dX10_steps_0 rfl ?_
  refine V.iload_n dX10_steps_1 rfl ?_
  obtain ⟨v2, hv1, h⟩ := bnd_s h
  refine V.cVi dX10_steps_2 rfl mv_RX10_121 (ok_Hal_isBench hv1) rfl rfl s0_0 rfl (by decide) ⟨Nat.zero_le _, Nat.zero_le _⟩ (Nat.le_of_ble_eq_true rfl) (Nat.zero_le _) ?_
  refine V.if_eq (tgt := 15) dX10_steps_5 (by decide) (fun hc3 => ?_) (fun hc3 => ?_)
  · replace h := ite_t hc3 h
    refine V.iconst dX10_steps_15 ic_m1 ?_
    obtain ⟨e1, e2⟩ := inj2 h
    subst e1
    subst e2
    exact V.iret dX10_steps_16 rfl rfl
  replace h := ite_f hc3 h
  refine V.iload_n dX10_steps_8 rfl ?_
  obtain ⟨v5, hv4, h⟩ := bnd_s h
  refine V.cSi dX10_steps_9 rfl mv_RX10_124 (ok_Hal_isHour hv4) rfl rfl (by decide) ⟨Nat.zero_le _, Nat.zero_le _⟩ (Nat.le_of_ble_eq_true rfl) (Nat.zero_le _) ?_
  refine V.if_ne (tgt := 17) dX10_steps_12 (by decide) (fun hc6 => ?_) (fun hc6 => ?_)
  · replace h := ite_f hc6 h
    refine V.aload_n dX10_steps_17 rfl ?_
    refine V.getR dX10_steps_18 fl_RX10_36 s0_0 rfl rfl ?_
    refine V.aload_n dX10_steps_21 rfl ?_
    refine V.getR dX10_steps_22 fl_RX10_10 s0_0 rfl rfl ?_
    refine V.iload_n dX10_steps_25 rfl ?_
    refine V.iload_n dX10_steps_26 rfl ?_
    obtain ⟨M8, hv7, h⟩ := bnd_s h
    refine V.cVv dX10_steps_27 rfl mv_RX10_172 (ok_Hea_whisperFromBench s0_Hea72 hv7) rfl rfl s0_72 rfl (by decide) ⟨Nat.zero_le _, Nat.zero_le _⟩ (Nat.le_of_ble_eq_true rfl) (Nat.zero_le _) ?_
    refine V.aload_n dX10_steps_30 rfl ?_
    refine V.getR dX10_steps_31 fl_RX10_36 s0_0 rfl rfl ?_
    refine V.getR dX10_steps_34 fl_RX10_176 s0_72 rfl rfl ?_
    refine V.getI dX10_steps_37 fl_RX10_185 s0_73 rfl rfl ?_
    obtain ⟨e1, e2⟩ := inj2 h
    subst e1
    subst e2
    exact V.iret dX10_steps_40 rfl rfl
  replace h := ite_t hc6 h
  refine V.iconst dX10_steps_15 ic_m1 ?_
  obtain ⟨e1, e2⟩ := inj2 h
  subst e1
  subst e2
  exact V.iret dX10_steps_16 rfl rfl
theorem ok_Hal_hears {X : Sc} {l : Launch}  {M : Mem} {x1 : Int32} {x2 : Int32} {x3 : Int32} {x4 : Int32} {r : Int32} {M' : Mem}  (h : f_Hal_hears x1 x2 x3 x4 M = some (r, M')) : Mt X l yX10_hears cX10_hears 6 (some .int) 3 0 0 [.ref 0, .int x1, .int x2, .int x3, .int x4] S0 M (some (.int r)) S0 M' := by
  refine Mt.ofV (by decide) (Nat.le_of_ble_eq_true rfl) ?_
  show V X yX10_hears cX10_hears 6 (some .int) (rmD 3 0 0) l (FM (some (.int r)) S0 M' 0 0) 0 [some (.ref 0), some (.int x1), some (.int x2), some (.int x3), some (.int x4), none] [] S0 M 0 0
  unfold f_Hal_hears at h
  refine V.aload_n dX10_hears_0 rfl ?_
  refine V.iload_n dX10_hears_1 rfl ?_
  obtain ⟨v2, hv1, h⟩ := bnd_s h
  refine V.cVi dX10_hears_2 rfl mv_RX10_121 (ok_Hal_isBench hv1) rfl rfl s0_0 rfl (by decide) ⟨Nat.zero_le _, Nat.zero_le _⟩ (Nat.le_of_ble_eq_true rfl) (Nat.zero_le _) ?_
  refine V.if_eq (tgt := 38) dX10_hears_5 (by decide) (fun hc3 => ?_) (fun hc3 => ?_)
  · replace h := ite_t hc3 h
    refine V.iconst dX10_hears_38 ic_m1 ?_
    obtain ⟨e1, e2⟩ := inj2 h
    subst e1
    subst e2
    exact V.iret dX10_hears_39 rfl rfl
  replace h := ite_f hc3 h
  refine V.aload_n dX10_hears_8 rfl ?_
  refine V.iload_n dX10_hears_9 rfl ?_
  obtain ⟨v5, hv4, h⟩ := bnd_s h
  refine V.cVi dX10_hears_10 rfl mv_RX10_121 (ok_Hal_isBench hv4) rfl rfl s0_0 rfl (by decide) ⟨Nat.zero_le _, Nat.zero_le _⟩ (Nat.le_of_ble_eq_true rfl) (Nat.zero_le _) ?_
  refine V.if_eq (tgt := 38) dX10_hears_13 (by decide) (fun hc6 => ?_) (fun hc6 => ?_)
  · replace h := ite_t hc6 h
    refine V.iconst dX10_hears_38 ic_m1 ?_
    obtain ⟨e1, e2⟩ := inj2 h
    subst e1
    subst e2
    exact V.iret dX10_hears_39 rfl rfl
  replace h := ite_f hc6 h
  refine V.iload_n dX10_hears_16 rfl ?_
  refine V.iload_n dX10_hears_17 rfl ?_
  refine V.icmp_eq (tgt := 38) dX10_hears_18 (by decide) (fun hc7 => ?_) (fun hc7 => ?_)
  · replace h := ite_t hc7 h
    refine V.iconst dX10_hears_38 ic_m1 ?_
    obtain ⟨e1, e2⟩ := inj2 h
    subst e1
    subst e2
    exact V.iret dX10_hears_39 rfl rfl
  replace h := ite_f hc7 h
  refine V.iload_n dX10_hears_21 rfl ?_
  obtain ⟨v9, hv8, h⟩ := bnd_s h
  refine V.cSi dX10_hears_22 rfl mv_RX10_124 (ok_Hal_isHour hv8) rfl rfl (by decide) ⟨Nat.zero_le _, Nat.zero_le _⟩ (Nat.le_of_ble_eq_true rfl) (Nat.zero_le _) ?_
  refine V.if_eq (tgt := 38) dX10_hears_25 (by decide) (fun hc10 => ?_) (fun hc10 => ?_)
  · replace h := ite_t hc10 h
    refine V.iconst dX10_hears_38 ic_m1 ?_
    obtain ⟨e1, e2⟩ := inj2 h
    subst e1
    subst e2
    exact V.iret dX10_hears_39 rfl rfl
  replace h := ite_f hc10 h
  refine V.iload dX10_hears_28 rfl ?_
  refine V.iconst dX10_hears_30 ic_0 ?_
  refine V.iconst dX10_hears_31 ic_2 ?_
  obtain ⟨v12, hv11, h⟩ := bnd_s h
  refine V.cSi dX10_hears_32 rfl mv_RX10_77 (ok_Hal_within hv11) rfl rfl (by decide) ⟨Nat.zero_le _, Nat.zero_le _⟩ (Nat.le_of_ble_eq_true rfl) (Nat.zero_le _) ?_
  refine V.if_ne (tgt := 40) dX10_hears_35 (by decide) (fun hc13 => ?_) (fun hc13 => ?_)
  · replace h := ite_f hc13 h
    refine V.aload_n dX10_hears_40 rfl ?_
    refine V.getR dX10_hears_41 fl_RX10_36 s0_0 rfl rfl ?_
    refine V.aload_n dX10_hears_44 rfl ?_
    refine V.getR dX10_hears_45 fl_RX10_10 s0_0 rfl rfl ?_
    refine V.iload_n dX10_hears_48 rfl ?_
    refine V.iload_n dX10_hears_49 rfl ?_
    obtain ⟨M15, hv14, h⟩ := bnd_s h
    refine V.cVv dX10_hears_50 rfl mv_RX10_172 (ok_Hea_whisperFromBench s0_Hea72 hv14) rfl rfl s0_72 rfl (by decide) ⟨Nat.zero_le _, Nat.zero_le _⟩ (Nat.le_of_ble_eq_true rfl) (Nat.zero_le _) ?_
    refine V.aload_n dX10_hears_53 rfl ?_
    refine V.getR dX10_hears_54 fl_RX10_36 s0_0 rfl rfl ?_
    refine V.aload_n dX10_hears_57 rfl ?_
    refine V.getR dX10_hears_58 fl_RX10_10 s0_0 rfl rfl ?_
    refine V.iload_n dX10_hears_61 rfl ?_
    refine V.iload_n dX10_hears_62 rfl ?_
    obtain ⟨v17, hv16, h⟩ := bnd_s h
    refine V.cVi dX10_hears_63 rfl mv_RX10_186 (ok_Hea_stepOfHearing s0_Hea72 hv16) rfl rfl s0_72 rfl (by decide) ⟨Nat.zero_le _, Nat.zero_le _⟩ (Nat.le_of_ble_eq_true rfl) (Nat.zero_le _) ?_
    refine V.istore dX10_hears_66 (by decide) rfl ?_
    refine V.iload dX10_hears_68 rfl ?_
    refine V.if_ne (tgt := 76) dX10_hears_70 (by decide) (fun hc18 => ?_) (fun hc18 => ?_)
    · replace h := ite_f hc18 h
      refine V.iload dX10_hears_76 rfl ?_
      refine V.if_ne (tgt := 94) dX10_hears_78 (by decide) (fun hc19 => ?_) (fun hc19 => ?_)
      · replace h := ite_f hc19 h
        refine V.iload dX10_hears_94 rfl ?_
        refine V.iconst dX10_hears_96 ic_1 ?_
        refine V.icmp_ne (tgt := 105) dX10_hears_97 (by decide) (fun hc20 => ?_) (fun hc20 => ?_)
        · replace h := ite_f hc20 h
          refine V.aload_n dX10_hears_105 rfl ?_
          refine V.getR dX10_hears_106 fl_RX10_36 s0_0 rfl rfl ?_
          refine V.getR dX10_hears_109 fl_RX10_176 s0_72 rfl rfl ?_
          refine V.iload dX10_hears_112 rfl ?_
          obtain ⟨v22, hv21, h⟩ := bnd_s h
          refine V.cVi dX10_hears_114 rfl mv_RX10_193 (ok_Cou_bouncesAt s0_Cou73 hv21) rfl rfl s0_73 rfl (by decide) ⟨Nat.zero_le _, Nat.zero_le _⟩ (Nat.le_of_ble_eq_true rfl) (Nat.zero_le _) ?_
          obtain ⟨e1, e2⟩ := inj2 h
          subst e1
          subst e2
          exact V.iret dX10_hears_117 rfl rfl
        replace h := ite_t hc20 h
        refine V.iload dX10_hears_100 rfl ?_
        refine V.goto (tgt := 117) dX10_hears_102 (by decide) ?_
        obtain ⟨e1, e2⟩ := inj2 h
        subst e1
        subst e2
        exact V.iret dX10_hears_117 rfl rfl
      replace h := ite_t hc19 h
      refine V.aload_n dX10_hears_81 rfl ?_
      refine V.getR dX10_hears_82 fl_RX10_36 s0_0 rfl rfl ?_
      refine V.getR dX10_hears_85 fl_RX10_176 s0_72 rfl rfl ?_
      refine V.iload dX10_hears_88 rfl ?_
      obtain ⟨v24, hv23, h⟩ := bnd_s h
      refine V.cVi dX10_hears_90 rfl mv_RX10_190 (ok_Cou_loudAt s0_Cou73 hv23) rfl rfl s0_73 rfl (by decide) ⟨Nat.zero_le _, Nat.zero_le _⟩ (Nat.le_of_ble_eq_true rfl) (Nat.zero_le _) ?_
      obtain ⟨e1, e2⟩ := inj2 h
      subst e1
      subst e2
      exact V.iret dX10_hears_93 rfl rfl
    replace h := ite_t hc18 h
    refine V.bipush dX10_hears_73 bp_m4 ?_
    obtain ⟨e1, e2⟩ := inj2 h
    subst e1
    subst e2
    exact V.iret dX10_hears_75 rfl rfl
  replace h := ite_t hc13 h
  refine V.iconst dX10_hears_38 ic_m1 ?_
  obtain ⟨e1, e2⟩ := inj2 h
  subst e1
  subst e2
  exact V.iret dX10_hears_39 rfl rfl
theorem ok_Hal_heard {X : Sc} {l : Launch}  {M : Mem} {x1 : Int32} {x2 : Int32} {r : Int32} {M' : Mem}  (h : f_Hal_heard x1 x2 M = some (r, M')) : Mt X l yX10_heard cX10_heard 3 (some .int) 4 0 0 [.ref 0, .int x1, .int x2] S0 M (some (.int r)) S0 M' := by
  refine Mt.ofV (by decide) (Nat.le_of_ble_eq_true rfl) ?_
  show V X yX10_heard cX10_heard 3 (some .int) (rmD 4 0 0) l (FM (some (.int r)) S0 M' 0 0) 0 [some (.ref 0), some (.int x1), some (.int x2)] [] S0 M 0 0
  unfold f_Hal_heard at h
  refine V.aload_n dX10_heard_0 rfl ?_
  refine V.iload_n dX10_heard_1 rfl ?_
  obtain ⟨v2, hv1, h⟩ := bnd_s h
  refine V.cVi dX10_heard_2 rfl mv_RX10_121 (ok_Hal_isBench hv1) rfl rfl s0_0 rfl (by decide) ⟨Nat.zero_le _, Nat.zero_le _⟩ (Nat.le_of_ble_eq_true rfl) (Nat.zero_le _) ?_
  refine V.if_eq (tgt := 31) dX10_heard_5 (by decide) (fun hc3 => ?_) (fun hc3 => ?_)
  · replace h := ite_t hc3 h
    refine V.iconst dX10_heard_31 ic_m1 ?_
    obtain ⟨e1, e2⟩ := inj2 h
    subst e1
    subst e2
    exact V.iret dX10_heard_32 rfl rfl
  replace h := ite_f hc3 h
  refine V.iload_n dX10_heard_8 rfl ?_
  obtain ⟨v5, hv4, h⟩ := bnd_s h
  refine V.cSi dX10_heard_9 rfl mv_RX10_124 (ok_Hal_isHour hv4) rfl rfl (by decide) ⟨Nat.zero_le _, Nat.zero_le _⟩ (Nat.le_of_ble_eq_true rfl) (Nat.zero_le _) ?_
  refine V.if_eq (tgt := 31) dX10_heard_12 (by decide) (fun hc6 => ?_) (fun hc6 => ?_)
  · replace h := ite_t hc6 h
    refine V.iconst dX10_heard_31 ic_m1 ?_
    obtain ⟨e1, e2⟩ := inj2 h
    subst e1
    subst e2
    exact V.iret dX10_heard_32 rfl rfl
  replace h := ite_f hc6 h
  refine V.aload_n dX10_heard_15 rfl ?_
  refine V.getR dX10_heard_16 fl_RX10_36 s0_0 rfl rfl ?_
  refine V.aload_n dX10_heard_19 rfl ?_
  refine V.getR dX10_heard_20 fl_RX10_10 s0_0 rfl rfl ?_
  refine V.iload_n dX10_heard_23 rfl ?_
  refine V.iload_n dX10_heard_24 rfl ?_
  obtain ⟨v8, M9, hv7, h⟩ := bnd2_s h
  refine V.cVi dX10_heard_25 rfl mv_RX10_196 (ok_Hea_hearersOf s0_Hea72 hv7) rfl rfl s0_72 rfl (by decide) ⟨Nat.zero_le _, Nat.zero_le _⟩ (Nat.le_of_ble_eq_true rfl) (Nat.zero_le _) ?_
  refine V.goto (tgt := 32) dX10_heard_28 (by decide) ?_
  obtain ⟨e1, e2⟩ := inj2 h
  subst e1
  subst e2
  exact V.iret dX10_heard_32 rfl rfl
theorem okc_Hal_answer_34 {X : Sc} {l : Launch}     : ∀ (n : Nat) (x1 : Int32) (x2 : Int32) (x3 : Int32) (x4 : Int32) (M : Mem) (r : Int32) (M' : Mem), f_Hal_answer_L34  n x1 x2 x3 x4 M = some (r, M') → V X yX10_answer cX10_answer 5 (some .int) (rmD 4 0 0) l (FM (some (.int r)) S0 M' 0 0) 34 [some (.ref 0), some (.int x1), some (.int x2), some (.int x3), some (.int x4)] [] S0 M 0 0 := by
  intro n
  induction n with
  | zero =>
    intro x1 x2 x3 x4 M r M' h
    rw [f_Hal_answer_L34] at h
    cases h
  | succ n ih =>
    intro x1 x2 x3 x4 M r M' h
    rw [f_Hal_answer_L34] at h
    refine V.iload dX10_answer_34 rfl ?_
    refine V.aload_n dX10_answer_36 rfl ?_
    refine V.getR dX10_answer_37 fl_RX10_10 s0_0 rfl rfl ?_
    refine V.getR dX10_answer_40 fl_RX10_127 s0_1 rfl rfl ?_
    refine V.getI dX10_answer_43 fl_RX10_199 s0_4 rfl rfl ?_
    refine V.icmp_ge (tgt := 91) dX10_answer_46 (by decide) (fun hc1 => ?_) (fun hc1 => ?_)
    · replace h := ite_t hc1 h
      refine V.bipush dX10_answer_91 bp_m4 ?_
      obtain ⟨e1, e2⟩ := inj2 h
      subst e1
      subst e2
      exact V.iret dX10_answer_93 rfl rfl
    replace h := ite_f hc1 h
    refine V.iload_n dX10_answer_49 rfl ?_
    refine V.iconst dX10_answer_50 ic_1 ?_
    refine V.iload dX10_answer_51 rfl ?_
    refine V.ishl dX10_answer_53 ?_
    refine V.icmp_ne (tgt := 85) dX10_answer_54 (by decide) (fun hc2 => ?_) (fun hc2 => ?_)
    · replace h := ite_f hc2 h
      refine V.iinc dX10_answer_85 rfl (iinc_c ic_1) (by decide) rfl ?_
      refine V.goto (tgt := 34) dX10_answer_88 (by decide) ?_
      exact ih _ _ _ _ _ _ _ h
    replace h := ite_t hc2 h
    refine V.aload_n dX10_answer_57 rfl ?_
    refine V.getR dX10_answer_58 fl_RX10_36 s0_0 rfl rfl ?_
    refine V.aload_n dX10_answer_61 rfl ?_
    refine V.getR dX10_answer_62 fl_RX10_10 s0_0 rfl rfl ?_
    refine V.iload dX10_answer_65 rfl ?_
    refine V.iload_n dX10_answer_67 rfl ?_
    obtain ⟨v4, M5, hv3, h⟩ := bnd2_s h
    refine V.cVi dX10_answer_68 rfl mv_RX10_196 (ok_Hea_hearersOf s0_Hea72 hv3) rfl rfl s0_72 rfl (by decide) ⟨Nat.zero_le _, Nat.zero_le _⟩ (Nat.le_of_ble_eq_true rfl) (Nat.zero_le _) ?_
    refine V.iconst dX10_answer_71 ic_1 ?_
    refine V.iload_n dX10_answer_72 rfl ?_
    refine V.ishl dX10_answer_73 ?_
    refine V.icmp_ne (tgt := 82) dX10_answer_74 (by decide) (fun hc6 => ?_) (fun hc6 => ?_)
    · replace h := ite_f hc6 h
      refine V.bipush dX10_answer_82 bp_m4 ?_
      obtain ⟨e1, e2⟩ := inj2 h
      subst e1
      subst e2
      exact V.iret dX10_answer_84 rfl rfl
    replace h := ite_t hc6 h
    refine V.iload dX10_answer_77 rfl ?_
    refine V.goto (tgt := 84) dX10_answer_79 (by decide) ?_
    obtain ⟨e1, e2⟩ := inj2 h
    subst e1
    subst e2
    exact V.iret dX10_answer_84 rfl rfl
theorem ok_Hal_answer {X : Sc} {l : Launch}  {M : Mem} {x1 : Int32} {x2 : Int32} {r : Int32} {M' : Mem}  (h : f_Hal_answer x1 x2 M = some (r, M')) : Mt X l yX10_answer cX10_answer 5 (some .int) 4 0 0 [.ref 0, .int x1, .int x2] S0 M (some (.int r)) S0 M' := by
  refine Mt.ofV (by decide) (Nat.le_of_ble_eq_true rfl) ?_
  show V X yX10_answer cX10_answer 5 (some .int) (rmD 4 0 0) l (FM (some (.int r)) S0 M' 0 0) 0 [some (.ref 0), some (.int x1), some (.int x2), none, none] [] S0 M 0 0
  unfold f_Hal_answer at h
  refine V.aload_n dX10_answer_0 rfl ?_
  refine V.iload_n dX10_answer_1 rfl ?_
  obtain ⟨v2, hv1, h⟩ := bnd_s h
  refine V.cVi dX10_answer_2 rfl mv_RX10_121 (ok_Hal_isBench hv1) rfl rfl s0_0 rfl (by decide) ⟨Nat.zero_le _, Nat.zero_le _⟩ (Nat.le_of_ble_eq_true rfl) (Nat.zero_le _) ?_
  refine V.if_eq (tgt := 15) dX10_answer_5 (by decide) (fun hc3 => ?_) (fun hc3 => ?_)
  · replace h := ite_t hc3 h
    refine V.iconst dX10_answer_15 ic_m1 ?_
    obtain ⟨e1, e2⟩ := inj2 h
    subst e1
    subst e2
    exact V.iret dX10_answer_16 rfl rfl
  replace h := ite_f hc3 h
  refine V.iload_n dX10_answer_8 rfl ?_
  obtain ⟨v5, hv4, h⟩ := bnd_s h
  refine V.cSi dX10_answer_9 rfl mv_RX10_124 (ok_Hal_isHour hv4) rfl rfl (by decide) ⟨Nat.zero_le _, Nat.zero_le _⟩ (Nat.le_of_ble_eq_true rfl) (Nat.zero_le _) ?_
  refine V.if_ne (tgt := 17) dX10_answer_12 (by decide) (fun hc6 => ?_) (fun hc6 => ?_)
  · replace h := ite_f hc6 h
    refine V.aload_n dX10_answer_17 rfl ?_
    refine V.getR dX10_answer_18 fl_RX10_36 s0_0 rfl rfl ?_
    refine V.aload_n dX10_answer_21 rfl ?_
    refine V.getR dX10_answer_22 fl_RX10_10 s0_0 rfl rfl ?_
    refine V.iload_n dX10_answer_25 rfl ?_
    refine V.iload_n dX10_answer_26 rfl ?_
    obtain ⟨v8, M9, hv7, h⟩ := bnd2_s h
    refine V.cVi dX10_answer_27 rfl mv_RX10_196 (ok_Hea_hearersOf s0_Hea72 hv7) rfl rfl s0_72 rfl (by decide) ⟨Nat.zero_le _, Nat.zero_le _⟩ (Nat.le_of_ble_eq_true rfl) (Nat.zero_le _) ?_
    refine V.istore_n dX10_answer_30 (by decide) rfl ?_
    refine V.iconst dX10_answer_31 ic_0 ?_
    refine V.istore dX10_answer_32 (by decide) rfl ?_
    exact okc_Hal_answer_34 _ _ _ _ _ _ _ _ h
  replace h := ite_t hc6 h
  refine V.iconst dX10_answer_15 ic_m1 ?_
  obtain ⟨e1, e2⟩ := inj2 h
  subst e1
  subst e2
  exact V.iret dX10_answer_16 rfl rfl
theorem ok_Hal_can {X : Sc} {l : Launch}  {M : Mem} {x1 : Int32} {x2 : Int32} {x3 : Int32} {r : Int32} {M' : Mem}  (h : f_Hal_can x1 x2 x3 M = some (r, M')) : Mt X l yX10_can cX10_can 4 (some .int) 5 0 0 [.ref 0, .int x1, .int x2, .int x3] S0 M (some (.int r)) S0 M' := by
  refine Mt.ofV (by decide) (Nat.le_of_ble_eq_true rfl) ?_
  show V X yX10_can cX10_can 4 (some .int) (rmD 5 0 0) l (FM (some (.int r)) S0 M' 0 0) 0 [some (.ref 0), some (.int x1), some (.int x2), some (.int x3)] [] S0 M 0 0
  unfold f_Hal_can at h
  refine V.aload_n dX10_can_0 rfl ?_
  refine V.iload_n dX10_can_1 rfl ?_
  obtain ⟨v2, hv1, h⟩ := bnd_s h
  refine V.cVi dX10_can_2 rfl mv_RX10_166 (ok_Hal_isOne hv1) rfl rfl s0_0 rfl (by decide) ⟨Nat.zero_le _, Nat.zero_le _⟩ (Nat.le_of_ble_eq_true rfl) (Nat.zero_le _) ?_
  refine V.if_eq (tgt := 28) dX10_can_5 (by decide) (fun hc3 => ?_) (fun hc3 => ?_)
  · replace h := ite_t hc3 h
    refine V.iconst dX10_can_28 ic_m1 ?_
    obtain ⟨e1, e2⟩ := inj2 h
    subst e1
    subst e2
    exact V.iret dX10_can_29 rfl rfl
  replace h := ite_f hc3 h
  refine V.aload_n dX10_can_8 rfl ?_
  refine V.iload_n dX10_can_9 rfl ?_
  obtain ⟨v5, hv4, h⟩ := bnd_s h
  refine V.cVi dX10_can_10 rfl mv_RX10_166 (ok_Hal_isOne hv4) rfl rfl s0_0 rfl (by decide) ⟨Nat.zero_le _, Nat.zero_le _⟩ (Nat.le_of_ble_eq_true rfl) (Nat.zero_le _) ?_
  refine V.if_eq (tgt := 28) dX10_can_13 (by decide) (fun hc6 => ?_) (fun hc6 => ?_)
  · replace h := ite_t hc6 h
    refine V.iconst dX10_can_28 ic_m1 ?_
    obtain ⟨e1, e2⟩ := inj2 h
    subst e1
    subst e2
    exact V.iret dX10_can_29 rfl rfl
  replace h := ite_f hc6 h
  refine V.iload_n dX10_can_16 rfl ?_
  refine V.iload_n dX10_can_17 rfl ?_
  refine V.icmp_eq (tgt := 28) dX10_can_18 (by decide) (fun hc7 => ?_) (fun hc7 => ?_)
  · replace h := ite_t hc7 h
    refine V.iconst dX10_can_28 ic_m1 ?_
    obtain ⟨e1, e2⟩ := inj2 h
    subst e1
    subst e2
    exact V.iret dX10_can_29 rfl rfl
  replace h := ite_f hc7 h
  refine V.iload_n dX10_can_21 rfl ?_
  obtain ⟨v9, hv8, h⟩ := bnd_s h
  refine V.cSi dX10_can_22 rfl mv_RX10_124 (ok_Hal_isHour hv8) rfl rfl (by decide) ⟨Nat.zero_le _, Nat.zero_le _⟩ (Nat.le_of_ble_eq_true rfl) (Nat.zero_le _) ?_
  refine V.if_ne (tgt := 30) dX10_can_25 (by decide) (fun hc10 => ?_) (fun hc10 => ?_)
  · replace h := ite_f hc10 h
    refine V.aload_n dX10_can_30 rfl ?_
    refine V.getR dX10_can_31 fl_RX10_36 s0_0 rfl rfl ?_
    refine V.aload_n dX10_can_34 rfl ?_
    refine V.getR dX10_can_35 fl_RX10_10 s0_0 rfl rfl ?_
    refine V.iload_n dX10_can_38 rfl ?_
    refine V.iload_n dX10_can_39 rfl ?_
    obtain ⟨v12, M13, hv11, h⟩ := bnd2_s h
    refine V.cVi dX10_can_40 rfl mv_RX10_202 (ok_Hea_peopleHearing s0_Hea72 hv11) rfl rfl s0_72 rfl (by decide) ⟨Nat.zero_le _, Nat.zero_le _⟩ (Nat.le_of_ble_eq_true rfl) (Nat.zero_le _) ?_
    refine V.iload_n dX10_can_43 rfl ?_
    obtain ⟨v15, hv14, h⟩ := bnd_s h
    refine V.cSi dX10_can_44 rfl mv_RX10_205 (ok_Hal_bit hv14) rfl rfl (by decide) ⟨Nat.zero_le _, Nat.zero_le _⟩ (Nat.le_of_ble_eq_true rfl) (Nat.zero_le _) ?_
    obtain ⟨e1, e2⟩ := inj2 h
    subst e1
    subst e2
    exact V.iret dX10_can_47 rfl rfl
  replace h := ite_t hc10 h
  refine V.iconst dX10_can_28 ic_m1 ?_
  obtain ⟨e1, e2⟩ := inj2 h
  subst e1
  subst e2
  exact V.iret dX10_can_29 rfl rfl
theorem ok_Hal_broken {X : Sc} {l : Launch}  {M : Mem} {x1 : Int32} {r : Int32} {M' : Mem}  (h : f_Hal_broken x1 M = some (r, M')) : Mt X l yX10_broken cX10_broken 2 (some .int) 6 0 0 [.ref 0, .int x1] S0 M (some (.int r)) S0 M' := by
  refine Mt.ofV (by decide) (Nat.le_of_ble_eq_true rfl) ?_
  show V X yX10_broken cX10_broken 2 (some .int) (rmD 6 0 0) l (FM (some (.int r)) S0 M' 0 0) 0 [some (.ref 0), some (.int x1)] [] S0 M 0 0
  unfold f_Hal_broken at h
  refine V.iload_n dX10_broken_0 rfl ?_
  obtain ⟨v2, hv1, h⟩ := bnd_s h
  refine V.cSi dX10_broken_1 rfl mv_RX10_124 (ok_Hal_isHour hv1) rfl rfl (by decide) ⟨Nat.zero_le _, Nat.zero_le _⟩ (Nat.le_of_ble_eq_true rfl) (Nat.zero_le _) ?_
  refine V.if_eq (tgt := 22) dX10_broken_4 (by decide) (fun hc3 => ?_) (fun hc3 => ?_)
  · replace h := ite_t hc3 h
    refine V.iconst dX10_broken_22 ic_m1 ?_
    obtain ⟨e1, e2⟩ := inj2 h
    subst e1
    subst e2
    exact V.iret dX10_broken_23 rfl rfl
  replace h := ite_f hc3 h
  refine V.aload_n dX10_broken_7 rfl ?_
  refine V.getR dX10_broken_8 fl_RX10_36 s0_0 rfl rfl ?_
  refine V.aload_n dX10_broken_11 rfl ?_
  refine V.getR dX10_broken_12 fl_RX10_10 s0_0 rfl rfl ?_
  refine V.iload_n dX10_broken_15 rfl ?_
  obtain ⟨v5, M6, hv4, h⟩ := bnd2_s h
  refine V.cVi dX10_broken_16 rfl mv_RX10_208 (ok_Hea_brokenWants s0_Hea72 hv4) rfl rfl s0_72 rfl (by decide) ⟨Nat.zero_le _, Nat.zero_le _⟩ (Nat.le_of_ble_eq_true rfl) (Nat.zero_le _) ?_
  refine V.goto (tgt := 23) dX10_broken_19 (by decide) ?_
  obtain ⟨e1, e2⟩ := inj2 h
  subst e1
  subst e2
  exact V.iret dX10_broken_23 rfl rfl
theorem okc_Hal_seating_45 {X : Sc} {l : Launch}     {x1 : Int32} {x2 : Int32} {x3 : Int32} {M : Mem} {r : Int32} {M' : Mem} (h : f_Hal_seating_J45  x1 x2 x3 M = some (r, M')) : V X yX10_seating cX10_seating 4 (some .int) (rmD 17 0 0) l (FM (some (.int r)) S0 M' 0 0) 45 [some (.ref 0), some (.int x1), some (.int x2), some (.int x3)] [] S0 M 0 0 := by
  unfold f_Hal_seating_J45 at h
  refine V.aload_n dX10_seating_45 rfl ?_
  refine V.getR dX10_seating_46 fl_RX10_50 s0_0 rfl rfl ?_
  refine V.aload_n dX10_seating_49 rfl ?_
  refine V.getR dX10_seating_50 fl_RX10_10 s0_0 rfl rfl ?_
  refine V.iload_n dX10_seating_53 rfl ?_
  obtain ⟨M2, hv1, h⟩ := bnd_s h
  refine V.cVv dX10_seating_54 rfl mv_RX10_212 (ok_Sea_search hv1) rfl rfl s0_86 rfl (by decide) ⟨Nat.zero_le _, Nat.zero_le _⟩ (Nat.le_of_ble_eq_true rfl) (Nat.zero_le _) ?_
  refine V.iload_n dX10_seating_57 rfl ?_
  refine V.if_eq (tgt := 73) dX10_seating_58 (by decide) (fun hc3 => ?_) (fun hc3 => ?_)
  · replace h := ite_t hc3 h
    refine V.iload_n dX10_seating_73 rfl ?_
    refine V.if_ne (tgt := 87) dX10_seating_74 (by decide) (fun hc4 => ?_) (fun hc4 => ?_)
    · replace h := ite_f hc4 h
      refine V.aload_n dX10_seating_87 rfl ?_
      refine V.getR dX10_seating_88 fl_RX10_50 s0_0 rfl rfl ?_
      refine V.getI dX10_seating_91 fl_RX10_222 s0_86 rfl rfl ?_
      obtain ⟨e1, e2⟩ := inj2 h
      subst e1
      subst e2
      exact V.iret dX10_seating_94 rfl rfl
    replace h := ite_t hc4 h
    refine V.aload_n dX10_seating_77 rfl ?_
    refine V.getR dX10_seating_78 fl_RX10_50 s0_0 rfl rfl ?_
    refine V.getI dX10_seating_81 fl_RX10_219 s0_86 rfl rfl ?_
    refine V.goto (tgt := 94) dX10_seating_84 (by decide) ?_
    obtain ⟨e1, e2⟩ := inj2 h
    subst e1
    subst e2
    exact V.iret dX10_seating_94 rfl rfl
  replace h := ite_f hc3 h
  refine V.aload_n dX10_seating_61 rfl ?_
  refine V.getR dX10_seating_62 fl_RX10_50 s0_0 rfl rfl ?_
  refine V.iload_n dX10_seating_65 rfl ?_
  refine V.bipush dX10_seating_66 bp_10 ?_
  refine V.isub dX10_seating_68 ?_
  obtain ⟨v6, hv5, h⟩ := bnd_s h
  refine V.cVi dX10_seating_69 rfl mv_RX10_216 (ok_Sea_benchInFirst hv5) rfl rfl s0_86 rfl (by decide) ⟨Nat.zero_le _, Nat.zero_le _⟩ (Nat.le_of_ble_eq_true rfl) (Nat.zero_le _) ?_
  obtain ⟨e1, e2⟩ := inj2 h
  subst e1
  subst e2
  exact V.iret dX10_seating_72 rfl rfl
theorem okc_Hal_seating_22 {X : Sc} {l : Launch}     {x1 : Int32} {x2 : Int32} {s0 : Int32} {M : Mem} {r : Int32} {M' : Mem} (h : f_Hal_seating_J22  x1 x2 s0 M = some (r, M')) : V X yX10_seating cX10_seating 4 (some .int) (rmD 17 0 0) l (FM (some (.int r)) S0 M' 0 0) 22 [some (.ref 0), some (.int x1), some (.int x2), none] [.int s0] S0 M 0 0 := by
  unfold f_Hal_seating_J22 at h
  refine V.istore_n dX10_seating_22 (by decide) rfl ?_
  refine V.iload_n dX10_seating_23 rfl ?_
  obtain ⟨v2, hv1, h⟩ := bnd_s h
  refine V.cSi dX10_seating_24 rfl mv_RX10_124 (ok_Hal_isHour hv1) rfl rfl (by decide) ⟨Nat.zero_le _, Nat.zero_le _⟩ (Nat.le_of_ble_eq_true rfl) (Nat.zero_le _) ?_
  refine V.if_eq (tgt := 43) dX10_seating_27 (by decide) (fun hc3 => ?_) (fun hc3 => ?_)
  · replace h := ite_t hc3 h
    refine V.iconst dX10_seating_43 ic_m1 ?_
    obtain ⟨e1, e2⟩ := inj2 h
    subst e1
    subst e2
    exact V.iret dX10_seating_44 rfl rfl
  replace h := ite_f hc3 h
  refine V.iload_n dX10_seating_30 rfl ?_
  refine V.iconst dX10_seating_31 ic_0 ?_
  refine V.iconst dX10_seating_32 ic_1 ?_
  obtain ⟨v5, hv4, h⟩ := bnd_s h
  refine V.cSi dX10_seating_33 rfl mv_RX10_77 (ok_Hal_within hv4) rfl rfl (by decide) ⟨Nat.zero_le _, Nat.zero_le _⟩ (Nat.le_of_ble_eq_true rfl) (Nat.zero_le _) ?_
  refine V.if_ne (tgt := 45) dX10_seating_36 (by decide) (fun hc6 => ?_) (fun hc6 => ?_)
  · replace h := ite_f hc6 h
    exact okc_Hal_seating_45 h
  replace h := ite_t hc6 h
  refine V.iload_n dX10_seating_39 rfl ?_
  refine V.if_ne (tgt := 45) dX10_seating_40 (by decide) (fun hc7 => ?_) (fun hc7 => ?_)
  · replace h := ite_f hc7 h
    exact okc_Hal_seating_45 h
  replace h := ite_t hc7 h
  refine V.iconst dX10_seating_43 ic_m1 ?_
  obtain ⟨e1, e2⟩ := inj2 h
  subst e1
  subst e2
  exact V.iret dX10_seating_44 rfl rfl
theorem okc_Hal_seating_21 {X : Sc} {l : Launch}     {x1 : Int32} {x2 : Int32} {M : Mem} {r : Int32} {M' : Mem} (h : f_Hal_seating_J21  x1 x2 M = some (r, M')) : V X yX10_seating cX10_seating 4 (some .int) (rmD 17 0 0) l (FM (some (.int r)) S0 M' 0 0) 21 [some (.ref 0), some (.int x1), some (.int x2), none] [] S0 M 0 0 := by
  unfold f_Hal_seating_J21 at h
  refine V.iconst dX10_seating_21 ic_0 ?_
  exact okc_Hal_seating_22 h
theorem ok_Hal_seating {X : Sc} {l : Launch}  {M : Mem} {x1 : Int32} {x2 : Int32} {r : Int32} {M' : Mem}  (h : f_Hal_seating x1 x2 M = some (r, M')) : Mt X l yX10_seating cX10_seating 4 (some .int) 17 0 0 [.ref 0, .int x1, .int x2] S0 M (some (.int r)) S0 M' := by
  refine Mt.ofV (by decide) (Nat.le_of_ble_eq_true rfl) ?_
  show V X yX10_seating cX10_seating 4 (some .int) (rmD 17 0 0) l (FM (some (.int r)) S0 M' 0 0) 0 [some (.ref 0), some (.int x1), some (.int x2), none] [] S0 M 0 0
  unfold f_Hal_seating at h
  refine V.iload_n dX10_seating_0 rfl ?_
  refine V.bipush dX10_seating_1 bp_10 ?_
  refine V.icmp_lt (tgt := 21) dX10_seating_3 (by decide) (fun hc1 => ?_) (fun hc1 => ?_)
  · replace h := ite_t hc1 h
    exact okc_Hal_seating_21 h
  replace h := ite_f hc1 h
  refine V.aload_n dX10_seating_6 rfl ?_
  refine V.iload_n dX10_seating_7 rfl ?_
  refine V.bipush dX10_seating_8 bp_10 ?_
  refine V.isub dX10_seating_10 ?_
  obtain ⟨v3, hv2, h⟩ := bnd_s h
  refine V.cVi dX10_seating_11 rfl mv_RX10_166 (ok_Hal_isOne hv2) rfl rfl s0_0 rfl (by decide) ⟨Nat.zero_le _, Nat.zero_le _⟩ (Nat.le_of_ble_eq_true rfl) (Nat.zero_le _) ?_
  refine V.if_eq (tgt := 21) dX10_seating_14 (by decide) (fun hc4 => ?_) (fun hc4 => ?_)
  · replace h := ite_t hc4 h
    exact okc_Hal_seating_21 h
  replace h := ite_f hc4 h
  refine V.iconst dX10_seating_17 ic_1 ?_
  refine V.goto (tgt := 22) dX10_seating_18 (by decide) ?_
  exact okc_Hal_seating_22 h
theorem ok_Int_bitCount {X : Sc} {l : Launch} {sh : List Shp}  {M : Mem} {x0 : Int32} {r : Int32}  (h : f_Int_bitCount x0 = some r) : Mt X l yJ6_bitCount_0f7a4 cJ6_bitCount_0f7a4 1 (some .int) 0 0 0 [.int x0] sh M (some (.int r)) sh M := by
  refine Mt.ofV (by decide) (Nat.le_of_ble_eq_true rfl) ?_
  show V X yJ6_bitCount_0f7a4 cJ6_bitCount_0f7a4 1 (some .int) (rmD 0 0 0) l (FM (some (.int r)) sh M 0 0) 0 [some (.int x0)] [] sh M 0 0
  unfold f_Int_bitCount at h
  refine V.iload_n dJ6_bitCount_0f7a4_0 rfl ?_
  refine V.iload_n dJ6_bitCount_0f7a4_1 rfl ?_
  refine V.iconst dJ6_bitCount_0f7a4_2 ic_1 ?_
  refine V.iushr dJ6_bitCount_0f7a4_3 ?_
  refine V.ldcw dJ6_bitCount_0f7a4_4 rfl kc_RJ6_265 ?_
  refine V.iand dJ6_bitCount_0f7a4_7 ?_
  refine V.isub dJ6_bitCount_0f7a4_8 ?_
  refine V.nmI (fun w1 hw1 => ?_)
  replace h := nmI_at h w1 hw1
  refine V.istore_n dJ6_bitCount_0f7a4_9 (by decide) rfl ?_
  refine V.iload_n dJ6_bitCount_0f7a4_10 rfl ?_
  refine V.ldcw dJ6_bitCount_0f7a4_11 rfl kc_RJ6_266 ?_
  refine V.iand dJ6_bitCount_0f7a4_14 ?_
  refine V.iload_n dJ6_bitCount_0f7a4_15 rfl ?_
  refine V.iconst dJ6_bitCount_0f7a4_16 ic_2 ?_
  refine V.iushr dJ6_bitCount_0f7a4_17 ?_
  refine V.ldcw dJ6_bitCount_0f7a4_18 rfl kc_RJ6_266 ?_
  refine V.iand dJ6_bitCount_0f7a4_21 ?_
  refine V.iadd dJ6_bitCount_0f7a4_22 ?_
  refine V.nmI (fun w2 hw2 => ?_)
  replace h := nmI_at h w2 hw2
  refine V.istore_n dJ6_bitCount_0f7a4_23 (by decide) rfl ?_
  refine V.iload_n dJ6_bitCount_0f7a4_24 rfl ?_
  refine V.iload_n dJ6_bitCount_0f7a4_25 rfl ?_
  refine V.iconst dJ6_bitCount_0f7a4_26 ic_4 ?_
  refine V.iushr dJ6_bitCount_0f7a4_27 ?_
  refine V.iadd dJ6_bitCount_0f7a4_28 ?_
  refine V.ldcw dJ6_bitCount_0f7a4_29 rfl kc_RJ6_267 ?_
  refine V.iand dJ6_bitCount_0f7a4_32 ?_
  refine V.nmI (fun w3 hw3 => ?_)
  replace h := nmI_at h w3 hw3
  refine V.istore_n dJ6_bitCount_0f7a4_33 (by decide) rfl ?_
  refine V.iload_n dJ6_bitCount_0f7a4_34 rfl ?_
  refine V.iload_n dJ6_bitCount_0f7a4_35 rfl ?_
  refine V.bipush dJ6_bitCount_0f7a4_36 bp_8 ?_
  refine V.iushr dJ6_bitCount_0f7a4_38 ?_
  refine V.iadd dJ6_bitCount_0f7a4_39 ?_
  refine V.nmI (fun w4 hw4 => ?_)
  replace h := nmI_at h w4 hw4
  refine V.istore_n dJ6_bitCount_0f7a4_40 (by decide) rfl ?_
  refine V.iload_n dJ6_bitCount_0f7a4_41 rfl ?_
  refine V.iload_n dJ6_bitCount_0f7a4_42 rfl ?_
  refine V.bipush dJ6_bitCount_0f7a4_43 bp_16 ?_
  refine V.iushr dJ6_bitCount_0f7a4_45 ?_
  refine V.iadd dJ6_bitCount_0f7a4_46 ?_
  refine V.nmI (fun w5 hw5 => ?_)
  replace h := nmI_at h w5 hw5
  refine V.istore_n dJ6_bitCount_0f7a4_47 (by decide) rfl ?_
  refine V.iload_n dJ6_bitCount_0f7a4_48 rfl ?_
  refine V.bipush dJ6_bitCount_0f7a4_49 bp_63 ?_
  refine V.iand dJ6_bitCount_0f7a4_51 ?_
  have e1 := inj1 h
  subst e1
  exact V.iret dJ6_bitCount_0f7a4_52 rfl rfl
theorem ok_Hal_mayBecome {X : Sc} {l : Launch}  {M : Mem} {x1 : Int32} {x2 : Int32} {x3 : Int32} {r : Int32}  (h : f_Hal_mayBecome M x1 x2 x3 = some r) : Mt X l yX10_mayBecome cX10_mayBecome 4 (some .boolean) 3 0 0 [.ref 0, .int x1, .int x2, .int x3] S0 M (some (.int r)) S0 M := by
  refine Mt.ofV (by decide) (Nat.le_of_ble_eq_true rfl) ?_
  show V X yX10_mayBecome cX10_mayBecome 4 (some .boolean) (rmD 3 0 0) l (FM (some (.int r)) S0 M 0 0) 0 [some (.ref 0), some (.int x1), some (.int x2), some (.int x3)] [] S0 M 0 0
  unfold f_Hal_mayBecome at h
  refine V.iload_n dX10_mayBecome_0 rfl ?_
  refine V.if_ne (tgt := 32) dX10_mayBecome_1 (by decide) (fun hc1 => ?_) (fun hc1 => ?_)
  · replace h := ite_f hc1 h
    refine V.aload_n dX10_mayBecome_32 rfl ?_
    refine V.getR dX10_mayBecome_33 fl_RX10_10 s0_0 rfl rfl ?_
    refine V.iload_n dX10_mayBecome_36 rfl ?_
    obtain ⟨v3, hv2, h⟩ := bnd_s h
    refine V.cVi dX10_mayBecome_37 rfl mv_RX10_287 (ok_Tol_isFree s0_Tol1 hv2) rfl rfl s0_1 rfl (by decide) ⟨Nat.zero_le _, Nat.zero_le _⟩ (Nat.le_of_ble_eq_true rfl) (Nat.zero_le _) ?_
    refine V.if_eq (tgt := 59) dX10_mayBecome_40 (by decide) (fun hc4 => ?_) (fun hc4 => ?_)
    · replace h := ite_t hc4 h
      refine V.iconst dX10_mayBecome_59 ic_0 ?_
      have e1 := inj1 h
      subst e1
      exact V.iret dX10_mayBecome_60 rfl rfl
    replace h := ite_f hc4 h
    refine V.aload_n dX10_mayBecome_43 rfl ?_
    refine V.getR dX10_mayBecome_44 fl_RX10_10 s0_0 rfl rfl ?_
    refine V.iload_n dX10_mayBecome_47 rfl ?_
    refine V.iload_n dX10_mayBecome_48 rfl ?_
    obtain ⟨v6, hv5, h⟩ := bnd_s h
    refine V.cVi dX10_mayBecome_49 rfl mv_RX10_331 (ok_Tol_anyBenchOn s0_Tol1 hv5) rfl rfl s0_1 rfl (by decide) ⟨Nat.zero_le _, Nat.zero_le _⟩ (Nat.le_of_ble_eq_true rfl) (Nat.zero_le _) ?_
    refine V.if_ne (tgt := 59) dX10_mayBecome_52 (by decide) (fun hc7 => ?_) (fun hc7 => ?_)
    · replace h := ite_f hc7 h
      refine V.iconst dX10_mayBecome_59 ic_0 ?_
      have e1 := inj1 h
      subst e1
      exact V.iret dX10_mayBecome_60 rfl rfl
    replace h := ite_t hc7 h
    refine V.iconst dX10_mayBecome_55 ic_1 ?_
    refine V.goto (tgt := 60) dX10_mayBecome_56 (by decide) ?_
    have e1 := inj1 h
    subst e1
    exact V.iret dX10_mayBecome_60 rfl rfl
  replace h := ite_t hc1 h
  refine V.aload_n dX10_mayBecome_4 rfl ?_
  refine V.getR dX10_mayBecome_5 fl_RX10_10 s0_0 rfl rfl ?_
  refine V.iload_n dX10_mayBecome_8 rfl ?_
  obtain ⟨v9, hv8, h⟩ := bnd_s h
  refine V.cVi dX10_mayBecome_9 rfl mv_RX10_113 (ok_Tol_isCell s0_Tol1 hv8) rfl rfl s0_1 rfl (by decide) ⟨Nat.zero_le _, Nat.zero_le _⟩ (Nat.le_of_ble_eq_true rfl) (Nat.zero_le _) ?_
  refine V.if_eq (tgt := 30) dX10_mayBecome_12 (by decide) (fun hc10 => ?_) (fun hc10 => ?_)
  · replace h := ite_t hc10 h
    refine V.iconst dX10_mayBecome_30 ic_0 ?_
    have e1 := inj1 h
    subst e1
    exact V.iret dX10_mayBecome_31 rfl rfl
  replace h := ite_f hc10 h
  refine V.aload_n dX10_mayBecome_15 rfl ?_
  refine V.getR dX10_mayBecome_16 fl_RX10_10 s0_0 rfl rfl ?_
  refine V.iload_n dX10_mayBecome_19 rfl ?_
  obtain ⟨v12, hv11, h⟩ := bnd_s h
  refine V.cVi dX10_mayBecome_20 rfl mv_RX10_287 (ok_Tol_isFree s0_Tol1 hv11) rfl rfl s0_1 rfl (by decide) ⟨Nat.zero_le _, Nat.zero_le _⟩ (Nat.le_of_ble_eq_true rfl) (Nat.zero_le _) ?_
  refine V.if_ne (tgt := 30) dX10_mayBecome_23 (by decide) (fun hc13 => ?_) (fun hc13 => ?_)
  · replace h := ite_f hc13 h
    refine V.iconst dX10_mayBecome_30 ic_0 ?_
    have e1 := inj1 h
    subst e1
    exact V.iret dX10_mayBecome_31 rfl rfl
  replace h := ite_t hc13 h
  refine V.iconst dX10_mayBecome_26 ic_1 ?_
  refine V.goto (tgt := 31) dX10_mayBecome_27 (by decide) ?_
  have e1 := inj1 h
  subst e1
  exact V.iret dX10_mayBecome_31 rfl rfl
theorem okc_Hal_bestChange_24 {X : Sc} {l : Launch}     : ∀ (n : Nat) (x1 : Int32) (x2 : Int32) (x3 : Int32) (x4 : Int32) (x5 : Int32) (x6 : Int32) (M : Mem) (r : Int32) (M' : Mem), f_Hal_bestChange_L24  n x1 x2 x3 x4 x5 x6 M = some (r, M') → V X yX10_bestChange cX10_bestChange 9 (some .int) (rmD 6 0 0) l (FM (some (.int r)) S0 M' 0 0) 24 [some (.ref 0), some (.int x1), some (.int x2), some (.int x3), some (.int x4), some (.int x5), some (.int x6), none, none] [] S0 M 0 0 := by
  intro n
  induction n with
  | zero =>
    intro x1 x2 x3 x4 x5 x6 M r M' h
    rw [f_Hal_bestChange_L24] at h
    cases h
  | succ n ih =>
    intro x1 x2 x3 x4 x5 x6 M r M' h
    rw [f_Hal_bestChange_L24] at h
    refine V.iload dX10_bestChange_24 rfl ?_
    refine V.bipush dX10_bestChange_26 bp_81 ?_
    refine V.icmp_ge (tgt := 112) dX10_bestChange_28 (by decide) (fun hc1 => ?_) (fun hc1 => ?_)
    · replace h := ite_t hc1 h
      refine V.iload dX10_bestChange_112 rfl ?_
      refine V.bipush dX10_bestChange_114 bp_m4 ?_
      refine V.icmp_eq (tgt := 123) dX10_bestChange_116 (by decide) (fun hc2 => ?_) (fun hc2 => ?_)
      · replace h := ite_t hc2 h
        refine V.iload dX10_bestChange_123 rfl ?_
        refine V.goto (tgt := 130) dX10_bestChange_125 (by decide) ?_
        obtain ⟨e1, e2⟩ := inj2 h
        subst e1
        subst e2
        exact V.iret dX10_bestChange_130 rfl rfl
      replace h := ite_f hc2 h
      refine V.iload_n dX10_bestChange_119 rfl ?_
      refine V.if_ne (tgt := 128) dX10_bestChange_120 (by decide) (fun hc3 => ?_) (fun hc3 => ?_)
      · replace h := ite_f hc3 h
        refine V.iload dX10_bestChange_128 rfl ?_
        obtain ⟨e1, e2⟩ := inj2 h
        subst e1
        subst e2
        exact V.iret dX10_bestChange_130 rfl rfl
      replace h := ite_t hc3 h
      refine V.iload dX10_bestChange_123 rfl ?_
      refine V.goto (tgt := 130) dX10_bestChange_125 (by decide) ?_
      obtain ⟨e1, e2⟩ := inj2 h
      subst e1
      subst e2
      exact V.iret dX10_bestChange_130 rfl rfl
    replace h := ite_f hc1 h
    refine V.aload_n dX10_bestChange_31 rfl ?_
    refine V.iload dX10_bestChange_32 rfl ?_
    refine V.iload_n dX10_bestChange_34 rfl ?_
    refine V.iload_n dX10_bestChange_35 rfl ?_
    obtain ⟨v5, hv4, h⟩ := bnd_s h
    refine V.cVi dX10_bestChange_36 rfl mv_RX10_328 (ok_Hal_mayBecome hv4) rfl rfl s0_0 rfl (by decide) ⟨Nat.zero_le _, Nat.zero_le _⟩ (Nat.le_of_ble_eq_true rfl) (Nat.zero_le _) ?_
    refine V.if_eq (tgt := 106) dX10_bestChange_39 (by decide) (fun hc6 => ?_) (fun hc6 => ?_)
    · replace h := ite_t hc6 h
      refine V.iinc dX10_bestChange_106 rfl (iinc_c ic_1) (by decide) rfl ?_
      refine V.goto (tgt := 24) dX10_bestChange_109 (by decide) ?_
      exact ih _ _ _ _ _ _ _ _ _ h
    replace h := ite_f hc6 h
    refine V.aload_n dX10_bestChange_42 rfl ?_
    refine V.getR dX10_bestChange_43 fl_RX10_10 s0_0 rfl rfl ?_
    refine V.iload dX10_bestChange_46 rfl ?_
    obtain ⟨v8, hv7, h⟩ := bnd_s h
    refine V.cVi dX10_bestChange_48 rfl mv_RX10_117 (ok_Tol_stateOf s0_Tol1 hv7) rfl rfl s0_1 rfl (by decide) ⟨Nat.zero_le _, Nat.zero_le _⟩ (Nat.le_of_ble_eq_true rfl) (Nat.zero_le _) ?_
    refine V.istore dX10_bestChange_51 (by decide) rfl ?_
    refine V.aload_n dX10_bestChange_53 rfl ?_
    refine V.getR dX10_bestChange_54 fl_RX10_10 s0_0 rfl rfl ?_
    refine V.iload dX10_bestChange_57 rfl ?_
    refine V.iload_n dX10_bestChange_59 rfl ?_
    obtain ⟨M10, hv9, h⟩ := bnd_s h
    refine V.cVv dX10_bestChange_60 rfl mv_RX10_162 (ok_Tol_setState s0_Tol1 hv9) rfl rfl s0_1 rfl (by decide) ⟨Nat.zero_le _, Nat.zero_le _⟩ (Nat.le_of_ble_eq_true rfl) (Nat.zero_le _) ?_
    refine V.aload_n dX10_bestChange_63 rfl ?_
    refine V.getR dX10_bestChange_64 fl_RX10_36 s0_0 rfl rfl ?_
    refine V.aload_n dX10_bestChange_67 rfl ?_
    refine V.getR dX10_bestChange_68 fl_RX10_10 s0_0 rfl rfl ?_
    refine V.iload_n dX10_bestChange_71 rfl ?_
    obtain ⟨v12, M13, hv11, h⟩ := bnd2_s h
    refine V.cVi dX10_bestChange_72 rfl mv_RX10_208 (ok_Hea_brokenWants s0_Hea72 hv11) rfl rfl s0_72 rfl (by decide) ⟨Nat.zero_le _, Nat.zero_le _⟩ (Nat.le_of_ble_eq_true rfl) (Nat.zero_le _) ?_
    obtain ⟨v15, hv14, h⟩ := bnd_s h
    refine V.cSi dX10_bestChange_75 rfl mv_RX10_231 (ok_Int_bitCount hv14) rfl rfl (by decide) ⟨Nat.zero_le _, Nat.zero_le _⟩ (Nat.le_of_ble_eq_true rfl) (Nat.zero_le _) ?_
    refine V.istore dX10_bestChange_78 (by decide) rfl ?_
    refine V.aload_n dX10_bestChange_80 rfl ?_
    refine V.getR dX10_bestChange_81 fl_RX10_10 s0_0 rfl rfl ?_
    refine V.iload dX10_bestChange_84 rfl ?_
    refine V.iload dX10_bestChange_86 rfl ?_
    obtain ⟨M17, hv16, h⟩ := bnd_s h
    refine V.cVv dX10_bestChange_88 rfl mv_RX10_162 (ok_Tol_setState s0_Tol1 hv16) rfl rfl s0_1 rfl (by decide) ⟨Nat.zero_le _, Nat.zero_le _⟩ (Nat.le_of_ble_eq_true rfl) (Nat.zero_le _) ?_
    refine V.iload dX10_bestChange_91 rfl ?_
    refine V.iload dX10_bestChange_93 rfl ?_
    refine V.icmp_ge (tgt := 106) dX10_bestChange_95 (by decide) (fun hc18 => ?_) (fun hc18 => ?_)
    · replace h := ite_t hc18 h
      refine V.iinc dX10_bestChange_106 rfl (iinc_c ic_1) (by decide) rfl ?_
      refine V.goto (tgt := 24) dX10_bestChange_109 (by decide) ?_
      refine V.mask [true, true, true, true, true, true, true, false, false] rfl ?_
      exact ih _ _ _ _ _ _ _ _ _ h
    replace h := ite_f hc18 h
    refine V.iload dX10_bestChange_98 rfl ?_
    refine V.istore dX10_bestChange_100 (by decide) rfl ?_
    refine V.iload dX10_bestChange_102 rfl ?_
    refine V.istore dX10_bestChange_104 (by decide) rfl ?_
    refine V.iinc dX10_bestChange_106 rfl (iinc_c ic_1) (by decide) rfl ?_
    refine V.goto (tgt := 24) dX10_bestChange_109 (by decide) ?_
    refine V.mask [true, true, true, true, true, true, true, false, false] rfl ?_
    exact ih _ _ _ _ _ _ _ _ _ h
theorem ok_Hal_bestChange {X : Sc} {l : Launch}  {M : Mem} {x1 : Int32} {x2 : Int32} {x3 : Int32} {r : Int32} {M' : Mem}  (h : f_Hal_bestChange x1 x2 x3 M = some (r, M')) : Mt X l yX10_bestChange cX10_bestChange 9 (some .int) 6 0 0 [.ref 0, .int x1, .int x2, .int x3] S0 M (some (.int r)) S0 M' := by
  refine Mt.ofV (by decide) (Nat.le_of_ble_eq_true rfl) ?_
  show V X yX10_bestChange cX10_bestChange 9 (some .int) (rmD 6 0 0) l (FM (some (.int r)) S0 M' 0 0) 0 [some (.ref 0), some (.int x1), some (.int x2), some (.int x3), none, none, none, none, none] [] S0 M 0 0
  unfold f_Hal_bestChange at h
  refine V.bipush dX10_bestChange_0 bp_m4 ?_
  refine V.istore dX10_bestChange_2 (by decide) rfl ?_
  refine V.aload_n dX10_bestChange_4 rfl ?_
  refine V.getR dX10_bestChange_5 fl_RX10_36 s0_0 rfl rfl ?_
  refine V.aload_n dX10_bestChange_8 rfl ?_
  refine V.getR dX10_bestChange_9 fl_RX10_10 s0_0 rfl rfl ?_
  refine V.iload_n dX10_bestChange_12 rfl ?_
  obtain ⟨v2, M3, hv1, h⟩ := bnd2_s h
  refine V.cVi dX10_bestChange_13 rfl mv_RX10_208 (ok_Hea_brokenWants s0_Hea72 hv1) rfl rfl s0_72 rfl (by decide) ⟨Nat.zero_le _, Nat.zero_le _⟩ (Nat.le_of_ble_eq_true rfl) (Nat.zero_le _) ?_
  obtain ⟨v5, hv4, h⟩ := bnd_s h
  refine V.cSi dX10_bestChange_16 rfl mv_RX10_231 (ok_Int_bitCount hv4) rfl rfl (by decide) ⟨Nat.zero_le _, Nat.zero_le _⟩ (Nat.le_of_ble_eq_true rfl) (Nat.zero_le _) ?_
  refine V.istore dX10_bestChange_19 (by decide) rfl ?_
  refine V.iconst dX10_bestChange_21 ic_0 ?_
  refine V.istore dX10_bestChange_22 (by decide) rfl ?_
  exact okc_Hal_bestChange_24 _ _ _ _ _ _ _ _ _ _ h
theorem ok_Hal_curtain {X : Sc} {l : Launch}  {M : Mem} {x1 : Int32} {x2 : Int32} {r : Int32} {M' : Mem}  (h : f_Hal_curtain x1 x2 M = some (r, M')) : Mt X l yX10_curtain cX10_curtain 3 (some .int) 7 0 0 [.ref 0, .int x1, .int x2] S0 M (some (.int r)) S0 M' := by
  refine Mt.ofV (by decide) (Nat.le_of_ble_eq_true rfl) ?_
  show V X yX10_curtain cX10_curtain 3 (some .int) (rmD 7 0 0) l (FM (some (.int r)) S0 M' 0 0) 0 [some (.ref 0), some (.int x1), some (.int x2)] [] S0 M 0 0
  unfold f_Hal_curtain at h
  refine V.iload_n dX10_curtain_0 rfl ?_
  obtain ⟨v2, hv1, h⟩ := bnd_s h
  refine V.cSi dX10_curtain_1 rfl mv_RX10_124 (ok_Hal_isHour hv1) rfl rfl (by decide) ⟨Nat.zero_le _, Nat.zero_le _⟩ (Nat.le_of_ble_eq_true rfl) (Nat.zero_le _) ?_
  refine V.if_eq (tgt := 26) dX10_curtain_4 (by decide) (fun hc3 => ?_) (fun hc3 => ?_)
  · replace h := ite_t hc3 h
    refine V.iconst dX10_curtain_26 ic_m1 ?_
    obtain ⟨e1, e2⟩ := inj2 h
    subst e1
    subst e2
    exact V.iret dX10_curtain_27 rfl rfl
  replace h := ite_f hc3 h
  refine V.iload_n dX10_curtain_7 rfl ?_
  refine V.iconst dX10_curtain_8 ic_0 ?_
  refine V.iconst dX10_curtain_9 ic_1 ?_
  obtain ⟨v5, hv4, h⟩ := bnd_s h
  refine V.cSi dX10_curtain_10 rfl mv_RX10_77 (ok_Hal_within hv4) rfl rfl (by decide) ⟨Nat.zero_le _, Nat.zero_le _⟩ (Nat.le_of_ble_eq_true rfl) (Nat.zero_le _) ?_
  refine V.if_eq (tgt := 26) dX10_curtain_13 (by decide) (fun hc6 => ?_) (fun hc6 => ?_)
  · replace h := ite_t hc6 h
    refine V.iconst dX10_curtain_26 ic_m1 ?_
    obtain ⟨e1, e2⟩ := inj2 h
    subst e1
    subst e2
    exact V.iret dX10_curtain_27 rfl rfl
  replace h := ite_f hc6 h
  refine V.aload_n dX10_curtain_16 rfl ?_
  refine V.iload_n dX10_curtain_17 rfl ?_
  refine V.iload_n dX10_curtain_18 rfl ?_
  refine V.iconst dX10_curtain_19 ic_2 ?_
  obtain ⟨v8, M9, hv7, h⟩ := bnd2_s h
  refine V.cVi dX10_curtain_20 rfl mv_RX10_225 (ok_Hal_bestChange hv7) rfl rfl s0_0 rfl (by decide) ⟨Nat.zero_le _, Nat.zero_le _⟩ (Nat.le_of_ble_eq_true rfl) (Nat.zero_le _) ?_
  refine V.goto (tgt := 27) dX10_curtain_23 (by decide) ?_
  obtain ⟨e1, e2⟩ := inj2 h
  subst e1
  subst e2
  exact V.iret dX10_curtain_27 rfl rfl
theorem ok_Hal_clear {X : Sc} {l : Launch}  {M : Mem} {x1 : Int32} {x2 : Int32} {r : Int32} {M' : Mem}  (h : f_Hal_clear x1 x2 M = some (r, M')) : Mt X l yX10_clear cX10_clear 3 (some .int) 7 0 0 [.ref 0, .int x1, .int x2] S0 M (some (.int r)) S0 M' := by
  refine Mt.ofV (by decide) (Nat.le_of_ble_eq_true rfl) ?_
  show V X yX10_clear cX10_clear 3 (some .int) (rmD 7 0 0) l (FM (some (.int r)) S0 M' 0 0) 0 [some (.ref 0), some (.int x1), some (.int x2)] [] S0 M 0 0
  unfold f_Hal_clear at h
  refine V.iload_n dX10_clear_0 rfl ?_
  obtain ⟨v2, hv1, h⟩ := bnd_s h
  refine V.cSi dX10_clear_1 rfl mv_RX10_124 (ok_Hal_isHour hv1) rfl rfl (by decide) ⟨Nat.zero_le _, Nat.zero_le _⟩ (Nat.le_of_ble_eq_true rfl) (Nat.zero_le _) ?_
  refine V.if_eq (tgt := 26) dX10_clear_4 (by decide) (fun hc3 => ?_) (fun hc3 => ?_)
  · replace h := ite_t hc3 h
    refine V.iconst dX10_clear_26 ic_m1 ?_
    obtain ⟨e1, e2⟩ := inj2 h
    subst e1
    subst e2
    exact V.iret dX10_clear_27 rfl rfl
  replace h := ite_f hc3 h
  refine V.iload_n dX10_clear_7 rfl ?_
  refine V.iconst dX10_clear_8 ic_0 ?_
  refine V.iconst dX10_clear_9 ic_1 ?_
  obtain ⟨v5, hv4, h⟩ := bnd_s h
  refine V.cSi dX10_clear_10 rfl mv_RX10_77 (ok_Hal_within hv4) rfl rfl (by decide) ⟨Nat.zero_le _, Nat.zero_le _⟩ (Nat.le_of_ble_eq_true rfl) (Nat.zero_le _) ?_
  refine V.if_eq (tgt := 26) dX10_clear_13 (by decide) (fun hc6 => ?_) (fun hc6 => ?_)
  · replace h := ite_t hc6 h
    refine V.iconst dX10_clear_26 ic_m1 ?_
    obtain ⟨e1, e2⟩ := inj2 h
    subst e1
    subst e2
    exact V.iret dX10_clear_27 rfl rfl
  replace h := ite_f hc6 h
  refine V.aload_n dX10_clear_16 rfl ?_
  refine V.iload_n dX10_clear_17 rfl ?_
  refine V.iload_n dX10_clear_18 rfl ?_
  refine V.iconst dX10_clear_19 ic_0 ?_
  obtain ⟨v8, M9, hv7, h⟩ := bnd2_s h
  refine V.cVi dX10_clear_20 rfl mv_RX10_225 (ok_Hal_bestChange hv7) rfl rfl s0_0 rfl (by decide) ⟨Nat.zero_le _, Nat.zero_le _⟩ (Nat.le_of_ble_eq_true rfl) (Nat.zero_le _) ?_
  refine V.goto (tgt := 27) dX10_clear_23 (by decide) ?_
  obtain ⟨e1, e2⟩ := inj2 h
  subst e1
  subst e2
  exact V.iret dX10_clear_27 rfl rfl
theorem okc_Hal_hours_4 {X : Sc} {l : Launch}     : ∀ (n : Nat) (x1 : Int32) (x2 : Int32) (M : Mem) (r : Int32) (M' : Mem), f_Hal_hours_L4  n x1 x2 M = some (r, M') → V X yX10_hours cX10_hours 3 (some .int) (rmD 6 0 0) l (FM (some (.int r)) S0 M' 0 0) 4 [some (.ref 0), some (.int x1), some (.int x2)] [] S0 M 0 0 := by
  intro n
  induction n with
  | zero =>
    intro x1 x2 M r M' h
    rw [f_Hal_hours_L4] at h
    cases h
  | succ n ih =>
    intro x1 x2 M r M' h
    rw [f_Hal_hours_L4] at h
    refine V.iload_n dX10_hours_4 rfl ?_
    refine V.bipush dX10_hours_5 bp_12 ?_
    refine V.icmp_ge (tgt := 37) dX10_hours_7 (by decide) (fun hc1 => ?_) (fun hc1 => ?_)
    · replace h := ite_t hc1 h
      refine V.iload_n dX10_hours_37 rfl ?_
      obtain ⟨e1, e2⟩ := inj2 h
      subst e1
      subst e2
      exact V.iret dX10_hours_38 rfl rfl
    replace h := ite_f hc1 h
    refine V.aload_n dX10_hours_10 rfl ?_
    refine V.getR dX10_hours_11 fl_RX10_36 s0_0 rfl rfl ?_
    refine V.aload_n dX10_hours_14 rfl ?_
    refine V.getR dX10_hours_15 fl_RX10_10 s0_0 rfl rfl ?_
    refine V.iload_n dX10_hours_18 rfl ?_
    obtain ⟨v3, M4, hv2, h⟩ := bnd2_s h
    refine V.cVi dX10_hours_19 rfl mv_RX10_208 (ok_Hea_brokenWants s0_Hea72 hv2) rfl rfl s0_72 rfl (by decide) ⟨Nat.zero_le _, Nat.zero_le _⟩ (Nat.le_of_ble_eq_true rfl) (Nat.zero_le _) ?_
    refine V.if_ne (tgt := 31) dX10_hours_22 (by decide) (fun hc5 => ?_) (fun hc5 => ?_)
    · replace h := ite_f hc5 h
      refine V.iinc dX10_hours_31 rfl (iinc_c ic_1) (by decide) rfl ?_
      refine V.goto (tgt := 4) dX10_hours_34 (by decide) ?_
      exact ih _ _ _ _ _ h
    replace h := ite_t hc5 h
    refine V.iload_n dX10_hours_25 rfl ?_
    refine V.iconst dX10_hours_26 ic_1 ?_
    refine V.iload_n dX10_hours_27 rfl ?_
    refine V.ishl dX10_hours_28 ?_
    refine V.ior dX10_hours_29 ?_
    refine V.nmI (fun w6 hw6 => ?_)
    replace h := nmI_at h w6 hw6
    refine V.istore_n dX10_hours_30 (by decide) rfl ?_
    refine V.iinc dX10_hours_31 rfl (iinc_c ic_1) (by decide) rfl ?_
    refine V.goto (tgt := 4) dX10_hours_34 (by decide) ?_
    exact ih _ _ _ _ _ h
theorem ok_Hal_hours {X : Sc} {l : Launch}  {M : Mem}  {r : Int32} {M' : Mem}  (h : f_Hal_hours M = some (r, M')) : Mt X l yX10_hours cX10_hours 3 (some .int) 6 0 0 [.ref 0] S0 M (some (.int r)) S0 M' := by
  refine Mt.ofV (by decide) (Nat.le_of_ble_eq_true rfl) ?_
  show V X yX10_hours cX10_hours 3 (some .int) (rmD 6 0 0) l (FM (some (.int r)) S0 M' 0 0) 0 [some (.ref 0), none, none] [] S0 M 0 0
  unfold f_Hal_hours at h
  refine V.iconst dX10_hours_0 ic_0 ?_
  refine V.istore_n dX10_hours_1 (by decide) rfl ?_
  refine V.iconst dX10_hours_2 ic_0 ?_
  refine V.istore_n dX10_hours_3 (by decide) rfl ?_
  exact okc_Hal_hours_4 _ _ _ _ _ _ h
theorem ok_Hal_hearersOnDay {X : Sc} {l : Launch}  {M : Mem} {x1 : Int32} {x2 : Int32} {x3 : Int32} {r : Int32} {M' : Mem}  (h : f_Hal_hearersOnDay x1 x2 x3 M = some (r, M')) : Mt X l yX10_hearersOnDay cX10_hearersOnDay 6 (some .int) 4 0 0 [.ref 0, .int x1, .int x2, .int x3] S0 M (some (.int r)) S0 M' := by
  refine Mt.ofV (by decide) (Nat.le_of_ble_eq_true rfl) ?_
  show V X yX10_hearersOnDay cX10_hearersOnDay 6 (some .int) (rmD 4 0 0) l (FM (some (.int r)) S0 M' 0 0) 0 [some (.ref 0), some (.int x1), some (.int x2), some (.int x3), none, none] [] S0 M 0 0
  unfold f_Hal_hearersOnDay at h
  refine V.aload_n dX10_hearersOnDay_0 rfl ?_
  refine V.getR dX10_hearersOnDay_1 fl_RX10_10 s0_0 rfl rfl ?_
  refine V.getI dX10_hearersOnDay_4 fl_RX10_110 s0_1 rfl rfl ?_
  refine V.nmI (fun w1 hw1 => ?_)
  replace h := nmI_at h w1 hw1
  refine V.istore dX10_hearersOnDay_7 (by decide) rfl ?_
  refine V.aload_n dX10_hearersOnDay_9 rfl ?_
  refine V.getR dX10_hearersOnDay_10 fl_RX10_10 s0_0 rfl rfl ?_
  refine V.iload_n dX10_hearersOnDay_13 rfl ?_
  refine V.putI dX10_hearersOnDay_14 fp_RX10_110 s0_1 rfl rfl (fun M2 hM2 => ?_)
  replace h := setM_at h M2 hM2
  refine V.aload_n dX10_hearersOnDay_17 rfl ?_
  refine V.getR dX10_hearersOnDay_18 fl_RX10_36 s0_0 rfl rfl ?_
  refine V.aload_n dX10_hearersOnDay_21 rfl ?_
  refine V.getR dX10_hearersOnDay_22 fl_RX10_10 s0_0 rfl rfl ?_
  refine V.iload_n dX10_hearersOnDay_25 rfl ?_
  refine V.iload_n dX10_hearersOnDay_26 rfl ?_
  obtain ⟨v4, M5, hv3, h⟩ := bnd2_s h
  refine V.cVi dX10_hearersOnDay_27 rfl mv_RX10_196 (ok_Hea_hearersOf s0_Hea72 hv3) rfl rfl s0_72 rfl (by decide) ⟨Nat.zero_le _, Nat.zero_le _⟩ (Nat.le_of_ble_eq_true rfl) (Nat.zero_le _) ?_
  refine V.istore dX10_hearersOnDay_30 (by decide) rfl ?_
  refine V.aload_n dX10_hearersOnDay_32 rfl ?_
  refine V.getR dX10_hearersOnDay_33 fl_RX10_10 s0_0 rfl rfl ?_
  refine V.iload dX10_hearersOnDay_36 rfl ?_
  refine V.putI dX10_hearersOnDay_38 fp_RX10_110 s0_1 rfl rfl (fun M6 hM6 => ?_)
  replace h := setM_at h M6 hM6
  refine V.iload dX10_hearersOnDay_41 rfl ?_
  obtain ⟨e1, e2⟩ := inj2 h
  subst e1
  subst e2
  exact V.iret dX10_hearersOnDay_43 rfl rfl
theorem okc_Hal_days_40 {X : Sc} {l : Launch}     : ∀ (n : Nat) (x1 : Int32) (x2 : Int32) (x3 : Int32) (x4 : Int32) (x5 : Int32) (x6 : Int32) (x7 : Int32) (M : Mem) (r : Int32) (M' : Mem), f_Hal_days_L40  n x1 x2 x3 x4 x5 x6 x7 M = some (r, M') → V X yX10_days cX10_days 10 (some .int) (rmD 5 0 0) l (FM (some (.int r)) S0 M' 0 0) 40 [some (.ref 0), some (.int x1), some (.int x2), some (.int x3), some (.int x4), some (.int x5), some (.int x6), some (.int x7), none, none] [] S0 M 0 0 := by
  intro n
  induction n with
  | zero =>
    intro x1 x2 x3 x4 x5 x6 x7 M r M' h
    rw [f_Hal_days_L40] at h
    cases h
  | succ n ih =>
    intro x1 x2 x3 x4 x5 x6 x7 M r M' h
    rw [f_Hal_days_L40] at h
    refine V.iload dX10_days_40 rfl ?_
    refine V.aload_n dX10_days_42 rfl ?_
    refine V.getR dX10_days_43 fl_RX10_10 s0_0 rfl rfl ?_
    refine V.getR dX10_days_46 fl_RX10_127 s0_1 rfl rfl ?_
    refine V.getI dX10_days_49 fl_RX10_199 s0_4 rfl rfl ?_
    refine V.icmp_ge (tgt := 120) dX10_days_52 (by decide) (fun hc1 => ?_) (fun hc1 => ?_)
    · replace h := ite_t hc1 h
      refine V.iload_n dX10_days_120 rfl ?_
      refine V.if_ne (tgt := 127) dX10_days_121 (by decide) (fun hc2 => ?_) (fun hc2 => ?_)
      · replace h := ite_f hc2 h
        refine V.iload_n dX10_days_127 rfl ?_
        refine V.iconst dX10_days_128 ic_1 ?_
        refine V.icmp_ne (tgt := 137) dX10_days_129 (by decide) (fun hc3 => ?_) (fun hc3 => ?_)
        · replace h := ite_f hc3 h
          refine V.iload dX10_days_137 rfl ?_
          refine V.iload dX10_days_139 rfl ?_
          refine V.isub dX10_days_141 ?_
          obtain ⟨e1, e2⟩ := inj2 h
          subst e1
          subst e2
          exact V.iret dX10_days_142 rfl rfl
        replace h := ite_t hc3 h
        refine V.iload dX10_days_132 rfl ?_
        refine V.goto (tgt := 142) dX10_days_134 (by decide) ?_
        obtain ⟨e1, e2⟩ := inj2 h
        subst e1
        subst e2
        exact V.iret dX10_days_142 rfl rfl
      replace h := ite_t hc2 h
      refine V.iload dX10_days_124 rfl ?_
      obtain ⟨e1, e2⟩ := inj2 h
      subst e1
      subst e2
      exact V.iret dX10_days_126 rfl rfl
    replace h := ite_f hc1 h
    refine V.aload_n dX10_days_55 rfl ?_
    refine V.getR dX10_days_56 fl_RX10_36 s0_0 rfl rfl ?_
    refine V.aload_n dX10_days_59 rfl ?_
    refine V.getR dX10_days_60 fl_RX10_10 s0_0 rfl rfl ?_
    refine V.iload dX10_days_63 rfl ?_
    refine V.iload_n dX10_days_65 rfl ?_
    obtain ⟨v5, M6, hv4, h⟩ := bnd2_s h
    refine V.cVi dX10_days_66 rfl mv_RX10_196 (ok_Hea_hearersOf s0_Hea72 hv4) rfl rfl s0_72 rfl (by decide) ⟨Nat.zero_le _, Nat.zero_le _⟩ (Nat.le_of_ble_eq_true rfl) (Nat.zero_le _) ?_
    refine V.istore dX10_days_69 (by decide) rfl ?_
    refine V.aload_n dX10_days_71 rfl ?_
    refine V.iload dX10_days_72 rfl ?_
    refine V.iload_n dX10_days_74 rfl ?_
    refine V.iload_n dX10_days_75 rfl ?_
    obtain ⟨v8, M9, hv7, h⟩ := bnd2_s h
    refine V.cVi dX10_days_76 rfl mv_RX10_228 (ok_Hal_hearersOnDay hv7) rfl rfl s0_0 rfl (by decide) ⟨Nat.zero_le _, Nat.zero_le _⟩ (Nat.le_of_ble_eq_true rfl) (Nat.zero_le _) ?_
    refine V.istore dX10_days_79 (by decide) rfl ?_
    refine V.iload dX10_days_81 rfl ?_
    refine V.iload dX10_days_83 rfl ?_
    obtain ⟨v11, hv10, h⟩ := bnd_s h
    refine V.cSi dX10_days_85 rfl mv_RX10_231 (ok_Int_bitCount hv10) rfl rfl (by decide) ⟨Nat.zero_le _, Nat.zero_le _⟩ (Nat.le_of_ble_eq_true rfl) (Nat.zero_le _) ?_
    refine V.iadd dX10_days_88 ?_
    refine V.nmI (fun w12 hw12 => ?_)
    replace h := nmI_at h w12 hw12
    refine V.istore dX10_days_89 (by decide) rfl ?_
    refine V.iload dX10_days_91 rfl ?_
    refine V.iload dX10_days_93 rfl ?_
    refine V.iload dX10_days_95 rfl ?_
    refine V.iand dX10_days_97 ?_
    obtain ⟨v14, hv13, h⟩ := bnd_s h
    refine V.cSi dX10_days_98 rfl mv_RX10_231 (ok_Int_bitCount hv13) rfl rfl (by decide) ⟨Nat.zero_le _, Nat.zero_le _⟩ (Nat.le_of_ble_eq_true rfl) (Nat.zero_le _) ?_
    refine V.iadd dX10_days_101 ?_
    refine V.nmI (fun w15 hw15 => ?_)
    replace h := nmI_at h w15 hw15
    refine V.istore dX10_days_102 (by decide) rfl ?_
    refine V.iload dX10_days_104 rfl ?_
    refine V.iload dX10_days_106 rfl ?_
    obtain ⟨v17, hv16, h⟩ := bnd_s h
    refine V.cSi dX10_days_108 rfl mv_RX10_231 (ok_Int_bitCount hv16) rfl rfl (by decide) ⟨Nat.zero_le _, Nat.zero_le _⟩ (Nat.le_of_ble_eq_true rfl) (Nat.zero_le _) ?_
    refine V.iadd dX10_days_111 ?_
    refine V.nmI (fun w18 hw18 => ?_)
    replace h := nmI_at h w18 hw18
    refine V.istore dX10_days_112 (by decide) rfl ?_
    refine V.iinc dX10_days_114 rfl (iinc_c ic_1) (by decide) rfl ?_
    refine V.goto (tgt := 40) dX10_days_117 (by decide) ?_
    refine V.mask [true, true, true, true, true, true, true, true, false, false] rfl ?_
    exact ih _ _ _ _ _ _ _ _ _ _ h
theorem ok_Hal_days {X : Sc} {l : Launch}  {M : Mem} {x1 : Int32} {x2 : Int32} {x3 : Int32} {r : Int32} {M' : Mem}  (h : f_Hal_days x1 x2 x3 M = some (r, M')) : Mt X l yX10_days cX10_days 10 (some .int) 5 0 0 [.ref 0, .int x1, .int x2, .int x3] S0 M (some (.int r)) S0 M' := by
  refine Mt.ofV (by decide) (Nat.le_of_ble_eq_true rfl) ?_
  show V X yX10_days cX10_days 10 (some .int) (rmD 5 0 0) l (FM (some (.int r)) S0 M' 0 0) 0 [some (.ref 0), some (.int x1), some (.int x2), some (.int x3), none, none, none, none, none, none] [] S0 M 0 0
  unfold f_Hal_days at h
  refine V.iload_n dX10_days_0 rfl ?_
  obtain ⟨v2, hv1, h⟩ := bnd_s h
  refine V.cSi dX10_days_1 rfl mv_RX10_124 (ok_Hal_isHour hv1) rfl rfl (by decide) ⟨Nat.zero_le _, Nat.zero_le _⟩ (Nat.le_of_ble_eq_true rfl) (Nat.zero_le _) ?_
  refine V.if_eq (tgt := 26) dX10_days_4 (by decide) (fun hc3 => ?_) (fun hc3 => ?_)
  · replace h := ite_t hc3 h
    refine V.iconst dX10_days_26 ic_m1 ?_
    obtain ⟨e1, e2⟩ := inj2 h
    subst e1
    subst e2
    exact V.iret dX10_days_27 rfl rfl
  replace h := ite_f hc3 h
  refine V.iload_n dX10_days_7 rfl ?_
  refine V.iconst dX10_days_8 ic_0 ?_
  refine V.bipush dX10_days_9 bp_9 ?_
  obtain ⟨v5, hv4, h⟩ := bnd_s h
  refine V.cSi dX10_days_11 rfl mv_RX10_77 (ok_Hal_within hv4) rfl rfl (by decide) ⟨Nat.zero_le _, Nat.zero_le _⟩ (Nat.le_of_ble_eq_true rfl) (Nat.zero_le _) ?_
  refine V.if_eq (tgt := 26) dX10_days_14 (by decide) (fun hc6 => ?_) (fun hc6 => ?_)
  · replace h := ite_t hc6 h
    refine V.iconst dX10_days_26 ic_m1 ?_
    obtain ⟨e1, e2⟩ := inj2 h
    subst e1
    subst e2
    exact V.iret dX10_days_27 rfl rfl
  replace h := ite_f hc6 h
  refine V.iload_n dX10_days_17 rfl ?_
  refine V.iconst dX10_days_18 ic_0 ?_
  refine V.iconst dX10_days_19 ic_2 ?_
  obtain ⟨v8, hv7, h⟩ := bnd_s h
  refine V.cSi dX10_days_20 rfl mv_RX10_77 (ok_Hal_within hv7) rfl rfl (by decide) ⟨Nat.zero_le _, Nat.zero_le _⟩ (Nat.le_of_ble_eq_true rfl) (Nat.zero_le _) ?_
  refine V.if_ne (tgt := 28) dX10_days_23 (by decide) (fun hc9 => ?_) (fun hc9 => ?_)
  · replace h := ite_f hc9 h
    refine V.iconst dX10_days_28 ic_0 ?_
    refine V.istore dX10_days_29 (by decide) rfl ?_
    refine V.iconst dX10_days_31 ic_0 ?_
    refine V.istore dX10_days_32 (by decide) rfl ?_
    refine V.iconst dX10_days_34 ic_0 ?_
    refine V.istore dX10_days_35 (by decide) rfl ?_
    refine V.iconst dX10_days_37 ic_0 ?_
    refine V.istore dX10_days_38 (by decide) rfl ?_
    exact okc_Hal_days_40 _ _ _ _ _ _ _ _ _ _ _ h
  replace h := ite_t hc9 h
  refine V.iconst dX10_days_26 ic_m1 ?_
  obtain ⟨e1, e2⟩ := inj2 h
  subst e1
  subst e2
  exact V.iret dX10_days_27 rfl rfl
theorem ok_Hal_brokenOnDay {X : Sc} {l : Launch}  {M : Mem} {x1 : Int32} {x2 : Int32} {r : Int32} {M' : Mem}  (h : f_Hal_brokenOnDay x1 x2 M = some (r, M')) : Mt X l yX10_brokenOnDay cX10_brokenOnDay 5 (some .int) 6 0 0 [.ref 0, .int x1, .int x2] S0 M (some (.int r)) S0 M' := by
  refine Mt.ofV (by decide) (Nat.le_of_ble_eq_true rfl) ?_
  show V X yX10_brokenOnDay cX10_brokenOnDay 5 (some .int) (rmD 6 0 0) l (FM (some (.int r)) S0 M' 0 0) 0 [some (.ref 0), some (.int x1), some (.int x2), none, none] [] S0 M 0 0
  unfold f_Hal_brokenOnDay at h
  refine V.aload_n dX10_brokenOnDay_0 rfl ?_
  refine V.getR dX10_brokenOnDay_1 fl_RX10_10 s0_0 rfl rfl ?_
  refine V.getI dX10_brokenOnDay_4 fl_RX10_110 s0_1 rfl rfl ?_
  refine V.nmI (fun w1 hw1 => ?_)
  replace h := nmI_at h w1 hw1
  refine V.istore_n dX10_brokenOnDay_7 (by decide) rfl ?_
  refine V.aload_n dX10_brokenOnDay_8 rfl ?_
  refine V.getR dX10_brokenOnDay_9 fl_RX10_10 s0_0 rfl rfl ?_
  refine V.iload_n dX10_brokenOnDay_12 rfl ?_
  refine V.putI dX10_brokenOnDay_13 fp_RX10_110 s0_1 rfl rfl (fun M2 hM2 => ?_)
  replace h := setM_at h M2 hM2
  refine V.aload_n dX10_brokenOnDay_16 rfl ?_
  refine V.getR dX10_brokenOnDay_17 fl_RX10_36 s0_0 rfl rfl ?_
  refine V.aload_n dX10_brokenOnDay_20 rfl ?_
  refine V.getR dX10_brokenOnDay_21 fl_RX10_10 s0_0 rfl rfl ?_
  refine V.iload_n dX10_brokenOnDay_24 rfl ?_
  obtain ⟨v4, M5, hv3, h⟩ := bnd2_s h
  refine V.cVi dX10_brokenOnDay_25 rfl mv_RX10_208 (ok_Hea_brokenWants s0_Hea72 hv3) rfl rfl s0_72 rfl (by decide) ⟨Nat.zero_le _, Nat.zero_le _⟩ (Nat.le_of_ble_eq_true rfl) (Nat.zero_le _) ?_
  obtain ⟨v7, hv6, h⟩ := bnd_s h
  refine V.cSi dX10_brokenOnDay_28 rfl mv_RX10_231 (ok_Int_bitCount hv6) rfl rfl (by decide) ⟨Nat.zero_le _, Nat.zero_le _⟩ (Nat.le_of_ble_eq_true rfl) (Nat.zero_le _) ?_
  refine V.istore dX10_brokenOnDay_31 (by decide) rfl ?_
  refine V.aload_n dX10_brokenOnDay_33 rfl ?_
  refine V.getR dX10_brokenOnDay_34 fl_RX10_10 s0_0 rfl rfl ?_
  refine V.iload_n dX10_brokenOnDay_37 rfl ?_
  refine V.putI dX10_brokenOnDay_38 fp_RX10_110 s0_1 rfl rfl (fun M8 hM8 => ?_)
  replace h := setM_at h M8 hM8
  refine V.iload dX10_brokenOnDay_41 rfl ?_
  obtain ⟨e1, e2⟩ := inj2 h
  subst e1
  subst e2
  exact V.iret dX10_brokenOnDay_43 rfl rfl
theorem okc_Hal_best_27 {X : Sc} {l : Launch}     : ∀ (n : Nat) (x1 : Int32) (x2 : Int32) (x3 : Int32) (x4 : Int32) (x5 : Int32) (M : Mem) (r : Int32) (M' : Mem), f_Hal_best_L27  n x1 x2 x3 x4 x5 M = some (r, M') → V X yX10_best cX10_best 7 (some .int) (rmD 7 0 0) l (FM (some (.int r)) S0 M' 0 0) 27 [some (.ref 0), some (.int x1), some (.int x2), some (.int x3), some (.int x4), some (.int x5), none] [] S0 M 0 0 := by
  intro n
  induction n with
  | zero =>
    intro x1 x2 x3 x4 x5 M r M' h
    rw [f_Hal_best_L27] at h
    cases h
  | succ n ih =>
    intro x1 x2 x3 x4 x5 M r M' h
    rw [f_Hal_best_L27] at h
    refine V.iload dX10_best_27 rfl ?_
    refine V.bipush dX10_best_29 bp_9 ?_
    refine V.icmp_gt (tgt := 63) dX10_best_31 (by decide) (fun hc1 => ?_) (fun hc1 => ?_)
    · replace h := ite_t hc1 h
      refine V.iload_n dX10_best_63 rfl ?_
      refine V.if_ne (tgt := 71) dX10_best_64 (by decide) (fun hc2 => ?_) (fun hc2 => ?_)
      · replace h := ite_f hc2 h
        refine V.iload dX10_best_71 rfl ?_
        obtain ⟨e1, e2⟩ := inj2 h
        subst e1
        subst e2
        exact V.iret dX10_best_73 rfl rfl
      replace h := ite_t hc2 h
      refine V.iload_n dX10_best_67 rfl ?_
      refine V.goto (tgt := 73) dX10_best_68 (by decide) ?_
      obtain ⟨e1, e2⟩ := inj2 h
      subst e1
      subst e2
      exact V.iret dX10_best_73 rfl rfl
    replace h := ite_f hc1 h
    refine V.aload_n dX10_best_34 rfl ?_
    refine V.iload_n dX10_best_35 rfl ?_
    refine V.iload dX10_best_36 rfl ?_
    obtain ⟨v4, M5, hv3, h⟩ := bnd2_s h
    refine V.cVi dX10_best_38 rfl mv_RX10_236 (ok_Hal_brokenOnDay hv3) rfl rfl s0_0 rfl (by decide) ⟨Nat.zero_le _, Nat.zero_le _⟩ (Nat.le_of_ble_eq_true rfl) (Nat.zero_le _) ?_
    refine V.istore dX10_best_41 (by decide) rfl ?_
    refine V.iload dX10_best_43 rfl ?_
    refine V.iload dX10_best_45 rfl ?_
    refine V.icmp_ge (tgt := 57) dX10_best_47 (by decide) (fun hc6 => ?_) (fun hc6 => ?_)
    · replace h := ite_t hc6 h
      refine V.iinc dX10_best_57 rfl (iinc_c ic_1) (by decide) rfl ?_
      refine V.goto (tgt := 27) dX10_best_60 (by decide) ?_
      refine V.mask [true, true, true, true, true, true, false] rfl ?_
      exact ih _ _ _ _ _ _ _ _ h
    replace h := ite_f hc6 h
    refine V.iload dX10_best_50 rfl ?_
    refine V.istore dX10_best_52 (by decide) rfl ?_
    refine V.iload dX10_best_54 rfl ?_
    refine V.istore_n dX10_best_56 (by decide) rfl ?_
    refine V.iinc dX10_best_57 rfl (iinc_c ic_1) (by decide) rfl ?_
    refine V.goto (tgt := 27) dX10_best_60 (by decide) ?_
    refine V.mask [true, true, true, true, true, true, false] rfl ?_
    exact ih _ _ _ _ _ _ _ _ h
theorem ok_Hal_best {X : Sc} {l : Launch}  {M : Mem} {x1 : Int32} {x2 : Int32} {r : Int32} {M' : Mem}  (h : f_Hal_best x1 x2 M = some (r, M')) : Mt X l yX10_best cX10_best 7 (some .int) 7 0 0 [.ref 0, .int x1, .int x2] S0 M (some (.int r)) S0 M' := by
  refine Mt.ofV (by decide) (Nat.le_of_ble_eq_true rfl) ?_
  show V X yX10_best cX10_best 7 (some .int) (rmD 7 0 0) l (FM (some (.int r)) S0 M' 0 0) 0 [some (.ref 0), some (.int x1), some (.int x2), none, none, none, none] [] S0 M 0 0
  unfold f_Hal_best at h
  refine V.iload_n dX10_best_0 rfl ?_
  obtain ⟨v2, hv1, h⟩ := bnd_s h
  refine V.cSi dX10_best_1 rfl mv_RX10_124 (ok_Hal_isHour hv1) rfl rfl (by decide) ⟨Nat.zero_le _, Nat.zero_le _⟩ (Nat.le_of_ble_eq_true rfl) (Nat.zero_le _) ?_
  refine V.if_eq (tgt := 16) dX10_best_4 (by decide) (fun hc3 => ?_) (fun hc3 => ?_)
  · replace h := ite_t hc3 h
    refine V.iconst dX10_best_16 ic_m1 ?_
    obtain ⟨e1, e2⟩ := inj2 h
    subst e1
    subst e2
    exact V.iret dX10_best_17 rfl rfl
  replace h := ite_f hc3 h
  refine V.iload_n dX10_best_7 rfl ?_
  refine V.iconst dX10_best_8 ic_0 ?_
  refine V.iconst dX10_best_9 ic_1 ?_
  obtain ⟨v5, hv4, h⟩ := bnd_s h
  refine V.cSi dX10_best_10 rfl mv_RX10_77 (ok_Hal_within hv4) rfl rfl (by decide) ⟨Nat.zero_le _, Nat.zero_le _⟩ (Nat.le_of_ble_eq_true rfl) (Nat.zero_le _) ?_
  refine V.if_ne (tgt := 18) dX10_best_13 (by decide) (fun hc6 => ?_) (fun hc6 => ?_)
  · replace h := ite_f hc6 h
    refine V.iconst dX10_best_18 ic_0 ?_
    refine V.istore_n dX10_best_19 (by decide) rfl ?_
    refine V.bipush dX10_best_20 bp_9 ?_
    refine V.istore dX10_best_22 (by decide) rfl ?_
    refine V.iconst dX10_best_24 ic_0 ?_
    refine V.istore dX10_best_25 (by decide) rfl ?_
    exact okc_Hal_best_27 _ _ _ _ _ _ _ _ _ h
  replace h := ite_t hc6 h
  refine V.iconst dX10_best_16 ic_m1 ?_
  obtain ⟨e1, e2⟩ := inj2 h
  subst e1
  subst e2
  exact V.iret dX10_best_17 rfl rfl
theorem ok_Hal_whisperMore {X : Sc} {l : Launch}  {M : Mem} {x1 : Int32} {x2 : Int32} {x3 : Int32} {r : Int32} {M' : Mem}  (h : f_Hal_whisperMore x1 x2 x3 M = some (r, M')) : Mt X l yX10_whisperMore cX10_whisperMore 4 (some .int) 2 0 0 [.ref 0, .int x1, .int x2, .int x3] S0 M (some (.int r)) S0 M' := by
  refine Mt.ofV (by decide) (Nat.le_of_ble_eq_true rfl) ?_
  show V X yX10_whisperMore cX10_whisperMore 4 (some .int) (rmD 2 0 0) l (FM (some (.int r)) S0 M' 0 0) 0 [some (.ref 0), some (.int x1), some (.int x2), some (.int x3)] [] S0 M 0 0
  unfold f_Hal_whisperMore at h
  refine V.iload_n dX10_whisperMore_0 rfl ?_
  obtain ⟨v2, hv1, h⟩ := bnd_s h
  refine V.cSi dX10_whisperMore_1 rfl mv_RX10_124 (ok_Hal_isHour hv1) rfl rfl (by decide) ⟨Nat.zero_le _, Nat.zero_le _⟩ (Nat.le_of_ble_eq_true rfl) (Nat.zero_le _) ?_
  refine V.if_eq (tgt := 33) dX10_whisperMore_4 (by decide) (fun hc3 => ?_) (fun hc3 => ?_)
  · replace h := ite_t hc3 h
    refine V.iconst dX10_whisperMore_33 ic_m1 ?_
    obtain ⟨e1, e2⟩ := inj2 h
    subst e1
    subst e2
    exact V.iret dX10_whisperMore_34 rfl rfl
  replace h := ite_f hc3 h
  refine V.iload_n dX10_whisperMore_7 rfl ?_
  refine V.aload_n dX10_whisperMore_8 rfl ?_
  refine V.getR dX10_whisperMore_9 fl_RX10_10 s0_0 rfl rfl ?_
  obtain ⟨v5, hv4, h⟩ := bnd_s h
  refine V.cVi dX10_whisperMore_12 rfl mv_RX10_322 (ok_Tol_latestHour s0_Tol1 hv4) rfl rfl s0_1 rfl (by decide) ⟨Nat.zero_le _, Nat.zero_le _⟩ (Nat.le_of_ble_eq_true rfl) (Nat.zero_le _) ?_
  refine V.icmp_lt (tgt := 33) dX10_whisperMore_15 (by decide) (fun hc6 => ?_) (fun hc6 => ?_)
  · replace h := ite_t hc6 h
    refine V.iconst dX10_whisperMore_33 ic_m1 ?_
    obtain ⟨e1, e2⟩ := inj2 h
    subst e1
    subst e2
    exact V.iret dX10_whisperMore_34 rfl rfl
  replace h := ite_f hc6 h
  refine V.aload_n dX10_whisperMore_18 rfl ?_
  refine V.iload_n dX10_whisperMore_19 rfl ?_
  obtain ⟨v8, hv7, h⟩ := bnd_s h
  refine V.cVi dX10_whisperMore_20 rfl mv_RX10_166 (ok_Hal_isOne hv7) rfl rfl s0_0 rfl (by decide) ⟨Nat.zero_le _, Nat.zero_le _⟩ (Nat.le_of_ble_eq_true rfl) (Nat.zero_le _) ?_
  refine V.if_eq (tgt := 33) dX10_whisperMore_23 (by decide) (fun hc9 => ?_) (fun hc9 => ?_)
  · replace h := ite_t hc9 h
    refine V.iconst dX10_whisperMore_33 ic_m1 ?_
    obtain ⟨e1, e2⟩ := inj2 h
    subst e1
    subst e2
    exact V.iret dX10_whisperMore_34 rfl rfl
  replace h := ite_f hc9 h
  refine V.iload_n dX10_whisperMore_26 rfl ?_
  obtain ⟨v11, hv10, h⟩ := bnd_s h
  refine V.cSi dX10_whisperMore_27 rfl mv_RX10_258 (ok_Hal_isSecret hv10) rfl rfl (by decide) ⟨Nat.zero_le _, Nat.zero_le _⟩ (Nat.le_of_ble_eq_true rfl) (Nat.zero_le _) ?_
  refine V.if_ne (tgt := 35) dX10_whisperMore_30 (by decide) (fun hc12 => ?_) (fun hc12 => ?_)
  · replace h := ite_f hc12 h
    refine V.aload_n dX10_whisperMore_35 rfl ?_
    refine V.getR dX10_whisperMore_36 fl_RX10_10 s0_0 rfl rfl ?_
    refine V.getR dX10_whisperMore_39 fl_RX10_242 s0_1 rfl rfl ?_
    refine V.getI dX10_whisperMore_42 fl_RX10_245 s0_14 rfl rfl ?_
    refine V.bipush dX10_whisperMore_45 bp_12 ?_
    refine V.icmp_lt (tgt := 53) dX10_whisperMore_47 (by decide) (fun hc13 => ?_) (fun hc13 => ?_)
    · replace h := ite_t hc13 h
      refine V.aload_n dX10_whisperMore_53 rfl ?_
      refine V.getR dX10_whisperMore_54 fl_RX10_10 s0_0 rfl rfl ?_
      refine V.getR dX10_whisperMore_57 fl_RX10_242 s0_1 rfl rfl ?_
      refine V.iload_n dX10_whisperMore_60 rfl ?_
      refine V.iload_n dX10_whisperMore_61 rfl ?_
      refine V.iload_n dX10_whisperMore_62 rfl ?_
      obtain ⟨M15, hv14, h⟩ := bnd_s h
      refine V.cVv dX10_whisperMore_63 rfl mv_RX10_283 (ok_Tri_add s0_Tri14 hv14) rfl rfl s0_14 rfl (by decide) ⟨Nat.zero_le _, Nat.zero_le _⟩ (Nat.le_of_ble_eq_true rfl) (Nat.zero_le _) ?_
      refine V.aload_n dX10_whisperMore_66 rfl ?_
      refine V.getR dX10_whisperMore_67 fl_RX10_10 s0_0 rfl rfl ?_
      refine V.getR dX10_whisperMore_70 fl_RX10_242 s0_1 rfl rfl ?_
      refine V.getI dX10_whisperMore_73 fl_RX10_245 s0_14 rfl rfl ?_
      obtain ⟨e1, e2⟩ := inj2 h
      subst e1
      subst e2
      exact V.iret dX10_whisperMore_76 rfl rfl
    replace h := ite_f hc13 h
    refine V.bipush dX10_whisperMore_50 bp_m3 ?_
    obtain ⟨e1, e2⟩ := inj2 h
    subst e1
    subst e2
    exact V.iret dX10_whisperMore_52 rfl rfl
  replace h := ite_t hc12 h
  refine V.iconst dX10_whisperMore_33 ic_m1 ?_
  obtain ⟨e1, e2⟩ := inj2 h
  subst e1
  subst e2
  exact V.iret dX10_whisperMore_34 rfl rfl
theorem ok_Hal_say {X : Sc} {l : Launch}  {M : Mem} {x1 : Int32} {x2 : Int32} {x3 : Int32} {r : Int32} {M' : Mem}  (h : f_Hal_say x1 x2 x3 M = some (r, M')) : Mt X l yX10_say cX10_say 4 (some .int) 3 0 0 [.ref 0, .int x1, .int x2, .int x3] S0 M (some (.int r)) S0 M' := by
  refine Mt.ofV (by decide) (Nat.le_of_ble_eq_true rfl) ?_
  show V X yX10_say cX10_say 4 (some .int) (rmD 3 0 0) l (FM (some (.int r)) S0 M' 0 0) 0 [some (.ref 0), some (.int x1), some (.int x2), some (.int x3)] [] S0 M 0 0
  unfold f_Hal_say at h
  refine V.aload_n dX10_say_0 rfl ?_
  refine V.iload_n dX10_say_1 rfl ?_
  refine V.iload_n dX10_say_2 rfl ?_
  refine V.iload_n dX10_say_3 rfl ?_
  obtain ⟨v2, M3, hv1, h⟩ := bnd2_s h
  refine V.cVi dX10_say_4 rfl mv_RX10_239 (ok_Hal_whisperMore hv1) rfl rfl s0_0 rfl (by decide) ⟨Nat.zero_le _, Nat.zero_le _⟩ (Nat.le_of_ble_eq_true rfl) (Nat.zero_le _) ?_
  obtain ⟨e1, e2⟩ := inj2 h
  subst e1
  subst e2
  exact V.iret dX10_say_7 rfl rfl
theorem ok_Hal_unsay {X : Sc} {l : Launch}  {M : Mem} {x1 : Int32} {r : Int32} {M' : Mem}  (h : f_Hal_unsay x1 M = some (r, M')) : Mt X l yX10_unsay cX10_unsay 3 (some .int) 1 0 0 [.ref 0, .int x1] S0 M (some (.int r)) S0 M' := by
  refine Mt.ofV (by decide) (Nat.le_of_ble_eq_true rfl) ?_
  show V X yX10_unsay cX10_unsay 3 (some .int) (rmD 1 0 0) l (FM (some (.int r)) S0 M' 0 0) 0 [some (.ref 0), some (.int x1), none] [] S0 M 0 0
  unfold f_Hal_unsay at h
  refine V.iload_n dX10_unsay_0 rfl ?_
  refine V.iconst dX10_unsay_1 ic_0 ?_
  refine V.aload_n dX10_unsay_2 rfl ?_
  refine V.getR dX10_unsay_3 fl_RX10_10 s0_0 rfl rfl ?_
  refine V.getR dX10_unsay_6 fl_RX10_242 s0_1 rfl rfl ?_
  refine V.getI dX10_unsay_9 fl_RX10_245 s0_14 rfl rfl ?_
  obtain ⟨v2, hv1, h⟩ := bnd_s h
  refine V.cSi dX10_unsay_12 rfl mv_RX10_77 (ok_Hal_within hv1) rfl rfl (by decide) ⟨Nat.zero_le _, Nat.zero_le _⟩ (Nat.le_of_ble_eq_true rfl) (Nat.zero_le _) ?_
  refine V.if_ne (tgt := 20) dX10_unsay_15 (by decide) (fun hc3 => ?_) (fun hc3 => ?_)
  · replace h := ite_f hc3 h
    refine V.aload_n dX10_unsay_20 rfl ?_
    refine V.getR dX10_unsay_21 fl_RX10_10 s0_0 rfl rfl ?_
    refine V.getR dX10_unsay_24 fl_RX10_242 s0_1 rfl rfl ?_
    refine V.getI dX10_unsay_27 fl_RX10_245 s0_14 rfl rfl ?_
    refine V.nmI (fun w4 hw4 => ?_)
    replace h := nmI_at h w4 hw4
    refine V.istore_n dX10_unsay_30 (by decide) rfl ?_
    refine V.aload_n dX10_unsay_31 rfl ?_
    refine V.getR dX10_unsay_32 fl_RX10_10 s0_0 rfl rfl ?_
    refine V.getR dX10_unsay_35 fl_RX10_242 s0_1 rfl rfl ?_
    refine V.iload_n dX10_unsay_38 rfl ?_
    refine V.putI dX10_unsay_39 fp_RX10_245 s0_14 rfl rfl (fun M5 hM5 => ?_)
    replace h := setM_at h M5 hM5
    refine V.iload_n dX10_unsay_42 rfl ?_
    obtain ⟨e1, e2⟩ := inj2 h
    subst e1
    subst e2
    exact V.iret dX10_unsay_43 rfl rfl
  replace h := ite_t hc3 h
  refine V.iconst dX10_unsay_18 ic_m1 ?_
  obtain ⟨e1, e2⟩ := inj2 h
  subst e1
  subst e2
  exact V.iret dX10_unsay_19 rfl rfl
theorem ok_Hal_isWhisper {X : Sc} {l : Launch}  {M : Mem} {x1 : Int32} {r : Int32}  (h : f_Hal_isWhisper M x1 = some r) : Mt X l yX10_isWhisper cX10_isWhisper 2 (some .boolean) 1 0 0 [.ref 0, .int x1] S0 M (some (.int r)) S0 M := by
  refine Mt.ofV (by decide) (Nat.le_of_ble_eq_true rfl) ?_
  show V X yX10_isWhisper cX10_isWhisper 2 (some .boolean) (rmD 1 0 0) l (FM (some (.int r)) S0 M 0 0) 0 [some (.ref 0), some (.int x1)] [] S0 M 0 0
  unfold f_Hal_isWhisper at h
  refine V.iload_n dX10_isWhisper_0 rfl ?_
  refine V.iconst dX10_isWhisper_1 ic_0 ?_
  refine V.aload_n dX10_isWhisper_2 rfl ?_
  refine V.getR dX10_isWhisper_3 fl_RX10_10 s0_0 rfl rfl ?_
  refine V.getR dX10_isWhisper_6 fl_RX10_242 s0_1 rfl rfl ?_
  refine V.getI dX10_isWhisper_9 fl_RX10_245 s0_14 rfl rfl ?_
  refine V.iconst dX10_isWhisper_12 ic_1 ?_
  refine V.isub dX10_isWhisper_13 ?_
  obtain ⟨v2, hv1, h⟩ := bnd_s h
  refine V.cSi dX10_isWhisper_14 rfl mv_RX10_77 (ok_Hal_within hv1) rfl rfl (by decide) ⟨Nat.zero_le _, Nat.zero_le _⟩ (Nat.le_of_ble_eq_true rfl) (Nat.zero_le _) ?_
  obtain ⟨hB3, h⟩ := ck_s h
  have e1 := inj1 h
  subst e1
  exact V.iret dX10_isWhisper_17 rfl (isB_n hB3)
theorem ok_Hal_said {X : Sc} {l : Launch}  {M : Mem} {x1 : Int32} {x2 : Int32} {r : Int32} {M' : Mem}  (h : f_Hal_said x1 x2 M = some (r, M')) : Mt X l yX10_said cX10_said 3 (some .int) 7 0 0 [.ref 0, .int x1, .int x2] S0 M (some (.int r)) S0 M' := by
  refine Mt.ofV (by decide) (Nat.le_of_ble_eq_true rfl) ?_
  show V X yX10_said cX10_said 3 (some .int) (rmD 7 0 0) l (FM (some (.int r)) S0 M' 0 0) 0 [some (.ref 0), some (.int x1), some (.int x2)] [] S0 M 0 0
  unfold f_Hal_said at h
  refine V.aload_n dX10_said_0 rfl ?_
  refine V.iload_n dX10_said_1 rfl ?_
  obtain ⟨v2, hv1, h⟩ := bnd_s h
  refine V.cVi dX10_said_2 rfl mv_RX10_246 (ok_Hal_isWhisper hv1) rfl rfl s0_0 rfl (by decide) ⟨Nat.zero_le _, Nat.zero_le _⟩ (Nat.le_of_ble_eq_true rfl) (Nat.zero_le _) ?_
  refine V.if_eq (tgt := 17) dX10_said_5 (by decide) (fun hc3 => ?_) (fun hc3 => ?_)
  · replace h := ite_t hc3 h
    refine V.iconst dX10_said_17 ic_m1 ?_
    obtain ⟨e1, e2⟩ := inj2 h
    subst e1
    subst e2
    exact V.iret dX10_said_18 rfl rfl
  replace h := ite_f hc3 h
  refine V.iload_n dX10_said_8 rfl ?_
  refine V.iconst dX10_said_9 ic_0 ?_
  refine V.iconst dX10_said_10 ic_3 ?_
  obtain ⟨v5, hv4, h⟩ := bnd_s h
  refine V.cSi dX10_said_11 rfl mv_RX10_77 (ok_Hal_within hv4) rfl rfl (by decide) ⟨Nat.zero_le _, Nat.zero_le _⟩ (Nat.le_of_ble_eq_true rfl) (Nat.zero_le _) ?_
  refine V.if_ne (tgt := 19) dX10_said_14 (by decide) (fun hc6 => ?_) (fun hc6 => ?_)
  · replace h := ite_f hc6 h
    refine V.iload_n dX10_said_19 rfl ?_
    refine V.iconst dX10_said_20 ic_3 ?_
    refine V.icmp_ge (tgt := 37) dX10_said_21 (by decide) (fun hc7 => ?_) (fun hc7 => ?_)
    · replace h := ite_t hc7 h
      refine V.aload_n dX10_said_37 rfl ?_
      refine V.getR dX10_said_38 fl_RX10_43 s0_0 rfl rfl ?_
      refine V.aload_n dX10_said_41 rfl ?_
      refine V.getR dX10_said_42 fl_RX10_10 s0_0 rfl rfl ?_
      refine V.iload_n dX10_said_45 rfl ?_
      obtain ⟨v9, M10, hv8, h⟩ := bnd2_s h
      refine V.cVi dX10_said_46 rfl mv_RX10_249 (ok_Gos_tellFirst hv8) rfl rfl s0_78 rfl (by decide) ⟨Nat.zero_le _, Nat.zero_le _⟩ (Nat.le_of_ble_eq_true rfl) (Nat.zero_le _) ?_
      refine V.pop dX10_said_49 rfl ?_
      refine V.aload_n dX10_said_50 rfl ?_
      refine V.getR dX10_said_51 fl_RX10_43 s0_0 rfl rfl ?_
      refine V.aload_n dX10_said_54 rfl ?_
      refine V.getR dX10_said_55 fl_RX10_10 s0_0 rfl rfl ?_
      refine V.iload_n dX10_said_58 rfl ?_
      obtain ⟨v12, M13, hv11, h⟩ := bnd2_s h
      refine V.cVi dX10_said_59 rfl mv_RX10_252 (ok_Gos_tellOne hv11) rfl rfl s0_78 rfl (by decide) ⟨Nat.zero_le _, Nat.zero_le _⟩ (Nat.le_of_ble_eq_true rfl) (Nat.zero_le _) ?_
      obtain ⟨e1, e2⟩ := inj2 h
      subst e1
      subst e2
      exact V.iret dX10_said_62 rfl rfl
    replace h := ite_f hc7 h
    refine V.aload_n dX10_said_24 rfl ?_
    refine V.getR dX10_said_25 fl_RX10_10 s0_0 rfl rfl ?_
    refine V.getR dX10_said_28 fl_RX10_242 s0_1 rfl rfl ?_
    refine V.iload_n dX10_said_31 rfl ?_
    refine V.iload_n dX10_said_32 rfl ?_
    obtain ⟨v15, hv14, h⟩ := bnd_s h
    refine V.cVi dX10_said_33 rfl mv_RX10_154 (ok_Tri_part s0_Tri14 hv14) rfl rfl s0_14 rfl (by decide) ⟨Nat.zero_le _, Nat.zero_le _⟩ (Nat.le_of_ble_eq_true rfl) (Nat.zero_le _) ?_
    obtain ⟨e1, e2⟩ := inj2 h
    subst e1
    subst e2
    exact V.iret dX10_said_36 rfl rfl
  replace h := ite_t hc6 h
  refine V.iconst dX10_said_17 ic_m1 ?_
  obtain ⟨e1, e2⟩ := inj2 h
  subst e1
  subst e2
  exact V.iret dX10_said_18 rfl rfl
theorem ok_Hal_knows {X : Sc} {l : Launch}  {M : Mem} {x1 : Int32} {x2 : Int32} {r : Int32} {M' : Mem}  (h : f_Hal_knows x1 x2 M = some (r, M')) : Mt X l yX10_knows cX10_knows 3 (some .int) 7 0 0 [.ref 0, .int x1, .int x2] S0 M (some (.int r)) S0 M' := by
  refine Mt.ofV (by decide) (Nat.le_of_ble_eq_true rfl) ?_
  show V X yX10_knows cX10_knows 3 (some .int) (rmD 7 0 0) l (FM (some (.int r)) S0 M' 0 0) 0 [some (.ref 0), some (.int x1), some (.int x2)] [] S0 M 0 0
  unfold f_Hal_knows at h
  refine V.aload_n dX10_knows_0 rfl ?_
  refine V.iload_n dX10_knows_1 rfl ?_
  obtain ⟨v2, hv1, h⟩ := bnd_s h
  refine V.cVi dX10_knows_2 rfl mv_RX10_166 (ok_Hal_isOne hv1) rfl rfl s0_0 rfl (by decide) ⟨Nat.zero_le _, Nat.zero_le _⟩ (Nat.le_of_ble_eq_true rfl) (Nat.zero_le _) ?_
  refine V.if_eq (tgt := 26) dX10_knows_5 (by decide) (fun hc3 => ?_) (fun hc3 => ?_)
  · replace h := ite_t hc3 h
    refine V.iconst dX10_knows_26 ic_m1 ?_
    obtain ⟨e1, e2⟩ := inj2 h
    subst e1
    subst e2
    exact V.iret dX10_knows_27 rfl rfl
  replace h := ite_f hc3 h
  refine V.iload_n dX10_knows_8 rfl ?_
  refine V.iconst dX10_knows_9 ic_0 ?_
  refine V.aload_n dX10_knows_10 rfl ?_
  refine V.getR dX10_knows_11 fl_RX10_10 s0_0 rfl rfl ?_
  refine V.getR dX10_knows_14 fl_RX10_242 s0_1 rfl rfl ?_
  refine V.getI dX10_knows_17 fl_RX10_245 s0_14 rfl rfl ?_
  obtain ⟨v5, hv4, h⟩ := bnd_s h
  refine V.cSi dX10_knows_20 rfl mv_RX10_77 (ok_Hal_within hv4) rfl rfl (by decide) ⟨Nat.zero_le _, Nat.zero_le _⟩ (Nat.le_of_ble_eq_true rfl) (Nat.zero_le _) ?_
  refine V.if_ne (tgt := 28) dX10_knows_23 (by decide) (fun hc6 => ?_) (fun hc6 => ?_)
  · replace h := ite_f hc6 h
    refine V.aload_n dX10_knows_28 rfl ?_
    refine V.getR dX10_knows_29 fl_RX10_43 s0_0 rfl rfl ?_
    refine V.aload_n dX10_knows_32 rfl ?_
    refine V.getR dX10_knows_33 fl_RX10_10 s0_0 rfl rfl ?_
    refine V.iload_n dX10_knows_36 rfl ?_
    obtain ⟨v8, M9, hv7, h⟩ := bnd2_s h
    refine V.cVi dX10_knows_37 rfl mv_RX10_249 (ok_Gos_tellFirst hv7) rfl rfl s0_78 rfl (by decide) ⟨Nat.zero_le _, Nat.zero_le _⟩ (Nat.le_of_ble_eq_true rfl) (Nat.zero_le _) ?_
    refine V.pop dX10_knows_40 rfl ?_
    refine V.aload_n dX10_knows_41 rfl ?_
    refine V.getR dX10_knows_42 fl_RX10_43 s0_0 rfl rfl ?_
    refine V.iload_n dX10_knows_45 rfl ?_
    obtain ⟨v11, hv10, h⟩ := bnd_s h
    refine V.cVi dX10_knows_46 rfl mv_RX10_255 (ok_Gos_secretsOf hv10) rfl rfl s0_78 rfl (by decide) ⟨Nat.zero_le _, Nat.zero_le _⟩ (Nat.le_of_ble_eq_true rfl) (Nat.zero_le _) ?_
    obtain ⟨e1, e2⟩ := inj2 h
    subst e1
    subst e2
    exact V.iret dX10_knows_49 rfl rfl
  replace h := ite_t hc6 h
  refine V.iconst dX10_knows_26 ic_m1 ?_
  obtain ⟨e1, e2⟩ := inj2 h
  subst e1
  subst e2
  exact V.iret dX10_knows_27 rfl rfl
theorem ok_Hal_since {X : Sc} {l : Launch}  {M : Mem} {x1 : Int32} {x2 : Int32} {r : Int32} {M' : Mem}  (h : f_Hal_since x1 x2 M = some (r, M')) : Mt X l yX10_since cX10_since 3 (some .int) 7 0 0 [.ref 0, .int x1, .int x2] S0 M (some (.int r)) S0 M' := by
  refine Mt.ofV (by decide) (Nat.le_of_ble_eq_true rfl) ?_
  show V X yX10_since cX10_since 3 (some .int) (rmD 7 0 0) l (FM (some (.int r)) S0 M' 0 0) 0 [some (.ref 0), some (.int x1), some (.int x2)] [] S0 M 0 0
  unfold f_Hal_since at h
  refine V.aload_n dX10_since_0 rfl ?_
  refine V.iload_n dX10_since_1 rfl ?_
  obtain ⟨v2, hv1, h⟩ := bnd_s h
  refine V.cVi dX10_since_2 rfl mv_RX10_166 (ok_Hal_isOne hv1) rfl rfl s0_0 rfl (by decide) ⟨Nat.zero_le _, Nat.zero_le _⟩ (Nat.le_of_ble_eq_true rfl) (Nat.zero_le _) ?_
  refine V.if_eq (tgt := 15) dX10_since_5 (by decide) (fun hc3 => ?_) (fun hc3 => ?_)
  · replace h := ite_t hc3 h
    refine V.iconst dX10_since_15 ic_m1 ?_
    obtain ⟨e1, e2⟩ := inj2 h
    subst e1
    subst e2
    exact V.iret dX10_since_16 rfl rfl
  replace h := ite_f hc3 h
  refine V.iload_n dX10_since_8 rfl ?_
  obtain ⟨v5, hv4, h⟩ := bnd_s h
  refine V.cSi dX10_since_9 rfl mv_RX10_258 (ok_Hal_isSecret hv4) rfl rfl (by decide) ⟨Nat.zero_le _, Nat.zero_le _⟩ (Nat.le_of_ble_eq_true rfl) (Nat.zero_le _) ?_
  refine V.if_ne (tgt := 17) dX10_since_12 (by decide) (fun hc6 => ?_) (fun hc6 => ?_)
  · replace h := ite_f hc6 h
    refine V.aload_n dX10_since_17 rfl ?_
    refine V.getR dX10_since_18 fl_RX10_43 s0_0 rfl rfl ?_
    refine V.aload_n dX10_since_21 rfl ?_
    refine V.getR dX10_since_22 fl_RX10_10 s0_0 rfl rfl ?_
    refine V.iload_n dX10_since_25 rfl ?_
    refine V.iconst dX10_since_26 ic_1 ?_
    refine V.iload_n dX10_since_27 rfl ?_
    refine V.ishl dX10_since_28 ?_
    refine V.iconst dX10_since_29 ic_m1 ?_
    refine V.ixor dX10_since_30 ?_
    obtain ⟨v8, M9, hv7, h⟩ := bnd2_s h
    refine V.cVi dX10_since_31 rfl mv_RX10_261 (ok_Gos_firstKnownOutside hv7) rfl rfl s0_78 rfl (by decide) ⟨Nat.zero_le _, Nat.zero_le _⟩ (Nat.le_of_ble_eq_true rfl) (Nat.zero_le _) ?_
    obtain ⟨e1, e2⟩ := inj2 h
    subst e1
    subst e2
    exact V.iret dX10_since_34 rfl rfl
  replace h := ite_t hc6 h
  refine V.iconst dX10_since_15 ic_m1 ?_
  obtain ⟨e1, e2⟩ := inj2 h
  subst e1
  subst e2
  exact V.iret dX10_since_16 rfl rfl
theorem ok_Hal_areBitsBelow {X : Sc} {l : Launch} {sh : List Shp}  {M : Mem} {x0 : Int32} {x1 : Int32} {r : Int32}  (h : f_Hal_areBitsBelow x0 x1 = some r) : Mt X l yX10_areBitsBelow cX10_areBitsBelow 2 (some .boolean) 1 0 0 [.int x0, .int x1] sh M (some (.int r)) sh M := by
  refine Mt.ofV (by decide) (Nat.le_of_ble_eq_true rfl) ?_
  show V X yX10_areBitsBelow cX10_areBitsBelow 2 (some .boolean) (rmD 1 0 0) l (FM (some (.int r)) sh M 0 0) 0 [some (.int x0), some (.int x1)] [] sh M 0 0
  unfold f_Hal_areBitsBelow at h
  refine V.iload_n dX10_areBitsBelow_0 rfl ?_
  refine V.iconst dX10_areBitsBelow_1 ic_0 ?_
  refine V.iconst dX10_areBitsBelow_2 ic_1 ?_
  refine V.iload_n dX10_areBitsBelow_3 rfl ?_
  refine V.ishl dX10_areBitsBelow_4 ?_
  refine V.iconst dX10_areBitsBelow_5 ic_1 ?_
  refine V.isub dX10_areBitsBelow_6 ?_
  obtain ⟨v2, hv1, h⟩ := bnd_s h
  refine V.cSi dX10_areBitsBelow_7 rfl mv_RX10_77 (ok_Hal_within hv1) rfl rfl (by decide) ⟨Nat.zero_le _, Nat.zero_le _⟩ (Nat.le_of_ble_eq_true rfl) (Nat.zero_le _) ?_
  obtain ⟨hB3, h⟩ := ck_s h
  have e1 := inj1 h
  subst e1
  exact V.iret dX10_areBitsBelow_10 rfl (isB_n hB3)
theorem ok_Hal_leak {X : Sc} {l : Launch}  {M : Mem} {x1 : Int32} {x2 : Int32} {x3 : Int32} {r : Int32} {M' : Mem}  (h : f_Hal_leak x1 x2 x3 M = some (r, M')) : Mt X l yX10_leak cX10_leak 5 (some .int) 7 0 0 [.ref 0, .int x1, .int x2, .int x3] S0 M (some (.int r)) S0 M' := by
  refine Mt.ofV (by decide) (Nat.le_of_ble_eq_true rfl) ?_
  show V X yX10_leak cX10_leak 5 (some .int) (rmD 7 0 0) l (FM (some (.int r)) S0 M' 0 0) 0 [some (.ref 0), some (.int x1), some (.int x2), some (.int x3), none] [] S0 M 0 0
  unfold f_Hal_leak at h
  refine V.iload_n dX10_leak_0 rfl ?_
  obtain ⟨v2, hv1, h⟩ := bnd_s h
  refine V.cSi dX10_leak_1 rfl mv_RX10_258 (ok_Hal_isSecret hv1) rfl rfl (by decide) ⟨Nat.zero_le _, Nat.zero_le _⟩ (Nat.le_of_ble_eq_true rfl) (Nat.zero_le _) ?_
  refine V.if_eq (tgt := 30) dX10_leak_4 (by decide) (fun hc3 => ?_) (fun hc3 => ?_)
  · replace h := ite_t hc3 h
    refine V.iconst dX10_leak_30 ic_m1 ?_
    obtain ⟨e1, e2⟩ := inj2 h
    subst e1
    subst e2
    exact V.iret dX10_leak_31 rfl rfl
  replace h := ite_f hc3 h
  refine V.iload_n dX10_leak_7 rfl ?_
  refine V.aload_n dX10_leak_8 rfl ?_
  refine V.getR dX10_leak_9 fl_RX10_10 s0_0 rfl rfl ?_
  refine V.getI dX10_leak_12 fl_RX10_264 s0_1 rfl rfl ?_
  obtain ⟨v5, hv4, h⟩ := bnd_s h
  refine V.cSi dX10_leak_15 rfl mv_RX10_267 (ok_Hal_areBitsBelow hv4) rfl rfl (by decide) ⟨Nat.zero_le _, Nat.zero_le _⟩ (Nat.le_of_ble_eq_true rfl) (Nat.zero_le _) ?_
  refine V.if_eq (tgt := 30) dX10_leak_18 (by decide) (fun hc6 => ?_) (fun hc6 => ?_)
  · replace h := ite_t hc6 h
    refine V.iconst dX10_leak_30 ic_m1 ?_
    obtain ⟨e1, e2⟩ := inj2 h
    subst e1
    subst e2
    exact V.iret dX10_leak_31 rfl rfl
  replace h := ite_f hc6 h
  refine V.iload_n dX10_leak_21 rfl ?_
  refine V.iconst dX10_leak_22 ic_0 ?_
  refine V.iconst dX10_leak_23 ic_2 ?_
  obtain ⟨v8, hv7, h⟩ := bnd_s h
  refine V.cSi dX10_leak_24 rfl mv_RX10_77 (ok_Hal_within hv7) rfl rfl (by decide) ⟨Nat.zero_le _, Nat.zero_le _⟩ (Nat.le_of_ble_eq_true rfl) (Nat.zero_le _) ?_
  refine V.if_ne (tgt := 32) dX10_leak_27 (by decide) (fun hc9 => ?_) (fun hc9 => ?_)
  · replace h := ite_f hc9 h
    refine V.aload_n dX10_leak_32 rfl ?_
    refine V.getR dX10_leak_33 fl_RX10_43 s0_0 rfl rfl ?_
    refine V.aload_n dX10_leak_36 rfl ?_
    refine V.getR dX10_leak_37 fl_RX10_10 s0_0 rfl rfl ?_
    refine V.iload_n dX10_leak_40 rfl ?_
    refine V.iload_n dX10_leak_41 rfl ?_
    obtain ⟨v11, M12, hv10, h⟩ := bnd2_s h
    refine V.cVi dX10_leak_42 rfl mv_RX10_261 (ok_Gos_firstKnownOutside hv10) rfl rfl s0_78 rfl (by decide) ⟨Nat.zero_le _, Nat.zero_le _⟩ (Nat.le_of_ble_eq_true rfl) (Nat.zero_le _) ?_
    refine V.istore dX10_leak_45 (by decide) rfl ?_
    refine V.iload dX10_leak_47 rfl ?_
    refine V.bipush dX10_leak_49 bp_m4 ?_
    refine V.icmp_eq (tgt := 58) dX10_leak_51 (by decide) (fun hc13 => ?_) (fun hc13 => ?_)
    · replace h := ite_t hc13 h
      refine V.iload dX10_leak_58 rfl ?_
      obtain ⟨e1, e2⟩ := inj2 h
      subst e1
      subst e2
      exact V.iret dX10_leak_60 rfl rfl
    replace h := ite_f hc13 h
    refine V.iload_n dX10_leak_54 rfl ?_
    refine V.if_ne (tgt := 61) dX10_leak_55 (by decide) (fun hc14 => ?_) (fun hc14 => ?_)
    · replace h := ite_f hc14 h
      refine V.iload_n dX10_leak_61 rfl ?_
      refine V.iconst dX10_leak_62 ic_1 ?_
      refine V.icmp_ne (tgt := 82) dX10_leak_63 (by decide) (fun hc15 => ?_) (fun hc15 => ?_)
      · replace h := ite_f hc15 h
        refine V.aload_n dX10_leak_82 rfl ?_
        refine V.getR dX10_leak_83 fl_RX10_43 s0_0 rfl rfl ?_
        refine V.iload_n dX10_leak_86 rfl ?_
        obtain ⟨v17, hv16, h⟩ := bnd_s h
        refine V.cVi dX10_leak_87 rfl mv_RX10_271 (ok_Gos_knowersOf hv16) rfl rfl s0_78 rfl (by decide) ⟨Nat.zero_le _, Nat.zero_le _⟩ (Nat.le_of_ble_eq_true rfl) (Nat.zero_le _) ?_
        refine V.iload_n dX10_leak_90 rfl ?_
        refine V.iconst dX10_leak_91 ic_m1 ?_
        refine V.ixor dX10_leak_92 ?_
        refine V.iand dX10_leak_93 ?_
        obtain ⟨e1, e2⟩ := inj2 h
        subst e1
        subst e2
        exact V.iret dX10_leak_94 rfl rfl
      replace h := ite_t hc15 h
      refine V.aload_n dX10_leak_66 rfl ?_
      refine V.getR dX10_leak_67 fl_RX10_10 s0_0 rfl rfl ?_
      refine V.getR dX10_leak_70 fl_RX10_242 s0_1 rfl rfl ?_
      refine V.iload dX10_leak_73 rfl ?_
      refine V.iconst dX10_leak_75 ic_1 ?_
      obtain ⟨v19, hv18, h⟩ := bnd_s h
      refine V.cVi dX10_leak_76 rfl mv_RX10_154 (ok_Tri_part s0_Tri14 hv18) rfl rfl s0_14 rfl (by decide) ⟨Nat.zero_le _, Nat.zero_le _⟩ (Nat.le_of_ble_eq_true rfl) (Nat.zero_le _) ?_
      refine V.goto (tgt := 94) dX10_leak_79 (by decide) ?_
      obtain ⟨e1, e2⟩ := inj2 h
      subst e1
      subst e2
      exact V.iret dX10_leak_94 rfl rfl
    replace h := ite_t hc14 h
    refine V.iload dX10_leak_58 rfl ?_
    obtain ⟨e1, e2⟩ := inj2 h
    subst e1
    subst e2
    exact V.iret dX10_leak_60 rfl rfl
  replace h := ite_t hc9 h
  refine V.iconst dX10_leak_30 ic_m1 ?_
  obtain ⟨e1, e2⟩ := inj2 h
  subst e1
  subst e2
  exact V.iret dX10_leak_31 rfl rfl
theorem ok_Hal_without {X : Sc} {l : Launch}  {M : Mem} {x1 : Int32} {r : Int32} {M' : Mem}  (h : f_Hal_without x1 M = some (r, M')) : Mt X l yX10_without cX10_without 5 (some .int) 7 0 0 [.ref 0, .int x1] S0 M (some (.int r)) S0 M' := by
  refine Mt.ofV (by decide) (Nat.le_of_ble_eq_true rfl) ?_
  show V X yX10_without cX10_without 5 (some .int) (rmD 7 0 0) l (FM (some (.int r)) S0 M' 0 0) 0 [some (.ref 0), some (.int x1), none, none, none] [] S0 M 0 0
  unfold f_Hal_without at h
  refine V.aload_n dX10_without_0 rfl ?_
  refine V.iload_n dX10_without_1 rfl ?_
  obtain ⟨v2, hv1, h⟩ := bnd_s h
  refine V.cVi dX10_without_2 rfl mv_RX10_246 (ok_Hal_isWhisper hv1) rfl rfl s0_0 rfl (by decide) ⟨Nat.zero_le _, Nat.zero_le _⟩ (Nat.le_of_ble_eq_true rfl) (Nat.zero_le _) ?_
  refine V.if_ne (tgt := 10) dX10_without_5 (by decide) (fun hc3 => ?_) (fun hc3 => ?_)
  · replace h := ite_f hc3 h
    refine V.aload_n dX10_without_10 rfl ?_
    refine V.getR dX10_without_11 fl_RX10_10 s0_0 rfl rfl ?_
    refine V.getR dX10_without_14 fl_RX10_242 s0_1 rfl rfl ?_
    refine V.iload_n dX10_without_17 rfl ?_
    refine V.iconst dX10_without_18 ic_2 ?_
    obtain ⟨v5, hv4, h⟩ := bnd_s h
    refine V.cVi dX10_without_19 rfl mv_RX10_154 (ok_Tri_part s0_Tri14 hv4) rfl rfl s0_14 rfl (by decide) ⟨Nat.zero_le _, Nat.zero_le _⟩ (Nat.le_of_ble_eq_true rfl) (Nat.zero_le _) ?_
    refine V.istore_n dX10_without_22 (by decide) rfl ?_
    refine V.aload_n dX10_without_23 rfl ?_
    refine V.getR dX10_without_24 fl_RX10_43 s0_0 rfl rfl ?_
    refine V.aload_n dX10_without_27 rfl ?_
    refine V.getR dX10_without_28 fl_RX10_10 s0_0 rfl rfl ?_
    refine V.aload_n dX10_without_31 rfl ?_
    refine V.getR dX10_without_32 fl_RX10_10 s0_0 rfl rfl ?_
    refine V.getR dX10_without_35 fl_RX10_242 s0_1 rfl rfl ?_
    refine V.getI dX10_without_38 fl_RX10_245 s0_14 rfl rfl ?_
    obtain ⟨v7, M8, hv6, h⟩ := bnd2_s h
    refine V.cVi dX10_without_41 rfl mv_RX10_249 (ok_Gos_tellFirst hv6) rfl rfl s0_78 rfl (by decide) ⟨Nat.zero_le _, Nat.zero_le _⟩ (Nat.le_of_ble_eq_true rfl) (Nat.zero_le _) ?_
    refine V.pop dX10_without_44 rfl ?_
    refine V.aload_n dX10_without_45 rfl ?_
    refine V.getR dX10_without_46 fl_RX10_43 s0_0 rfl rfl ?_
    refine V.iload_n dX10_without_49 rfl ?_
    obtain ⟨v10, hv9, h⟩ := bnd_s h
    refine V.cVi dX10_without_50 rfl mv_RX10_271 (ok_Gos_knowersOf hv9) rfl rfl s0_78 rfl (by decide) ⟨Nat.zero_le _, Nat.zero_le _⟩ (Nat.le_of_ble_eq_true rfl) (Nat.zero_le _) ?_
    obtain ⟨v12, hv11, h⟩ := bnd_s h
    refine V.cSi dX10_without_53 rfl mv_RX10_231 (ok_Int_bitCount hv11) rfl rfl (by decide) ⟨Nat.zero_le _, Nat.zero_le _⟩ (Nat.le_of_ble_eq_true rfl) (Nat.zero_le _) ?_
    refine V.istore_n dX10_without_56 (by decide) rfl ?_
    refine V.aload_n dX10_without_57 rfl ?_
    refine V.getR dX10_without_58 fl_RX10_43 s0_0 rfl rfl ?_
    refine V.aload_n dX10_without_61 rfl ?_
    refine V.getR dX10_without_62 fl_RX10_10 s0_0 rfl rfl ?_
    refine V.iload_n dX10_without_65 rfl ?_
    obtain ⟨M14, hv13, h⟩ := bnd_s h
    refine V.cVv dX10_without_66 rfl mv_RX10_274 (ok_Gos_tellAllBut hv13) rfl rfl s0_78 rfl (by decide) ⟨Nat.zero_le _, Nat.zero_le _⟩ (Nat.le_of_ble_eq_true rfl) (Nat.zero_le _) ?_
    refine V.iload_n dX10_without_69 rfl ?_
    refine V.aload_n dX10_without_70 rfl ?_
    refine V.getR dX10_without_71 fl_RX10_43 s0_0 rfl rfl ?_
    refine V.iload_n dX10_without_74 rfl ?_
    obtain ⟨v16, hv15, h⟩ := bnd_s h
    refine V.cVi dX10_without_75 rfl mv_RX10_271 (ok_Gos_knowersOf hv15) rfl rfl s0_78 rfl (by decide) ⟨Nat.zero_le _, Nat.zero_le _⟩ (Nat.le_of_ble_eq_true rfl) (Nat.zero_le _) ?_
    obtain ⟨v18, hv17, h⟩ := bnd_s h
    refine V.cSi dX10_without_78 rfl mv_RX10_231 (ok_Int_bitCount hv17) rfl rfl (by decide) ⟨Nat.zero_le _, Nat.zero_le _⟩ (Nat.le_of_ble_eq_true rfl) (Nat.zero_le _) ?_
    refine V.isub dX10_without_81 ?_
    refine V.nmI (fun w19 hw19 => ?_)
    replace h := nmI_at h w19 hw19
    refine V.istore dX10_without_82 (by decide) rfl ?_
    refine V.iload dX10_without_84 rfl ?_
    refine V.if_ge (tgt := 97) dX10_without_86 (by decide) (fun hc20 => ?_) (fun hc20 => ?_)
    · replace h := ite_t hc20 h
      refine V.iload dX10_without_97 rfl ?_
      obtain ⟨e1, e2⟩ := inj2 h
      subst e1
      subst e2
      exact V.iret dX10_without_99 rfl rfl
    replace h := ite_f hc20 h
    refine V.iload dX10_without_89 rfl ?_
    refine V.bipush dX10_without_91 bp_100 ?_
    refine V.isub dX10_without_93 ?_
    refine V.goto (tgt := 99) dX10_without_94 (by decide) ?_
    obtain ⟨e1, e2⟩ := inj2 h
    subst e1
    subst e2
    exact V.iret dX10_without_99 rfl rfl
  replace h := ite_t hc3 h
  refine V.iconst dX10_without_8 ic_m1 ?_
  obtain ⟨e1, e2⟩ := inj2 h
  subst e1
  subst e2
  exact V.iret dX10_without_9 rfl rfl
theorem ok_Hal_nextSeed {X : Sc} {l : Launch} {sh : List Shp}  {M : Mem} {x0 : Int32} {r : Int32}  (h : f_Hal_nextSeed x0 = some r) : Mt X l yX10_nextSeed cX10_nextSeed 1 (some .int) 0 0 0 [.int x0] sh M (some (.int r)) sh M := by
  refine Mt.ofV (by decide) (Nat.le_of_ble_eq_true rfl) ?_
  show V X yX10_nextSeed cX10_nextSeed 1 (some .int) (rmD 0 0 0) l (FM (some (.int r)) sh M 0 0) 0 [some (.int x0)] [] sh M 0 0
  unfold f_Hal_nextSeed at h
  refine V.iload_n dX10_nextSeed_0 rfl ?_
  refine V.ldcw dX10_nextSeed_1 rfl kc_RX10_321 ?_
  refine V.imul dX10_nextSeed_4 ?_
  refine V.sipush dX10_nextSeed_5 sp_12345 ?_
  refine V.iadd dX10_nextSeed_8 ?_
  have e1 := inj1 h
  subst e1
  exact V.iret dX10_nextSeed_9 rfl rfl
theorem ok_Hal_drawnFrom {X : Sc} {l : Launch} {sh : List Shp}  {M : Mem} {x0 : Int32} {r : Int32}  (h : f_Hal_drawnFrom x0 = some r) : Mt X l yX10_drawnFrom cX10_drawnFrom 1 (some .int) 0 0 0 [.int x0] sh M (some (.int r)) sh M := by
  refine Mt.ofV (by decide) (Nat.le_of_ble_eq_true rfl) ?_
  show V X yX10_drawnFrom cX10_drawnFrom 1 (some .int) (rmD 0 0 0) l (FM (some (.int r)) sh M 0 0) 0 [some (.int x0)] [] sh M 0 0
  unfold f_Hal_drawnFrom at h
  refine V.iload_n dX10_drawnFrom_0 rfl ?_
  refine V.bipush dX10_drawnFrom_1 bp_16 ?_
  refine V.ishr dX10_drawnFrom_3 ?_
  refine V.sipush dX10_drawnFrom_4 sp_32767 ?_
  refine V.iand dX10_drawnFrom_7 ?_
  have e1 := inj1 h
  subst e1
  exact V.iret dX10_drawnFrom_8 rfl rfl
theorem okc_Hal_murmur_49 {X : Sc} {l : Launch}     : ∀ (n : Nat) (x2 : Int32) (x3 : Int32) (x4 : Int32) (x5 : Int32) (M : Mem) (r : Int32) (M' : Mem), f_Hal_murmur_L49  n x2 x3 x4 x5 M = some (r, M') → V X yX10_murmur cX10_murmur 7 (some .int) (rmD 7 0 0) l (FM (some (.int r)) S0 M' 0 0) 49 [some (.ref 0), none, some (.int x2), some (.int x3), some (.int x4), some (.int x5), none] [] S0 M 0 0 := by
  intro n
  induction n with
  | zero =>
    intro x2 x3 x4 x5 M r M' h
    rw [f_Hal_murmur_L49] at h
    cases h
  | succ n ih =>
    intro x2 x3 x4 x5 M r M' h
    rw [f_Hal_murmur_L49] at h
    refine V.iload dX10_murmur_49 rfl ?_
    refine V.iload_n dX10_murmur_51 rfl ?_
    refine V.icmp_ge (tgt := 111) dX10_murmur_52 (by decide) (fun hc1 => ?_) (fun hc1 => ?_)
    · replace h := ite_t hc1 h
      refine V.aload_n dX10_murmur_111 rfl ?_
      refine V.getR dX10_murmur_112 fl_RX10_43 s0_0 rfl rfl ?_
      refine V.aload_n dX10_murmur_115 rfl ?_
      refine V.getR dX10_murmur_116 fl_RX10_10 s0_0 rfl rfl ?_
      refine V.iload_n dX10_murmur_119 rfl ?_
      obtain ⟨v3, M4, hv2, h⟩ := bnd2_s h
      refine V.cVi dX10_murmur_120 rfl mv_RX10_249 (ok_Gos_tellFirst hv2) rfl rfl s0_78 rfl (by decide) ⟨Nat.zero_le _, Nat.zero_le _⟩ (Nat.le_of_ble_eq_true rfl) (Nat.zero_le _) ?_
      obtain ⟨e1, e2⟩ := inj2 h
      subst e1
      subst e2
      exact V.iret dX10_murmur_123 rfl rfl
    replace h := ite_f hc1 h
    refine V.iload dX10_murmur_55 rfl ?_
    obtain ⟨v6, hv5, h⟩ := bnd_s h
    refine V.cSi dX10_murmur_57 rfl mv_RX10_277 (ok_Hal_nextSeed hv5) rfl rfl (by decide) ⟨Nat.zero_le _, Nat.zero_le _⟩ (Nat.le_of_ble_eq_true rfl) (Nat.zero_le _) ?_
    refine V.istore dX10_murmur_60 (by decide) rfl ?_
    refine V.iload dX10_murmur_62 rfl ?_
    obtain ⟨v8, hv7, h⟩ := bnd_s h
    refine V.cSi dX10_murmur_64 rfl mv_RX10_280 (ok_Hal_drawnFrom hv7) rfl rfl (by decide) ⟨Nat.zero_le _, Nat.zero_le _⟩ (Nat.le_of_ble_eq_true rfl) (Nat.zero_le _) ?_
    refine V.aload_n dX10_murmur_67 rfl ?_
    refine V.getR dX10_murmur_68 fl_RX10_10 s0_0 rfl rfl ?_
    refine V.getI dX10_murmur_71 fl_RX10_264 s0_1 rfl rfl ?_
    obtain ⟨hz9, h⟩ := ite_z h
    refine V.irem dX10_murmur_74 hz9 ?_
    refine V.nmI (fun w10 hw10 => ?_)
    replace h := nmI_at h w10 hw10
    refine V.istore dX10_murmur_75 (by decide) rfl ?_
    refine V.iload dX10_murmur_77 rfl ?_
    obtain ⟨v12, hv11, h⟩ := bnd_s h
    refine V.cSi dX10_murmur_79 rfl mv_RX10_277 (ok_Hal_nextSeed hv11) rfl rfl (by decide) ⟨Nat.zero_le _, Nat.zero_le _⟩ (Nat.le_of_ble_eq_true rfl) (Nat.zero_le _) ?_
    refine V.istore dX10_murmur_82 (by decide) rfl ?_
    refine V.aload_n dX10_murmur_84 rfl ?_
    refine V.getR dX10_murmur_85 fl_RX10_10 s0_0 rfl rfl ?_
    refine V.getR dX10_murmur_88 fl_RX10_242 s0_1 rfl rfl ?_
    refine V.iload_n dX10_murmur_91 rfl ?_
    refine V.iload dX10_murmur_92 rfl ?_
    refine V.iload dX10_murmur_94 rfl ?_
    obtain ⟨v14, hv13, h⟩ := bnd_s h
    refine V.cSi dX10_murmur_96 rfl mv_RX10_280 (ok_Hal_drawnFrom hv13) rfl rfl (by decide) ⟨Nat.zero_le _, Nat.zero_le _⟩ (Nat.le_of_ble_eq_true rfl) (Nat.zero_le _) ?_
    refine V.bipush dX10_murmur_99 bp_8 ?_
    refine V.irem dX10_murmur_101 (by decide) ?_
    obtain ⟨M16, hv15, h⟩ := bnd_s h
    refine V.cVv dX10_murmur_102 rfl mv_RX10_283 (ok_Tri_add s0_Tri14 hv15) rfl rfl s0_14 rfl (by decide) ⟨Nat.zero_le _, Nat.zero_le _⟩ (Nat.le_of_ble_eq_true rfl) (Nat.zero_le _) ?_
    refine V.iinc dX10_murmur_105 rfl (iinc_c ic_1) (by decide) rfl ?_
    refine V.goto (tgt := 49) dX10_murmur_108 (by decide) ?_
    refine V.mask [true, false, true, true, true, true, false] rfl ?_
    exact ih _ _ _ _ _ _ _ h
theorem ok_Hal_murmur {X : Sc} {l : Launch}  {M : Mem} {x1 : Int32} {x2 : Int32} {x3 : Int32} {r : Int32} {M' : Mem}  (h : f_Hal_murmur x1 x2 x3 M = some (r, M')) : Mt X l yX10_murmur cX10_murmur 7 (some .int) 7 0 0 [.ref 0, .int x1, .int x2, .int x3] S0 M (some (.int r)) S0 M' := by
  refine Mt.ofV (by decide) (Nat.le_of_ble_eq_true rfl) ?_
  show V X yX10_murmur cX10_murmur 7 (some .int) (rmD 7 0 0) l (FM (some (.int r)) S0 M' 0 0) 0 [some (.ref 0), some (.int x1), some (.int x2), some (.int x3), none, none, none] [] S0 M 0 0
  unfold f_Hal_murmur at h
  refine V.iload_n dX10_murmur_0 rfl ?_
  refine V.iconst dX10_murmur_1 ic_1 ?_
  refine V.bipush dX10_murmur_2 bp_12 ?_
  obtain ⟨v2, hv1, h⟩ := bnd_s h
  refine V.cSi dX10_murmur_4 rfl mv_RX10_77 (ok_Hal_within hv1) rfl rfl (by decide) ⟨Nat.zero_le _, Nat.zero_le _⟩ (Nat.le_of_ble_eq_true rfl) (Nat.zero_le _) ?_
  refine V.if_eq (tgt := 17) dX10_murmur_7 (by decide) (fun hc3 => ?_) (fun hc3 => ?_)
  · replace h := ite_t hc3 h
    refine V.iconst dX10_murmur_17 ic_m1 ?_
    obtain ⟨e1, e2⟩ := inj2 h
    subst e1
    subst e2
    exact V.iret dX10_murmur_18 rfl rfl
  replace h := ite_f hc3 h
  refine V.iload_n dX10_murmur_10 rfl ?_
  obtain ⟨v5, hv4, h⟩ := bnd_s h
  refine V.cSi dX10_murmur_11 rfl mv_RX10_124 (ok_Hal_isHour hv4) rfl rfl (by decide) ⟨Nat.zero_le _, Nat.zero_le _⟩ (Nat.le_of_ble_eq_true rfl) (Nat.zero_le _) ?_
  refine V.if_ne (tgt := 19) dX10_murmur_14 (by decide) (fun hc6 => ?_) (fun hc6 => ?_)
  · replace h := ite_f hc6 h
    refine V.aload_n dX10_murmur_19 rfl ?_
    refine V.getR dX10_murmur_20 fl_RX10_10 s0_0 rfl rfl ?_
    refine V.getI dX10_murmur_23 fl_RX10_264 s0_1 rfl rfl ?_
    refine V.if_gt (tgt := 32) dX10_murmur_26 (by decide) (fun hc7 => ?_) (fun hc7 => ?_)
    · replace h := ite_t hc7 h
      refine V.aload_n dX10_murmur_32 rfl ?_
      refine V.getR dX10_murmur_33 fl_RX10_10 s0_0 rfl rfl ?_
      refine V.getR dX10_murmur_36 fl_RX10_242 s0_1 rfl rfl ?_
      refine V.iconst dX10_murmur_39 ic_0 ?_
      refine V.putI dX10_murmur_40 fp_RX10_245 s0_14 rfl rfl (fun M8 hM8 => ?_)
      replace h := setM_at h M8 hM8
      refine V.iload_n dX10_murmur_43 rfl ?_
      refine V.istore dX10_murmur_44 (by decide) rfl ?_
      refine V.iconst dX10_murmur_46 ic_0 ?_
      refine V.istore dX10_murmur_47 (by decide) rfl ?_
      refine V.mask [true, false, true, true, true, true, false] rfl ?_
      exact okc_Hal_murmur_49 _ _ _ _ _ _ _ _ h
    replace h := ite_f hc7 h
    refine V.bipush dX10_murmur_29 bp_m2 ?_
    obtain ⟨e1, e2⟩ := inj2 h
    subst e1
    subst e2
    exact V.iret dX10_murmur_31 rfl rfl
  replace h := ite_t hc6 h
  refine V.iconst dX10_murmur_17 ic_m1 ?_
  obtain ⟨e1, e2⟩ := inj2 h
  subst e1
  subst e2
  exact V.iret dX10_murmur_18 rfl rfl
theorem okc_Hal_from_31 {X : Sc} {l : Launch}     : ∀ (n : Nat) (x1 : Int32) (x2 : Int32) (x3 : Int32) (x4 : Int32) (M : Mem) (r : Int32) (M' : Mem), f_Hal_from_L31  n x1 x2 x3 x4 M = some (r, M') → V X yX10_from cX10_from 5 (some .int) (rmD 4 0 0) l (FM (some (.int r)) S0 M' 0 0) 31 [some (.ref 0), some (.int x1), some (.int x2), some (.int x3), some (.int x4)] [] S0 M 0 0 := by
  intro n
  induction n with
  | zero =>
    intro x1 x2 x3 x4 M r M' h
    rw [f_Hal_from_L31] at h
    cases h
  | succ n ih =>
    intro x1 x2 x3 x4 M r M' h
    rw [f_Hal_from_L31] at h
    refine V.iload dX10_from_31 rfl ?_
    refine V.aload_n dX10_from_33 rfl ?_
    refine V.getR dX10_from_34 fl_RX10_10 s0_0 rfl rfl ?_
    refine V.getR dX10_from_37 fl_RX10_127 s0_1 rfl rfl ?_
    refine V.getI dX10_from_40 fl_RX10_199 s0_4 rfl rfl ?_
    refine V.icmp_ge (tgt := 77) dX10_from_43 (by decide) (fun hc1 => ?_) (fun hc1 => ?_)
    · replace h := ite_t hc1 h
      refine V.iload_n dX10_from_77 rfl ?_
      obtain ⟨e1, e2⟩ := inj2 h
      subst e1
      subst e2
      exact V.iret dX10_from_78 rfl rfl
    replace h := ite_f hc1 h
    refine V.aload_n dX10_from_46 rfl ?_
    refine V.getR dX10_from_47 fl_RX10_36 s0_0 rfl rfl ?_
    refine V.aload_n dX10_from_50 rfl ?_
    refine V.getR dX10_from_51 fl_RX10_10 s0_0 rfl rfl ?_
    refine V.iload dX10_from_54 rfl ?_
    refine V.iload_n dX10_from_56 rfl ?_
    obtain ⟨v3, M4, hv2, h⟩ := bnd2_s h
    refine V.cVi dX10_from_57 rfl mv_RX10_196 (ok_Hea_hearersOf s0_Hea72 hv2) rfl rfl s0_72 rfl (by decide) ⟨Nat.zero_le _, Nat.zero_le _⟩ (Nat.le_of_ble_eq_true rfl) (Nat.zero_le _) ?_
    refine V.iload_n dX10_from_60 rfl ?_
    refine V.icmp_ne (tgt := 71) dX10_from_61 (by decide) (fun hc5 => ?_) (fun hc5 => ?_)
    · replace h := ite_f hc5 h
      refine V.iinc dX10_from_71 rfl (iinc_c ic_1) (by decide) rfl ?_
      refine V.goto (tgt := 31) dX10_from_74 (by decide) ?_
      exact ih _ _ _ _ _ _ _ h
    replace h := ite_t hc5 h
    refine V.iload_n dX10_from_64 rfl ?_
    refine V.iconst dX10_from_65 ic_1 ?_
    refine V.iload dX10_from_66 rfl ?_
    refine V.ishl dX10_from_68 ?_
    refine V.ior dX10_from_69 ?_
    refine V.nmI (fun w6 hw6 => ?_)
    replace h := nmI_at h w6 hw6
    refine V.istore_n dX10_from_70 (by decide) rfl ?_
    refine V.iinc dX10_from_71 rfl (iinc_c ic_1) (by decide) rfl ?_
    refine V.goto (tgt := 31) dX10_from_74 (by decide) ?_
    exact ih _ _ _ _ _ _ _ h
theorem ok_Hal_from {X : Sc} {l : Launch}  {M : Mem} {x1 : Int32} {x2 : Int32} {r : Int32} {M' : Mem}  (h : f_Hal_from x1 x2 M = some (r, M')) : Mt X l yX10_from cX10_from 5 (some .int) 4 0 0 [.ref 0, .int x1, .int x2] S0 M (some (.int r)) S0 M' := by
  refine Mt.ofV (by decide) (Nat.le_of_ble_eq_true rfl) ?_
  show V X yX10_from cX10_from 5 (some .int) (rmD 4 0 0) l (FM (some (.int r)) S0 M' 0 0) 0 [some (.ref 0), some (.int x1), some (.int x2), none, none] [] S0 M 0 0
  unfold f_Hal_from at h
  refine V.iload_n dX10_from_0 rfl ?_
  refine V.aload_n dX10_from_1 rfl ?_
  refine V.getR dX10_from_2 fl_RX10_10 s0_0 rfl rfl ?_
  refine V.getR dX10_from_5 fl_RX10_127 s0_1 rfl rfl ?_
  refine V.getI dX10_from_8 fl_RX10_199 s0_4 rfl rfl ?_
  obtain ⟨v2, hv1, h⟩ := bnd_s h
  refine V.cSi dX10_from_11 rfl mv_RX10_267 (ok_Hal_areBitsBelow hv1) rfl rfl (by decide) ⟨Nat.zero_le _, Nat.zero_le _⟩ (Nat.le_of_ble_eq_true rfl) (Nat.zero_le _) ?_
  refine V.if_eq (tgt := 24) dX10_from_14 (by decide) (fun hc3 => ?_) (fun hc3 => ?_)
  · replace h := ite_t hc3 h
    refine V.iconst dX10_from_24 ic_m1 ?_
    obtain ⟨e1, e2⟩ := inj2 h
    subst e1
    subst e2
    exact V.iret dX10_from_25 rfl rfl
  replace h := ite_f hc3 h
  refine V.iload_n dX10_from_17 rfl ?_
  obtain ⟨v5, hv4, h⟩ := bnd_s h
  refine V.cSi dX10_from_18 rfl mv_RX10_124 (ok_Hal_isHour hv4) rfl rfl (by decide) ⟨Nat.zero_le _, Nat.zero_le _⟩ (Nat.le_of_ble_eq_true rfl) (Nat.zero_le _) ?_
  refine V.if_ne (tgt := 26) dX10_from_21 (by decide) (fun hc6 => ?_) (fun hc6 => ?_)
  · replace h := ite_f hc6 h
    refine V.iconst dX10_from_26 ic_0 ?_
    refine V.istore_n dX10_from_27 (by decide) rfl ?_
    refine V.iconst dX10_from_28 ic_0 ?_
    refine V.istore dX10_from_29 (by decide) rfl ?_
    exact okc_Hal_from_31 _ _ _ _ _ _ _ _ h
  replace h := ite_t hc6 h
  refine V.iconst dX10_from_24 ic_m1 ?_
  obtain ⟨e1, e2⟩ := inj2 h
  subst e1
  subst e2
  exact V.iret dX10_from_25 rfl rfl
theorem okc_Hal_firstDirectionHeardBy_3 {X : Sc} {l : Launch}     : ∀ (n : Nat) (x1 : Int32) (x2 : Int32) (x3 : Int32) (x4 : Int32) (M : Mem) (r : Int32) (M' : Mem), f_Hal_firstDirectionHeardBy_L3  n x1 x2 x3 x4 M = some (r, M') → V X yX10_firstDirectionHeardBy cX10_firstDirectionHeardBy 5 (some .int) (rmD 3 0 0) l (FM (some (.int r)) S0 M' 0 0) 3 [some (.ref 0), some (.int x1), some (.int x2), some (.int x3), some (.int x4)] [] S0 M 0 0 := by
  intro n
  induction n with
  | zero =>
    intro x1 x2 x3 x4 M r M' h
    rw [f_Hal_firstDirectionHeardBy_L3] at h
    cases h
  | succ n ih =>
    intro x1 x2 x3 x4 M r M' h
    rw [f_Hal_firstDirectionHeardBy_L3] at h
    refine V.iload dX10_firstDirectionHeardBy_3 rfl ?_
    refine V.bipush dX10_firstDirectionHeardBy_5 bp_8 ?_
    refine V.icmp_ge (tgt := 53) dX10_firstDirectionHeardBy_7 (by decide) (fun hc1 => ?_) (fun hc1 => ?_)
    · replace h := ite_t hc1 h
      refine V.bipush dX10_firstDirectionHeardBy_53 bp_m4 ?_
      obtain ⟨e1, e2⟩ := inj2 h
      subst e1
      subst e2
      exact V.iret dX10_firstDirectionHeardBy_55 rfl rfl
    replace h := ite_f hc1 h
    refine V.aload_n dX10_firstDirectionHeardBy_10 rfl ?_
    refine V.getR dX10_firstDirectionHeardBy_11 fl_RX10_36 s0_0 rfl rfl ?_
    refine V.getR dX10_firstDirectionHeardBy_14 fl_RX10_176 s0_72 rfl rfl ?_
    refine V.aload_n dX10_firstDirectionHeardBy_17 rfl ?_
    refine V.getR dX10_firstDirectionHeardBy_18 fl_RX10_10 s0_0 rfl rfl ?_
    refine V.iload_n dX10_firstDirectionHeardBy_21 rfl ?_
    refine V.iload dX10_firstDirectionHeardBy_22 rfl ?_
    refine V.iconst dX10_firstDirectionHeardBy_24 ic_0 ?_
    obtain ⟨M3, hv2, h⟩ := bnd_s h
    refine V.cVv dX10_firstDirectionHeardBy_25 rfl mv_RX10_334 (ok_Cou_run s0_Cou73 hv2) rfl rfl s0_73 rfl (by decide) ⟨Nat.zero_le _, Nat.zero_le _⟩ (Nat.le_of_ble_eq_true rfl) (Nat.zero_le _) ?_
    refine V.aload_n dX10_firstDirectionHeardBy_28 rfl ?_
    refine V.getR dX10_firstDirectionHeardBy_29 fl_RX10_36 s0_0 rfl rfl ?_
    refine V.aload_n dX10_firstDirectionHeardBy_32 rfl ?_
    refine V.getR dX10_firstDirectionHeardBy_33 fl_RX10_10 s0_0 rfl rfl ?_
    refine V.iload_n dX10_firstDirectionHeardBy_36 rfl ?_
    obtain ⟨v5, hv4, h⟩ := bnd_s h
    refine V.cVi dX10_firstDirectionHeardBy_37 rfl mv_RX10_338 (ok_Hea_hearersOfLatest s0_Hea72 hv4) rfl rfl s0_72 rfl (by decide) ⟨Nat.zero_le _, Nat.zero_le _⟩ (Nat.le_of_ble_eq_true rfl) (Nat.zero_le _) ?_
    refine V.iload_n dX10_firstDirectionHeardBy_40 rfl ?_
    refine V.icmp_ne (tgt := 47) dX10_firstDirectionHeardBy_41 (by decide) (fun hc6 => ?_) (fun hc6 => ?_)
    · replace h := ite_f hc6 h
      refine V.iinc dX10_firstDirectionHeardBy_47 rfl (iinc_c ic_1) (by decide) rfl ?_
      refine V.goto (tgt := 3) dX10_firstDirectionHeardBy_50 (by decide) ?_
      exact ih _ _ _ _ _ _ _ h
    replace h := ite_t hc6 h
    refine V.iload dX10_firstDirectionHeardBy_44 rfl ?_
    obtain ⟨e1, e2⟩ := inj2 h
    subst e1
    subst e2
    exact V.iret dX10_firstDirectionHeardBy_46 rfl rfl
theorem ok_Hal_firstDirectionHeardBy {X : Sc} {l : Launch}  {M : Mem} {x1 : Int32} {x2 : Int32} {x3 : Int32} {r : Int32} {M' : Mem}  (h : f_Hal_firstDirectionHeardBy x1 x2 x3 M = some (r, M')) : Mt X l yX10_firstDirectionHeardBy cX10_firstDirectionHeardBy 5 (some .int) 3 0 0 [.ref 0, .int x1, .int x2, .int x3] S0 M (some (.int r)) S0 M' := by
  refine Mt.ofV (by decide) (Nat.le_of_ble_eq_true rfl) ?_
  show V X yX10_firstDirectionHeardBy cX10_firstDirectionHeardBy 5 (some .int) (rmD 3 0 0) l (FM (some (.int r)) S0 M' 0 0) 0 [some (.ref 0), some (.int x1), some (.int x2), some (.int x3), none] [] S0 M 0 0
  unfold f_Hal_firstDirectionHeardBy at h
  refine V.iconst dX10_firstDirectionHeardBy_0 ic_0 ?_
  refine V.istore dX10_firstDirectionHeardBy_1 (by decide) rfl ?_
  exact okc_Hal_firstDirectionHeardBy_3 _ _ _ _ _ _ _ _ h
theorem okc_Hal_where_107 {X : Sc} {l : Launch} {k53 : Int32 → Int32 → Int32 → Int32 → Int32 → Int32 → Int32 → Mem → Option (Int32 × Mem)}  (hk53 : ∀ (x1 : Int32) (x2 : Int32) (x3 : Int32) (x4 : Int32) (x5 : Int32) (x6 : Int32) (x7 : Int32) (M : Mem) (r : Int32) (M' : Mem), k53 x1 x2 x3 x4 x5 x6 x7 M = some (r, M') → V X yX10_where cX10_where 9 (some .int) (rmD 4 0 0) l (FM (some (.int r)) S0 M' 0 0) 53 [some (.ref 0), some (.int x1), some (.int x2), some (.int x3), some (.int x4), some (.int x5), some (.int x6), some (.int x7), none] [] S0 M 0 0)  {x1 : Int32} {x2 : Int32} {x3 : Int32} {x4 : Int32} {x5 : Int32} {x6 : Int32} {x7 : Int32} {x8 : Int32} {M : Mem} {r : Int32} {M' : Mem} (h : f_Hal_where_J107 k53 x1 x2 x3 x4 x5 x6 x7 x8 M = some (r, M')) : V X yX10_where cX10_where 9 (some .int) (rmD 4 0 0) l (FM (some (.int r)) S0 M' 0 0) 107 [some (.ref 0), some (.int x1), some (.int x2), some (.int x3), some (.int x4), some (.int x5), some (.int x6), some (.int x7), some (.int x8)] [] S0 M 0 0 := by
  unfold f_Hal_where_J107 at h
  refine V.iload dX10_where_107 rfl ?_
  refine V.iload dX10_where_109 rfl ?_
  refine V.bipush dX10_where_111 bp_m4 ?_
  refine V.icmp_ne (tgt := 120) dX10_where_113 (by decide) (fun hc1 => ?_) (fun hc1 => ?_)
  · replace h := ite_f hc1 h
    refine V.iconst dX10_where_120 ic_1 ?_
    refine V.iadd dX10_where_121 ?_
    refine V.nmI (fun w2 hw2 => ?_)
    replace h := nmI_at h w2 hw2
    refine V.istore dX10_where_122 (by decide) rfl ?_
    refine V.iinc dX10_where_124 rfl (iinc_c ic_1) (by decide) rfl ?_
    refine V.goto (tgt := 53) dX10_where_127 (by decide) ?_
    refine V.mask [true, true, true, true, true, true, true, true, false] rfl ?_
    exact hk53 _ _ _ _ _ _ _ _ _ _ h
  replace h := ite_t hc1 h
  refine V.iconst dX10_where_116 ic_0 ?_
  refine V.goto (tgt := 121) dX10_where_117 (by decide) ?_
  refine V.iadd dX10_where_121 ?_
  refine V.nmI (fun w3 hw3 => ?_)
  replace h := nmI_at h w3 hw3
  refine V.istore dX10_where_122 (by decide) rfl ?_
  refine V.iinc dX10_where_124 rfl (iinc_c ic_1) (by decide) rfl ?_
  refine V.goto (tgt := 53) dX10_where_127 (by decide) ?_
  refine V.mask [true, true, true, true, true, true, true, true, false] rfl ?_
  exact hk53 _ _ _ _ _ _ _ _ _ _ h
theorem okc_Hal_where_85 {X : Sc} {l : Launch} {k53 : Int32 → Int32 → Int32 → Int32 → Int32 → Int32 → Int32 → Mem → Option (Int32 × Mem)}  (hk53 : ∀ (x1 : Int32) (x2 : Int32) (x3 : Int32) (x4 : Int32) (x5 : Int32) (x6 : Int32) (x7 : Int32) (M : Mem) (r : Int32) (M' : Mem), k53 x1 x2 x3 x4 x5 x6 x7 M = some (r, M') → V X yX10_where cX10_where 9 (some .int) (rmD 4 0 0) l (FM (some (.int r)) S0 M' 0 0) 53 [some (.ref 0), some (.int x1), some (.int x2), some (.int x3), some (.int x4), some (.int x5), some (.int x6), some (.int x7), none] [] S0 M 0 0)  {x1 : Int32} {x2 : Int32} {x3 : Int32} {x4 : Int32} {x5 : Int32} {x6 : Int32} {x7 : Int32} {s0 : Int32} {M : Mem} {r : Int32} {M' : Mem} (h : f_Hal_where_J85 k53 x1 x2 x3 x4 x5 x6 x7 s0 M = some (r, M')) : V X yX10_where cX10_where 9 (some .int) (rmD 4 0 0) l (FM (some (.int r)) S0 M' 0 0) 85 [some (.ref 0), some (.int x1), some (.int x2), some (.int x3), some (.int x4), some (.int x5), some (.int x6), some (.int x7), none] [.int s0] S0 M 0 0 := by
  unfold f_Hal_where_J85 at h
  refine V.istore dX10_where_85 (by decide) rfl ?_
  refine V.iload dX10_where_87 rfl ?_
  refine V.bipush dX10_where_89 bp_m4 ?_
  refine V.icmp_eq (tgt := 107) dX10_where_91 (by decide) (fun hc1 => ?_) (fun hc1 => ?_)
  · replace h := ite_t hc1 h
    exact okc_Hal_where_107 hk53 h
  replace h := ite_f hc1 h
  refine V.iload dX10_where_94 rfl ?_
  refine V.if_ne (tgt := 107) dX10_where_96 (by decide) (fun hc2 => ?_) (fun hc2 => ?_)
  · replace h := ite_f hc2 h
    exact okc_Hal_where_107 hk53 h
  replace h := ite_t hc2 h
  refine V.iload dX10_where_99 rfl ?_
  refine V.istore dX10_where_101 (by decide) rfl ?_
  refine V.iload dX10_where_103 rfl ?_
  refine V.istore dX10_where_105 (by decide) rfl ?_
  exact okc_Hal_where_107 hk53 h
theorem okc_Hal_where_53 {X : Sc} {l : Launch}     : ∀ (n : Nat) (x1 : Int32) (x2 : Int32) (x3 : Int32) (x4 : Int32) (x5 : Int32) (x6 : Int32) (x7 : Int32) (M : Mem) (r : Int32) (M' : Mem), f_Hal_where_L53  n x1 x2 x3 x4 x5 x6 x7 M = some (r, M') → V X yX10_where cX10_where 9 (some .int) (rmD 4 0 0) l (FM (some (.int r)) S0 M' 0 0) 53 [some (.ref 0), some (.int x1), some (.int x2), some (.int x3), some (.int x4), some (.int x5), some (.int x6), some (.int x7), none] [] S0 M 0 0 := by
  intro n
  induction n with
  | zero =>
    intro x1 x2 x3 x4 x5 x6 x7 M r M' h
    rw [f_Hal_where_L53] at h
    cases h
  | succ n ih =>
    intro x1 x2 x3 x4 x5 x6 x7 M r M' h
    rw [f_Hal_where_L53] at h
    refine V.iload dX10_where_53 rfl ?_
    refine V.bipush dX10_where_55 bp_81 ?_
    refine V.icmp_ge (tgt := 130) dX10_where_57 (by decide) (fun hc1 => ?_) (fun hc1 => ?_)
    · replace h := ite_t hc1 h
      refine V.iload_n dX10_where_130 rfl ?_
      refine V.if_ne (tgt := 137) dX10_where_131 (by decide) (fun hc2 => ?_) (fun hc2 => ?_)
      · replace h := ite_f hc2 h
        refine V.iload_n dX10_where_137 rfl ?_
        refine V.iconst dX10_where_138 ic_1 ?_
        refine V.icmp_ne (tgt := 147) dX10_where_139 (by decide) (fun hc3 => ?_) (fun hc3 => ?_)
        · replace h := ite_f hc3 h
          refine V.iload dX10_where_147 rfl ?_
          obtain ⟨e1, e2⟩ := inj2 h
          subst e1
          subst e2
          exact V.iret dX10_where_149 rfl rfl
        replace h := ite_t hc3 h
        refine V.iload dX10_where_142 rfl ?_
        refine V.goto (tgt := 149) dX10_where_144 (by decide) ?_
        obtain ⟨e1, e2⟩ := inj2 h
        subst e1
        subst e2
        exact V.iret dX10_where_149 rfl rfl
      replace h := ite_t hc2 h
      refine V.iload dX10_where_134 rfl ?_
      obtain ⟨e1, e2⟩ := inj2 h
      subst e1
      subst e2
      exact V.iret dX10_where_136 rfl rfl
    replace h := ite_f hc1 h
    refine V.aload_n dX10_where_60 rfl ?_
    refine V.getR dX10_where_61 fl_RX10_10 s0_0 rfl rfl ?_
    refine V.iload dX10_where_64 rfl ?_
    obtain ⟨v5, hv4, h⟩ := bnd_s h
    refine V.cVi dX10_where_66 rfl mv_RX10_287 (ok_Tol_isFree s0_Tol1 hv4) rfl rfl s0_1 rfl (by decide) ⟨Nat.zero_le _, Nat.zero_le _⟩ (Nat.le_of_ble_eq_true rfl) (Nat.zero_le _) ?_
    refine V.if_eq (tgt := 83) dX10_where_69 (by decide) (fun hc6 => ?_) (fun hc6 => ?_)
    · replace h := ite_t hc6 h
      refine V.bipush dX10_where_83 bp_m4 ?_
      exact okc_Hal_where_85 ih h
    replace h := ite_f hc6 h
    refine V.aload_n dX10_where_72 rfl ?_
    refine V.iload_n dX10_where_73 rfl ?_
    refine V.iload dX10_where_74 rfl ?_
    refine V.iload_n dX10_where_76 rfl ?_
    obtain ⟨v8, M9, hv7, h⟩ := bnd2_s h
    refine V.cVi dX10_where_77 rfl mv_RX10_290 (ok_Hal_firstDirectionHeardBy hv7) rfl rfl s0_0 rfl (by decide) ⟨Nat.zero_le _, Nat.zero_le _⟩ (Nat.le_of_ble_eq_true rfl) (Nat.zero_le _) ?_
    refine V.goto (tgt := 85) dX10_where_80 (by decide) ?_
    exact okc_Hal_where_85 ih h
theorem ok_Hal_where {X : Sc} {l : Launch}  {M : Mem} {x1 : Int32} {x2 : Int32} {x3 : Int32} {r : Int32} {M' : Mem}  (h : f_Hal_where x1 x2 x3 M = some (r, M')) : Mt X l yX10_where cX10_where 9 (some .int) 4 0 0 [.ref 0, .int x1, .int x2, .int x3] S0 M (some (.int r)) S0 M' := by
  refine Mt.ofV (by decide) (Nat.le_of_ble_eq_true rfl) ?_
  show V X yX10_where cX10_where 9 (some .int) (rmD 4 0 0) l (FM (some (.int r)) S0 M' 0 0) 0 [some (.ref 0), some (.int x1), some (.int x2), some (.int x3), none, none, none, none, none] [] S0 M 0 0
  unfold f_Hal_where at h
  refine V.iload_n dX10_where_0 rfl ?_
  refine V.aload_n dX10_where_1 rfl ?_
  refine V.getR dX10_where_2 fl_RX10_10 s0_0 rfl rfl ?_
  refine V.getR dX10_where_5 fl_RX10_127 s0_1 rfl rfl ?_
  refine V.getI dX10_where_8 fl_RX10_199 s0_4 rfl rfl ?_
  obtain ⟨v2, hv1, h⟩ := bnd_s h
  refine V.cSi dX10_where_11 rfl mv_RX10_267 (ok_Hal_areBitsBelow hv1) rfl rfl (by decide) ⟨Nat.zero_le _, Nat.zero_le _⟩ (Nat.le_of_ble_eq_true rfl) (Nat.zero_le _) ?_
  refine V.if_eq (tgt := 37) dX10_where_14 (by decide) (fun hc3 => ?_) (fun hc3 => ?_)
  · replace h := ite_t hc3 h
    refine V.iconst dX10_where_37 ic_m1 ?_
    obtain ⟨e1, e2⟩ := inj2 h
    subst e1
    subst e2
    exact V.iret dX10_where_38 rfl rfl
  replace h := ite_f hc3 h
  refine V.iload_n dX10_where_17 rfl ?_
  refine V.if_eq (tgt := 37) dX10_where_18 (by decide) (fun hc4 => ?_) (fun hc4 => ?_)
  · replace h := ite_t hc4 h
    refine V.iconst dX10_where_37 ic_m1 ?_
    obtain ⟨e1, e2⟩ := inj2 h
    subst e1
    subst e2
    exact V.iret dX10_where_38 rfl rfl
  replace h := ite_f hc4 h
  refine V.iload_n dX10_where_21 rfl ?_
  obtain ⟨v6, hv5, h⟩ := bnd_s h
  refine V.cSi dX10_where_22 rfl mv_RX10_124 (ok_Hal_isHour hv5) rfl rfl (by decide) ⟨Nat.zero_le _, Nat.zero_le _⟩ (Nat.le_of_ble_eq_true rfl) (Nat.zero_le _) ?_
  refine V.if_eq (tgt := 37) dX10_where_25 (by decide) (fun hc7 => ?_) (fun hc7 => ?_)
  · replace h := ite_t hc7 h
    refine V.iconst dX10_where_37 ic_m1 ?_
    obtain ⟨e1, e2⟩ := inj2 h
    subst e1
    subst e2
    exact V.iret dX10_where_38 rfl rfl
  replace h := ite_f hc7 h
  refine V.iload_n dX10_where_28 rfl ?_
  refine V.iconst dX10_where_29 ic_0 ?_
  refine V.iconst dX10_where_30 ic_2 ?_
  obtain ⟨v9, hv8, h⟩ := bnd_s h
  refine V.cSi dX10_where_31 rfl mv_RX10_77 (ok_Hal_within hv8) rfl rfl (by decide) ⟨Nat.zero_le _, Nat.zero_le _⟩ (Nat.le_of_ble_eq_true rfl) (Nat.zero_le _) ?_
  refine V.if_ne (tgt := 39) dX10_where_34 (by decide) (fun hc10 => ?_) (fun hc10 => ?_)
  · replace h := ite_f hc10 h
    refine V.iconst dX10_where_39 ic_0 ?_
    refine V.istore dX10_where_40 (by decide) rfl ?_
    refine V.bipush dX10_where_42 bp_m4 ?_
    refine V.istore dX10_where_44 (by decide) rfl ?_
    refine V.bipush dX10_where_46 bp_m4 ?_
    refine V.istore dX10_where_48 (by decide) rfl ?_
    refine V.iconst dX10_where_50 ic_0 ?_
    refine V.istore dX10_where_51 (by decide) rfl ?_
    exact okc_Hal_where_53 _ _ _ _ _ _ _ _ _ _ _ h
  replace h := ite_t hc10 h
  refine V.iconst dX10_where_37 ic_m1 ?_
  obtain ⟨e1, e2⟩ := inj2 h
  subst e1
  subst e2
  exact V.iret dX10_where_38 rfl rfl
theorem ok_Hal_imageOf {X : Sc} {l : Launch}  {M : Mem} {x1 : Int32} {r : Nat}  (h : f_Hal_imageOf M x1 = some r) : Mt X l yX10_imageOf cX10_imageOf 2 (some (.object "HallAnswers$Told")) 0 0 0 [.ref 0, .int x1] S0 M (some (.ref r)) S0 M := by
  refine Mt.ofV (by decide) (Nat.le_of_ble_eq_true rfl) ?_
  show V X yX10_imageOf cX10_imageOf 2 (some (.object "HallAnswers$Told")) (rmD 0 0 0) l (FM (some (.ref r)) S0 M 0 0) 0 [some (.ref 0), some (.int x1)] [] S0 M 0 0
  unfold f_Hal_imageOf at h
  refine V.iload_n dX10_imageOf_0 rfl ?_
  refine V.if_ne (tgt := 11) dX10_imageOf_1 (by decide) (fun hc1 => ?_) (fun hc1 => ?_)
  · replace h := ite_f hc1 h
    refine V.aload_n dX10_imageOf_11 rfl ?_
    refine V.getR dX10_imageOf_12 fl_RX10_19 s0_0 rfl rfl ?_
    have e1 := inj1 h
    subst e1
    exact V.aret dX10_imageOf_15 rfl (Or.inl ⟨_, rfl⟩)
  replace h := ite_t hc1 h
  refine V.aload_n dX10_imageOf_4 rfl ?_
  refine V.getR dX10_imageOf_5 fl_RX10_16 s0_0 rfl rfl ?_
  refine V.goto (tgt := 15) dX10_imageOf_8 (by decide) ?_
  have e1 := inj1 h
  subst e1
  exact V.aret dX10_imageOf_15 rfl (Or.inl ⟨_, rfl⟩)
theorem ok_Hal_keep {X : Sc} {l : Launch}  {M : Mem} {x1 : Int32} {r : Int32} {M' : Mem}  (h : f_Hal_keep x1 M = some (r, M')) : Mt X l yX10_keep cX10_keep 3 (some .int) 3 0 0 [.ref 0, .int x1] S0 M (some (.int r)) S0 M' := by
  refine Mt.ofV (by decide) (Nat.le_of_ble_eq_true rfl) ?_
  show V X yX10_keep cX10_keep 3 (some .int) (rmD 3 0 0) l (FM (some (.int r)) S0 M' 0 0) 0 [some (.ref 0), some (.int x1), none] [] S0 M 0 0
  unfold f_Hal_keep at h
  refine V.iload_n dX10_keep_0 rfl ?_
  refine V.iconst dX10_keep_1 ic_0 ?_
  refine V.iconst dX10_keep_2 ic_1 ?_
  obtain ⟨v2, hv1, h⟩ := bnd_s h
  refine V.cSi dX10_keep_3 rfl mv_RX10_77 (ok_Hal_within hv1) rfl rfl (by decide) ⟨Nat.zero_le _, Nat.zero_le _⟩ (Nat.le_of_ble_eq_true rfl) (Nat.zero_le _) ?_
  refine V.if_ne (tgt := 11) dX10_keep_6 (by decide) (fun hc3 => ?_) (fun hc3 => ?_)
  · replace h := ite_f hc3 h
    refine V.aload_n dX10_keep_11 rfl ?_
    refine V.getI dX10_keep_12 fl_RX10_22 s0_0 rfl rfl ?_
    refine V.iload_n dX10_keep_15 rfl ?_
    obtain ⟨v5, hv4, h⟩ := bnd_s h
    refine V.cSi dX10_keep_16 rfl mv_RX10_205 (ok_Hal_bit hv4) rfl rfl (by decide) ⟨Nat.zero_le _, Nat.zero_le _⟩ (Nat.le_of_ble_eq_true rfl) (Nat.zero_le _) ?_
    refine V.istore_n dX10_keep_19 (by decide) rfl ?_
    refine V.aload_n dX10_keep_20 rfl ?_
    refine V.iload_n dX10_keep_21 rfl ?_
    obtain ⟨r7, hv6, h⟩ := bnd_s h
    obtain ⟨hr8, h⟩ := ck_s h
    refine V.cVr dX10_keep_22 rfl mv_RX10_293 (ok_Hal_imageOf hv6) rfl rfl s0_0 rfl (by decide) ⟨Nat.zero_le _, Nat.zero_le _⟩ (Nat.le_of_ble_eq_true rfl) (Nat.zero_le _) ?_
    refine V.aload_n dX10_keep_25 rfl ?_
    refine V.getR dX10_keep_26 fl_RX10_10 s0_0 rfl rfl ?_
    obtain ⟨M10, hv9, h⟩ := bnd_s h
    refine V.cVv dX10_keep_29 rfl mv_RX10_297 (ok_Tol_copyChanging (isImg_ok hr8) s0_Tol1 hv9) rfl rfl (LTol.f0 (isImg_ok hr8)) rfl (by decide) ⟨Nat.zero_le _, Nat.zero_le _⟩ (Nat.le_of_ble_eq_true rfl) (Nat.zero_le _) ?_
    refine V.aload_n dX10_keep_32 rfl ?_
    refine V.dup dX10_keep_33 rfl ?_
    refine V.getI dX10_keep_34 fl_RX10_22 s0_0 rfl rfl ?_
    refine V.iconst dX10_keep_37 ic_1 ?_
    refine V.iload_n dX10_keep_38 rfl ?_
    refine V.ishl dX10_keep_39 ?_
    refine V.ior dX10_keep_40 ?_
    refine V.putI dX10_keep_41 fp_RX10_22 s0_0 rfl rfl (fun M11 hM11 => ?_)
    replace h := setM_at h M11 hM11
    refine V.iload_n dX10_keep_44 rfl ?_
    obtain ⟨e1, e2⟩ := inj2 h
    subst e1
    subst e2
    exact V.iret dX10_keep_45 rfl rfl
  replace h := ite_t hc3 h
  refine V.iconst dX10_keep_9 ic_m1 ?_
  obtain ⟨e1, e2⟩ := inj2 h
  subst e1
  subst e2
  exact V.iret dX10_keep_10 rfl rfl
theorem ok_Hal_back {X : Sc} {l : Launch}  {M : Mem} {x1 : Int32} {r : Int32} {M' : Mem}  (h : f_Hal_back x1 M = some (r, M')) : Mt X l yX10_back cX10_back 2 (some .int) 3 0 0 [.ref 0, .int x1] S0 M (some (.int r)) S0 M' := by
  refine Mt.ofV (by decide) (Nat.le_of_ble_eq_true rfl) ?_
  show V X yX10_back cX10_back 2 (some .int) (rmD 3 0 0) l (FM (some (.int r)) S0 M' 0 0) 0 [some (.ref 0), some (.int x1)] [] S0 M 0 0
  unfold f_Hal_back at h
  refine V.iload_n dX10_back_0 rfl ?_
  refine V.iconst dX10_back_1 ic_0 ?_
  refine V.iconst dX10_back_2 ic_1 ?_
  obtain ⟨v2, hv1, h⟩ := bnd_s h
  refine V.cSi dX10_back_3 rfl mv_RX10_77 (ok_Hal_within hv1) rfl rfl (by decide) ⟨Nat.zero_le _, Nat.zero_le _⟩ (Nat.le_of_ble_eq_true rfl) (Nat.zero_le _) ?_
  refine V.if_ne (tgt := 11) dX10_back_6 (by decide) (fun hc3 => ?_) (fun hc3 => ?_)
  · replace h := ite_f hc3 h
    refine V.aload_n dX10_back_11 rfl ?_
    refine V.getI dX10_back_12 fl_RX10_22 s0_0 rfl rfl ?_
    refine V.iload_n dX10_back_15 rfl ?_
    obtain ⟨v5, hv4, h⟩ := bnd_s h
    refine V.cSi dX10_back_16 rfl mv_RX10_205 (ok_Hal_bit hv4) rfl rfl (by decide) ⟨Nat.zero_le _, Nat.zero_le _⟩ (Nat.le_of_ble_eq_true rfl) (Nat.zero_le _) ?_
    refine V.if_ne (tgt := 25) dX10_back_19 (by decide) (fun hc6 => ?_) (fun hc6 => ?_)
    · replace h := ite_f hc6 h
      refine V.aload_n dX10_back_25 rfl ?_
      refine V.getR dX10_back_26 fl_RX10_10 s0_0 rfl rfl ?_
      refine V.aload_n dX10_back_29 rfl ?_
      refine V.iload_n dX10_back_30 rfl ?_
      obtain ⟨r8, hv7, h⟩ := bnd_s h
      obtain ⟨hr9, h⟩ := ck_s h
      refine V.cVr dX10_back_31 rfl mv_RX10_293 (ok_Hal_imageOf hv7) rfl rfl s0_0 rfl (by decide) ⟨Nat.zero_le _, Nat.zero_le _⟩ (Nat.le_of_ble_eq_true rfl) (Nat.zero_le _) ?_
      obtain ⟨M11, hv10, h⟩ := bnd_s h
      refine V.cVv dX10_back_34 rfl mv_RX10_297 (ok_Tol_copyChanging s0_Tol1 (isImg_ok hr9) hv10) rfl rfl s0_1 rfl (by decide) ⟨Nat.zero_le _, Nat.zero_le _⟩ (Nat.le_of_ble_eq_true rfl) (Nat.zero_le _) ?_
      refine V.aload_n dX10_back_37 rfl ?_
      refine V.getR dX10_back_38 fl_RX10_10 s0_0 rfl rfl ?_
      refine V.getR dX10_back_41 fl_RX10_242 s0_1 rfl rfl ?_
      refine V.getI dX10_back_44 fl_RX10_245 s0_14 rfl rfl ?_
      obtain ⟨e1, e2⟩ := inj2 h
      subst e1
      subst e2
      exact V.iret dX10_back_47 rfl rfl
    replace h := ite_t hc6 h
    refine V.bipush dX10_back_22 bp_m2 ?_
    obtain ⟨e1, e2⟩ := inj2 h
    subst e1
    subst e2
    exact V.iret dX10_back_24 rfl rfl
  replace h := ite_t hc3 h
  refine V.iconst dX10_back_9 ic_m1 ?_
  obtain ⟨e1, e2⟩ := inj2 h
  subst e1
  subst e2
  exact V.iret dX10_back_10 rfl rfl
theorem ok_Hal_sheet {X : Sc} {l : Launch}  {M : Mem} {x1 : Int32} {x2 : Int32} {x3 : Int32} {r : Int32} {M' : Mem}  (h : f_Hal_sheet x1 x2 x3 M = some (r, M')) : Mt X l yX10_sheet cX10_sheet 4 (some .int) 3 0 0 [.ref 0, .int x1, .int x2, .int x3] S0 M (some (.int r)) S0 M' := by
  refine Mt.ofV (by decide) (Nat.le_of_ble_eq_true rfl) ?_
  show V X yX10_sheet cX10_sheet 4 (some .int) (rmD 3 0 0) l (FM (some (.int r)) S0 M' 0 0) 0 [some (.ref 0), some (.int x1), some (.int x2), some (.int x3)] [] S0 M 0 0
  unfold f_Hal_sheet at h
  refine V.iload_n dX10_sheet_0 rfl ?_
  refine V.iconst dX10_sheet_1 ic_0 ?_
  refine V.iconst dX10_sheet_2 ic_3 ?_
  obtain ⟨v2, hv1, h⟩ := bnd_s h
  refine V.cSi dX10_sheet_3 rfl mv_RX10_77 (ok_Hal_within hv1) rfl rfl (by decide) ⟨Nat.zero_le _, Nat.zero_le _⟩ (Nat.le_of_ble_eq_true rfl) (Nat.zero_le _) ?_
  refine V.if_eq (tgt := 24) dX10_sheet_6 (by decide) (fun hc3 => ?_) (fun hc3 => ?_)
  · replace h := ite_t hc3 h
    refine V.iconst dX10_sheet_24 ic_m1 ?_
    obtain ⟨e1, e2⟩ := inj2 h
    subst e1
    subst e2
    exact V.iret dX10_sheet_25 rfl rfl
  replace h := ite_f hc3 h
  refine V.iload_n dX10_sheet_9 rfl ?_
  refine V.iconst dX10_sheet_10 ic_0 ?_
  refine V.iconst dX10_sheet_11 ic_2 ?_
  obtain ⟨v5, hv4, h⟩ := bnd_s h
  refine V.cSi dX10_sheet_12 rfl mv_RX10_77 (ok_Hal_within hv4) rfl rfl (by decide) ⟨Nat.zero_le _, Nat.zero_le _⟩ (Nat.le_of_ble_eq_true rfl) (Nat.zero_le _) ?_
  refine V.if_eq (tgt := 24) dX10_sheet_15 (by decide) (fun hc6 => ?_) (fun hc6 => ?_)
  · replace h := ite_t hc6 h
    refine V.iconst dX10_sheet_24 ic_m1 ?_
    obtain ⟨e1, e2⟩ := inj2 h
    subst e1
    subst e2
    exact V.iret dX10_sheet_25 rfl rfl
  replace h := ite_f hc6 h
  refine V.iload_n dX10_sheet_18 rfl ?_
  refine V.bipush dX10_sheet_19 bp_40 ?_
  refine V.icmp_le (tgt := 26) dX10_sheet_21 (by decide) (fun hc7 => ?_) (fun hc7 => ?_)
  · replace h := ite_t hc7 h
    refine V.iload_n dX10_sheet_26 rfl ?_
    refine V.if_ge (tgt := 33) dX10_sheet_27 (by decide) (fun hc8 => ?_) (fun hc8 => ?_)
    · replace h := ite_t hc8 h
      refine V.aload_n dX10_sheet_33 rfl ?_
      refine V.getR dX10_sheet_34 fl_RX10_57 s0_0 rfl rfl ?_
      refine V.iload_n dX10_sheet_37 rfl ?_
      refine V.iload_n dX10_sheet_38 rfl ?_
      refine V.iload_n dX10_sheet_39 rfl ?_
      obtain ⟨M10, hv9, h⟩ := bnd_s h
      refine V.cVv dX10_sheet_40 rfl mv_RX10_300 (ok_She_renew hv9) rfl rfl s0_95 rfl (by decide) ⟨Nat.zero_le _, Nat.zero_le _⟩ (Nat.le_of_ble_eq_true rfl) (Nat.zero_le _) ?_
      refine V.iconst dX10_sheet_43 ic_1 ?_
      obtain ⟨e1, e2⟩ := inj2 h
      subst e1
      subst e2
      exact V.iret dX10_sheet_44 rfl rfl
    replace h := ite_f hc8 h
    refine V.bipush dX10_sheet_30 bp_m14 ?_
    obtain ⟨e1, e2⟩ := inj2 h
    subst e1
    subst e2
    exact V.iret dX10_sheet_32 rfl rfl
  replace h := ite_f hc7 h
  refine V.iconst dX10_sheet_24 ic_m1 ?_
  obtain ⟨e1, e2⟩ := inj2 h
  subst e1
  subst e2
  exact V.iret dX10_sheet_25 rfl rfl
theorem ok_Hal_lay {X : Sc} {l : Launch}  {M : Mem} {x1 : Int32} {x2 : Int32} {x3 : Int32} {r : Int32} {M' : Mem}  (h : f_Hal_lay x1 x2 x3 M = some (r, M')) : Mt X l yX10_lay cX10_lay 5 (some .int) 4 0 0 [.ref 0, .int x1, .int x2, .int x3] S0 M (some (.int r)) S0 M' := by
  refine Mt.ofV (by decide) (Nat.le_of_ble_eq_true rfl) ?_
  show V X yX10_lay cX10_lay 5 (some .int) (rmD 4 0 0) l (FM (some (.int r)) S0 M' 0 0) 0 [some (.ref 0), some (.int x1), some (.int x2), some (.int x3), none] [] S0 M 0 0
  unfold f_Hal_lay at h
  refine V.iload_n dX10_lay_0 rfl ?_
  refine V.iconst dX10_lay_1 ic_0 ?_
  refine V.iconst dX10_lay_2 ic_3 ?_
  obtain ⟨v2, hv1, h⟩ := bnd_s h
  refine V.cSi dX10_lay_3 rfl mv_RX10_77 (ok_Hal_within hv1) rfl rfl (by decide) ⟨Nat.zero_le _, Nat.zero_le _⟩ (Nat.le_of_ble_eq_true rfl) (Nat.zero_le _) ?_
  refine V.if_ne (tgt := 11) dX10_lay_6 (by decide) (fun hc3 => ?_) (fun hc3 => ?_)
  · replace h := ite_f hc3 h
    refine V.aload_n dX10_lay_11 rfl ?_
    refine V.getR dX10_lay_12 fl_RX10_57 s0_0 rfl rfl ?_
    refine V.iload_n dX10_lay_15 rfl ?_
    refine V.iload_n dX10_lay_16 rfl ?_
    refine V.iconst dX10_lay_17 ic_1 ?_
    obtain ⟨v5, hv4, h⟩ := bnd_s h
    refine V.cVi dX10_lay_18 rfl mv_RX10_303 (ok_She_faultOfCells hv4) rfl rfl s0_95 rfl (by decide) ⟨Nat.zero_le _, Nat.zero_le _⟩ (Nat.le_of_ble_eq_true rfl) (Nat.zero_le _) ?_
    refine V.istore dX10_lay_21 (by decide) rfl ?_
    refine V.iload dX10_lay_23 rfl ?_
    refine V.if_eq (tgt := 34) dX10_lay_25 (by decide) (fun hc6 => ?_) (fun hc6 => ?_)
    · replace h := ite_t hc6 h
      refine V.aload_n dX10_lay_34 rfl ?_
      refine V.getR dX10_lay_35 fl_RX10_57 s0_0 rfl rfl ?_
      refine V.iload_n dX10_lay_38 rfl ?_
      refine V.iload_n dX10_lay_39 rfl ?_
      refine V.iload_n dX10_lay_40 rfl ?_
      obtain ⟨M8, hv7, h⟩ := bnd_s h
      refine V.cVv dX10_lay_41 rfl mv_RX10_306 (ok_She_put hv7) rfl rfl s0_95 rfl (by decide) ⟨Nat.zero_le _, Nat.zero_le _⟩ (Nat.le_of_ble_eq_true rfl) (Nat.zero_le _) ?_
      refine V.iconst dX10_lay_44 ic_1 ?_
      obtain ⟨e1, e2⟩ := inj2 h
      subst e1
      subst e2
      exact V.iret dX10_lay_45 rfl rfl
    replace h := ite_f hc6 h
    refine V.bipush dX10_lay_28 bp_m10 ?_
    refine V.iload dX10_lay_30 rfl ?_
    refine V.isub dX10_lay_32 ?_
    obtain ⟨e1, e2⟩ := inj2 h
    subst e1
    subst e2
    exact V.iret dX10_lay_33 rfl rfl
  replace h := ite_t hc3 h
  refine V.iconst dX10_lay_9 ic_m1 ?_
  obtain ⟨e1, e2⟩ := inj2 h
  subst e1
  subst e2
  exact V.iret dX10_lay_10 rfl rfl
theorem ok_Hal_whisperOfSheet {X : Sc} {l : Launch}  {M : Mem} {x1 : Int32} {x2 : Int32} {r : Int32} {M' : Mem}  (h : f_Hal_whisperOfSheet x1 x2 M = some (r, M')) : Mt X l yX10_whisperOfSheet cX10_whisperOfSheet 3 (some .int) 4 0 0 [.ref 0, .int x1, .int x2] S0 M (some (.int r)) S0 M' := by
  refine Mt.ofV (by decide) (Nat.le_of_ble_eq_true rfl) ?_
  show V X yX10_whisperOfSheet cX10_whisperOfSheet 3 (some .int) (rmD 4 0 0) l (FM (some (.int r)) S0 M' 0 0) 0 [some (.ref 0), some (.int x1), some (.int x2)] [] S0 M 0 0
  unfold f_Hal_whisperOfSheet at h
  refine V.aload_n dX10_whisperOfSheet_0 rfl ?_
  refine V.aload_n dX10_whisperOfSheet_1 rfl ?_
  refine V.getR dX10_whisperOfSheet_2 fl_RX10_57 s0_0 rfl rfl ?_
  refine V.iload_n dX10_whisperOfSheet_5 rfl ?_
  refine V.iload_n dX10_whisperOfSheet_6 rfl ?_
  obtain ⟨v2, hv1, h⟩ := bnd_s h
  refine V.cVi dX10_whisperOfSheet_7 rfl mv_RX10_325 (ok_She_valueAt hv1) rfl rfl s0_95 rfl (by decide) ⟨Nat.zero_le _, Nat.zero_le _⟩ (Nat.le_of_ble_eq_true rfl) (Nat.zero_le _) ?_
  refine V.aload_n dX10_whisperOfSheet_10 rfl ?_
  refine V.getR dX10_whisperOfSheet_11 fl_RX10_57 s0_0 rfl rfl ?_
  refine V.iload_n dX10_whisperOfSheet_14 rfl ?_
  refine V.iload_n dX10_whisperOfSheet_15 rfl ?_
  refine V.iconst dX10_whisperOfSheet_16 ic_1 ?_
  refine V.iadd dX10_whisperOfSheet_17 ?_
  obtain ⟨v4, hv3, h⟩ := bnd_s h
  refine V.cVi dX10_whisperOfSheet_18 rfl mv_RX10_325 (ok_She_valueAt hv3) rfl rfl s0_95 rfl (by decide) ⟨Nat.zero_le _, Nat.zero_le _⟩ (Nat.le_of_ble_eq_true rfl) (Nat.zero_le _) ?_
  refine V.aload_n dX10_whisperOfSheet_21 rfl ?_
  refine V.getR dX10_whisperOfSheet_22 fl_RX10_57 s0_0 rfl rfl ?_
  refine V.iload_n dX10_whisperOfSheet_25 rfl ?_
  refine V.iload_n dX10_whisperOfSheet_26 rfl ?_
  refine V.iconst dX10_whisperOfSheet_27 ic_2 ?_
  refine V.iadd dX10_whisperOfSheet_28 ?_
  obtain ⟨v6, hv5, h⟩ := bnd_s h
  refine V.cVi dX10_whisperOfSheet_29 rfl mv_RX10_325 (ok_She_valueAt hv5) rfl rfl s0_95 rfl (by decide) ⟨Nat.zero_le _, Nat.zero_le _⟩ (Nat.le_of_ble_eq_true rfl) (Nat.zero_le _) ?_
  obtain ⟨v8, M9, hv7, h⟩ := bnd2_s h
  refine V.cVi dX10_whisperOfSheet_32 rfl mv_RX10_239 (ok_Hal_whisperMore hv7) rfl rfl s0_0 rfl (by decide) ⟨Nat.zero_le _, Nat.zero_le _⟩ (Nat.le_of_ble_eq_true rfl) (Nat.zero_le _) ?_
  obtain ⟨e1, e2⟩ := inj2 h
  subst e1
  subst e2
  exact V.iret dX10_whisperOfSheet_35 rfl rfl
theorem okc_Hal_read_144 {X : Sc} {l : Launch}     {x6 : Int32} {x7 : Int32} {M : Mem} {r : Int32} {M' : Mem} (h : f_Hal_read_J144  x6 x7 M = some (r, M')) : V X yX10_read cX10_read 9 (some .int) (rmD 5 0 0) l (FM (some (.int r)) S0 M' 0 0) 144 [some (.ref 0), none, none, none, none, none, some (.int x6), some (.int x7), none] [] S0 M 0 0 := by
  unfold f_Hal_read_J144 at h
  refine V.aload_n dX10_read_144 rfl ?_
  refine V.iload dX10_read_145 rfl ?_
  refine V.putI dX10_read_147 fp_RX10_61 s0_0 rfl rfl (fun M1 hM1 => ?_)
  replace h := setM_at h M1 hM1
  refine V.iload dX10_read_150 rfl ?_
  obtain ⟨e1, e2⟩ := inj2 h
  subst e1
  subst e2
  exact V.iret dX10_read_152 rfl rfl
theorem okc_Hal_read_69 {X : Sc} {l : Launch}     : ∀ (n : Nat) (x1 : Int32) (x3 : Int32) (x4 : Int32) (x5 : Int32) (x6 : Int32) (x7 : Int32) (x8 : Int32) (M : Mem) (r : Int32) (M' : Mem), f_Hal_read_L69  n x1 x3 x4 x5 x6 x7 x8 M = some (r, M') → V X yX10_read cX10_read 9 (some .int) (rmD 5 0 0) l (FM (some (.int r)) S0 M' 0 0) 69 [some (.ref 0), some (.int x1), none, some (.int x3), some (.int x4), some (.int x5), some (.int x6), some (.int x7), some (.int x8)] [] S0 M 0 0 := by
  intro n
  induction n with
  | zero =>
    intro x1 x3 x4 x5 x6 x7 x8 M r M' h
    rw [f_Hal_read_L69] at h
    cases h
  | succ n ih =>
    intro x1 x3 x4 x5 x6 x7 x8 M r M' h
    rw [f_Hal_read_L69] at h
    refine V.iload dX10_read_69 rfl ?_
    refine V.iload dX10_read_71 rfl ?_
    refine V.icmp_ge (tgt := 144) dX10_read_73 (by decide) (fun hc1 => ?_) (fun hc1 => ?_)
    · replace h := ite_t hc1 h
      refine V.mask [true, false, false, false, false, false, true, true, false] rfl ?_
      exact okc_Hal_read_144 h
    replace h := ite_f hc1 h
    refine V.iload dX10_read_76 rfl ?_
    refine V.if_ne (tgt := 144) dX10_read_78 (by decide) (fun hc2 => ?_) (fun hc2 => ?_)
    · replace h := ite_f hc2 h
      refine V.mask [true, false, false, false, false, false, true, true, false] rfl ?_
      exact okc_Hal_read_144 h
    replace h := ite_t hc2 h
    refine V.aload_n dX10_read_81 rfl ?_
    refine V.getR dX10_read_82 fl_RX10_57 s0_0 rfl rfl ?_
    refine V.iload_n dX10_read_85 rfl ?_
    refine V.iload_n dX10_read_86 rfl ?_
    refine V.iconst dX10_read_87 ic_3 ?_
    refine V.iload dX10_read_88 rfl ?_
    refine V.imul dX10_read_90 ?_
    refine V.iadd dX10_read_91 ?_
    refine V.iconst dX10_read_92 ic_3 ?_
    obtain ⟨v4, hv3, h⟩ := bnd_s h
    refine V.cVi dX10_read_93 rfl mv_RX10_303 (ok_She_faultOfCells hv3) rfl rfl s0_95 rfl (by decide) ⟨Nat.zero_le _, Nat.zero_le _⟩ (Nat.le_of_ble_eq_true rfl) (Nat.zero_le _) ?_
    refine V.istore dX10_read_96 (by decide) rfl ?_
    refine V.iload dX10_read_98 rfl ?_
    refine V.if_ne (tgt := 138) dX10_read_100 (by decide) (fun hc5 => ?_) (fun hc5 => ?_)
    · replace h := ite_f hc5 h
      refine V.iinc dX10_read_138 rfl (iinc_c ic_1) (by decide) rfl ?_
      refine V.goto (tgt := 69) dX10_read_141 (by decide) ?_
      exact ih _ _ _ _ _ _ _ _ _ _ h
    replace h := ite_t hc5 h
    refine V.aload_n dX10_read_103 rfl ?_
    refine V.iload_n dX10_read_104 rfl ?_
    refine V.iload_n dX10_read_105 rfl ?_
    refine V.iconst dX10_read_106 ic_3 ?_
    refine V.iload dX10_read_107 rfl ?_
    refine V.imul dX10_read_109 ?_
    refine V.iadd dX10_read_110 ?_
    obtain ⟨v7, M8, hv6, h⟩ := bnd2_s h
    refine V.cVi dX10_read_111 rfl mv_RX10_312 (ok_Hal_whisperOfSheet hv6) rfl rfl s0_0 rfl (by decide) ⟨Nat.zero_le _, Nat.zero_le _⟩ (Nat.le_of_ble_eq_true rfl) (Nat.zero_le _) ?_
    refine V.if_ge (tgt := 135) dX10_read_114 (by decide) (fun hc9 => ?_) (fun hc9 => ?_)
    · replace h := ite_t hc9 h
      refine V.iinc dX10_read_135 rfl (iinc_c ic_1) (by decide) rfl ?_
      refine V.iinc dX10_read_138 rfl (iinc_c ic_1) (by decide) rfl ?_
      refine V.goto (tgt := 69) dX10_read_141 (by decide) ?_
      exact ih _ _ _ _ _ _ _ _ _ _ h
    replace h := ite_f hc9 h
    refine V.aload_n dX10_read_117 rfl ?_
    refine V.getR dX10_read_118 fl_RX10_10 s0_0 rfl rfl ?_
    refine V.getR dX10_read_121 fl_RX10_242 s0_1 rfl rfl ?_
    refine V.iload dX10_read_124 rfl ?_
    refine V.putI dX10_read_126 fp_RX10_245 s0_14 rfl rfl (fun M10 hM10 => ?_)
    replace h := setM_at h M10 hM10
    refine V.bipush dX10_read_129 bp_m20 ?_
    refine V.iload dX10_read_131 rfl ?_
    refine V.isub dX10_read_133 ?_
    obtain ⟨e1, e2⟩ := inj2 h
    subst e1
    subst e2
    exact V.iret dX10_read_134 rfl rfl
theorem okc_Hal_read_64 {X : Sc} {l : Launch}     {x1 : Int32} {x3 : Int32} {x4 : Int32} {x5 : Int32} {x6 : Int32} {s0 : Int32} {M : Mem} {r : Int32} {M' : Mem} (h : f_Hal_read_J64  x1 x3 x4 x5 x6 s0 M = some (r, M')) : V X yX10_read cX10_read 9 (some .int) (rmD 5 0 0) l (FM (some (.int r)) S0 M' 0 0) 64 [some (.ref 0), some (.int x1), none, some (.int x3), some (.int x4), some (.int x5), some (.int x6), none, none] [.int s0] S0 M 0 0 := by
  unfold f_Hal_read_J64 at h
  refine V.istore dX10_read_64 (by decide) rfl ?_
  refine V.iconst dX10_read_66 ic_0 ?_
  refine V.istore dX10_read_67 (by decide) rfl ?_
  exact okc_Hal_read_69 _ _ _ _ _ _ _ _ _ _ _ h
theorem ok_Hal_read {X : Sc} {l : Launch}  {M : Mem} {x1 : Int32} {x2 : Int32} {x3 : Int32} {x4 : Int32} {r : Int32} {M' : Mem}  (h : f_Hal_read x1 x2 x3 x4 M = some (r, M')) : Mt X l yX10_read cX10_read 9 (some .int) 5 0 0 [.ref 0, .int x1, .int x2, .int x3, .int x4] S0 M (some (.int r)) S0 M' := by
  refine Mt.ofV (by decide) (Nat.le_of_ble_eq_true rfl) ?_
  show V X yX10_read cX10_read 9 (some .int) (rmD 5 0 0) l (FM (some (.int r)) S0 M' 0 0) 0 [some (.ref 0), some (.int x1), some (.int x2), some (.int x3), some (.int x4), none, none, none, none] [] S0 M 0 0
  unfold f_Hal_read at h
  refine V.iload_n dX10_read_0 rfl ?_
  refine V.iconst dX10_read_1 ic_0 ?_
  refine V.iconst dX10_read_2 ic_3 ?_
  obtain ⟨v2, hv1, h⟩ := bnd_s h
  refine V.cSi dX10_read_3 rfl mv_RX10_77 (ok_Hal_within hv1) rfl rfl (by decide) ⟨Nat.zero_le _, Nat.zero_le _⟩ (Nat.le_of_ble_eq_true rfl) (Nat.zero_le _) ?_
  refine V.if_eq (tgt := 29) dX10_read_6 (by decide) (fun hc3 => ?_) (fun hc3 => ?_)
  · replace h := ite_t hc3 h
    refine V.iconst dX10_read_29 ic_m1 ?_
    obtain ⟨e1, e2⟩ := inj2 h
    subst e1
    subst e2
    exact V.iret dX10_read_30 rfl rfl
  replace h := ite_f hc3 h
  refine V.iload_n dX10_read_9 rfl ?_
  refine V.iconst dX10_read_10 ic_0 ?_
  refine V.iconst dX10_read_11 ic_2 ?_
  obtain ⟨v5, hv4, h⟩ := bnd_s h
  refine V.cSi dX10_read_12 rfl mv_RX10_77 (ok_Hal_within hv4) rfl rfl (by decide) ⟨Nat.zero_le _, Nat.zero_le _⟩ (Nat.le_of_ble_eq_true rfl) (Nat.zero_le _) ?_
  refine V.if_eq (tgt := 29) dX10_read_15 (by decide) (fun hc6 => ?_) (fun hc6 => ?_)
  · replace h := ite_t hc6 h
    refine V.iconst dX10_read_29 ic_m1 ?_
    obtain ⟨e1, e2⟩ := inj2 h
    subst e1
    subst e2
    exact V.iret dX10_read_30 rfl rfl
  replace h := ite_f hc6 h
  refine V.iload dX10_read_18 rfl ?_
  refine V.iconst dX10_read_20 ic_0 ?_
  refine V.bipush dX10_read_21 bp_12 ?_
  obtain ⟨v8, hv7, h⟩ := bnd_s h
  refine V.cSi dX10_read_23 rfl mv_RX10_77 (ok_Hal_within hv7) rfl rfl (by decide) ⟨Nat.zero_le _, Nat.zero_le _⟩ (Nat.le_of_ble_eq_true rfl) (Nat.zero_le _) ?_
  refine V.if_ne (tgt := 31) dX10_read_26 (by decide) (fun hc9 => ?_) (fun hc9 => ?_)
  · replace h := ite_f hc9 h
    refine V.aload_n dX10_read_31 rfl ?_
    refine V.getR dX10_read_32 fl_RX10_10 s0_0 rfl rfl ?_
    refine V.getR dX10_read_35 fl_RX10_242 s0_1 rfl rfl ?_
    refine V.getI dX10_read_38 fl_RX10_245 s0_14 rfl rfl ?_
    refine V.nmI (fun w10 hw10 => ?_)
    replace h := nmI_at h w10 hw10
    refine V.istore dX10_read_41 (by decide) rfl ?_
    refine V.iconst dX10_read_43 ic_0 ?_
    refine V.istore dX10_read_44 (by decide) rfl ?_
    refine V.iload dX10_read_46 rfl ?_
    refine V.if_ne (tgt := 55) dX10_read_48 (by decide) (fun hc11 => ?_) (fun hc11 => ?_)
    · replace h := ite_f hc11 h
      refine V.aload_n dX10_read_55 rfl ?_
      refine V.getR dX10_read_56 fl_RX10_57 s0_0 rfl rfl ?_
      refine V.iload_n dX10_read_59 rfl ?_
      refine V.iload_n dX10_read_60 rfl ?_
      obtain ⟨v13, hv12, h⟩ := bnd_s h
      refine V.cVi dX10_read_61 rfl mv_RX10_309 (ok_She_faultOfLane hv12) rfl rfl s0_95 rfl (by decide) ⟨Nat.zero_le _, Nat.zero_le _⟩ (Nat.le_of_ble_eq_true rfl) (Nat.zero_le _) ?_
      refine V.mask [true, true, false, true, true, true, true, false, false] rfl ?_
      exact okc_Hal_read_64 h
    replace h := ite_t hc11 h
    refine V.iconst dX10_read_51 ic_0 ?_
    refine V.goto (tgt := 64) dX10_read_52 (by decide) ?_
    refine V.mask [true, true, false, true, true, true, true, false, false] rfl ?_
    exact okc_Hal_read_64 h
  replace h := ite_t hc9 h
  refine V.iconst dX10_read_29 ic_m1 ?_
  obtain ⟨e1, e2⟩ := inj2 h
  subst e1
  subst e2
  exact V.iret dX10_read_30 rfl rfl
theorem ok_Hal_torn {X : Sc} {l : Launch}  {M : Mem}  {r : Int32}  (h : f_Hal_torn M = some r) : Mt X l yX10_torn cX10_torn 1 (some .int) 0 0 0 [.ref 0] S0 M (some (.int r)) S0 M := by
  refine Mt.ofV (by decide) (Nat.le_of_ble_eq_true rfl) ?_
  show V X yX10_torn cX10_torn 1 (some .int) (rmD 0 0 0) l (FM (some (.int r)) S0 M 0 0) 0 [some (.ref 0)] [] S0 M 0 0
  unfold f_Hal_torn at h
  refine V.aload_n dX10_torn_0 rfl ?_
  refine V.getI dX10_torn_1 fl_RX10_61 s0_0 rfl rfl ?_
  have e1 := inj1 h
  subst e1
  exact V.iret dX10_torn_4 rfl rfl
theorem ok_Hal_count {X : Sc} {l : Launch}  {M : Mem} {x1 : Int32} {r : Int32}  (h : f_Hal_count M x1 = some r) : Mt X l yX10_count cX10_count 2 (some .int) 3 0 0 [.ref 0, .int x1] S0 M (some (.int r)) S0 M := by
  refine Mt.ofV (by decide) (Nat.le_of_ble_eq_true rfl) ?_
  show V X yX10_count cX10_count 2 (some .int) (rmD 3 0 0) l (FM (some (.int r)) S0 M 0 0) 0 [some (.ref 0), some (.int x1)] [] S0 M 0 0
  unfold f_Hal_count at h
  refine V.iload_n dX10_count_0 rfl ?_
  by_cases hc1 : x1 = 0
  · replace h := ite_t hc1 h
    refine V.tabAt (off := 47) (tgt := 48) dX10_count_1 hc1 (by decide) (by decide) (by decide) (by decide) ?_
    refine V.aload_n dX10_count_48 rfl ?_
    refine V.getR dX10_count_49 fl_RX10_10 s0_0 rfl rfl ?_
    refine V.getR dX10_count_52 fl_RX10_127 s0_1 rfl rfl ?_
    refine V.getI dX10_count_55 fl_RX10_199 s0_4 rfl rfl ?_
    have e1 := inj1 h
    subst e1
    exact V.iret dX10_count_58 rfl rfl
  replace h := ite_f hc1 h
  by_cases hc2 : x1 = 1
  · replace h := ite_t hc2 h
    refine V.tabAt (off := 58) (tgt := 59) dX10_count_1 hc2 (by decide) (by decide) (by decide) (by decide) ?_
    refine V.aload_n dX10_count_59 rfl ?_
    refine V.getR dX10_count_60 fl_RX10_10 s0_0 rfl rfl ?_
    refine V.getI dX10_count_63 fl_RX10_264 s0_1 rfl rfl ?_
    have e1 := inj1 h
    subst e1
    exact V.iret dX10_count_66 rfl rfl
  replace h := ite_f hc2 h
  by_cases hc3 : x1 = 2
  · replace h := ite_t hc3 h
    refine V.tabAt (off := 66) (tgt := 67) dX10_count_1 hc3 (by decide) (by decide) (by decide) (by decide) ?_
    refine V.aload_n dX10_count_67 rfl ?_
    refine V.getR dX10_count_68 fl_RX10_10 s0_0 rfl rfl ?_
    obtain ⟨v5, hv4, h⟩ := bnd_s h
    refine V.cVi dX10_count_71 rfl mv_RX10_315 (ok_Tol_deafCells s0_Tol1 hv4) rfl rfl s0_1 rfl (by decide) ⟨Nat.zero_le _, Nat.zero_le _⟩ (Nat.le_of_ble_eq_true rfl) (Nat.zero_le _) ?_
    have e1 := inj1 h
    subst e1
    exact V.iret dX10_count_74 rfl rfl
  replace h := ite_f hc3 h
  by_cases hc6 : x1 = 3
  · replace h := ite_t hc6 h
    refine V.tabAt (off := 74) (tgt := 75) dX10_count_1 hc6 (by decide) (by decide) (by decide) (by decide) ?_
    refine V.aload_n dX10_count_75 rfl ?_
    refine V.getR dX10_count_76 fl_RX10_10 s0_0 rfl rfl ?_
    refine V.getR dX10_count_79 fl_RX10_150 s0_1 rfl rfl ?_
    refine V.getI dX10_count_82 fl_RX10_245 s0_10 rfl rfl ?_
    have e1 := inj1 h
    subst e1
    exact V.iret dX10_count_85 rfl rfl
  replace h := ite_f hc6 h
  by_cases hc7 : x1 = 4
  · replace h := ite_t hc7 h
    refine V.tabAt (off := 85) (tgt := 86) dX10_count_1 hc7 (by decide) (by decide) (by decide) (by decide) ?_
    refine V.aload_n dX10_count_86 rfl ?_
    refine V.getR dX10_count_87 fl_RX10_10 s0_0 rfl rfl ?_
    refine V.getR dX10_count_90 fl_RX10_242 s0_1 rfl rfl ?_
    refine V.getI dX10_count_93 fl_RX10_245 s0_14 rfl rfl ?_
    have e1 := inj1 h
    subst e1
    exact V.iret dX10_count_96 rfl rfl
  replace h := ite_f hc7 h
  by_cases hc8 : x1 = 5
  · replace h := ite_t hc8 h
    refine V.tabAt (off := 96) (tgt := 97) dX10_count_1 hc8 (by decide) (by decide) (by decide) (by decide) ?_
    refine V.aload_n dX10_count_97 rfl ?_
    refine V.getI dX10_count_98 fl_RX10_22 s0_0 rfl rfl ?_
    obtain ⟨v10, hv9, h⟩ := bnd_s h
    refine V.cSi dX10_count_101 rfl mv_RX10_231 (ok_Int_bitCount hv9) rfl rfl (by decide) ⟨Nat.zero_le _, Nat.zero_le _⟩ (Nat.le_of_ble_eq_true rfl) (Nat.zero_le _) ?_
    have e1 := inj1 h
    subst e1
    exact V.iret dX10_count_104 rfl rfl
  replace h := ite_f hc8 h
  by_cases hc11 : x1 = 6
  · replace h := ite_t hc11 h
    refine V.tabAt (off := 104) (tgt := 105) dX10_count_1 hc11 (by decide) (by decide) (by decide) (by decide) ?_
    refine V.aload_n dX10_count_105 rfl ?_
    refine V.getR dX10_count_106 fl_RX10_29 s0_0 rfl rfl ?_
    refine V.getR dX10_count_109 fl_RX10_64 s0_52 rfl rfl ?_
    refine V.getI dX10_count_112 fl_RX10_74 s0_70 rfl rfl ?_
    have e1 := inj1 h
    subst e1
    exact V.iret dX10_count_115 rfl rfl
  replace h := ite_f hc11 h
  by_cases hc12 : x1 = 7
  · replace h := ite_t hc12 h
    refine V.tabAt (off := 115) (tgt := 116) dX10_count_1 hc12 (by decide) (by decide) (by decide) (by decide) ?_
    refine V.aload_n dX10_count_116 rfl ?_
    refine V.getR dX10_count_117 fl_RX10_57 s0_0 rfl rfl ?_
    refine V.iconst dX10_count_120 ic_0 ?_
    obtain ⟨v14, hv13, h⟩ := bnd_s h
    refine V.cVi dX10_count_121 rfl mv_RX10_318 (ok_She_cellsOf hv13) rfl rfl s0_95 rfl (by decide) ⟨Nat.zero_le _, Nat.zero_le _⟩ (Nat.le_of_ble_eq_true rfl) (Nat.zero_le _) ?_
    have e1 := inj1 h
    subst e1
    exact V.iret dX10_count_124 rfl rfl
  replace h := ite_f hc12 h
  refine V.tabOut (tgt := 125) dX10_count_1 (by have e0 := i32_lit (k := 0) hc1 (by decide); have e1 := i32_lit (k := 1) hc2 (by decide); have e2 := i32_lit (k := 2) hc3 (by decide); have e3 := i32_lit (k := 3) hc6 (by decide); have e4 := i32_lit (k := 4) hc7 (by decide); have e5 := i32_lit (k := 5) hc8 (by decide); have e6 := i32_lit (k := 6) hc11 (by decide); have e7 := i32_lit (k := 7) hc12 (by decide); omega) (by decide) ?_
  refine V.iconst dX10_count_125 ic_m1 ?_
  have e1 := inj1 h
  subst e1
  exact V.iret dX10_count_126 rfl rfl
