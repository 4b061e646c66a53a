theorem ok_Mod_isHour {X : Sc} {l : Launch} {sh : List Shp}  {M : Mem} {x0 : Int32} {r : Int32}  (h : f_Mod_isHour x0 = some r) : Mt X l yX11_isHour cX11_isHour 1 (some .boolean) 1 0 0 [.int x0] sh M (some (.int r)) sh M := by
  refine Mt.ofV (by decide) (Nat.le_of_ble_eq_true rfl) ?_
  show V X yX11_isHour cX11_isHour 1 (some .boolean) (rmD 1 0 0) l (FM (some (.int r)) sh M 0 0) 0 [some (.int x0)] [] sh M 0 0
  unfold f_Mod_isHour at h
  refine V.iload_n dX11_isHour_0 rfl ?_
  refine V.i2l dX11_isHour_1 ?_
  refine V.lconst dX11_isHour_2 lc_0 ?_
  refine V.ldc2 dX11_isHour_3 rfl kc_RX11_217 ?_
  obtain ⟨v2, hv1, h⟩ := bnd_s h
  refine V.cSi dX11_isHour_6 rfl mv_RX11_120 (ok_Mod_in hv1) rfl rfl (by decide) ⟨Nat.zero_le _, Nat.zero_le _⟩ (Nat.le_of_ble_eq_true rfl) (Nat.zero_le _) ?_
  obtain ⟨hB3, h⟩ := ck_s h
  have e1 := inj1 h
  subst e1
  exact V.iret dX11_isHour_9 rfl (isB_n hB3)
theorem ok_Mod_cell {X : Sc} {l : Launch}  {M : Mem} {x1 : Int32} {r : Int32}  (h : f_Mod_cell M x1 = some r) : Mt X l yX11_cell cX11_cell 2 (some .int) 2 0 0 [.ref 103, .int x1] S0 M (some (.int r)) S0 M := by
  refine Mt.ofV (by decide) (Nat.le_of_ble_eq_true rfl) ?_
  show V X yX11_cell cX11_cell 2 (some .int) (rmD 2 0 0) l (FM (some (.int r)) S0 M 0 0) 0 [some (.ref 103), some (.int x1)] [] S0 M 0 0
  unfold f_Mod_cell at h
  refine V.aload_n dX11_cell_0 rfl ?_
  refine V.iload_n dX11_cell_1 rfl ?_
  obtain ⟨v2, hv1, h⟩ := bnd_s h
  refine V.cVi dX11_cell_2 rfl mv_RX11_219 (ok_Mod_isCell hv1) rfl rfl s0_103 rfl (by decide) ⟨Nat.zero_le _, Nat.zero_le _⟩ (Nat.le_of_ble_eq_true rfl) (Nat.zero_le _) ?_
  refine V.if_eq (tgt := 17) dX11_cell_5 (by decide) (fun hc3 => ?_) (fun hc3 => ?_)
  · replace h := ite_t hc3 h
    refine V.iconst dX11_cell_17 ic_m1 ?_
    have e1 := inj1 h
    subst e1
    exact V.iret dX11_cell_18 rfl rfl
  replace h := ite_f hc3 h
  refine V.aload_n dX11_cell_8 rfl ?_
  refine V.getR dX11_cell_9 fl_RX11_7 s0_103 rfl rfl ?_
  refine V.iload_n dX11_cell_12 rfl ?_
  obtain ⟨hb4, h⟩ := ck_s h
  refine V.iald dX11_cell_13 s0_104 rfl (vp_of hb4) ?_
  refine V.goto (tgt := 18) dX11_cell_14 (by decide) ?_
  have e1 := inj1 h
  subst e1
  exact V.iret dX11_cell_18 rfl rfl
theorem ok_Mod_kindOf {X : Sc} {l : Launch}  {M : Mem} {x1 : Int32} {r : Int32}  (h : f_Mod_kindOf M x1 = some r) : Mt X l yX11_kindOf cX11_kindOf 2 (some .int) 0 0 0 [.ref 103, .int x1] S0 M (some (.int r)) S0 M := by
  refine Mt.ofV (by decide) (Nat.le_of_ble_eq_true rfl) ?_
  show V X yX11_kindOf cX11_kindOf 2 (some .int) (rmD 0 0 0) l (FM (some (.int r)) S0 M 0 0) 0 [some (.ref 103), some (.int x1)] [] S0 M 0 0
  unfold f_Mod_kindOf at h
  refine V.aload_n dX11_kindOf_0 rfl ?_
  refine V.getR dX11_kindOf_1 fl_RX11_17 s0_103 rfl rfl ?_
  refine V.iconst dX11_kindOf_4 ic_4 ?_
  refine V.iload_n dX11_kindOf_5 rfl ?_
  refine V.imul dX11_kindOf_6 ?_
  refine V.iconst dX11_kindOf_7 ic_3 ?_
  refine V.iadd dX11_kindOf_8 ?_
  obtain ⟨hb1, h⟩ := ck_s h
  refine V.iald dX11_kindOf_9 s0_106 rfl (vp_of hb1) ?_
  have e1 := inj1 h
  subst e1
  exact V.iret dX11_kindOf_10 rfl rfl
theorem ok_Mod_cellOf {X : Sc} {l : Launch}  {M : Mem} {x1 : Int32} {x2 : Int32} {r : Int32}  (h : f_Mod_cellOf M x1 x2 = some r) : Mt X l yX11_cellOf cX11_cellOf 4 (some .int) 1 0 0 [.ref 103, .int x1, .int x2] S0 M (some (.int r)) S0 M := by
  refine Mt.ofV (by decide) (Nat.le_of_ble_eq_true rfl) ?_
  show V X yX11_cellOf cX11_cellOf 4 (some .int) (rmD 1 0 0) l (FM (some (.int r)) S0 M 0 0) 0 [some (.ref 103), some (.int x1), some (.int x2), none] [] S0 M 0 0
  unfold f_Mod_cellOf at h
  refine V.aload_n dX11_cellOf_0 rfl ?_
  refine V.getR dX11_cellOf_1 fl_RX11_17 s0_103 rfl rfl ?_
  refine V.iconst dX11_cellOf_4 ic_4 ?_
  refine V.iload_n dX11_cellOf_5 rfl ?_
  refine V.imul dX11_cellOf_6 ?_
  obtain ⟨hb1, h⟩ := ck_s h
  refine V.iald dX11_cellOf_7 s0_106 rfl (vp_of hb1) ?_
  refine V.nmI (fun w2 hw2 => ?_)
  replace h := nmI_at h w2 hw2
  refine V.istore_n dX11_cellOf_8 (by decide) rfl ?_
  refine V.aload_n dX11_cellOf_9 rfl ?_
  refine V.iload_n dX11_cellOf_10 rfl ?_
  obtain ⟨v4, hv3, h⟩ := bnd_s h
  refine V.cVi dX11_cellOf_11 rfl mv_RX11_223 (ok_Mod_kindOf hv3) rfl rfl s0_103 rfl (by decide) ⟨Nat.zero_le _, Nat.zero_le _⟩ (Nat.le_of_ble_eq_true rfl) (Nat.zero_le _) ?_
  refine V.iconst dX11_cellOf_14 ic_2 ?_
  refine V.icmp_ne (tgt := 39) dX11_cellOf_15 (by decide) (fun hc5 => ?_) (fun hc5 => ?_)
  · replace h := ite_f hc5 h
    refine V.iload_n dX11_cellOf_39 rfl ?_
    have e1 := inj1 h
    subst e1
    exact V.iret dX11_cellOf_40 rfl rfl
  replace h := ite_t hc5 h
  refine V.iload_n dX11_cellOf_18 rfl ?_
  refine V.iload_n dX11_cellOf_19 rfl ?_
  refine V.bipush dX11_cellOf_20 bp_9 ?_
  refine V.irem dX11_cellOf_22 (by decide) ?_
  refine V.isub dX11_cellOf_23 ?_
  refine V.iload_n dX11_cellOf_24 rfl ?_
  refine V.bipush dX11_cellOf_25 bp_9 ?_
  refine V.irem dX11_cellOf_27 (by decide) ?_
  refine V.iload_n dX11_cellOf_28 rfl ?_
  refine V.iadd dX11_cellOf_29 ?_
  refine V.aload_n dX11_cellOf_30 rfl ?_
  refine V.getI dX11_cellOf_31 fl_RX11_90 s0_103 rfl rfl ?_
  obtain ⟨hz6, h⟩ := ite_z h
  refine V.irem dX11_cellOf_34 hz6 ?_
  refine V.iadd dX11_cellOf_35 ?_
  refine V.goto (tgt := 40) dX11_cellOf_36 (by decide) ?_
  have e1 := inj1 h
  subst e1
  exact V.iret dX11_cellOf_40 rfl rfl
theorem ok_Mod_facingOf {X : Sc} {l : Launch}  {M : Mem} {x1 : Int32} {x2 : Int32} {r : Int32}  (h : f_Mod_facingOf M x1 x2 = some r) : Mt X l yX11_facingOf cX11_facingOf 3 (some .int) 1 0 0 [.ref 103, .int x1, .int x2] S0 M (some (.int r)) S0 M := by
  refine Mt.ofV (by decide) (Nat.le_of_ble_eq_true rfl) ?_
  show V X yX11_facingOf cX11_facingOf 3 (some .int) (rmD 1 0 0) l (FM (some (.int r)) S0 M 0 0) 0 [some (.ref 103), some (.int x1), some (.int x2)] [] S0 M 0 0
  unfold f_Mod_facingOf at h
  refine V.aload_n dX11_facingOf_0 rfl ?_
  refine V.iload_n dX11_facingOf_1 rfl ?_
  obtain ⟨v2, hv1, h⟩ := bnd_s h
  refine V.cVi dX11_facingOf_2 rfl mv_RX11_223 (ok_Mod_kindOf hv1) rfl rfl s0_103 rfl (by decide) ⟨Nat.zero_le _, Nat.zero_le _⟩ (Nat.le_of_ble_eq_true rfl) (Nat.zero_le _) ?_
  refine V.i2l dX11_facingOf_5 ?_
  refine V.lconst dX11_facingOf_6 lc_1 ?_
  refine V.ldc2 dX11_facingOf_7 rfl kc_RX11_226 ?_
  obtain ⟨v4, hv3, h⟩ := bnd_s h
  refine V.cSi dX11_facingOf_10 rfl mv_RX11_120 (ok_Mod_in hv3) rfl rfl (by decide) ⟨Nat.zero_le _, Nat.zero_le _⟩ (Nat.le_of_ble_eq_true rfl) (Nat.zero_le _) ?_
  refine V.if_eq (tgt := 34) dX11_facingOf_13 (by decide) (fun hc5 => ?_) (fun hc5 => ?_)
  · replace h := ite_t hc5 h
    refine V.aload_n dX11_facingOf_34 rfl ?_
    refine V.getR dX11_facingOf_35 fl_RX11_17 s0_103 rfl rfl ?_
    refine V.iconst dX11_facingOf_38 ic_4 ?_
    refine V.iload_n dX11_facingOf_39 rfl ?_
    refine V.imul dX11_facingOf_40 ?_
    refine V.iconst dX11_facingOf_41 ic_1 ?_
    refine V.iadd dX11_facingOf_42 ?_
    obtain ⟨hb6, h⟩ := ck_s h
    refine V.iald dX11_facingOf_43 s0_106 rfl (vp_of hb6) ?_
    have e1 := inj1 h
    subst e1
    exact V.iret dX11_facingOf_44 rfl rfl
  replace h := ite_f hc5 h
  refine V.aload_n dX11_facingOf_16 rfl ?_
  refine V.getR dX11_facingOf_17 fl_RX11_17 s0_103 rfl rfl ?_
  refine V.iconst dX11_facingOf_20 ic_4 ?_
  refine V.iload_n dX11_facingOf_21 rfl ?_
  refine V.imul dX11_facingOf_22 ?_
  refine V.iconst dX11_facingOf_23 ic_1 ?_
  refine V.iadd dX11_facingOf_24 ?_
  obtain ⟨hb7, h⟩ := ck_s h
  refine V.iald dX11_facingOf_25 s0_106 rfl (vp_of hb7) ?_
  refine V.iload_n dX11_facingOf_26 rfl ?_
  refine V.iadd dX11_facingOf_27 ?_
  refine V.bipush dX11_facingOf_28 bp_8 ?_
  refine V.irem dX11_facingOf_30 (by decide) ?_
  refine V.goto (tgt := 44) dX11_facingOf_31 (by decide) ?_
  have e1 := inj1 h
  subst e1
  exact V.iret dX11_facingOf_44 rfl rfl
theorem ok_Mod_earOf {X : Sc} {l : Launch}  {M : Mem} {x1 : Int32} {r : Int32}  (h : f_Mod_earOf M x1 = some r) : Mt X l yX11_earOf cX11_earOf 3 (some .int) 1 0 0 [.ref 103, .int x1] S0 M (some (.int r)) S0 M := by
  refine Mt.ofV (by decide) (Nat.le_of_ble_eq_true rfl) ?_
  show V X yX11_earOf cX11_earOf 3 (some .int) (rmD 1 0 0) l (FM (some (.int r)) S0 M 0 0) 0 [some (.ref 103), some (.int x1), none] [] S0 M 0 0
  unfold f_Mod_earOf at h
  refine V.aload_n dX11_earOf_0 rfl ?_
  refine V.getR dX11_earOf_1 fl_RX11_17 s0_103 rfl rfl ?_
  refine V.iconst dX11_earOf_4 ic_4 ?_
  refine V.iload_n dX11_earOf_5 rfl ?_
  refine V.imul dX11_earOf_6 ?_
  refine V.iconst dX11_earOf_7 ic_2 ?_
  refine V.iadd dX11_earOf_8 ?_
  obtain ⟨hb1, h⟩ := ck_s h
  refine V.iald dX11_earOf_9 s0_106 rfl (vp_of hb1) ?_
  refine V.iconst dX11_earOf_10 ic_2 ?_
  refine V.idiv dX11_earOf_11 (by decide) ?_
  refine V.nmI (fun w2 hw2 => ?_)
  replace h := nmI_at h w2 hw2
  refine V.istore_n dX11_earOf_12 (by decide) rfl ?_
  refine V.aload_n dX11_earOf_13 rfl ?_
  refine V.iload_n dX11_earOf_14 rfl ?_
  obtain ⟨v4, hv3, h⟩ := bnd_s h
  refine V.cVi dX11_earOf_15 rfl mv_RX11_223 (ok_Mod_kindOf hv3) rfl rfl s0_103 rfl (by decide) ⟨Nat.zero_le _, Nat.zero_le _⟩ (Nat.le_of_ble_eq_true rfl) (Nat.zero_le _) ?_
  refine V.iconst dX11_earOf_18 ic_4 ?_
  refine V.icmp_eq (tgt := 35) dX11_earOf_19 (by decide) (fun hc5 => ?_) (fun hc5 => ?_)
  · replace h := ite_t hc5 h
    refine V.iload_n dX11_earOf_35 rfl ?_
    refine V.iconst dX11_earOf_36 ic_1 ?_
    refine V.icmp_le (tgt := 44) dX11_earOf_37 (by decide) (fun hc6 => ?_) (fun hc6 => ?_)
    · replace h := ite_t hc6 h
      refine V.iconst dX11_earOf_44 ic_1 ?_
      have e1 := inj1 h
      subst e1
      exact V.iret dX11_earOf_45 rfl rfl
    replace h := ite_f hc6 h
    refine V.iload_n dX11_earOf_40 rfl ?_
    refine V.goto (tgt := 45) dX11_earOf_41 (by decide) ?_
    have e1 := inj1 h
    subst e1
    exact V.iret dX11_earOf_45 rfl rfl
  replace h := ite_f hc5 h
  refine V.aload_n dX11_earOf_22 rfl ?_
  refine V.getR dX11_earOf_23 fl_RX11_17 s0_103 rfl rfl ?_
  refine V.iconst dX11_earOf_26 ic_4 ?_
  refine V.iload_n dX11_earOf_27 rfl ?_
  refine V.imul dX11_earOf_28 ?_
  refine V.iconst dX11_earOf_29 ic_2 ?_
  refine V.iadd dX11_earOf_30 ?_
  obtain ⟨hb7, h⟩ := ck_s h
  refine V.iald dX11_earOf_31 s0_106 rfl (vp_of hb7) ?_
  refine V.goto (tgt := 45) dX11_earOf_32 (by decide) ?_
  have e1 := inj1 h
  subst e1
  exact V.iret dX11_earOf_45 rfl rfl
theorem okc_Mod_whoOn_5 {X : Sc} {l : Launch}   {M : Mem}   : ∀ (n : Nat) (x1 : Int32) (x2 : Int32) (x3 : Int32) (r : Int32), f_Mod_whoOn_L5 M n x1 x2 x3 = some r → V X yX11_whoOn cX11_whoOn 4 (some .int) (rmD 0 0 0) l (FM (some (.int r)) S0 M 0 0) 5 [some (.ref 103), some (.int x1), some (.int x2), some (.int x3)] [] S0 M 0 0 := by
  intro n
  induction n with
  | zero =>
    intro x1 x2 x3 r h
    rw [f_Mod_whoOn_L5] at h
    cases h
  | succ n ih =>
    intro x1 x2 x3 r h
    rw [f_Mod_whoOn_L5] at h
    refine V.iload_n dX11_whoOn_5 rfl ?_
    refine V.aload_n dX11_whoOn_6 rfl ?_
    refine V.getI dX11_whoOn_7 fl_RX11_109 s0_103 rfl rfl ?_
    refine V.icmp_ge (tgt := 38) dX11_whoOn_10 (by decide) (fun hc1 => ?_) (fun hc1 => ?_)
    · replace h := ite_t hc1 h
      refine V.iload_n dX11_whoOn_38 rfl ?_
      have e1 := inj1 h
      subst e1
      exact V.iret dX11_whoOn_39 rfl rfl
    replace h := ite_f hc1 h
    refine V.aload_n dX11_whoOn_13 rfl ?_
    refine V.getR dX11_whoOn_14 fl_RX11_7 s0_103 rfl rfl ?_
    refine V.bipush dX11_whoOn_17 bp_82 ?_
    refine V.iload_n dX11_whoOn_19 rfl ?_
    refine V.iadd dX11_whoOn_20 ?_
    obtain ⟨hb2, h⟩ := ck_s h
    refine V.iald dX11_whoOn_21 s0_104 rfl (vp_of hb2) ?_
    refine V.iload_n dX11_whoOn_22 rfl ?_
    refine V.icmp_ne (tgt := 30) dX11_whoOn_23 (by decide) (fun hc3 => ?_) (fun hc3 => ?_)
    · replace h := ite_f hc3 h
      refine V.iload_n dX11_whoOn_30 rfl ?_
      refine V.istore_n dX11_whoOn_31 (by decide) rfl ?_
      refine V.iinc dX11_whoOn_32 rfl (iinc_c ic_1) (by decide) rfl ?_
      refine V.goto (tgt := 5) dX11_whoOn_35 (by decide) ?_
      exact ih _ _ _ _ h
    replace h := ite_t hc3 h
    refine V.iload_n dX11_whoOn_26 rfl ?_
    refine V.goto (tgt := 31) dX11_whoOn_27 (by decide) ?_
    refine V.istore_n dX11_whoOn_31 (by decide) rfl ?_
    refine V.iinc dX11_whoOn_32 rfl (iinc_c ic_1) (by decide) rfl ?_
    refine V.goto (tgt := 5) dX11_whoOn_35 (by decide) ?_
    exact ih _ _ _ _ h
theorem ok_Mod_whoOn {X : Sc} {l : Launch}  {M : Mem} {x1 : Int32} {r : Int32}  (h : f_Mod_whoOn M x1 = some r) : Mt X l yX11_whoOn cX11_whoOn 4 (some .int) 0 0 0 [.ref 103, .int x1] S0 M (some (.int r)) S0 M := by
  refine Mt.ofV (by decide) (Nat.le_of_ble_eq_true rfl) ?_
  show V X yX11_whoOn cX11_whoOn 4 (some .int) (rmD 0 0 0) l (FM (some (.int r)) S0 M 0 0) 0 [some (.ref 103), some (.int x1), none, none] [] S0 M 0 0
  unfold f_Mod_whoOn at h
  refine V.bipush dX11_whoOn_0 bp_m4 ?_
  refine V.istore_n dX11_whoOn_2 (by decide) rfl ?_
  refine V.iconst dX11_whoOn_3 ic_0 ?_
  refine V.istore_n dX11_whoOn_4 (by decide) rfl ?_
  exact okc_Mod_whoOn_5 _ _ _ _ _ h
theorem ok_Mod_bench {X : Sc} {l : Launch}  {M : Mem} {x1 : Int32} {x2 : Int32} {x3 : Int32} {r : Int32}  (h : f_Mod_bench M x1 x2 x3 = some r) : Mt X l yX11_bench cX11_bench 4 (some .int) 2 0 0 [.ref 103, .int x1, .int x2, .int x3] S0 M (some (.int r)) S0 M := by
  refine Mt.ofV (by decide) (Nat.le_of_ble_eq_true rfl) ?_
  show V X yX11_bench cX11_bench 4 (some .int) (rmD 2 0 0) l (FM (some (.int r)) S0 M 0 0) 0 [some (.ref 103), some (.int x1), some (.int x2), some (.int x3)] [] S0 M 0 0
  unfold f_Mod_bench at h
  refine V.aload_n dX11_bench_0 rfl ?_
  refine V.iload_n dX11_bench_1 rfl ?_
  obtain ⟨v2, hv1, h⟩ := bnd_s h
  refine V.cVi dX11_bench_2 rfl mv_RX11_228 (ok_Mod_isBench hv1) rfl rfl s0_103 rfl (by decide) ⟨Nat.zero_le _, Nat.zero_le _⟩ (Nat.le_of_ble_eq_true rfl) (Nat.zero_le _) ?_
  refine V.if_eq (tgt := 15) dX11_bench_5 (by decide) (fun hc3 => ?_) (fun hc3 => ?_)
  · replace h := ite_t hc3 h
    refine V.iconst dX11_bench_15 ic_m1 ?_
    have e1 := inj1 h
    subst e1
    exact V.iret dX11_bench_16 rfl rfl
  replace h := ite_f hc3 h
  refine V.iload_n dX11_bench_8 rfl ?_
  obtain ⟨v5, hv4, h⟩ := bnd_s h
  refine V.cSi dX11_bench_9 rfl mv_RX11_231 (ok_Mod_isHour hv4) rfl rfl (by decide) ⟨Nat.zero_le _, Nat.zero_le _⟩ (Nat.le_of_ble_eq_true rfl) (Nat.zero_le _) ?_
  refine V.if_ne (tgt := 17) dX11_bench_12 (by decide) (fun hc6 => ?_) (fun hc6 => ?_)
  · replace h := ite_f hc6 h
    refine V.iload_n dX11_bench_17 rfl ?_
    by_cases hc7 : x3 = 0
    · replace h := ite_t hc7 h
      refine V.tabAt (off := 34) (tgt := 52) dX11_bench_18 hc7 (by decide) (by decide) (by decide) (by decide) ?_
      refine V.aload_n dX11_bench_52 rfl ?_
      refine V.iload_n dX11_bench_53 rfl ?_
      refine V.iload_n dX11_bench_54 rfl ?_
      obtain ⟨v9, hv8, h⟩ := bnd_s h
      refine V.cVi dX11_bench_55 rfl mv_RX11_234 (ok_Mod_cellOf hv8) rfl rfl s0_103 rfl (by decide) ⟨Nat.zero_le _, Nat.zero_le _⟩ (Nat.le_of_ble_eq_true rfl) (Nat.zero_le _) ?_
      have e1 := inj1 h
      subst e1
      exact V.iret dX11_bench_58 rfl rfl
    replace h := ite_f hc7 h
    by_cases hc10 : x3 = 1
    · replace h := ite_t hc10 h
      refine V.tabAt (off := 41) (tgt := 59) dX11_bench_18 hc10 (by decide) (by decide) (by decide) (by decide) ?_
      refine V.aload_n dX11_bench_59 rfl ?_
      refine V.iload_n dX11_bench_60 rfl ?_
      refine V.iload_n dX11_bench_61 rfl ?_
      obtain ⟨v12, hv11, h⟩ := bnd_s h
      refine V.cVi dX11_bench_62 rfl mv_RX11_237 (ok_Mod_facingOf hv11) rfl rfl s0_103 rfl (by decide) ⟨Nat.zero_le _, Nat.zero_le _⟩ (Nat.le_of_ble_eq_true rfl) (Nat.zero_le _) ?_
      have e1 := inj1 h
      subst e1
      exact V.iret dX11_bench_65 rfl rfl
    replace h := ite_f hc10 h
    by_cases hc13 : x3 = 2
    · replace h := ite_t hc13 h
      refine V.tabAt (off := 48) (tgt := 66) dX11_bench_18 hc13 (by decide) (by decide) (by decide) (by decide) ?_
      refine V.aload_n dX11_bench_66 rfl ?_
      refine V.iload_n dX11_bench_67 rfl ?_
      obtain ⟨v15, hv14, h⟩ := bnd_s h
      refine V.cVi dX11_bench_68 rfl mv_RX11_240 (ok_Mod_earOf hv14) rfl rfl s0_103 rfl (by decide) ⟨Nat.zero_le _, Nat.zero_le _⟩ (Nat.le_of_ble_eq_true rfl) (Nat.zero_le _) ?_
      have e1 := inj1 h
      subst e1
      exact V.iret dX11_bench_71 rfl rfl
    replace h := ite_f hc13 h
    by_cases hc16 : x3 = 3
    · replace h := ite_t hc16 h
      refine V.tabAt (off := 54) (tgt := 72) dX11_bench_18 hc16 (by decide) (by decide) (by decide) (by decide) ?_
      refine V.aload_n dX11_bench_72 rfl ?_
      refine V.iload_n dX11_bench_73 rfl ?_
      obtain ⟨v18, hv17, h⟩ := bnd_s h
      refine V.cVi dX11_bench_74 rfl mv_RX11_223 (ok_Mod_kindOf hv17) rfl rfl s0_103 rfl (by decide) ⟨Nat.zero_le _, Nat.zero_le _⟩ (Nat.le_of_ble_eq_true rfl) (Nat.zero_le _) ?_
      have e1 := inj1 h
      subst e1
      exact V.iret dX11_bench_77 rfl rfl
    replace h := ite_f hc16 h
    by_cases hc19 : x3 = 4
    · replace h := ite_t hc19 h
      refine V.tabAt (off := 60) (tgt := 78) dX11_bench_18 hc19 (by decide) (by decide) (by decide) (by decide) ?_
      refine V.aload_n dX11_bench_78 rfl ?_
      refine V.iload_n dX11_bench_79 rfl ?_
      obtain ⟨v21, hv20, h⟩ := bnd_s h
      refine V.cVi dX11_bench_80 rfl mv_RX11_243 (ok_Mod_whoOn hv20) rfl rfl s0_103 rfl (by decide) ⟨Nat.zero_le _, Nat.zero_le _⟩ (Nat.le_of_ble_eq_true rfl) (Nat.zero_le _) ?_
      have e1 := inj1 h
      subst e1
      exact V.iret dX11_bench_83 rfl rfl
    replace h := ite_f hc19 h
    refine V.tabOut (tgt := 84) dX11_bench_18 (by have e0 := i32_lit (k := 0) hc7 (by decide); have e1 := i32_lit (k := 1) hc10 (by decide); have e2 := i32_lit (k := 2) hc13 (by decide); have e3 := i32_lit (k := 3) hc16 (by decide); have e4 := i32_lit (k := 4) hc19 (by decide); omega) (by decide) ?_
    refine V.iconst dX11_bench_84 ic_m1 ?_
    have e1 := inj1 h
    subst e1
    exact V.iret dX11_bench_85 rfl rfl
  replace h := ite_t hc6 h
  refine V.iconst dX11_bench_15 ic_m1 ?_
  have e1 := inj1 h
  subst e1
  exact V.iret dX11_bench_16 rfl rfl
theorem ok_Mod_want {X : Sc} {l : Launch}  {M : Mem} {x1 : Int32} {x2 : Int32} {r : Int32}  (h : f_Mod_want M x1 x2 = some r) : Mt X l yX11_want cX11_want 3 (some .int) 1 0 0 [.ref 103, .int x1, .int x2] S0 M (some (.int r)) S0 M := by
  refine Mt.ofV (by decide) (Nat.le_of_ble_eq_true rfl) ?_
  show V X yX11_want cX11_want 3 (some .int) (rmD 1 0 0) l (FM (some (.int r)) S0 M 0 0) 0 [some (.ref 103), some (.int x1), some (.int x2)] [] S0 M 0 0
  unfold f_Mod_want at h
  refine V.iload_n dX11_want_0 rfl ?_
  refine V.i2l dX11_want_1 ?_
  refine V.lconst dX11_want_2 lc_0 ?_
  refine V.aload_n dX11_want_3 rfl ?_
  refine V.getI dX11_want_4 fl_RX11_112 s0_103 rfl rfl ?_
  refine V.iconst dX11_want_7 ic_1 ?_
  refine V.isub dX11_want_8 ?_
  refine V.i2l dX11_want_9 ?_
  obtain ⟨v2, hv1, h⟩ := bnd_s h
  refine V.cSi dX11_want_10 rfl mv_RX11_120 (ok_Mod_in hv1) rfl rfl (by decide) ⟨Nat.zero_le _, Nat.zero_le _⟩ (Nat.le_of_ble_eq_true rfl) (Nat.zero_le _) ?_
  refine V.if_eq (tgt := 41) dX11_want_13 (by decide) (fun hc3 => ?_) (fun hc3 => ?_)
  · replace h := ite_t hc3 h
    refine V.iconst dX11_want_41 ic_m1 ?_
    have e1 := inj1 h
    subst e1
    exact V.iret dX11_want_42 rfl rfl
  replace h := ite_f hc3 h
  refine V.iload_n dX11_want_16 rfl ?_
  refine V.i2l dX11_want_17 ?_
  refine V.lconst dX11_want_18 lc_0 ?_
  refine V.ldc2 dX11_want_19 rfl kc_RX11_226 ?_
  obtain ⟨v5, hv4, h⟩ := bnd_s h
  refine V.cSi dX11_want_22 rfl mv_RX11_120 (ok_Mod_in hv4) rfl rfl (by decide) ⟨Nat.zero_le _, Nat.zero_le _⟩ (Nat.le_of_ble_eq_true rfl) (Nat.zero_le _) ?_
  refine V.if_eq (tgt := 41) dX11_want_25 (by decide) (fun hc6 => ?_) (fun hc6 => ?_)
  · replace h := ite_t hc6 h
    refine V.iconst dX11_want_41 ic_m1 ?_
    have e1 := inj1 h
    subst e1
    exact V.iret dX11_want_42 rfl rfl
  replace h := ite_f hc6 h
  refine V.aload_n dX11_want_28 rfl ?_
  refine V.getR dX11_want_29 fl_RX11_20 s0_103 rfl rfl ?_
  refine V.iconst dX11_want_32 ic_3 ?_
  refine V.iload_n dX11_want_33 rfl ?_
  refine V.imul dX11_want_34 ?_
  refine V.iload_n dX11_want_35 rfl ?_
  refine V.iadd dX11_want_36 ?_
  obtain ⟨hb7, h⟩ := ck_s h
  refine V.iald dX11_want_37 s0_107 rfl (vp_of hb7) ?_
  refine V.goto (tgt := 42) dX11_want_38 (by decide) ?_
  have e1 := inj1 h
  subst e1
  exact V.iret dX11_want_42 rfl rfl
theorem okc_Mod_hang_24 {X : Sc} {l : Launch}     : ∀ (n : Nat) (x1 : Int32) (x2 : Int32) (x3 : Int32) (M : Mem) (r : Int32) (M' : Mem), f_Mod_hang_L24  n x1 x2 x3 M = some (r, M') → V X yX11_hang cX11_hang 4 (some .int) (rmD 2 0 0) l (FM (some (.int r)) S0 M' 0 0) 24 [some (.ref 103), some (.int x1), some (.int x2), some (.int x3)] [] S0 M 0 0 := by
  intro n
  induction n with
  | zero =>
    intro x1 x2 x3 M r M' h
    rw [f_Mod_hang_L24] at h
    cases h
  | succ n ih =>
    intro x1 x2 x3 M r M' h
    rw [f_Mod_hang_L24] at h
    refine V.iload_n dX11_hang_24 rfl ?_
    refine V.aload_n dX11_hang_25 rfl ?_
    refine V.getI dX11_hang_26 fl_RX11_102 s0_103 rfl rfl ?_
    refine V.icmp_ge (tgt := 57) dX11_hang_29 (by decide) (fun hc1 => ?_) (fun hc1 => ?_)
    · replace h := ite_t hc1 h
      refine V.aload_n dX11_hang_57 rfl ?_
      refine V.getR dX11_hang_58 fl_RX11_7 s0_103 rfl rfl ?_
      refine V.iload_n dX11_hang_61 rfl ?_
      obtain ⟨hb2, h⟩ := ck_s h
      refine V.iald dX11_hang_62 s0_104 rfl (vp_of hb2) ?_
      refine V.nmI (fun w3 hw3 => ?_)
      replace h := nmI_at h w3 hw3
      refine V.istore_n dX11_hang_63 (by decide) rfl ?_
      refine V.aload_n dX11_hang_64 rfl ?_
      refine V.getR dX11_hang_65 fl_RX11_7 s0_103 rfl rfl ?_
      refine V.iload_n dX11_hang_68 rfl ?_
      refine V.iload_n dX11_hang_69 rfl ?_
      obtain ⟨hb4, h⟩ := ck_s h
      refine V.iast dX11_hang_70 s0_104 rfl (vp_of hb4) (fun M5 hM5 => ?_)
      replace h := setM_at h M5 hM5
      refine V.iload_n dX11_hang_71 rfl ?_
      obtain ⟨e1, e2⟩ := inj2 h
      subst e1
      subst e2
      exact V.iret dX11_hang_72 rfl rfl
    replace h := ite_f hc1 h
    refine V.aload_n dX11_hang_32 rfl ?_
    refine V.getR dX11_hang_33 fl_RX11_17 s0_103 rfl rfl ?_
    refine V.iconst dX11_hang_36 ic_4 ?_
    refine V.iload_n dX11_hang_37 rfl ?_
    refine V.imul dX11_hang_38 ?_
    obtain ⟨hb6, h⟩ := ck_s h
    refine V.iald dX11_hang_39 s0_106 rfl (vp_of hb6) ?_
    refine V.iload_n dX11_hang_40 rfl ?_
    refine V.icmp_ne (tgt := 51) dX11_hang_41 (by decide) (fun hc7 => ?_) (fun hc7 => ?_)
    · replace h := ite_f hc7 h
      refine V.iinc dX11_hang_51 rfl (iinc_c ic_1) (by decide) rfl ?_
      refine V.goto (tgt := 24) dX11_hang_54 (by decide) ?_
      exact ih _ _ _ _ _ _ h
    replace h := ite_t hc7 h
    refine V.iload_n dX11_hang_44 rfl ?_
    refine V.if_le (tgt := 51) dX11_hang_45 (by decide) (fun hc8 => ?_) (fun hc8 => ?_)
    · replace h := ite_t hc8 h
      refine V.iinc dX11_hang_51 rfl (iinc_c ic_1) (by decide) rfl ?_
      refine V.goto (tgt := 24) dX11_hang_54 (by decide) ?_
      exact ih _ _ _ _ _ _ h
    replace h := ite_f hc8 h
    refine V.bipush dX11_hang_48 bp_m2 ?_
    obtain ⟨e1, e2⟩ := inj2 h
    subst e1
    subst e2
    exact V.iret dX11_hang_50 rfl rfl
theorem ok_Mod_hang {X : Sc} {l : Launch}  {M : Mem} {x1 : Int32} {x2 : Int32} {r : Int32} {M' : Mem}  (h : f_Mod_hang x1 x2 M = some (r, M')) : Mt X l yX11_hang cX11_hang 4 (some .int) 2 0 0 [.ref 103, .int x1, .int x2] S0 M (some (.int r)) S0 M' := by
  refine Mt.ofV (by decide) (Nat.le_of_ble_eq_true rfl) ?_
  show V X yX11_hang cX11_hang 4 (some .int) (rmD 2 0 0) l (FM (some (.int r)) S0 M' 0 0) 0 [some (.ref 103), some (.int x1), some (.int x2), none] [] S0 M 0 0
  unfold f_Mod_hang at h
  refine V.aload_n dX11_hang_0 rfl ?_
  refine V.iload_n dX11_hang_1 rfl ?_
  obtain ⟨v2, hv1, h⟩ := bnd_s h
  refine V.cVi dX11_hang_2 rfl mv_RX11_219 (ok_Mod_isCell hv1) rfl rfl s0_103 rfl (by decide) ⟨Nat.zero_le _, Nat.zero_le _⟩ (Nat.le_of_ble_eq_true rfl) (Nat.zero_le _) ?_
  refine V.if_eq (tgt := 20) dX11_hang_5 (by decide) (fun hc3 => ?_) (fun hc3 => ?_)
  · replace h := ite_t hc3 h
    refine V.iconst dX11_hang_20 ic_m1 ?_
    obtain ⟨e1, e2⟩ := inj2 h
    subst e1
    subst e2
    exact V.iret dX11_hang_21 rfl rfl
  replace h := ite_f hc3 h
  refine V.iload_n dX11_hang_8 rfl ?_
  refine V.i2l dX11_hang_9 ?_
  refine V.lconst dX11_hang_10 lc_0 ?_
  refine V.ldc2 dX11_hang_11 rfl kc_RX11_226 ?_
  obtain ⟨v5, hv4, h⟩ := bnd_s h
  refine V.cSi dX11_hang_14 rfl mv_RX11_120 (ok_Mod_in hv4) rfl rfl (by decide) ⟨Nat.zero_le _, Nat.zero_le _⟩ (Nat.le_of_ble_eq_true rfl) (Nat.zero_le _) ?_
  refine V.if_ne (tgt := 22) dX11_hang_17 (by decide) (fun hc6 => ?_) (fun hc6 => ?_)
  · replace h := ite_f hc6 h
    refine V.iconst dX11_hang_22 ic_0 ?_
    refine V.istore_n dX11_hang_23 (by decide) rfl ?_
    exact okc_Mod_hang_24 _ _ _ _ _ _ _ h
  replace h := ite_t hc6 h
  refine V.iconst dX11_hang_20 ic_m1 ?_
  obtain ⟨e1, e2⟩ := inj2 h
  subst e1
  subst e2
  exact V.iret dX11_hang_21 rfl rfl
theorem ok_Mod_warm {X : Sc} {l : Launch}  {M : Mem} {x1 : Int32} {r : Int32} {M' : Mem}  (h : f_Mod_warm x1 M = some (r, M')) : Mt X l yX11_warm cX11_warm 3 (some .int) 1 0 0 [.ref 103, .int x1] S0 M (some (.int r)) S0 M' := by
  refine Mt.ofV (by decide) (Nat.le_of_ble_eq_true rfl) ?_
  show V X yX11_warm cX11_warm 3 (some .int) (rmD 1 0 0) l (FM (some (.int r)) S0 M' 0 0) 0 [some (.ref 103), some (.int x1), none] [] S0 M 0 0
  unfold f_Mod_warm at h
  refine V.iload_n dX11_warm_0 rfl ?_
  refine V.i2l dX11_warm_1 ?_
  refine V.lconst dX11_warm_2 lc_0 ?_
  refine V.ldc2 dX11_warm_3 rfl kc_RX11_246 ?_
  obtain ⟨v2, hv1, h⟩ := bnd_s h
  refine V.cSi dX11_warm_6 rfl mv_RX11_120 (ok_Mod_in hv1) rfl rfl (by decide) ⟨Nat.zero_le _, Nat.zero_le _⟩ (Nat.le_of_ble_eq_true rfl) (Nat.zero_le _) ?_
  refine V.if_ne (tgt := 14) dX11_warm_9 (by decide) (fun hc3 => ?_) (fun hc3 => ?_)
  · replace h := ite_f hc3 h
    refine V.aload_n dX11_warm_14 rfl ?_
    refine V.getR dX11_warm_15 fl_RX11_7 s0_103 rfl rfl ?_
    refine V.bipush dX11_warm_18 bp_81 ?_
    refine V.iald dX11_warm_20 s0_104 rfl (vp_of (by decide)) ?_
    refine V.nmI (fun w4 hw4 => ?_)
    replace h := nmI_at h w4 hw4
    refine V.istore_n dX11_warm_21 (by decide) rfl ?_
    refine V.aload_n dX11_warm_22 rfl ?_
    refine V.getR dX11_warm_23 fl_RX11_7 s0_103 rfl rfl ?_
    refine V.bipush dX11_warm_26 bp_81 ?_
    refine V.iload_n dX11_warm_28 rfl ?_
    refine V.iast dX11_warm_29 s0_104 rfl (vp_of (by decide)) (fun M5 hM5 => ?_)
    replace h := setM_at h M5 hM5
    refine V.iload_n dX11_warm_30 rfl ?_
    obtain ⟨e1, e2⟩ := inj2 h
    subst e1
    subst e2
    exact V.iret dX11_warm_31 rfl rfl
  replace h := ite_t hc3 h
  refine V.iconst dX11_warm_12 ic_m1 ?_
  obtain ⟨e1, e2⟩ := inj2 h
  subst e1
  subst e2
  exact V.iret dX11_warm_13 rfl rfl
theorem okc_Mod_sit_53 {X : Sc} {l : Launch}     {x1 : Int32} {x2 : Int32} {x3 : Int32} {M : Mem} {r : Int32} {M' : Mem} (h : f_Mod_sit_J53  x1 x2 x3 M = some (r, M')) : V X yX11_sit cX11_sit 5 (some .int) (rmD 2 0 0) l (FM (some (.int r)) S0 M' 0 0) 53 [some (.ref 103), some (.int x1), some (.int x2), some (.int x3), none] [] S0 M 0 0 := by
  unfold f_Mod_sit_J53 at h
  refine V.aload_n dX11_sit_53 rfl ?_
  refine V.getR dX11_sit_54 fl_RX11_7 s0_103 rfl rfl ?_
  refine V.bipush dX11_sit_57 bp_82 ?_
  refine V.iload_n dX11_sit_59 rfl ?_
  refine V.iadd dX11_sit_60 ?_
  refine V.iload_n dX11_sit_61 rfl ?_
  obtain ⟨hb1, h⟩ := ck_s h
  refine V.iast dX11_sit_62 s0_104 rfl (vp_of hb1) (fun M2 hM2 => ?_)
  replace h := setM_at h M2 hM2
  refine V.iload_n dX11_sit_63 rfl ?_
  obtain ⟨e1, e2⟩ := inj2 h
  subst e1
  subst e2
  exact V.iret dX11_sit_64 rfl rfl
theorem ok_Mod_sit {X : Sc} {l : Launch}  {M : Mem} {x1 : Int32} {x2 : Int32} {r : Int32} {M' : Mem}  (h : f_Mod_sit x1 x2 M = some (r, M')) : Mt X l yX11_sit cX11_sit 5 (some .int) 2 0 0 [.ref 103, .int x1, .int x2] S0 M (some (.int r)) S0 M' := by
  refine Mt.ofV (by decide) (Nat.le_of_ble_eq_true rfl) ?_
  show V X yX11_sit cX11_sit 5 (some .int) (rmD 2 0 0) l (FM (some (.int r)) S0 M' 0 0) 0 [some (.ref 103), some (.int x1), some (.int x2), none, none] [] S0 M 0 0
  unfold f_Mod_sit at h
  refine V.aload_n dX11_sit_0 rfl ?_
  refine V.iload_n dX11_sit_1 rfl ?_
  obtain ⟨v2, hv1, h⟩ := bnd_s h
  refine V.cVi dX11_sit_2 rfl mv_RX11_248 (ok_Mod_isOne hv1) rfl rfl s0_103 rfl (by decide) ⟨Nat.zero_le _, Nat.zero_le _⟩ (Nat.le_of_ble_eq_true rfl) (Nat.zero_le _) ?_
  refine V.if_eq (tgt := 16) dX11_sit_5 (by decide) (fun hc3 => ?_) (fun hc3 => ?_)
  · replace h := ite_t hc3 h
    refine V.iconst dX11_sit_16 ic_m1 ?_
    obtain ⟨e1, e2⟩ := inj2 h
    subst e1
    subst e2
    exact V.iret dX11_sit_17 rfl rfl
  replace h := ite_f hc3 h
  refine V.aload_n dX11_sit_8 rfl ?_
  refine V.iload_n dX11_sit_9 rfl ?_
  obtain ⟨v5, hv4, h⟩ := bnd_s h
  refine V.cVi dX11_sit_10 rfl mv_RX11_228 (ok_Mod_isBench hv4) rfl rfl s0_103 rfl (by decide) ⟨Nat.zero_le _, Nat.zero_le _⟩ (Nat.le_of_ble_eq_true rfl) (Nat.zero_le _) ?_
  refine V.if_ne (tgt := 18) dX11_sit_13 (by decide) (fun hc6 => ?_) (fun hc6 => ?_)
  · replace h := ite_f hc6 h
    refine V.aload_n dX11_sit_18 rfl ?_
    refine V.getR dX11_sit_19 fl_RX11_7 s0_103 rfl rfl ?_
    refine V.bipush dX11_sit_22 bp_82 ?_
    refine V.iload_n dX11_sit_24 rfl ?_
    refine V.iadd dX11_sit_25 ?_
    obtain ⟨hb7, h⟩ := ck_s h
    refine V.iald dX11_sit_26 s0_104 rfl (vp_of hb7) ?_
    refine V.nmI (fun w8 hw8 => ?_)
    replace h := nmI_at h w8 hw8
    refine V.istore_n dX11_sit_27 (by decide) rfl ?_
    refine V.aload_n dX11_sit_28 rfl ?_
    refine V.iload_n dX11_sit_29 rfl ?_
    obtain ⟨v10, hv9, h⟩ := bnd_s h
    refine V.cVi dX11_sit_30 rfl mv_RX11_243 (ok_Mod_whoOn hv9) rfl rfl s0_103 rfl (by decide) ⟨Nat.zero_le _, Nat.zero_le _⟩ (Nat.le_of_ble_eq_true rfl) (Nat.zero_le _) ?_
    refine V.istore dX11_sit_33 (by decide) rfl ?_
    refine V.iload dX11_sit_35 rfl ?_
    refine V.bipush dX11_sit_37 bp_m4 ?_
    refine V.icmp_eq (tgt := 53) dX11_sit_39 (by decide) (fun hc11 => ?_) (fun hc11 => ?_)
    · replace h := ite_t hc11 h
      refine V.mask [true, true, true, true, false] rfl ?_
      exact okc_Mod_sit_53 h
    replace h := ite_f hc11 h
    refine V.aload_n dX11_sit_42 rfl ?_
    refine V.getR dX11_sit_43 fl_RX11_7 s0_103 rfl rfl ?_
    refine V.bipush dX11_sit_46 bp_82 ?_
    refine V.iload dX11_sit_48 rfl ?_
    refine V.iadd dX11_sit_50 ?_
    refine V.iload_n dX11_sit_51 rfl ?_
    obtain ⟨hb12, h⟩ := ck_s h
    refine V.iast dX11_sit_52 s0_104 rfl (vp_of hb12) (fun M13 hM13 => ?_)
    replace h := setM_at h M13 hM13
    refine V.mask [true, true, true, true, false] rfl ?_
    exact okc_Mod_sit_53 h
  replace h := ite_t hc6 h
  refine V.iconst dX11_sit_16 ic_m1 ?_
  obtain ⟨e1, e2⟩ := inj2 h
  subst e1
  subst e2
  exact V.iret dX11_sit_17 rfl rfl
theorem ok_Mod_rightOf {X : Sc} {l : Launch} {sh : List Shp}  {M : Mem} {x0 : Int32} {r : Int32}  (h : f_Mod_rightOf x0 = some r) : Mt X l yX11_rightOf cX11_rightOf 1 (some .int) 1 0 0 [.int x0] sh M (some (.int r)) sh M := by
  refine Mt.ofV (by decide) (Nat.le_of_ble_eq_true rfl) ?_
  show V X yX11_rightOf cX11_rightOf 1 (some .int) (rmD 1 0 0) l (FM (some (.int r)) sh M 0 0) 0 [some (.int x0)] [] sh M 0 0
  unfold f_Mod_rightOf at h
  refine V.iload_n dX11_rightOf_0 rfl ?_
  refine V.i2l dX11_rightOf_1 ?_
  refine V.lconst dX11_rightOf_2 lc_1 ?_
  refine V.ldc2 dX11_rightOf_3 rfl kc_RX11_251 ?_
  obtain ⟨v2, hv1, h⟩ := bnd_s h
  refine V.cSi dX11_rightOf_6 rfl mv_RX11_120 (ok_Mod_in hv1) rfl rfl (by decide) ⟨Nat.zero_le _, Nat.zero_le _⟩ (Nat.le_of_ble_eq_true rfl) (Nat.zero_le _) ?_
  refine V.if_eq (tgt := 16) dX11_rightOf_9 (by decide) (fun hc3 => ?_) (fun hc3 => ?_)
  · replace h := ite_t hc3 h
    refine V.iload_n dX11_rightOf_16 rfl ?_
    refine V.i2l dX11_rightOf_17 ?_
    refine V.ldc2 dX11_rightOf_18 rfl kc_RX11_253 ?_
    refine V.ldc2 dX11_rightOf_21 rfl kc_RX11_255 ?_
    obtain ⟨v5, hv4, h⟩ := bnd_s h
    refine V.cSi dX11_rightOf_24 rfl mv_RX11_120 (ok_Mod_in hv4) rfl rfl (by decide) ⟨Nat.zero_le _, Nat.zero_le _⟩ (Nat.le_of_ble_eq_true rfl) (Nat.zero_le _) ?_
    refine V.if_eq (tgt := 34) dX11_rightOf_27 (by decide) (fun hc6 => ?_) (fun hc6 => ?_)
    · replace h := ite_t hc6 h
      refine V.iconst dX11_rightOf_34 ic_0 ?_
      have e1 := inj1 h
      subst e1
      exact V.iret dX11_rightOf_35 rfl rfl
    replace h := ite_f hc6 h
    refine V.iconst dX11_rightOf_30 ic_m1 ?_
    refine V.goto (tgt := 35) dX11_rightOf_31 (by decide) ?_
    have e1 := inj1 h
    subst e1
    exact V.iret dX11_rightOf_35 rfl rfl
  replace h := ite_f hc3 h
  refine V.iconst dX11_rightOf_12 ic_1 ?_
  refine V.goto (tgt := 35) dX11_rightOf_13 (by decide) ?_
  have e1 := inj1 h
  subst e1
  exact V.iret dX11_rightOf_35 rfl rfl
theorem ok_Mod_downOf {X : Sc} {l : Launch} {sh : List Shp}  {M : Mem} {x0 : Int32} {r : Int32}  (h : f_Mod_downOf x0 = some r) : Mt X l yX11_downOf cX11_downOf 1 (some .int) 1 0 0 [.int x0] sh M (some (.int r)) sh M := by
  refine Mt.ofV (by decide) (Nat.le_of_ble_eq_true rfl) ?_
  show V X yX11_downOf cX11_downOf 1 (some .int) (rmD 1 0 0) l (FM (some (.int r)) sh M 0 0) 0 [some (.int x0)] [] sh M 0 0
  unfold f_Mod_downOf at h
  refine V.iload_n dX11_downOf_0 rfl ?_
  refine V.i2l dX11_downOf_1 ?_
  refine V.ldc2 dX11_downOf_2 rfl kc_RX11_251 ?_
  refine V.ldc2 dX11_downOf_5 rfl kc_RX11_253 ?_
  obtain ⟨v2, hv1, h⟩ := bnd_s h
  refine V.cSi dX11_downOf_8 rfl mv_RX11_120 (ok_Mod_in hv1) rfl rfl (by decide) ⟨Nat.zero_le _, Nat.zero_le _⟩ (Nat.le_of_ble_eq_true rfl) (Nat.zero_le _) ?_
  refine V.if_eq (tgt := 18) dX11_downOf_11 (by decide) (fun hc3 => ?_) (fun hc3 => ?_)
  · replace h := ite_t hc3 h
    refine V.iload_n dX11_downOf_18 rfl ?_
    refine V.iconst dX11_downOf_19 ic_2 ?_
    refine V.icmp_eq (tgt := 29) dX11_downOf_20 (by decide) (fun hc4 => ?_) (fun hc4 => ?_)
    · replace h := ite_t hc4 h
      refine V.iconst dX11_downOf_29 ic_0 ?_
      refine V.goto (tgt := 34) dX11_downOf_30 (by decide) ?_
      have e1 := inj1 h
      subst e1
      exact V.iret dX11_downOf_34 rfl rfl
    replace h := ite_f hc4 h
    refine V.iload_n dX11_downOf_23 rfl ?_
    refine V.bipush dX11_downOf_24 bp_6 ?_
    refine V.icmp_ne (tgt := 33) dX11_downOf_26 (by decide) (fun hc5 => ?_) (fun hc5 => ?_)
    · replace h := ite_f hc5 h
      refine V.iconst dX11_downOf_33 ic_m1 ?_
      have e1 := inj1 h
      subst e1
      exact V.iret dX11_downOf_34 rfl rfl
    replace h := ite_t hc5 h
    refine V.iconst dX11_downOf_29 ic_0 ?_
    refine V.goto (tgt := 34) dX11_downOf_30 (by decide) ?_
    have e1 := inj1 h
    subst e1
    exact V.iret dX11_downOf_34 rfl rfl
  replace h := ite_f hc3 h
  refine V.iconst dX11_downOf_14 ic_1 ?_
  refine V.goto (tgt := 34) dX11_downOf_15 (by decide) ?_
  have e1 := inj1 h
  subst e1
  exact V.iret dX11_downOf_34 rfl rfl
theorem okc_Mod_layPath_236 {X : Sc} {l : Launch} {k49 : Int32 → Int32 → Int32 → Int32 → Int32 → Int32 → Int32 → Mem → Option Mem}  (hk49 : ∀ (x3 : Int32) (x4 : Int32) (x5 : Int32) (x6 : Int32) (x7 : Int32) (x8 : Int32) (x9 : Int32) (M : Mem) (M' : Mem), k49 x3 x4 x5 x6 x7 x8 x9 M = some M' → V X yX11_layPath cX11_layPath 12 none (rmD 2 0 0) l (FM none S0 M' 0 0) 49 [some (.ref 103), none, none, some (.int x3), some (.int x4), some (.int x5), some (.int x6), some (.int x7), some (.int x8), some (.int x9), none, none] [] S0 M 0 0)  {x3 : Int32} {x4 : Int32} {x5 : Int32} {x6 : Int32} {x7 : Int32} {x9 : Int32} {x10 : Int32} {s0 : Int32} {M : Mem} {M' : Mem} (h : f_Mod_layPath_J236 k49 x3 x4 x5 x6 x7 x9 x10 s0 M = some M') : V X yX11_layPath cX11_layPath 12 none (rmD 2 0 0) l (FM none S0 M' 0 0) 236 [some (.ref 103), none, none, some (.int x3), some (.int x4), some (.int x5), some (.int x6), some (.int x7), none, some (.int x9), some (.int x10), none] [.int s0] S0 M 0 0 := by
  unfold f_Mod_layPath_J236 at h
  refine V.istore dX11_layPath_236 (by decide) rfl ?_
  refine V.iload dX11_layPath_238 rfl ?_
  refine V.if_eq (tgt := 273) dX11_layPath_240 (by decide) (fun hc1 => ?_) (fun hc1 => ?_)
  · replace h := ite_t hc1 h
    refine V.iinc dX11_layPath_273 rfl (iinc_c ic_1) (by decide) rfl ?_
    refine V.goto (tgt := 49) dX11_layPath_276 (by decide) ?_
    refine V.mask [true, false, false, true, true, true, true, true, true, true, false, false] rfl ?_
    exact hk49 _ _ _ _ _ _ _ _ _ h
  replace h := ite_f hc1 h
  refine V.aload_n dX11_layPath_243 rfl ?_
  refine V.getR dX11_layPath_244 fl_RX11_38 s0_103 rfl rfl ?_
  refine V.iload dX11_layPath_247 rfl ?_
  refine V.bipush dX11_layPath_249 bp_9 ?_
  refine V.iload dX11_layPath_251 rfl ?_
  refine V.imul dX11_layPath_253 ?_
  refine V.iload dX11_layPath_254 rfl ?_
  refine V.iadd dX11_layPath_256 ?_
  obtain ⟨hb2, h⟩ := ck_s h
  refine V.iast dX11_layPath_257 s0_113 rfl (vp_of hb2) (fun M3 hM3 => ?_)
  replace h := setM_at h M3 hM3
  refine V.aload_n dX11_layPath_258 rfl ?_
  refine V.getR dX11_layPath_259 fl_RX11_41 s0_103 rfl rfl ?_
  refine V.iload dX11_layPath_262 rfl ?_
  refine V.iload dX11_layPath_264 rfl ?_
  obtain ⟨hb4, h⟩ := ck_s h
  refine V.iast dX11_layPath_266 s0_114 rfl (vp_of hb4) (fun M5 hM5 => ?_)
  replace h := setM_at h M5 hM5
  refine V.aload_n dX11_layPath_267 rfl ?_
  refine V.iload dX11_layPath_268 rfl ?_
  refine V.putI dX11_layPath_270 fp_RX11_263 s0_103 rfl rfl (fun M6 hM6 => ?_)
  replace h := setM_at h M6 hM6
  refine V.iinc dX11_layPath_273 rfl (iinc_c ic_1) (by decide) rfl ?_
  refine V.goto (tgt := 49) dX11_layPath_276 (by decide) ?_
  refine V.mask [true, false, false, true, true, true, true, true, true, true, false, false] rfl ?_
  exact hk49 _ _ _ _ _ _ _ _ _ h
theorem okc_Mod_layPath_235 {X : Sc} {l : Launch} {k49 : Int32 → Int32 → Int32 → Int32 → Int32 → Int32 → Int32 → Mem → Option Mem}  (hk49 : ∀ (x3 : Int32) (x4 : Int32) (x5 : Int32) (x6 : Int32) (x7 : Int32) (x8 : Int32) (x9 : Int32) (M : Mem) (M' : Mem), k49 x3 x4 x5 x6 x7 x8 x9 M = some M' → V X yX11_layPath cX11_layPath 12 none (rmD 2 0 0) l (FM none S0 M' 0 0) 49 [some (.ref 103), none, none, some (.int x3), some (.int x4), some (.int x5), some (.int x6), some (.int x7), some (.int x8), some (.int x9), none, none] [] S0 M 0 0)  {x3 : Int32} {x4 : Int32} {x5 : Int32} {x6 : Int32} {x7 : Int32} {x9 : Int32} {x10 : Int32} {M : Mem} {M' : Mem} (h : f_Mod_layPath_J235 k49 x3 x4 x5 x6 x7 x9 x10 M = some M') : V X yX11_layPath cX11_layPath 12 none (rmD 2 0 0) l (FM none S0 M' 0 0) 235 [some (.ref 103), none, none, some (.int x3), some (.int x4), some (.int x5), some (.int x6), some (.int x7), none, some (.int x9), some (.int x10), none] [] S0 M 0 0 := by
  unfold f_Mod_layPath_J235 at h
  refine V.iconst dX11_layPath_235 ic_0 ?_
  exact okc_Mod_layPath_236 hk49 h
theorem okc_Mod_layPath_210 {X : Sc} {l : Launch} {k49 : Int32 → Int32 → Int32 → Int32 → Int32 → Int32 → Int32 → Mem → Option Mem}  (hk49 : ∀ (x3 : Int32) (x4 : Int32) (x5 : Int32) (x6 : Int32) (x7 : Int32) (x8 : Int32) (x9 : Int32) (M : Mem) (M' : Mem), k49 x3 x4 x5 x6 x7 x8 x9 M = some M' → V X yX11_layPath cX11_layPath 12 none (rmD 2 0 0) l (FM none S0 M' 0 0) 49 [some (.ref 103), none, none, some (.int x3), some (.int x4), some (.int x5), some (.int x6), some (.int x7), some (.int x8), some (.int x9), none, none] [] S0 M 0 0)  {x3 : Int32} {x4 : Int32} {x5 : Int32} {x6 : Int32} {x7 : Int32} {x9 : Int32} {x10 : Int32} {M : Mem} {M' : Mem} (h : f_Mod_layPath_J210 k49 x3 x4 x5 x6 x7 x9 x10 M = some M') : V X yX11_layPath cX11_layPath 12 none (rmD 2 0 0) l (FM none S0 M' 0 0) 210 [some (.ref 103), none, none, some (.int x3), some (.int x4), some (.int x5), some (.int x6), some (.int x7), none, some (.int x9), some (.int x10), none] [] S0 M 0 0 := by
  unfold f_Mod_layPath_J210 at h
  refine V.bipush dX11_layPath_210 bp_100 ?_
  refine V.aload_n dX11_layPath_212 rfl ?_
  refine V.getI dX11_layPath_213 fl_RX11_96 s0_103 rfl rfl ?_
  refine V.iload dX11_layPath_216 rfl ?_
  refine V.imul dX11_layPath_218 ?_
  refine V.isub dX11_layPath_219 ?_
  refine V.aload_n dX11_layPath_220 rfl ?_
  refine V.getI dX11_layPath_221 fl_RX11_99 s0_103 rfl rfl ?_
  refine V.iload dX11_layPath_224 rfl ?_
  refine V.imul dX11_layPath_226 ?_
  refine V.isub dX11_layPath_227 ?_
  refine V.if_le (tgt := 235) dX11_layPath_228 (by decide) (fun hc1 => ?_) (fun hc1 => ?_)
  · replace h := ite_t hc1 h
    exact okc_Mod_layPath_235 hk49 h
  replace h := ite_f hc1 h
  refine V.iconst dX11_layPath_231 ic_1 ?_
  refine V.goto (tgt := 236) dX11_layPath_232 (by decide) ?_
  exact okc_Mod_layPath_236 hk49 h
theorem okc_Mod_layPath_179 {X : Sc} {l : Launch} {k49 : Int32 → Int32 → Int32 → Int32 → Int32 → Int32 → Int32 → Mem → Option Mem}  (hk49 : ∀ (x3 : Int32) (x4 : Int32) (x5 : Int32) (x6 : Int32) (x7 : Int32) (x8 : Int32) (x9 : Int32) (M : Mem) (M' : Mem), k49 x3 x4 x5 x6 x7 x8 x9 M = some M' → V X yX11_layPath cX11_layPath 12 none (rmD 2 0 0) l (FM none S0 M' 0 0) 49 [some (.ref 103), none, none, some (.int x3), some (.int x4), some (.int x5), some (.int x6), some (.int x7), some (.int x8), some (.int x9), none, none] [] S0 M 0 0)  {x3 : Int32} {x4 : Int32} {x5 : Int32} {x6 : Int32} {x7 : Int32} {x9 : Int32} {x10 : Int32} {M : Mem} {M' : Mem} (h : f_Mod_layPath_J179 k49 x3 x4 x5 x6 x7 x9 x10 M = some M') : V X yX11_layPath cX11_layPath 12 none (rmD 2 0 0) l (FM none S0 M' 0 0) 179 [some (.ref 103), none, none, some (.int x3), some (.int x4), some (.int x5), some (.int x6), some (.int x7), none, some (.int x9), some (.int x10), none] [] S0 M 0 0 := by
  unfold f_Mod_layPath_J179 at h
  refine V.aload_n dX11_layPath_179 rfl ?_
  refine V.getR dX11_layPath_180 fl_RX11_7 s0_103 rfl rfl ?_
  refine V.bipush dX11_layPath_183 bp_9 ?_
  refine V.iload dX11_layPath_185 rfl ?_
  refine V.imul dX11_layPath_187 ?_
  refine V.iload dX11_layPath_188 rfl ?_
  refine V.iadd dX11_layPath_190 ?_
  obtain ⟨hb1, h⟩ := ck_s h
  refine V.iald dX11_layPath_191 s0_104 rfl (vp_of hb1) ?_
  refine V.nmI (fun w2 hw2 => ?_)
  replace h := nmI_at h w2 hw2
  refine V.istore dX11_layPath_192 (by decide) rfl ?_
  refine V.iload dX11_layPath_194 rfl ?_
  refine V.iconst dX11_layPath_196 ic_1 ?_
  refine V.icmp_eq (tgt := 235) dX11_layPath_197 (by decide) (fun hc3 => ?_) (fun hc3 => ?_)
  · replace h := ite_t hc3 h
    refine V.mask [true, false, false, true, true, true, true, true, false, true, true, false] rfl ?_
    exact okc_Mod_layPath_235 hk49 h
  replace h := ite_f hc3 h
  refine V.iload dX11_layPath_200 rfl ?_
  refine V.iconst dX11_layPath_202 ic_2 ?_
  refine V.icmp_ne (tgt := 210) dX11_layPath_203 (by decide) (fun hc4 => ?_) (fun hc4 => ?_)
  · replace h := ite_f hc4 h
    refine V.mask [true, false, false, true, true, true, true, true, false, true, true, false] rfl ?_
    exact okc_Mod_layPath_210 hk49 h
  replace h := ite_t hc4 h
  refine V.iload_n dX11_layPath_206 rfl ?_
  refine V.if_eq (tgt := 235) dX11_layPath_207 (by decide) (fun hc5 => ?_) (fun hc5 => ?_)
  · replace h := ite_t hc5 h
    refine V.mask [true, false, false, true, true, true, true, true, false, true, true, false] rfl ?_
    exact okc_Mod_layPath_235 hk49 h
  replace h := ite_f hc5 h
  refine V.mask [true, false, false, true, true, true, true, true, false, true, true, false] rfl ?_
  exact okc_Mod_layPath_210 hk49 h
theorem okc_Mod_layPath_128 {X : Sc} {l : Launch} {k49 : Int32 → Int32 → Int32 → Int32 → Int32 → Int32 → Int32 → Mem → Option Mem}  (hk49 : ∀ (x3 : Int32) (x4 : Int32) (x5 : Int32) (x6 : Int32) (x7 : Int32) (x8 : Int32) (x9 : Int32) (M : Mem) (M' : Mem), k49 x3 x4 x5 x6 x7 x8 x9 M = some M' → V X yX11_layPath cX11_layPath 12 none (rmD 2 0 0) l (FM none S0 M' 0 0) 49 [some (.ref 103), none, none, some (.int x3), some (.int x4), some (.int x5), some (.int x6), some (.int x7), some (.int x8), some (.int x9), none, none] [] S0 M 0 0)  {x3 : Int32} {x4 : Int32} {x5 : Int32} {x6 : Int32} {x7 : Int32} {x9 : Int32} {x10 : Int32} {M : Mem} {M' : Mem} (h : f_Mod_layPath_J128 k49 x3 x4 x5 x6 x7 x9 x10 M = some M') : V X yX11_layPath cX11_layPath 12 none (rmD 2 0 0) l (FM none S0 M' 0 0) 128 [some (.ref 103), none, none, some (.int x3), some (.int x4), some (.int x5), some (.int x6), some (.int x7), none, some (.int x9), some (.int x10), none] [] S0 M 0 0 := by
  unfold f_Mod_layPath_J128 at h
  refine V.iload dX11_layPath_128 rfl ?_
  refine V.iload dX11_layPath_130 rfl ?_
  refine V.iadd dX11_layPath_132 ?_
  refine V.nmI (fun w1 hw1 => ?_)
  replace h := nmI_at h w1 hw1
  refine V.istore dX11_layPath_133 (by decide) rfl ?_
  refine V.iload dX11_layPath_135 rfl ?_
  refine V.iload dX11_layPath_137 rfl ?_
  refine V.iadd dX11_layPath_139 ?_
  refine V.nmI (fun w2 hw2 => ?_)
  replace h := nmI_at h w2 hw2
  refine V.istore dX11_layPath_140 (by decide) rfl ?_
  refine V.aload_n dX11_layPath_142 rfl ?_
  refine V.getR dX11_layPath_143 fl_RX11_7 s0_103 rfl rfl ?_
  refine V.bipush dX11_layPath_146 bp_81 ?_
  refine V.iald dX11_layPath_148 s0_104 rfl (vp_of (by decide)) ?_
  refine V.if_le (tgt := 179) dX11_layPath_149 (by decide) (fun hc3 => ?_) (fun hc3 => ?_)
  · replace h := ite_t hc3 h
    exact okc_Mod_layPath_179 hk49 h
  replace h := ite_f hc3 h
  refine V.iload dX11_layPath_152 rfl ?_
  refine V.aload_n dX11_layPath_154 rfl ?_
  refine V.getR dX11_layPath_155 fl_RX11_7 s0_103 rfl rfl ?_
  refine V.bipush dX11_layPath_158 bp_81 ?_
  refine V.iald dX11_layPath_160 s0_104 rfl (vp_of (by decide)) ?_
  obtain ⟨hz4, h⟩ := ite_z h
  refine V.irem dX11_layPath_161 hz4 ?_
  refine V.if_ne (tgt := 179) dX11_layPath_162 (by decide) (fun hc5 => ?_) (fun hc5 => ?_)
  · replace h := ite_f hc5 h
    exact okc_Mod_layPath_179 hk49 h
  replace h := ite_t hc5 h
  refine V.iload dX11_layPath_165 rfl ?_
  refine V.iconst dX11_layPath_167 ic_1 ?_
  refine V.iadd dX11_layPath_168 ?_
  refine V.aload_n dX11_layPath_169 rfl ?_
  refine V.getI dX11_layPath_170 fl_RX11_93 s0_103 rfl rfl ?_
  refine V.icmp_ge (tgt := 179) dX11_layPath_173 (by decide) (fun hc6 => ?_) (fun hc6 => ?_)
  · replace h := ite_t hc6 h
    exact okc_Mod_layPath_179 hk49 h
  replace h := ite_f hc6 h
  refine V.iinc dX11_layPath_176 rfl (iinc_c ic_1) (by decide) rfl ?_
  exact okc_Mod_layPath_179 hk49 h
theorem okc_Mod_layPath_100 {X : Sc} {l : Launch} {k49 : Int32 → Int32 → Int32 → Int32 → Int32 → Int32 → Int32 → Mem → Option Mem}  (hk49 : ∀ (x3 : Int32) (x4 : Int32) (x5 : Int32) (x6 : Int32) (x7 : Int32) (x8 : Int32) (x9 : Int32) (M : Mem) (M' : Mem), k49 x3 x4 x5 x6 x7 x8 x9 M = some M' → V X yX11_layPath cX11_layPath 12 none (rmD 2 0 0) l (FM none S0 M' 0 0) 49 [some (.ref 103), none, none, some (.int x3), some (.int x4), some (.int x5), some (.int x6), some (.int x7), some (.int x8), some (.int x9), none, none] [] S0 M 0 0)  {x3 : Int32} {x4 : Int32} {x5 : Int32} {x6 : Int32} {x7 : Int32} {x9 : Int32} {x10 : Int32} {M : Mem} {M' : Mem} (h : f_Mod_layPath_J100 k49 x3 x4 x5 x6 x7 x9 x10 M = some M') : V X yX11_layPath cX11_layPath 12 none (rmD 2 0 0) l (FM none S0 M' 0 0) 100 [some (.ref 103), none, none, some (.int x3), some (.int x4), some (.int x5), some (.int x6), some (.int x7), none, some (.int x9), some (.int x10), none] [] S0 M 0 0 := by
  unfold f_Mod_layPath_J100 at h
  refine V.iload dX11_layPath_100 rfl ?_
  refine V.iload dX11_layPath_102 rfl ?_
  refine V.iadd dX11_layPath_104 ?_
  refine V.i2l dX11_layPath_105 ?_
  refine V.lconst dX11_layPath_106 lc_0 ?_
  refine V.aload_n dX11_layPath_107 rfl ?_
  refine V.getI dX11_layPath_108 fl_RX11_93 s0_103 rfl rfl ?_
  refine V.iconst dX11_layPath_111 ic_1 ?_
  refine V.isub dX11_layPath_112 ?_
  refine V.i2l dX11_layPath_113 ?_
  obtain ⟨v2, hv1, h⟩ := bnd_s h
  refine V.cSi dX11_layPath_114 rfl mv_RX11_120 (ok_Mod_in hv1) rfl rfl (by decide) ⟨Nat.zero_le _, Nat.zero_le _⟩ (Nat.le_of_ble_eq_true rfl) (Nat.zero_le _) ?_
  refine V.if_ne (tgt := 128) dX11_layPath_117 (by decide) (fun hc3 => ?_) (fun hc3 => ?_)
  · replace h := ite_f hc3 h
    exact okc_Mod_layPath_128 hk49 h
  replace h := ite_t hc3 h
  refine V.iload dX11_layPath_120 rfl ?_
  refine V.ineg dX11_layPath_122 ?_
  refine V.nmI (fun w4 hw4 => ?_)
  replace h := nmI_at h w4 hw4
  refine V.istore dX11_layPath_123 (by decide) rfl ?_
  refine V.iinc dX11_layPath_125 rfl (iinc_c ic_1) (by decide) rfl ?_
  exact okc_Mod_layPath_128 hk49 h
theorem okc_Mod_layPath_49 {X : Sc} {l : Launch}     : ∀ (n : Nat) (x3 : Int32) (x4 : Int32) (x5 : Int32) (x6 : Int32) (x7 : Int32) (x8 : Int32) (x9 : Int32) (M : Mem) (M' : Mem), f_Mod_layPath_L49  n x3 x4 x5 x6 x7 x8 x9 M = some M' → V X yX11_layPath cX11_layPath 12 none (rmD 2 0 0) l (FM none S0 M' 0 0) 49 [some (.ref 103), none, none, some (.int x3), some (.int x4), some (.int x5), some (.int x6), some (.int x7), some (.int x8), some (.int x9), none, none] [] S0 M 0 0 := by
  intro n
  induction n with
  | zero =>
    intro x3 x4 x5 x6 x7 x8 x9 M M' h
    rw [f_Mod_layPath_L49] at h
    cases h
  | succ n ih =>
    intro x3 x4 x5 x6 x7 x8 x9 M M' h
    rw [f_Mod_layPath_L49] at h
    refine V.iload dX11_layPath_49 rfl ?_
    refine V.bipush dX11_layPath_51 bp_40 ?_
    refine V.icmp_gt (tgt := 279) dX11_layPath_53 (by decide) (fun hc1 => ?_) (fun hc1 => ?_)
    · replace h := ite_t hc1 h
      have e1 := inj1 h
      subst e1
      exact V.vret dX11_layPath_279 rfl
    replace h := ite_f hc1 h
    refine V.iload dX11_layPath_56 rfl ?_
    refine V.if_eq (tgt := 279) dX11_layPath_58 (by decide) (fun hc2 => ?_) (fun hc2 => ?_)
    · replace h := ite_t hc2 h
      have e1 := inj1 h
      subst e1
      exact V.vret dX11_layPath_279 rfl
    replace h := ite_f hc2 h
    refine V.aload_n dX11_layPath_61 rfl ?_
    refine V.getR dX11_layPath_62 fl_RX11_41 s0_103 rfl rfl ?_
    refine V.iload dX11_layPath_65 rfl ?_
    refine V.iconst dX11_layPath_67 ic_1 ?_
    refine V.isub dX11_layPath_68 ?_
    obtain ⟨hb3, h⟩ := ck_s h
    refine V.iald dX11_layPath_69 s0_114 rfl (vp_of hb3) ?_
    refine V.nmI (fun w4 hw4 => ?_)
    replace h := nmI_at h w4 hw4
    refine V.istore dX11_layPath_70 (by decide) rfl ?_
    refine V.iload dX11_layPath_72 rfl ?_
    refine V.iload dX11_layPath_74 rfl ?_
    refine V.iadd dX11_layPath_76 ?_
    refine V.i2l dX11_layPath_77 ?_
    refine V.lconst dX11_layPath_78 lc_0 ?_
    refine V.aload_n dX11_layPath_79 rfl ?_
    refine V.getI dX11_layPath_80 fl_RX11_90 s0_103 rfl rfl ?_
    refine V.iconst dX11_layPath_83 ic_1 ?_
    refine V.isub dX11_layPath_84 ?_
    refine V.i2l dX11_layPath_85 ?_
    obtain ⟨v6, hv5, h⟩ := bnd_s h
    refine V.cSi dX11_layPath_86 rfl mv_RX11_120 (ok_Mod_in hv5) rfl rfl (by decide) ⟨Nat.zero_le _, Nat.zero_le _⟩ (Nat.le_of_ble_eq_true rfl) (Nat.zero_le _) ?_
    refine V.if_ne (tgt := 100) dX11_layPath_89 (by decide) (fun hc7 => ?_) (fun hc7 => ?_)
    · replace h := ite_f hc7 h
      refine V.mask [true, false, false, true, true, true, true, true, false, true, true, false] rfl ?_
      exact okc_Mod_layPath_100 ih h
    replace h := ite_t hc7 h
    refine V.iload dX11_layPath_92 rfl ?_
    refine V.ineg dX11_layPath_94 ?_
    refine V.nmI (fun w8 hw8 => ?_)
    replace h := nmI_at h w8 hw8
    refine V.istore dX11_layPath_95 (by decide) rfl ?_
    refine V.iinc dX11_layPath_97 rfl (iinc_c ic_1) (by decide) rfl ?_
    refine V.mask [true, false, false, true, true, true, true, true, false, true, true, false] rfl ?_
    exact okc_Mod_layPath_100 ih h
theorem ok_Mod_layPath {X : Sc} {l : Launch}  {M : Mem} {x1 : Int32} {x2 : Int32} {x3 : Int32} {M' : Mem}  (h : f_Mod_layPath x1 x2 x3 M = some M') : Mt X l yX11_layPath cX11_layPath 12 none 2 0 0 [.ref 103, .int x1, .int x2, .int x3] S0 M none S0 M' := by
  refine Mt.ofV (by decide) (Nat.le_of_ble_eq_true rfl) ?_
  show V X yX11_layPath cX11_layPath 12 none (rmD 2 0 0) l (FM none S0 M' 0 0) 0 [some (.ref 103), some (.int x1), some (.int x2), some (.int x3), none, none, none, none, none, none, none, none] [] S0 M 0 0
  unfold f_Mod_layPath at h
  refine V.iload_n dX11_layPath_0 rfl ?_
  refine V.bipush dX11_layPath_1 bp_9 ?_
  refine V.irem dX11_layPath_3 (by decide) ?_
  refine V.nmI (fun w1 hw1 => ?_)
  replace h := nmI_at h w1 hw1
  refine V.istore dX11_layPath_4 (by decide) rfl ?_
  refine V.iload_n dX11_layPath_6 rfl ?_
  refine V.bipush dX11_layPath_7 bp_9 ?_
  refine V.idiv dX11_layPath_9 (by decide) ?_
  refine V.nmI (fun w2 hw2 => ?_)
  replace h := nmI_at h w2 hw2
  refine V.istore dX11_layPath_10 (by decide) rfl ?_
  refine V.iload_n dX11_layPath_12 rfl ?_
  obtain ⟨v4, hv3, h⟩ := bnd_s h
  refine V.cSi dX11_layPath_13 rfl mv_RX11_257 (ok_Mod_rightOf hv3) rfl rfl (by decide) ⟨Nat.zero_le _, Nat.zero_le _⟩ (Nat.le_of_ble_eq_true rfl) (Nat.zero_le _) ?_
  refine V.istore dX11_layPath_16 (by decide) rfl ?_
  refine V.iload_n dX11_layPath_18 rfl ?_
  obtain ⟨v6, hv5, h⟩ := bnd_s h
  refine V.cSi dX11_layPath_19 rfl mv_RX11_260 (ok_Mod_downOf hv5) rfl rfl (by decide) ⟨Nat.zero_le _, Nat.zero_le _⟩ (Nat.le_of_ble_eq_true rfl) (Nat.zero_le _) ?_
  refine V.istore dX11_layPath_22 (by decide) rfl ?_
  refine V.aload_n dX11_layPath_24 rfl ?_
  refine V.getR dX11_layPath_25 fl_RX11_38 s0_103 rfl rfl ?_
  refine V.iconst dX11_layPath_28 ic_0 ?_
  refine V.iload_n dX11_layPath_29 rfl ?_
  refine V.iast dX11_layPath_30 s0_113 rfl (vp_of (by decide)) (fun M7 hM7 => ?_)
  replace h := setM_at h M7 hM7
  refine V.aload_n dX11_layPath_31 rfl ?_
  refine V.getR dX11_layPath_32 fl_RX11_41 s0_103 rfl rfl ?_
  refine V.iconst dX11_layPath_35 ic_0 ?_
  refine V.iconst dX11_layPath_36 ic_0 ?_
  refine V.iast dX11_layPath_37 s0_114 rfl (vp_of (by decide)) (fun M8 hM8 => ?_)
  replace h := setM_at h M8 hM8
  refine V.aload_n dX11_layPath_38 rfl ?_
  refine V.iconst dX11_layPath_39 ic_0 ?_
  refine V.putI dX11_layPath_40 fp_RX11_263 s0_103 rfl rfl (fun M9 hM9 => ?_)
  replace h := setM_at h M9 hM9
  refine V.iconst dX11_layPath_43 ic_1 ?_
  refine V.istore dX11_layPath_44 (by decide) rfl ?_
  refine V.iconst dX11_layPath_46 ic_1 ?_
  refine V.istore dX11_layPath_47 (by decide) rfl ?_
  refine V.mask [true, false, false, true, true, true, true, true, true, true, false, false] rfl ?_
  exact okc_Mod_layPath_49 _ _ _ _ _ _ _ _ _ _ h
theorem ok_Mod_loudAt {X : Sc} {l : Launch}  {M : Mem} {x1 : Int32} {r : Int32}  (h : f_Mod_loudAt M x1 = some r) : Mt X l yX11_loudAt cX11_loudAt 2 (some .int) 0 0 0 [.ref 103, .int x1] S0 M (some (.int r)) S0 M := by
  refine Mt.ofV (by decide) (Nat.le_of_ble_eq_true rfl) ?_
  show V X yX11_loudAt cX11_loudAt 2 (some .int) (rmD 0 0 0) l (FM (some (.int r)) S0 M 0 0) 0 [some (.ref 103), some (.int x1)] [] S0 M 0 0
  unfold f_Mod_loudAt at h
  refine V.bipush dX11_loudAt_0 bp_100 ?_
  refine V.aload_n dX11_loudAt_2 rfl ?_
  refine V.getI dX11_loudAt_3 fl_RX11_96 s0_103 rfl rfl ?_
  refine V.iload_n dX11_loudAt_6 rfl ?_
  refine V.imul dX11_loudAt_7 ?_
  refine V.isub dX11_loudAt_8 ?_
  refine V.aload_n dX11_loudAt_9 rfl ?_
  refine V.getI dX11_loudAt_10 fl_RX11_99 s0_103 rfl rfl ?_
  refine V.aload_n dX11_loudAt_13 rfl ?_
  refine V.getR dX11_loudAt_14 fl_RX11_41 s0_103 rfl rfl ?_
  refine V.iload_n dX11_loudAt_17 rfl ?_
  obtain ⟨hb1, h⟩ := ck_s h
  refine V.iald dX11_loudAt_18 s0_114 rfl (vp_of hb1) ?_
  refine V.imul dX11_loudAt_19 ?_
  refine V.isub dX11_loudAt_20 ?_
  have e1 := inj1 h
  subst e1
  exact V.iret dX11_loudAt_21 rfl rfl
theorem okc_Mod_layPathOf_27 {X : Sc} {l : Launch}     {s1 : Int32} {s2 : Int32} {s3 : Int32} {M : Mem} {M' : Mem} (h : f_Mod_layPathOf_J27  s1 s2 s3 M = some M') : V X yX11_layPathOf cX11_layPathOf 3 none (rmD 3 0 0) l (FM none S0 M' 0 0) 27 [none, none, none] [.int s3, .int s2, .int s1, .ref 103] S0 M 0 0 := by
  unfold f_Mod_layPathOf_J27 at h
  obtain ⟨M2, hv1, h⟩ := bnd_s h
  refine V.cVv dX11_layPathOf_27 rfl mv_RX11_266 (ok_Mod_layPath hv1) rfl rfl s0_103 rfl (by decide) ⟨Nat.zero_le _, Nat.zero_le _⟩ (Nat.le_of_ble_eq_true rfl) (Nat.zero_le _) ?_
  have e1 := inj1 h
  subst e1
  exact V.vret dX11_layPathOf_30 rfl
theorem ok_Mod_layPathOf {X : Sc} {l : Launch}  {M : Mem} {x1 : Int32} {x2 : Int32} {M' : Mem}  (h : f_Mod_layPathOf x1 x2 M = some M') : Mt X l yX11_layPathOf cX11_layPathOf 3 none 3 0 0 [.ref 103, .int x1, .int x2] S0 M none S0 M' := by
  refine Mt.ofV (by decide) (Nat.le_of_ble_eq_true rfl) ?_
  show V X yX11_layPathOf cX11_layPathOf 3 none (rmD 3 0 0) l (FM none S0 M' 0 0) 0 [some (.ref 103), some (.int x1), some (.int x2)] [] S0 M 0 0
  unfold f_Mod_layPathOf at h
  refine V.aload_n dX11_layPathOf_0 rfl ?_
  refine V.aload_n dX11_layPathOf_1 rfl ?_
  refine V.iload_n dX11_layPathOf_2 rfl ?_
  refine V.iload_n dX11_layPathOf_3 rfl ?_
  obtain ⟨v2, hv1, h⟩ := bnd_s h
  refine V.cVi dX11_layPathOf_4 rfl mv_RX11_234 (ok_Mod_cellOf hv1) rfl rfl s0_103 rfl (by decide) ⟨Nat.zero_le _, Nat.zero_le _⟩ (Nat.le_of_ble_eq_true rfl) (Nat.zero_le _) ?_
  refine V.aload_n dX11_layPathOf_7 rfl ?_
  refine V.iload_n dX11_layPathOf_8 rfl ?_
  refine V.iload_n dX11_layPathOf_9 rfl ?_
  obtain ⟨v4, hv3, h⟩ := bnd_s h
  refine V.cVi dX11_layPathOf_10 rfl mv_RX11_237 (ok_Mod_facingOf hv3) rfl rfl s0_103 rfl (by decide) ⟨Nat.zero_le _, Nat.zero_le _⟩ (Nat.le_of_ble_eq_true rfl) (Nat.zero_le _) ?_
  refine V.aload_n dX11_layPathOf_13 rfl ?_
  refine V.iload_n dX11_layPathOf_14 rfl ?_
  obtain ⟨v6, hv5, h⟩ := bnd_s h
  refine V.cVi dX11_layPathOf_15 rfl mv_RX11_223 (ok_Mod_kindOf hv5) rfl rfl s0_103 rfl (by decide) ⟨Nat.zero_le _, Nat.zero_le _⟩ (Nat.le_of_ble_eq_true rfl) (Nat.zero_le _) ?_
  refine V.iconst dX11_layPathOf_18 ic_3 ?_
  refine V.icmp_ne (tgt := 26) dX11_layPathOf_19 (by decide) (fun hc7 => ?_) (fun hc7 => ?_)
  · replace h := ite_f hc7 h
    refine V.iconst dX11_layPathOf_26 ic_0 ?_
    refine V.mask [false, false, false] rfl ?_
    exact okc_Mod_layPathOf_27 h
  replace h := ite_t hc7 h
  refine V.iconst dX11_layPathOf_22 ic_1 ?_
  refine V.goto (tgt := 27) dX11_layPathOf_23 (by decide) ?_
  refine V.mask [false, false, false] rfl ?_
  exact okc_Mod_layPathOf_27 h
theorem okc_Mod_stepTo_9 {X : Sc} {l : Launch}   {M : Mem}   : ∀ (n : Nat) (x1 : Int32) (x2 : Int32) (x3 : Int32) (x4 : Int32) (r : Int32), f_Mod_stepTo_L9 M n x1 x2 x3 x4 = some r → V X yX11_stepTo cX11_stepTo 5 (some .int) (rmD 2 0 0) l (FM (some (.int r)) S0 M 0 0) 9 [some (.ref 103), some (.int x1), some (.int x2), some (.int x3), some (.int x4)] [] S0 M 0 0 := by
  intro n
  induction n with
  | zero =>
    intro x1 x2 x3 x4 r h
    rw [f_Mod_stepTo_L9] at h
    cases h
  | succ n ih =>
    intro x1 x2 x3 x4 r h
    rw [f_Mod_stepTo_L9] at h
    refine V.iload dX11_stepTo_9 rfl ?_
    refine V.if_le (tgt := 43) dX11_stepTo_11 (by decide) (fun hc1 => ?_) (fun hc1 => ?_)
    · replace h := ite_t hc1 h
      refine V.iload_n dX11_stepTo_43 rfl ?_
      refine V.bipush dX11_stepTo_44 bp_m4 ?_
      refine V.icmp_eq (tgt := 66) dX11_stepTo_46 (by decide) (fun hc2 => ?_) (fun hc2 => ?_)
      · replace h := ite_t hc2 h
        refine V.bipush dX11_stepTo_66 bp_m4 ?_
        have e1 := inj1 h
        subst e1
        exact V.iret dX11_stepTo_68 rfl rfl
      replace h := ite_f hc2 h
      refine V.aload_n dX11_stepTo_49 rfl ?_
      refine V.iload_n dX11_stepTo_50 rfl ?_
      obtain ⟨v4, hv3, h⟩ := bnd_s h
      refine V.cVi dX11_stepTo_51 rfl mv_RX11_270 (ok_Mod_loudAt hv3) rfl rfl s0_103 rfl (by decide) ⟨Nat.zero_le _, Nat.zero_le _⟩ (Nat.le_of_ble_eq_true rfl) (Nat.zero_le _) ?_
      refine V.aload_n dX11_stepTo_54 rfl ?_
      refine V.iload_n dX11_stepTo_55 rfl ?_
      obtain ⟨v6, hv5, h⟩ := bnd_s h
      refine V.cVi dX11_stepTo_56 rfl mv_RX11_240 (ok_Mod_earOf hv5) rfl rfl s0_103 rfl (by decide) ⟨Nat.zero_le _, Nat.zero_le _⟩ (Nat.le_of_ble_eq_true rfl) (Nat.zero_le _) ?_
      refine V.icmp_lt (tgt := 66) dX11_stepTo_59 (by decide) (fun hc7 => ?_) (fun hc7 => ?_)
      · replace h := ite_t hc7 h
        refine V.bipush dX11_stepTo_66 bp_m4 ?_
        have e1 := inj1 h
        subst e1
        exact V.iret dX11_stepTo_68 rfl rfl
      replace h := ite_f hc7 h
      refine V.iload_n dX11_stepTo_62 rfl ?_
      refine V.goto (tgt := 68) dX11_stepTo_63 (by decide) ?_
      have e1 := inj1 h
      subst e1
      exact V.iret dX11_stepTo_68 rfl rfl
    replace h := ite_f hc1 h
    refine V.aload_n dX11_stepTo_14 rfl ?_
    refine V.getR dX11_stepTo_15 fl_RX11_38 s0_103 rfl rfl ?_
    refine V.iload dX11_stepTo_18 rfl ?_
    obtain ⟨hb8, h⟩ := ck_s h
    refine V.iald dX11_stepTo_20 s0_113 rfl (vp_of hb8) ?_
    refine V.aload_n dX11_stepTo_21 rfl ?_
    refine V.iload_n dX11_stepTo_22 rfl ?_
    refine V.iload_n dX11_stepTo_23 rfl ?_
    obtain ⟨v10, hv9, h⟩ := bnd_s h
    refine V.cVi dX11_stepTo_24 rfl mv_RX11_234 (ok_Mod_cellOf hv9) rfl rfl s0_103 rfl (by decide) ⟨Nat.zero_le _, Nat.zero_le _⟩ (Nat.le_of_ble_eq_true rfl) (Nat.zero_le _) ?_
    refine V.icmp_ne (tgt := 35) dX11_stepTo_27 (by decide) (fun hc11 => ?_) (fun hc11 => ?_)
    · replace h := ite_f hc11 h
      refine V.iload_n dX11_stepTo_35 rfl ?_
      refine V.istore_n dX11_stepTo_36 (by decide) rfl ?_
      refine V.iinc dX11_stepTo_37 rfl (iinc_c ic_m1) (by decide) rfl ?_
      refine V.goto (tgt := 9) dX11_stepTo_40 (by decide) ?_
      exact ih _ _ _ _ _ h
    replace h := ite_t hc11 h
    refine V.iload dX11_stepTo_30 rfl ?_
    refine V.goto (tgt := 36) dX11_stepTo_32 (by decide) ?_
    refine V.istore_n dX11_stepTo_36 (by decide) rfl ?_
    refine V.iinc dX11_stepTo_37 rfl (iinc_c ic_m1) (by decide) rfl ?_
    refine V.goto (tgt := 9) dX11_stepTo_40 (by decide) ?_
    exact ih _ _ _ _ _ h
theorem ok_Mod_stepTo {X : Sc} {l : Launch}  {M : Mem} {x1 : Int32} {x2 : Int32} {r : Int32}  (h : f_Mod_stepTo M x1 x2 = some r) : Mt X l yX11_stepTo cX11_stepTo 5 (some .int) 2 0 0 [.ref 103, .int x1, .int x2] S0 M (some (.int r)) S0 M := by
  refine Mt.ofV (by decide) (Nat.le_of_ble_eq_true rfl) ?_
  show V X yX11_stepTo cX11_stepTo 5 (some .int) (rmD 2 0 0) l (FM (some (.int r)) S0 M 0 0) 0 [some (.ref 103), some (.int x1), some (.int x2), none, none] [] S0 M 0 0
  unfold f_Mod_stepTo at h
  refine V.bipush dX11_stepTo_0 bp_m4 ?_
  refine V.istore_n dX11_stepTo_2 (by decide) rfl ?_
  refine V.aload_n dX11_stepTo_3 rfl ?_
  refine V.getI dX11_stepTo_4 fl_RX11_263 s0_103 rfl rfl ?_
  refine V.nmI (fun w1 hw1 => ?_)
  replace h := nmI_at h w1 hw1
  refine V.istore dX11_stepTo_7 (by decide) rfl ?_
  exact okc_Mod_stepTo_9 _ _ _ _ _ _ h
theorem ok_Mod_way {X : Sc} {l : Launch}  {M : Mem} {x1 : Int32} {x2 : Int32} {x3 : Int32} {r : Int32} {M' : Mem}  (h : f_Mod_way x1 x2 x3 M = some (r, M')) : Mt X l yX11_way cX11_way 4 (some .int) 4 0 0 [.ref 103, .int x1, .int x2, .int x3] S0 M (some (.int r)) S0 M' := by
  refine Mt.ofV (by decide) (Nat.le_of_ble_eq_true rfl) ?_
  show V X yX11_way cX11_way 4 (some .int) (rmD 4 0 0) l (FM (some (.int r)) S0 M' 0 0) 0 [some (.ref 103), some (.int x1), some (.int x2), some (.int x3)] [] S0 M 0 0
  unfold f_Mod_way at h
  refine V.aload_n dX11_way_0 rfl ?_
  refine V.iload_n dX11_way_1 rfl ?_
  obtain ⟨v2, hv1, h⟩ := bnd_s h
  refine V.cVi dX11_way_2 rfl mv_RX11_228 (ok_Mod_isBench hv1) rfl rfl s0_103 rfl (by decide) ⟨Nat.zero_le _, Nat.zero_le _⟩ (Nat.le_of_ble_eq_true rfl) (Nat.zero_le _) ?_
  refine V.if_eq (tgt := 27) dX11_way_5 (by decide) (fun hc3 => ?_) (fun hc3 => ?_)
  · replace h := ite_t hc3 h
    refine V.iconst dX11_way_27 ic_m1 ?_
    obtain ⟨e1, e2⟩ := inj2 h
    subst e1
    subst e2
    exact V.iret dX11_way_28 rfl rfl
  replace h := ite_f hc3 h
  refine V.iload_n dX11_way_8 rfl ?_
  obtain ⟨v5, hv4, h⟩ := bnd_s h
  refine V.cSi dX11_way_9 rfl mv_RX11_231 (ok_Mod_isHour hv4) rfl rfl (by decide) ⟨Nat.zero_le _, Nat.zero_le _⟩ (Nat.le_of_ble_eq_true rfl) (Nat.zero_le _) ?_
  refine V.if_eq (tgt := 27) dX11_way_12 (by decide) (fun hc6 => ?_) (fun hc6 => ?_)
  · replace h := ite_t hc6 h
    refine V.iconst dX11_way_27 ic_m1 ?_
    obtain ⟨e1, e2⟩ := inj2 h
    subst e1
    subst e2
    exact V.iret dX11_way_28 rfl rfl
  replace h := ite_f hc6 h
  refine V.iload_n dX11_way_15 rfl ?_
  refine V.i2l dX11_way_16 ?_
  refine V.lconst dX11_way_17 lc_0 ?_
  refine V.ldc2 dX11_way_18 rfl kc_RX11_273 ?_
  obtain ⟨v8, hv7, h⟩ := bnd_s h
  refine V.cSi dX11_way_21 rfl mv_RX11_120 (ok_Mod_in hv7) rfl rfl (by decide) ⟨Nat.zero_le _, Nat.zero_le _⟩ (Nat.le_of_ble_eq_true rfl) (Nat.zero_le _) ?_
  refine V.if_ne (tgt := 29) dX11_way_24 (by decide) (fun hc9 => ?_) (fun hc9 => ?_)
  · replace h := ite_f hc9 h
    refine V.aload_n dX11_way_29 rfl ?_
    refine V.iload_n dX11_way_30 rfl ?_
    refine V.iload_n dX11_way_31 rfl ?_
    obtain ⟨M11, hv10, h⟩ := bnd_s h
    refine V.cVv dX11_way_32 rfl mv_RX11_275 (ok_Mod_layPathOf hv10) rfl rfl s0_103 rfl (by decide) ⟨Nat.zero_le _, Nat.zero_le _⟩ (Nat.le_of_ble_eq_true rfl) (Nat.zero_le _) ?_
    refine V.iload_n dX11_way_35 rfl ?_
    refine V.aload_n dX11_way_36 rfl ?_
    refine V.getI dX11_way_37 fl_RX11_263 s0_103 rfl rfl ?_
    refine V.icmp_gt (tgt := 52) dX11_way_40 (by decide) (fun hc12 => ?_) (fun hc12 => ?_)
    · replace h := ite_t hc12 h
      refine V.bipush dX11_way_52 bp_m4 ?_
      obtain ⟨e1, e2⟩ := inj2 h
      subst e1
      subst e2
      exact V.iret dX11_way_54 rfl rfl
    replace h := ite_f hc12 h
    refine V.aload_n dX11_way_43 rfl ?_
    refine V.getR dX11_way_44 fl_RX11_38 s0_103 rfl rfl ?_
    refine V.iload_n dX11_way_47 rfl ?_
    obtain ⟨hb13, h⟩ := ck_s h
    refine V.iald dX11_way_48 s0_113 rfl (vp_of hb13) ?_
    refine V.goto (tgt := 54) dX11_way_49 (by decide) ?_
    obtain ⟨e1, e2⟩ := inj2 h
    subst e1
    subst e2
    exact V.iret dX11_way_54 rfl rfl
  replace h := ite_t hc9 h
  refine V.iconst dX11_way_27 ic_m1 ?_
  obtain ⟨e1, e2⟩ := inj2 h
  subst e1
  subst e2
  exact V.iret dX11_way_28 rfl rfl
theorem ok_Mod_steps {X : Sc} {l : Launch}  {M : Mem} {x1 : Int32} {x2 : Int32} {r : Int32} {M' : Mem}  (h : f_Mod_steps x1 x2 M = some (r, M')) : Mt X l yX11_steps cX11_steps 3 (some .int) 4 0 0 [.ref 103, .int x1, .int x2] S0 M (some (.int r)) S0 M' := by
  refine Mt.ofV (by decide) (Nat.le_of_ble_eq_true rfl) ?_
  show V X yX11_steps cX11_steps 3 (some .int) (rmD 4 0 0) l (FM (some (.int r)) S0 M' 0 0) 0 [some (.ref 103), some (.int x1), some (.int x2)] [] S0 M 0 0
  unfold f_Mod_steps at h
  refine V.aload_n dX11_steps_0 rfl ?_
  refine V.iload_n dX11_steps_1 rfl ?_
  obtain ⟨v2, hv1, h⟩ := bnd_s h
  refine V.cVi dX11_steps_2 rfl mv_RX11_228 (ok_Mod_isBench hv1) rfl rfl s0_103 rfl (by decide) ⟨Nat.zero_le _, Nat.zero_le _⟩ (Nat.le_of_ble_eq_true rfl) (Nat.zero_le _) ?_
  refine V.if_eq (tgt := 15) dX11_steps_5 (by decide) (fun hc3 => ?_) (fun hc3 => ?_)
  · replace h := ite_t hc3 h
    refine V.iconst dX11_steps_15 ic_m1 ?_
    obtain ⟨e1, e2⟩ := inj2 h
    subst e1
    subst e2
    exact V.iret dX11_steps_16 rfl rfl
  replace h := ite_f hc3 h
  refine V.iload_n dX11_steps_8 rfl ?_
  obtain ⟨v5, hv4, h⟩ := bnd_s h
  refine V.cSi dX11_steps_9 rfl mv_RX11_231 (ok_Mod_isHour hv4) rfl rfl (by decide) ⟨Nat.zero_le _, Nat.zero_le _⟩ (Nat.le_of_ble_eq_true rfl) (Nat.zero_le _) ?_
  refine V.if_ne (tgt := 17) dX11_steps_12 (by decide) (fun hc6 => ?_) (fun hc6 => ?_)
  · replace h := ite_f hc6 h
    refine V.aload_n dX11_steps_17 rfl ?_
    refine V.iload_n dX11_steps_18 rfl ?_
    refine V.iload_n dX11_steps_19 rfl ?_
    obtain ⟨M8, hv7, h⟩ := bnd_s h
    refine V.cVv dX11_steps_20 rfl mv_RX11_275 (ok_Mod_layPathOf hv7) rfl rfl s0_103 rfl (by decide) ⟨Nat.zero_le _, Nat.zero_le _⟩ (Nat.le_of_ble_eq_true rfl) (Nat.zero_le _) ?_
    refine V.aload_n dX11_steps_23 rfl ?_
    refine V.getI dX11_steps_24 fl_RX11_263 s0_103 rfl rfl ?_
    obtain ⟨e1, e2⟩ := inj2 h
    subst e1
    subst e2
    exact V.iret dX11_steps_27 rfl rfl
  replace h := ite_t hc6 h
  refine V.iconst dX11_steps_15 ic_m1 ?_
  obtain ⟨e1, e2⟩ := inj2 h
  subst e1
  subst e2
  exact V.iret dX11_steps_16 rfl rfl
theorem ok_Mod_hears {X : Sc} {l : Launch}  {M : Mem} {x1 : Int32} {x2 : Int32} {x3 : Int32} {x4 : Int32} {r : Int32} {M' : Mem}  (h : f_Mod_hears x1 x2 x3 x4 M = some (r, M')) : Mt X l yX11_hears cX11_hears 6 (some .int) 4 0 0 [.ref 103, .int x1, .int x2, .int x3, .int x4] S0 M (some (.int r)) S0 M' := by
  refine Mt.ofV (by decide) (Nat.le_of_ble_eq_true rfl) ?_
  show V X yX11_hears cX11_hears 6 (some .int) (rmD 4 0 0) l (FM (some (.int r)) S0 M' 0 0) 0 [some (.ref 103), some (.int x1), some (.int x2), some (.int x3), some (.int x4), none] [] S0 M 0 0
  unfold f_Mod_hears at h
  refine V.aload_n dX11_hears_0 rfl ?_
  refine V.iload_n dX11_hears_1 rfl ?_
  obtain ⟨v2, hv1, h⟩ := bnd_s h
  refine V.cVi dX11_hears_2 rfl mv_RX11_228 (ok_Mod_isBench hv1) rfl rfl s0_103 rfl (by decide) ⟨Nat.zero_le _, Nat.zero_le _⟩ (Nat.le_of_ble_eq_true rfl) (Nat.zero_le _) ?_
  refine V.if_eq (tgt := 41) dX11_hears_5 (by decide) (fun hc3 => ?_) (fun hc3 => ?_)
  · replace h := ite_t hc3 h
    refine V.iconst dX11_hears_41 ic_m1 ?_
    obtain ⟨e1, e2⟩ := inj2 h
    subst e1
    subst e2
    exact V.iret dX11_hears_42 rfl rfl
  replace h := ite_f hc3 h
  refine V.aload_n dX11_hears_8 rfl ?_
  refine V.iload_n dX11_hears_9 rfl ?_
  obtain ⟨v5, hv4, h⟩ := bnd_s h
  refine V.cVi dX11_hears_10 rfl mv_RX11_228 (ok_Mod_isBench hv4) rfl rfl s0_103 rfl (by decide) ⟨Nat.zero_le _, Nat.zero_le _⟩ (Nat.le_of_ble_eq_true rfl) (Nat.zero_le _) ?_
  refine V.if_eq (tgt := 41) dX11_hears_13 (by decide) (fun hc6 => ?_) (fun hc6 => ?_)
  · replace h := ite_t hc6 h
    refine V.iconst dX11_hears_41 ic_m1 ?_
    obtain ⟨e1, e2⟩ := inj2 h
    subst e1
    subst e2
    exact V.iret dX11_hears_42 rfl rfl
  replace h := ite_f hc6 h
  refine V.iload_n dX11_hears_16 rfl ?_
  refine V.iload_n dX11_hears_17 rfl ?_
  refine V.icmp_eq (tgt := 41) dX11_hears_18 (by decide) (fun hc7 => ?_) (fun hc7 => ?_)
  · replace h := ite_t hc7 h
    refine V.iconst dX11_hears_41 ic_m1 ?_
    obtain ⟨e1, e2⟩ := inj2 h
    subst e1
    subst e2
    exact V.iret dX11_hears_42 rfl rfl
  replace h := ite_f hc7 h
  refine V.iload_n dX11_hears_21 rfl ?_
  obtain ⟨v9, hv8, h⟩ := bnd_s h
  refine V.cSi dX11_hears_22 rfl mv_RX11_231 (ok_Mod_isHour hv8) rfl rfl (by decide) ⟨Nat.zero_le _, Nat.zero_le _⟩ (Nat.le_of_ble_eq_true rfl) (Nat.zero_le _) ?_
  refine V.if_eq (tgt := 41) dX11_hears_25 (by decide) (fun hc10 => ?_) (fun hc10 => ?_)
  · replace h := ite_t hc10 h
    refine V.iconst dX11_hears_41 ic_m1 ?_
    obtain ⟨e1, e2⟩ := inj2 h
    subst e1
    subst e2
    exact V.iret dX11_hears_42 rfl rfl
  replace h := ite_f hc10 h
  refine V.iload dX11_hears_28 rfl ?_
  refine V.i2l dX11_hears_30 ?_
  refine V.lconst dX11_hears_31 lc_0 ?_
  refine V.ldc2 dX11_hears_32 rfl kc_RX11_226 ?_
  obtain ⟨v12, hv11, h⟩ := bnd_s h
  refine V.cSi dX11_hears_35 rfl mv_RX11_120 (ok_Mod_in hv11) rfl rfl (by decide) ⟨Nat.zero_le _, Nat.zero_le _⟩ (Nat.le_of_ble_eq_true rfl) (Nat.zero_le _) ?_
  refine V.if_ne (tgt := 43) dX11_hears_38 (by decide) (fun hc13 => ?_) (fun hc13 => ?_)
  · replace h := ite_f hc13 h
    refine V.aload_n dX11_hears_43 rfl ?_
    refine V.iload_n dX11_hears_44 rfl ?_
    refine V.iload_n dX11_hears_45 rfl ?_
    obtain ⟨M15, hv14, h⟩ := bnd_s h
    refine V.cVv dX11_hears_46 rfl mv_RX11_275 (ok_Mod_layPathOf hv14) rfl rfl s0_103 rfl (by decide) ⟨Nat.zero_le _, Nat.zero_le _⟩ (Nat.le_of_ble_eq_true rfl) (Nat.zero_le _) ?_
    refine V.aload_n dX11_hears_49 rfl ?_
    refine V.iload_n dX11_hears_50 rfl ?_
    refine V.iload_n dX11_hears_51 rfl ?_
    obtain ⟨v17, hv16, h⟩ := bnd_s h
    refine V.cVi dX11_hears_52 rfl mv_RX11_279 (ok_Mod_stepTo hv16) rfl rfl s0_103 rfl (by decide) ⟨Nat.zero_le _, Nat.zero_le _⟩ (Nat.le_of_ble_eq_true rfl) (Nat.zero_le _) ?_
    refine V.istore dX11_hears_55 (by decide) rfl ?_
    refine V.iload dX11_hears_57 rfl ?_
    refine V.bipush dX11_hears_59 bp_m4 ?_
    refine V.icmp_ne (tgt := 69) dX11_hears_61 (by decide) (fun hc18 => ?_) (fun hc18 => ?_)
    · replace h := ite_f hc18 h
      refine V.iload dX11_hears_69 rfl ?_
      refine V.if_ne (tgt := 83) dX11_hears_71 (by decide) (fun hc19 => ?_) (fun hc19 => ?_)
      · replace h := ite_f hc19 h
        refine V.iload dX11_hears_83 rfl ?_
        refine V.iconst dX11_hears_85 ic_1 ?_
        refine V.icmp_ne (tgt := 94) dX11_hears_86 (by decide) (fun hc20 => ?_) (fun hc20 => ?_)
        · replace h := ite_f hc20 h
          refine V.aload_n dX11_hears_94 rfl ?_
          refine V.getR dX11_hears_95 fl_RX11_41 s0_103 rfl rfl ?_
          refine V.iload dX11_hears_98 rfl ?_
          obtain ⟨hb21, h⟩ := ck_s h
          refine V.iald dX11_hears_100 s0_114 rfl (vp_of hb21) ?_
          obtain ⟨e1, e2⟩ := inj2 h
          subst e1
          subst e2
          exact V.iret dX11_hears_101 rfl rfl
        replace h := ite_t hc20 h
        refine V.iload dX11_hears_89 rfl ?_
        refine V.goto (tgt := 101) dX11_hears_91 (by decide) ?_
        obtain ⟨e1, e2⟩ := inj2 h
        subst e1
        subst e2
        exact V.iret dX11_hears_101 rfl rfl
      replace h := ite_t hc19 h
      refine V.aload_n dX11_hears_74 rfl ?_
      refine V.iload dX11_hears_75 rfl ?_
      obtain ⟨v23, hv22, h⟩ := bnd_s h
      refine V.cVi dX11_hears_77 rfl mv_RX11_270 (ok_Mod_loudAt hv22) rfl rfl s0_103 rfl (by decide) ⟨Nat.zero_le _, Nat.zero_le _⟩ (Nat.le_of_ble_eq_true rfl) (Nat.zero_le _) ?_
      refine V.goto (tgt := 101) dX11_hears_80 (by decide) ?_
      obtain ⟨e1, e2⟩ := inj2 h
      subst e1
      subst e2
      exact V.iret dX11_hears_101 rfl rfl
    replace h := ite_t hc18 h
    refine V.bipush dX11_hears_64 bp_m4 ?_
    refine V.goto (tgt := 101) dX11_hears_66 (by decide) ?_
    obtain ⟨e1, e2⟩ := inj2 h
    subst e1
    subst e2
    exact V.iret dX11_hears_101 rfl rfl
  replace h := ite_t hc13 h
  refine V.iconst dX11_hears_41 ic_m1 ?_
  obtain ⟨e1, e2⟩ := inj2 h
  subst e1
  subst e2
  exact V.iret dX11_hears_42 rfl rfl
theorem okc_Mod_allTo_5 {X : Sc} {l : Launch}   {M : Mem}   : ∀ (n : Nat) (x1 : Int32) (x2 : Int32) (x3 : Int32) (x4 : Int32) (r : Int32), f_Mod_allTo_L5 M n x1 x2 x3 x4 = some r → V X yX11_allTo cX11_allTo 5 (some .int) (rmD 3 0 0) l (FM (some (.int r)) S0 M 0 0) 5 [some (.ref 103), some (.int x1), some (.int x2), some (.int x3), some (.int x4)] [] S0 M 0 0 := by
  intro n
  induction n with
  | zero =>
    intro x1 x2 x3 x4 r h
    rw [f_Mod_allTo_L5] at h
    cases h
  | succ n ih =>
    intro x1 x2 x3 x4 r h
    rw [f_Mod_allTo_L5] at h
    refine V.iload dX11_allTo_5 rfl ?_
    refine V.aload_n dX11_allTo_7 rfl ?_
    refine V.getI dX11_allTo_8 fl_RX11_102 s0_103 rfl rfl ?_
    refine V.icmp_ge (tgt := 49) dX11_allTo_11 (by decide) (fun hc1 => ?_) (fun hc1 => ?_)
    · replace h := ite_t hc1 h
      refine V.iload_n dX11_allTo_49 rfl ?_
      have e1 := inj1 h
      subst e1
      exact V.iret dX11_allTo_50 rfl rfl
    replace h := ite_f hc1 h
    refine V.iload_n dX11_allTo_14 rfl ?_
    refine V.iload dX11_allTo_15 rfl ?_
    refine V.iload_n dX11_allTo_17 rfl ?_
    refine V.icmp_eq (tgt := 40) dX11_allTo_18 (by decide) (fun hc2 => ?_) (fun hc2 => ?_)
    · replace h := ite_t hc2 h
      refine V.iconst dX11_allTo_40 ic_0 ?_
      refine V.ior dX11_allTo_41 ?_
      refine V.nmI (fun w3 hw3 => ?_)
      replace h := nmI_at h w3 hw3
      refine V.istore_n dX11_allTo_42 (by decide) rfl ?_
      refine V.iinc dX11_allTo_43 rfl (iinc_c ic_1) (by decide) rfl ?_
      refine V.goto (tgt := 5) dX11_allTo_46 (by decide) ?_
      exact ih _ _ _ _ _ h
    replace h := ite_f hc2 h
    refine V.aload_n dX11_allTo_21 rfl ?_
    refine V.iload dX11_allTo_22 rfl ?_
    refine V.iload_n dX11_allTo_24 rfl ?_
    obtain ⟨v5, hv4, h⟩ := bnd_s h
    refine V.cVi dX11_allTo_25 rfl mv_RX11_279 (ok_Mod_stepTo hv4) rfl rfl s0_103 rfl (by decide) ⟨Nat.zero_le _, Nat.zero_le _⟩ (Nat.le_of_ble_eq_true rfl) (Nat.zero_le _) ?_
    refine V.bipush dX11_allTo_28 bp_m4 ?_
    refine V.icmp_eq (tgt := 40) dX11_allTo_30 (by decide) (fun hc6 => ?_) (fun hc6 => ?_)
    · replace h := ite_t hc6 h
      refine V.iconst dX11_allTo_40 ic_0 ?_
      refine V.ior dX11_allTo_41 ?_
      refine V.nmI (fun w7 hw7 => ?_)
      replace h := nmI_at h w7 hw7
      refine V.istore_n dX11_allTo_42 (by decide) rfl ?_
      refine V.iinc dX11_allTo_43 rfl (iinc_c ic_1) (by decide) rfl ?_
      refine V.goto (tgt := 5) dX11_allTo_46 (by decide) ?_
      exact ih _ _ _ _ _ h
    replace h := ite_f hc6 h
    refine V.iconst dX11_allTo_33 ic_1 ?_
    refine V.iload dX11_allTo_34 rfl ?_
    refine V.ishl dX11_allTo_36 ?_
    refine V.goto (tgt := 41) dX11_allTo_37 (by decide) ?_
    refine V.ior dX11_allTo_41 ?_
    refine V.nmI (fun w8 hw8 => ?_)
    replace h := nmI_at h w8 hw8
    refine V.istore_n dX11_allTo_42 (by decide) rfl ?_
    refine V.iinc dX11_allTo_43 rfl (iinc_c ic_1) (by decide) rfl ?_
    refine V.goto (tgt := 5) dX11_allTo_46 (by decide) ?_
    exact ih _ _ _ _ _ h
theorem ok_Mod_allTo {X : Sc} {l : Launch}  {M : Mem} {x1 : Int32} {x2 : Int32} {r : Int32}  (h : f_Mod_allTo M x1 x2 = some r) : Mt X l yX11_allTo cX11_allTo 5 (some .int) 3 0 0 [.ref 103, .int x1, .int x2] S0 M (some (.int r)) S0 M := by
  refine Mt.ofV (by decide) (Nat.le_of_ble_eq_true rfl) ?_
  show V X yX11_allTo cX11_allTo 5 (some .int) (rmD 3 0 0) l (FM (some (.int r)) S0 M 0 0) 0 [some (.ref 103), some (.int x1), some (.int x2), none, none] [] S0 M 0 0
  unfold f_Mod_allTo at h
  refine V.iconst dX11_allTo_0 ic_0 ?_
  refine V.istore_n dX11_allTo_1 (by decide) rfl ?_
  refine V.iconst dX11_allTo_2 ic_0 ?_
  refine V.istore dX11_allTo_3 (by decide) rfl ?_
  exact okc_Mod_allTo_5 _ _ _ _ _ _ h
theorem ok_Mod_heardOf {X : Sc} {l : Launch}  {M : Mem} {x1 : Int32} {x2 : Int32} {r : Int32} {M' : Mem}  (h : f_Mod_heardOf x1 x2 M = some (r, M')) : Mt X l yX11_heardOf cX11_heardOf 3 (some .int) 4 0 0 [.ref 103, .int x1, .int x2] S0 M (some (.int r)) S0 M' := by
  refine Mt.ofV (by decide) (Nat.le_of_ble_eq_true rfl) ?_
  show V X yX11_heardOf cX11_heardOf 3 (some .int) (rmD 4 0 0) l (FM (some (.int r)) S0 M' 0 0) 0 [some (.ref 103), some (.int x1), some (.int x2)] [] S0 M 0 0
  unfold f_Mod_heardOf at h
  refine V.aload_n dX11_heardOf_0 rfl ?_
  refine V.iload_n dX11_heardOf_1 rfl ?_
  refine V.iload_n dX11_heardOf_2 rfl ?_
  obtain ⟨M2, hv1, h⟩ := bnd_s h
  refine V.cVv dX11_heardOf_3 rfl mv_RX11_275 (ok_Mod_layPathOf hv1) rfl rfl s0_103 rfl (by decide) ⟨Nat.zero_le _, Nat.zero_le _⟩ (Nat.le_of_ble_eq_true rfl) (Nat.zero_le _) ?_
  refine V.aload_n dX11_heardOf_6 rfl ?_
  refine V.iload_n dX11_heardOf_7 rfl ?_
  refine V.iload_n dX11_heardOf_8 rfl ?_
  obtain ⟨v4, hv3, h⟩ := bnd_s h
  refine V.cVi dX11_heardOf_9 rfl mv_RX11_282 (ok_Mod_allTo hv3) rfl rfl s0_103 rfl (by decide) ⟨Nat.zero_le _, Nat.zero_le _⟩ (Nat.le_of_ble_eq_true rfl) (Nat.zero_le _) ?_
  obtain ⟨e1, e2⟩ := inj2 h
  subst e1
  subst e2
  exact V.iret dX11_heardOf_12 rfl rfl
theorem ok_Mod_heard {X : Sc} {l : Launch}  {M : Mem} {x1 : Int32} {x2 : Int32} {r : Int32} {M' : Mem}  (h : f_Mod_heard x1 x2 M = some (r, M')) : Mt X l yX11_heard cX11_heard 3 (some .int) 5 0 0 [.ref 103, .int x1, .int x2] S0 M (some (.int r)) S0 M' := by
  refine Mt.ofV (by decide) (Nat.le_of_ble_eq_true rfl) ?_
  show V X yX11_heard cX11_heard 3 (some .int) (rmD 5 0 0) l (FM (some (.int r)) S0 M' 0 0) 0 [some (.ref 103), some (.int x1), some (.int x2)] [] S0 M 0 0
  unfold f_Mod_heard at h
  refine V.aload_n dX11_heard_0 rfl ?_
  refine V.iload_n dX11_heard_1 rfl ?_
  obtain ⟨v2, hv1, h⟩ := bnd_s h
  refine V.cVi dX11_heard_2 rfl mv_RX11_228 (ok_Mod_isBench hv1) rfl rfl s0_103 rfl (by decide) ⟨Nat.zero_le _, Nat.zero_le _⟩ (Nat.le_of_ble_eq_true rfl) (Nat.zero_le _) ?_
  refine V.if_eq (tgt := 24) dX11_heard_5 (by decide) (fun hc3 => ?_) (fun hc3 => ?_)
  · replace h := ite_t hc3 h
    refine V.iconst dX11_heard_24 ic_m1 ?_
    obtain ⟨e1, e2⟩ := inj2 h
    subst e1
    subst e2
    exact V.iret dX11_heard_25 rfl rfl
  replace h := ite_f hc3 h
  refine V.iload_n dX11_heard_8 rfl ?_
  obtain ⟨v5, hv4, h⟩ := bnd_s h
  refine V.cSi dX11_heard_9 rfl mv_RX11_231 (ok_Mod_isHour hv4) rfl rfl (by decide) ⟨Nat.zero_le _, Nat.zero_le _⟩ (Nat.le_of_ble_eq_true rfl) (Nat.zero_le _) ?_
  refine V.if_eq (tgt := 24) dX11_heard_12 (by decide) (fun hc6 => ?_) (fun hc6 => ?_)
  · replace h := ite_t hc6 h
    refine V.iconst dX11_heard_24 ic_m1 ?_
    obtain ⟨e1, e2⟩ := inj2 h
    subst e1
    subst e2
    exact V.iret dX11_heard_25 rfl rfl
  replace h := ite_f hc6 h
  refine V.aload_n dX11_heard_15 rfl ?_
  refine V.iload_n dX11_heard_16 rfl ?_
  refine V.iload_n dX11_heard_17 rfl ?_
  obtain ⟨v8, M9, hv7, h⟩ := bnd2_s h
  refine V.cVi dX11_heard_18 rfl mv_RX11_285 (ok_Mod_heardOf hv7) rfl rfl s0_103 rfl (by decide) ⟨Nat.zero_le _, Nat.zero_le _⟩ (Nat.le_of_ble_eq_true rfl) (Nat.zero_le _) ?_
  refine V.goto (tgt := 25) dX11_heard_21 (by decide) ?_
  obtain ⟨e1, e2⟩ := inj2 h
  subst e1
  subst e2
  exact V.iret dX11_heard_25 rfl rfl
theorem okc_Mod_answer_27 {X : Sc} {l : Launch}     : ∀ (n : Nat) (x1 : Int32) (x2 : Int32) (x3 : Int32) (x4 : Int32) (M : Mem) (r : Int32) (M' : Mem), f_Mod_answer_L27  n x1 x2 x3 x4 M = some (r, M') → V X yX11_answer cX11_answer 5 (some .int) (rmD 5 0 0) l (FM (some (.int r)) S0 M' 0 0) 27 [some (.ref 103), some (.int x1), some (.int x2), some (.int x3), some (.int x4)] [] S0 M 0 0 := by
  intro n
  induction n with
  | zero =>
    intro x1 x2 x3 x4 M r M' h
    rw [f_Mod_answer_L27] at h
    cases h
  | succ n ih =>
    intro x1 x2 x3 x4 M r M' h
    rw [f_Mod_answer_L27] at h
    refine V.iload dX11_answer_27 rfl ?_
    refine V.aload_n dX11_answer_29 rfl ?_
    refine V.getI dX11_answer_30 fl_RX11_102 s0_103 rfl rfl ?_
    refine V.icmp_ge (tgt := 71) dX11_answer_33 (by decide) (fun hc1 => ?_) (fun hc1 => ?_)
    · replace h := ite_t hc1 h
      refine V.bipush dX11_answer_71 bp_m4 ?_
      obtain ⟨e1, e2⟩ := inj2 h
      subst e1
      subst e2
      exact V.iret dX11_answer_73 rfl rfl
    replace h := ite_f hc1 h
    refine V.iload_n dX11_answer_36 rfl ?_
    refine V.iconst dX11_answer_37 ic_1 ?_
    refine V.iload dX11_answer_38 rfl ?_
    refine V.ishl dX11_answer_40 ?_
    refine V.icmp_ne (tgt := 65) dX11_answer_41 (by decide) (fun hc2 => ?_) (fun hc2 => ?_)
    · replace h := ite_f hc2 h
      refine V.iinc dX11_answer_65 rfl (iinc_c ic_1) (by decide) rfl ?_
      refine V.goto (tgt := 27) dX11_answer_68 (by decide) ?_
      exact ih _ _ _ _ _ _ _ h
    replace h := ite_t hc2 h
    refine V.aload_n dX11_answer_44 rfl ?_
    refine V.iload dX11_answer_45 rfl ?_
    refine V.iload_n dX11_answer_47 rfl ?_
    obtain ⟨v4, M5, hv3, h⟩ := bnd2_s h
    refine V.cVi dX11_answer_48 rfl mv_RX11_285 (ok_Mod_heardOf hv3) rfl rfl s0_103 rfl (by decide) ⟨Nat.zero_le _, Nat.zero_le _⟩ (Nat.le_of_ble_eq_true rfl) (Nat.zero_le _) ?_
    refine V.iconst dX11_answer_51 ic_1 ?_
    refine V.iload_n dX11_answer_52 rfl ?_
    refine V.ishl dX11_answer_53 ?_
    refine V.icmp_ne (tgt := 62) dX11_answer_54 (by decide) (fun hc6 => ?_) (fun hc6 => ?_)
    · replace h := ite_f hc6 h
      refine V.bipush dX11_answer_62 bp_m4 ?_
      obtain ⟨e1, e2⟩ := inj2 h
      subst e1
      subst e2
      exact V.iret dX11_answer_64 rfl rfl
    replace h := ite_t hc6 h
    refine V.iload dX11_answer_57 rfl ?_
    refine V.goto (tgt := 64) dX11_answer_59 (by decide) ?_
    obtain ⟨e1, e2⟩ := inj2 h
    subst e1
    subst e2
    exact V.iret dX11_answer_64 rfl rfl
theorem ok_Mod_answer {X : Sc} {l : Launch}  {M : Mem} {x1 : Int32} {x2 : Int32} {r : Int32} {M' : Mem}  (h : f_Mod_answer x1 x2 M = some (r, M')) : Mt X l yX11_answer cX11_answer 5 (some .int) 5 0 0 [.ref 103, .int x1, .int x2] S0 M (some (.int r)) S0 M' := by
  refine Mt.ofV (by decide) (Nat.le_of_ble_eq_true rfl) ?_
  show V X yX11_answer cX11_answer 5 (some .int) (rmD 5 0 0) l (FM (some (.int r)) S0 M' 0 0) 0 [some (.ref 103), some (.int x1), some (.int x2), none, none] [] S0 M 0 0
  unfold f_Mod_answer at h
  refine V.aload_n dX11_answer_0 rfl ?_
  refine V.iload_n dX11_answer_1 rfl ?_
  obtain ⟨v2, hv1, h⟩ := bnd_s h
  refine V.cVi dX11_answer_2 rfl mv_RX11_228 (ok_Mod_isBench hv1) rfl rfl s0_103 rfl (by decide) ⟨Nat.zero_le _, Nat.zero_le _⟩ (Nat.le_of_ble_eq_true rfl) (Nat.zero_le _) ?_
  refine V.if_eq (tgt := 15) dX11_answer_5 (by decide) (fun hc3 => ?_) (fun hc3 => ?_)
  · replace h := ite_t hc3 h
    refine V.iconst dX11_answer_15 ic_m1 ?_
    obtain ⟨e1, e2⟩ := inj2 h
    subst e1
    subst e2
    exact V.iret dX11_answer_16 rfl rfl
  replace h := ite_f hc3 h
  refine V.iload_n dX11_answer_8 rfl ?_
  obtain ⟨v5, hv4, h⟩ := bnd_s h
  refine V.cSi dX11_answer_9 rfl mv_RX11_231 (ok_Mod_isHour hv4) rfl rfl (by decide) ⟨Nat.zero_le _, Nat.zero_le _⟩ (Nat.le_of_ble_eq_true rfl) (Nat.zero_le _) ?_
  refine V.if_ne (tgt := 17) dX11_answer_12 (by decide) (fun hc6 => ?_) (fun hc6 => ?_)
  · replace h := ite_f hc6 h
    refine V.aload_n dX11_answer_17 rfl ?_
    refine V.iload_n dX11_answer_18 rfl ?_
    refine V.iload_n dX11_answer_19 rfl ?_
    obtain ⟨v8, M9, hv7, h⟩ := bnd2_s h
    refine V.cVi dX11_answer_20 rfl mv_RX11_285 (ok_Mod_heardOf hv7) rfl rfl s0_103 rfl (by decide) ⟨Nat.zero_le _, Nat.zero_le _⟩ (Nat.le_of_ble_eq_true rfl) (Nat.zero_le _) ?_
    refine V.istore_n dX11_answer_23 (by decide) rfl ?_
    refine V.iconst dX11_answer_24 ic_0 ?_
    refine V.istore dX11_answer_25 (by decide) rfl ?_
    exact okc_Mod_answer_27 _ _ _ _ _ _ _ _ h
  replace h := ite_t hc6 h
  refine V.iconst dX11_answer_15 ic_m1 ?_
  obtain ⟨e1, e2⟩ := inj2 h
  subst e1
  subst e2
  exact V.iret dX11_answer_16 rfl rfl
theorem okc_Mod_findHeards_2 {X : Sc} {l : Launch}     : ∀ (n : Nat) (x1 : Int32) (x2 : Int32) (M : Mem) (M' : Mem), f_Mod_findHeards_L2  n x1 x2 M = some M' → V X yX11_findHeards cX11_findHeards 3 none (rmD 5 0 0) l (FM none S0 M' 0 0) 2 [some (.ref 103), some (.int x1), some (.int x2)] [] S0 M 0 0 := by
  intro n
  induction n with
  | zero =>
    intro x1 x2 M M' h
    rw [f_Mod_findHeards_L2] at h
    cases h
  | succ n ih =>
    intro x1 x2 M M' h
    rw [f_Mod_findHeards_L2] at h
    refine V.iload_n dX11_findHeards_2 rfl ?_
    refine V.aload_n dX11_findHeards_3 rfl ?_
    refine V.getI dX11_findHeards_4 fl_RX11_102 s0_103 rfl rfl ?_
    refine V.icmp_ge (tgt := 28) dX11_findHeards_7 (by decide) (fun hc1 => ?_) (fun hc1 => ?_)
    · replace h := ite_t hc1 h
      have e1 := inj1 h
      subst e1
      exact V.vret dX11_findHeards_28 rfl
    replace h := ite_f hc1 h
    refine V.aload_n dX11_findHeards_10 rfl ?_
    refine V.getR dX11_findHeards_11 fl_RX11_44 s0_103 rfl rfl ?_
    refine V.iload_n dX11_findHeards_14 rfl ?_
    refine V.aload_n dX11_findHeards_15 rfl ?_
    refine V.iload_n dX11_findHeards_16 rfl ?_
    refine V.iload_n dX11_findHeards_17 rfl ?_
    obtain ⟨v3, M4, hv2, h⟩ := bnd2_s h
    refine V.cVi dX11_findHeards_18 rfl mv_RX11_285 (ok_Mod_heardOf hv2) rfl rfl s0_103 rfl (by decide) ⟨Nat.zero_le _, Nat.zero_le _⟩ (Nat.le_of_ble_eq_true rfl) (Nat.zero_le _) ?_
    obtain ⟨hb5, h⟩ := ck_s h
    refine V.iast dX11_findHeards_21 s0_115 rfl (vp_of hb5) (fun M6 hM6 => ?_)
    replace h := setM_at h M6 hM6
    refine V.iinc dX11_findHeards_22 rfl (iinc_c ic_1) (by decide) rfl ?_
    refine V.goto (tgt := 2) dX11_findHeards_25 (by decide) ?_
    exact ih _ _ _ _ h
theorem ok_Mod_findHeards {X : Sc} {l : Launch}  {M : Mem} {x1 : Int32} {M' : Mem}  (h : f_Mod_findHeards x1 M = some M') : Mt X l yX11_findHeards cX11_findHeards 3 none 5 0 0 [.ref 103, .int x1] S0 M none S0 M' := by
  refine Mt.ofV (by decide) (Nat.le_of_ble_eq_true rfl) ?_
  show V X yX11_findHeards cX11_findHeards 3 none (rmD 5 0 0) l (FM none S0 M' 0 0) 0 [some (.ref 103), some (.int x1), none] [] S0 M 0 0
  unfold f_Mod_findHeards at h
  refine V.iconst dX11_findHeards_0 ic_0 ?_
  refine V.istore_n dX11_findHeards_1 (by decide) rfl ?_
  exact okc_Mod_findHeards_2 _ _ _ _ _ h
theorem ok_Mod_can {X : Sc} {l : Launch}  {M : Mem} {x1 : Int32} {x2 : Int32} {x3 : Int32} {r : Int32} {M' : Mem}  (h : f_Mod_can x1 x2 x3 M = some (r, M')) : Mt X l yX11_can cX11_can 4 (some .int) 5 0 0 [.ref 103, .int x1, .int x2, .int x3] S0 M (some (.int r)) S0 M' := by
  refine Mt.ofV (by decide) (Nat.le_of_ble_eq_true rfl) ?_
  show V X yX11_can cX11_can 4 (some .int) (rmD 5 0 0) l (FM (some (.int r)) S0 M' 0 0) 0 [some (.ref 103), some (.int x1), some (.int x2), some (.int x3)] [] S0 M 0 0
  unfold f_Mod_can at h
  refine V.aload_n dX11_can_0 rfl ?_
  refine V.iload_n dX11_can_1 rfl ?_
  obtain ⟨v2, hv1, h⟩ := bnd_s h
  refine V.cVi dX11_can_2 rfl mv_RX11_248 (ok_Mod_isOne hv1) rfl rfl s0_103 rfl (by decide) ⟨Nat.zero_le _, Nat.zero_le _⟩ (Nat.le_of_ble_eq_true rfl) (Nat.zero_le _) ?_
  refine V.if_eq (tgt := 28) dX11_can_5 (by decide) (fun hc3 => ?_) (fun hc3 => ?_)
  · replace h := ite_t hc3 h
    refine V.iconst dX11_can_28 ic_m1 ?_
    obtain ⟨e1, e2⟩ := inj2 h
    subst e1
    subst e2
    exact V.iret dX11_can_29 rfl rfl
  replace h := ite_f hc3 h
  refine V.aload_n dX11_can_8 rfl ?_
  refine V.iload_n dX11_can_9 rfl ?_
  obtain ⟨v5, hv4, h⟩ := bnd_s h
  refine V.cVi dX11_can_10 rfl mv_RX11_248 (ok_Mod_isOne hv4) rfl rfl s0_103 rfl (by decide) ⟨Nat.zero_le _, Nat.zero_le _⟩ (Nat.le_of_ble_eq_true rfl) (Nat.zero_le _) ?_
  refine V.if_eq (tgt := 28) dX11_can_13 (by decide) (fun hc6 => ?_) (fun hc6 => ?_)
  · replace h := ite_t hc6 h
    refine V.iconst dX11_can_28 ic_m1 ?_
    obtain ⟨e1, e2⟩ := inj2 h
    subst e1
    subst e2
    exact V.iret dX11_can_29 rfl rfl
  replace h := ite_f hc6 h
  refine V.iload_n dX11_can_16 rfl ?_
  refine V.iload_n dX11_can_17 rfl ?_
  refine V.icmp_eq (tgt := 28) dX11_can_18 (by decide) (fun hc7 => ?_) (fun hc7 => ?_)
  · replace h := ite_t hc7 h
    refine V.iconst dX11_can_28 ic_m1 ?_
    obtain ⟨e1, e2⟩ := inj2 h
    subst e1
    subst e2
    exact V.iret dX11_can_29 rfl rfl
  replace h := ite_f hc7 h
  refine V.iload_n dX11_can_21 rfl ?_
  obtain ⟨v9, hv8, h⟩ := bnd_s h
  refine V.cSi dX11_can_22 rfl mv_RX11_231 (ok_Mod_isHour hv8) rfl rfl (by decide) ⟨Nat.zero_le _, Nat.zero_le _⟩ (Nat.le_of_ble_eq_true rfl) (Nat.zero_le _) ?_
  refine V.if_ne (tgt := 30) dX11_can_25 (by decide) (fun hc10 => ?_) (fun hc10 => ?_)
  · replace h := ite_f hc10 h
    refine V.aload_n dX11_can_30 rfl ?_
    refine V.aload_n dX11_can_31 rfl ?_
    refine V.getR dX11_can_32 fl_RX11_7 s0_103 rfl rfl ?_
    refine V.bipush dX11_can_35 bp_82 ?_
    refine V.iload_n dX11_can_37 rfl ?_
    refine V.iadd dX11_can_38 ?_
    obtain ⟨hb11, h⟩ := ck_s h
    refine V.iald dX11_can_39 s0_104 rfl (vp_of hb11) ?_
    refine V.iload_n dX11_can_40 rfl ?_
    obtain ⟨v13, M14, hv12, h⟩ := bnd2_s h
    refine V.cVi dX11_can_41 rfl mv_RX11_285 (ok_Mod_heardOf hv12) rfl rfl s0_103 rfl (by decide) ⟨Nat.zero_le _, Nat.zero_le _⟩ (Nat.le_of_ble_eq_true rfl) (Nat.zero_le _) ?_
    refine V.aload_n dX11_can_44 rfl ?_
    refine V.getR dX11_can_45 fl_RX11_7 s0_103 rfl rfl ?_
    refine V.bipush dX11_can_48 bp_82 ?_
    refine V.iload_n dX11_can_50 rfl ?_
    refine V.iadd dX11_can_51 ?_
    obtain ⟨hb15, h⟩ := ck_s h
    refine V.iald dX11_can_52 s0_104 rfl (vp_of hb15) ?_
    refine V.ishr dX11_can_53 ?_
    refine V.iconst dX11_can_54 ic_1 ?_
    refine V.iand dX11_can_55 ?_
    obtain ⟨e1, e2⟩ := inj2 h
    subst e1
    subst e2
    exact V.iret dX11_can_56 rfl rfl
  replace h := ite_t hc10 h
  refine V.iconst dX11_can_28 ic_m1 ?_
  obtain ⟨e1, e2⟩ := inj2 h
  subst e1
  subst e2
  exact V.iret dX11_can_29 rfl rfl
theorem okc_Mod_sitsAsNow_2 {X : Sc} {l : Launch}     : ∀ (n : Nat) (x1 : Int32) (M : Mem) (M' : Mem), f_Mod_sitsAsNow_L2  n x1 M = some M' → V X yX11_sitsAsNow cX11_sitsAsNow 2 none (rmD 0 0 0) l (FM none S0 M' 0 0) 2 [some (.ref 103), some (.int x1)] [] S0 M 0 0 := by
  intro n
  induction n with
  | zero =>
    intro x1 M M' h
    rw [f_Mod_sitsAsNow_L2] at h
    cases h
  | succ n ih =>
    intro x1 M M' h
    rw [f_Mod_sitsAsNow_L2] at h
    refine V.iload_n dX11_sitsAsNow_2 rfl ?_
    refine V.bipush dX11_sitsAsNow_3 bp_6 ?_
    refine V.icmp_ge (tgt := 29) dX11_sitsAsNow_5 (by decide) (fun hc1 => ?_) (fun hc1 => ?_)
    · replace h := ite_t hc1 h
      have e1 := inj1 h
      subst e1
      exact V.vret dX11_sitsAsNow_29 rfl
    replace h := ite_f hc1 h
    refine V.aload_n dX11_sitsAsNow_8 rfl ?_
    refine V.getR dX11_sitsAsNow_9 fl_RX11_47 s0_103 rfl rfl ?_
    refine V.iload_n dX11_sitsAsNow_12 rfl ?_
    refine V.aload_n dX11_sitsAsNow_13 rfl ?_
    refine V.getR dX11_sitsAsNow_14 fl_RX11_7 s0_103 rfl rfl ?_
    refine V.bipush dX11_sitsAsNow_17 bp_82 ?_
    refine V.iload_n dX11_sitsAsNow_19 rfl ?_
    refine V.iadd dX11_sitsAsNow_20 ?_
    obtain ⟨hb2, h⟩ := ck_s h
    refine V.iald dX11_sitsAsNow_21 s0_104 rfl (vp_of hb2) ?_
    obtain ⟨hb3, h⟩ := ck_s h
    refine V.iast dX11_sitsAsNow_22 s0_116 rfl (vp_of hb3) (fun M4 hM4 => ?_)
    replace h := setM_at h M4 hM4
    refine V.iinc dX11_sitsAsNow_23 rfl (iinc_c ic_1) (by decide) rfl ?_
    refine V.goto (tgt := 2) dX11_sitsAsNow_26 (by decide) ?_
    exact ih _ _ _ h
theorem ok_Mod_sitsAsNow {X : Sc} {l : Launch}  {M : Mem}  {M' : Mem}  (h : f_Mod_sitsAsNow M = some M') : Mt X l yX11_sitsAsNow cX11_sitsAsNow 2 none 0 0 0 [.ref 103] S0 M none S0 M' := by
  refine Mt.ofV (by decide) (Nat.le_of_ble_eq_true rfl) ?_
  show V X yX11_sitsAsNow cX11_sitsAsNow 2 none (rmD 0 0 0) l (FM none S0 M' 0 0) 0 [some (.ref 103), none] [] S0 M 0 0
  unfold f_Mod_sitsAsNow at h
  refine V.iconst dX11_sitsAsNow_0 ic_0 ?_
  refine V.istore_n dX11_sitsAsNow_1 (by decide) rfl ?_
  exact okc_Mod_sitsAsNow_2 _ _ _ _ h
theorem okc_Mod_brokenBy_69 {X : Sc} {l : Launch} {k4 : Int32 → Int32 → Option Int32}  {M : Mem} (hk4 : ∀ (x1 : Int32) (x2 : Int32) (r : Int32), k4 x1 x2 = some r → V X yX11_brokenBy cX11_brokenBy 4 (some .int) (rmD 1 0 0) l (FM (some (.int r)) S0 M 0 0) 4 [some (.ref 103), some (.int x1), some (.int x2), none] [] S0 M 0 0)  {x2 : Int32} {s0 : Int32} {s1 : Int32} {r : Int32} (h : f_Mod_brokenBy_J69 k4 M x2 s0 s1 = some r) : V X yX11_brokenBy cX11_brokenBy 4 (some .int) (rmD 1 0 0) l (FM (some (.int r)) S0 M 0 0) 69 [some (.ref 103), none, some (.int x2), none] [.int s1, .int s0] S0 M 0 0 := by
  unfold f_Mod_brokenBy_J69 at h
  obtain ⟨v2, hv1, h⟩ := bnd_s h
  refine V.cSi dX11_brokenBy_69 rfl mv_RX11_195 (ok_Mod_flag hv1) rfl rfl (by decide) ⟨Nat.zero_le _, Nat.zero_le _⟩ (Nat.le_of_ble_eq_true rfl) (Nat.zero_le _) ?_
  refine V.iload_n dX11_brokenBy_72 rfl ?_
  refine V.ishl dX11_brokenBy_73 ?_
  refine V.ior dX11_brokenBy_74 ?_
  refine V.nmI (fun w3 hw3 => ?_)
  replace h := nmI_at h w3 hw3
  refine V.istore_n dX11_brokenBy_75 (by decide) rfl ?_
  refine V.iinc dX11_brokenBy_76 rfl (iinc_c ic_1) (by decide) rfl ?_
  refine V.goto (tgt := 4) dX11_brokenBy_79 (by decide) ?_
  exact hk4 _ _ _ h
theorem okc_Mod_brokenBy_4 {X : Sc} {l : Launch}   {M : Mem}   : ∀ (n : Nat) (x1 : Int32) (x2 : Int32) (r : Int32), f_Mod_brokenBy_L4 M n x1 x2 = some r → V X yX11_brokenBy cX11_brokenBy 4 (some .int) (rmD 1 0 0) l (FM (some (.int r)) S0 M 0 0) 4 [some (.ref 103), some (.int x1), some (.int x2), none] [] S0 M 0 0 := by
  intro n
  induction n with
  | zero =>
    intro x1 x2 r h
    rw [f_Mod_brokenBy_L4] at h
    cases h
  | succ n ih =>
    intro x1 x2 r h
    rw [f_Mod_brokenBy_L4] at h
    refine V.iload_n dX11_brokenBy_4 rfl ?_
    refine V.aload_n dX11_brokenBy_5 rfl ?_
    refine V.getI dX11_brokenBy_6 fl_RX11_112 s0_103 rfl rfl ?_
    refine V.icmp_ge (tgt := 82) dX11_brokenBy_9 (by decide) (fun hc1 => ?_) (fun hc1 => ?_)
    · replace h := ite_t hc1 h
      refine V.iload_n dX11_brokenBy_82 rfl ?_
      have e1 := inj1 h
      subst e1
      exact V.iret dX11_brokenBy_83 rfl rfl
    replace h := ite_f hc1 h
    refine V.aload_n dX11_brokenBy_12 rfl ?_
    refine V.getR dX11_brokenBy_13 fl_RX11_44 s0_103 rfl rfl ?_
    refine V.aload_n dX11_brokenBy_16 rfl ?_
    refine V.getR dX11_brokenBy_17 fl_RX11_47 s0_103 rfl rfl ?_
    refine V.aload_n dX11_brokenBy_20 rfl ?_
    refine V.getR dX11_brokenBy_21 fl_RX11_20 s0_103 rfl rfl ?_
    refine V.iconst dX11_brokenBy_24 ic_3 ?_
    refine V.iload_n dX11_brokenBy_25 rfl ?_
    refine V.imul dX11_brokenBy_26 ?_
    obtain ⟨hb2, h⟩ := ck_s h
    refine V.iald dX11_brokenBy_27 s0_107 rfl (vp_of hb2) ?_
    obtain ⟨hb3, h⟩ := ck_s h
    refine V.iald dX11_brokenBy_28 s0_116 rfl (vp_of hb3) ?_
    obtain ⟨hb4, h⟩ := ck_s h
    refine V.iald dX11_brokenBy_29 s0_115 rfl (vp_of hb4) ?_
    refine V.aload_n dX11_brokenBy_30 rfl ?_
    refine V.getR dX11_brokenBy_31 fl_RX11_47 s0_103 rfl rfl ?_
    refine V.aload_n dX11_brokenBy_34 rfl ?_
    refine V.getR dX11_brokenBy_35 fl_RX11_20 s0_103 rfl rfl ?_
    refine V.iconst dX11_brokenBy_38 ic_3 ?_
    refine V.iload_n dX11_brokenBy_39 rfl ?_
    refine V.imul dX11_brokenBy_40 ?_
    refine V.iconst dX11_brokenBy_41 ic_1 ?_
    refine V.iadd dX11_brokenBy_42 ?_
    obtain ⟨hb5, h⟩ := ck_s h
    refine V.iald dX11_brokenBy_43 s0_107 rfl (vp_of hb5) ?_
    obtain ⟨hb6, h⟩ := ck_s h
    refine V.iald dX11_brokenBy_44 s0_116 rfl (vp_of hb6) ?_
    refine V.ishr dX11_brokenBy_45 ?_
    refine V.iconst dX11_brokenBy_46 ic_1 ?_
    refine V.iand dX11_brokenBy_47 ?_
    refine V.nmI (fun w7 hw7 => ?_)
    replace h := nmI_at h w7 hw7
    refine V.istore_n dX11_brokenBy_48 (by decide) rfl ?_
    refine V.iload_n dX11_brokenBy_49 rfl ?_
    refine V.iload_n dX11_brokenBy_50 rfl ?_
    refine V.aload_n dX11_brokenBy_51 rfl ?_
    refine V.getR dX11_brokenBy_52 fl_RX11_20 s0_103 rfl rfl ?_
    refine V.iconst dX11_brokenBy_55 ic_3 ?_
    refine V.iload_n dX11_brokenBy_56 rfl ?_
    refine V.imul dX11_brokenBy_57 ?_
    refine V.iconst dX11_brokenBy_58 ic_2 ?_
    refine V.iadd dX11_brokenBy_59 ?_
    obtain ⟨hb8, h⟩ := ck_s h
    refine V.iald dX11_brokenBy_60 s0_107 rfl (vp_of hb8) ?_
    refine V.icmp_eq (tgt := 68) dX11_brokenBy_61 (by decide) (fun hc9 => ?_) (fun hc9 => ?_)
    · replace h := ite_t hc9 h
      refine V.iconst dX11_brokenBy_68 ic_0 ?_
      refine V.mask [true, false, true, false] rfl ?_
      exact okc_Mod_brokenBy_69 ih h
    replace h := ite_f hc9 h
    refine V.iconst dX11_brokenBy_64 ic_1 ?_
    refine V.goto (tgt := 69) dX11_brokenBy_65 (by decide) ?_
    refine V.mask [true, false, true, false] rfl ?_
    exact okc_Mod_brokenBy_69 ih h
theorem ok_Mod_brokenBy {X : Sc} {l : Launch}  {M : Mem}  {r : Int32}  (h : f_Mod_brokenBy M = some r) : Mt X l yX11_brokenBy cX11_brokenBy 4 (some .int) 1 0 0 [.ref 103] S0 M (some (.int r)) S0 M := by
  refine Mt.ofV (by decide) (Nat.le_of_ble_eq_true rfl) ?_
  show V X yX11_brokenBy cX11_brokenBy 4 (some .int) (rmD 1 0 0) l (FM (some (.int r)) S0 M 0 0) 0 [some (.ref 103), none, none, none] [] S0 M 0 0
  unfold f_Mod_brokenBy at h
  refine V.iconst dX11_brokenBy_0 ic_0 ?_
  refine V.istore_n dX11_brokenBy_1 (by decide) rfl ?_
  refine V.iconst dX11_brokenBy_2 ic_0 ?_
  refine V.istore_n dX11_brokenBy_3 (by decide) rfl ?_
  exact okc_Mod_brokenBy_4 _ _ _ _ h
theorem ok_Mod_brokenIn {X : Sc} {l : Launch}  {M : Mem} {x1 : Int32} {r : Int32} {M' : Mem}  (h : f_Mod_brokenIn x1 M = some (r, M')) : Mt X l yX11_brokenIn cX11_brokenIn 2 (some .int) 6 0 0 [.ref 103, .int x1] S0 M (some (.int r)) S0 M' := by
  refine Mt.ofV (by decide) (Nat.le_of_ble_eq_true rfl) ?_
  show V X yX11_brokenIn cX11_brokenIn 2 (some .int) (rmD 6 0 0) l (FM (some (.int r)) S0 M' 0 0) 0 [some (.ref 103), some (.int x1)] [] S0 M 0 0
  unfold f_Mod_brokenIn at h
  refine V.aload_n dX11_brokenIn_0 rfl ?_
  refine V.iload_n dX11_brokenIn_1 rfl ?_
  obtain ⟨M2, hv1, h⟩ := bnd_s h
  refine V.cVv dX11_brokenIn_2 rfl mv_RX11_288 (ok_Mod_findHeards hv1) rfl rfl s0_103 rfl (by decide) ⟨Nat.zero_le _, Nat.zero_le _⟩ (Nat.le_of_ble_eq_true rfl) (Nat.zero_le _) ?_
  refine V.aload_n dX11_brokenIn_5 rfl ?_
  obtain ⟨M4, hv3, h⟩ := bnd_s h
  refine V.cVv dX11_brokenIn_6 rfl mv_RX11_291 (ok_Mod_sitsAsNow hv3) rfl rfl s0_103 rfl (by decide) ⟨Nat.zero_le _, Nat.zero_le _⟩ (Nat.le_of_ble_eq_true rfl) (Nat.zero_le _) ?_
  refine V.aload_n dX11_brokenIn_9 rfl ?_
  obtain ⟨v6, hv5, h⟩ := bnd_s h
  refine V.cVi dX11_brokenIn_10 rfl mv_RX11_294 (ok_Mod_brokenBy hv5) rfl rfl s0_103 rfl (by decide) ⟨Nat.zero_le _, Nat.zero_le _⟩ (Nat.le_of_ble_eq_true rfl) (Nat.zero_le _) ?_
  obtain ⟨e1, e2⟩ := inj2 h
  subst e1
  subst e2
  exact V.iret dX11_brokenIn_13 rfl rfl
theorem ok_Mod_broken {X : Sc} {l : Launch}  {M : Mem} {x1 : Int32} {r : Int32} {M' : Mem}  (h : f_Mod_broken x1 M = some (r, M')) : Mt X l yX11_broken cX11_broken 2 (some .int) 7 0 0 [.ref 103, .int x1] S0 M (some (.int r)) S0 M' := by
  refine Mt.ofV (by decide) (Nat.le_of_ble_eq_true rfl) ?_
  show V X yX11_broken cX11_broken 2 (some .int) (rmD 7 0 0) l (FM (some (.int r)) S0 M' 0 0) 0 [some (.ref 103), some (.int x1)] [] S0 M 0 0
  unfold f_Mod_broken at h
  refine V.iload_n dX11_broken_0 rfl ?_
  obtain ⟨v2, hv1, h⟩ := bnd_s h
  refine V.cSi dX11_broken_1 rfl mv_RX11_231 (ok_Mod_isHour hv1) rfl rfl (by decide) ⟨Nat.zero_le _, Nat.zero_le _⟩ (Nat.le_of_ble_eq_true rfl) (Nat.zero_le _) ?_
  refine V.if_eq (tgt := 15) dX11_broken_4 (by decide) (fun hc3 => ?_) (fun hc3 => ?_)
  · replace h := ite_t hc3 h
    refine V.iconst dX11_broken_15 ic_m1 ?_
    obtain ⟨e1, e2⟩ := inj2 h
    subst e1
    subst e2
    exact V.iret dX11_broken_16 rfl rfl
  replace h := ite_f hc3 h
  refine V.aload_n dX11_broken_7 rfl ?_
  refine V.iload_n dX11_broken_8 rfl ?_
  obtain ⟨v5, M6, hv4, h⟩ := bnd2_s h
  refine V.cVi dX11_broken_9 rfl mv_RX11_297 (ok_Mod_brokenIn hv4) rfl rfl s0_103 rfl (by decide) ⟨Nat.zero_le _, Nat.zero_le _⟩ (Nat.le_of_ble_eq_true rfl) (Nat.zero_le _) ?_
  refine V.goto (tgt := 16) dX11_broken_12 (by decide) ?_
  obtain ⟨e1, e2⟩ := inj2 h
  subst e1
  subst e2
  exact V.iret dX11_broken_16 rfl rfl
theorem okc_Mod_areUnlike_36 {X : Sc} {l : Launch} {k6 : Int32 → Int32 → Int32 → Option Int32}  {M : Mem} (hk6 : ∀ (x1 : Int32) (x2 : Int32) (x3 : Int32) (r : Int32), k6 x1 x2 x3 = some r → V X yX11_areUnlike cX11_areUnlike 4 (some .boolean) (rmD 0 0 0) l (FM (some (.int r)) S0 M 0 0) 6 [some (.ref 103), some (.int x1), some (.int x2), some (.int x3)] [] S0 M 0 0)  {x1 : Int32} {x3 : Int32} {s0 : Int32} {r : Int32} (h : f_Mod_areUnlike_J36 k6 M x1 x3 s0 = some r) : V X yX11_areUnlike cX11_areUnlike 4 (some .boolean) (rmD 0 0 0) l (FM (some (.int r)) S0 M 0 0) 36 [some (.ref 103), some (.int x1), none, some (.int x3)] [.int s0] S0 M 0 0 := by
  unfold f_Mod_areUnlike_J36 at h
  refine V.istore_n dX11_areUnlike_36 (by decide) rfl ?_
  refine V.iload_n dX11_areUnlike_37 rfl ?_
  refine V.iconst dX11_areUnlike_38 ic_1 ?_
  refine V.aload_n dX11_areUnlike_39 rfl ?_
  refine V.getR dX11_areUnlike_40 fl_RX11_47 s0_103 rfl rfl ?_
  refine V.iload_n dX11_areUnlike_43 rfl ?_
  obtain ⟨hb1, h⟩ := ck_s h
  refine V.iald dX11_areUnlike_44 s0_116 rfl (vp_of hb1) ?_
  refine V.ishl dX11_areUnlike_45 ?_
  refine V.ior dX11_areUnlike_46 ?_
  refine V.nmI (fun w2 hw2 => ?_)
  replace h := nmI_at h w2 hw2
  refine V.istore_n dX11_areUnlike_47 (by decide) rfl ?_
  refine V.iinc dX11_areUnlike_48 rfl (iinc_c ic_1) (by decide) rfl ?_
  refine V.goto (tgt := 6) dX11_areUnlike_51 (by decide) ?_
  exact hk6 _ _ _ _ h
theorem okc_Mod_areUnlike_35 {X : Sc} {l : Launch} {k6 : Int32 → Int32 → Int32 → Option Int32}  {M : Mem} (hk6 : ∀ (x1 : Int32) (x2 : Int32) (x3 : Int32) (r : Int32), k6 x1 x2 x3 = some r → V X yX11_areUnlike cX11_areUnlike 4 (some .boolean) (rmD 0 0 0) l (FM (some (.int r)) S0 M 0 0) 6 [some (.ref 103), some (.int x1), some (.int x2), some (.int x3)] [] S0 M 0 0)  {x1 : Int32} {x3 : Int32} {r : Int32} (h : f_Mod_areUnlike_J35 k6 M x1 x3 = some r) : V X yX11_areUnlike cX11_areUnlike 4 (some .boolean) (rmD 0 0 0) l (FM (some (.int r)) S0 M 0 0) 35 [some (.ref 103), some (.int x1), none, some (.int x3)] [] S0 M 0 0 := by
  unfold f_Mod_areUnlike_J35 at h
  refine V.iconst dX11_areUnlike_35 ic_0 ?_
  exact okc_Mod_areUnlike_36 hk6 h
theorem okc_Mod_areUnlike_6 {X : Sc} {l : Launch}   {M : Mem}   : ∀ (n : Nat) (x1 : Int32) (x2 : Int32) (x3 : Int32) (r : Int32), f_Mod_areUnlike_L6 M n x1 x2 x3 = some r → V X yX11_areUnlike cX11_areUnlike 4 (some .boolean) (rmD 0 0 0) l (FM (some (.int r)) S0 M 0 0) 6 [some (.ref 103), some (.int x1), some (.int x2), some (.int x3)] [] S0 M 0 0 := by
  intro n
  induction n with
  | zero =>
    intro x1 x2 x3 r h
    rw [f_Mod_areUnlike_L6] at h
    cases h
  | succ n ih =>
    intro x1 x2 x3 r h
    rw [f_Mod_areUnlike_L6] at h
    refine V.iload_n dX11_areUnlike_6 rfl ?_
    refine V.aload_n dX11_areUnlike_7 rfl ?_
    refine V.getI dX11_areUnlike_8 fl_RX11_109 s0_103 rfl rfl ?_
    refine V.icmp_ge (tgt := 54) dX11_areUnlike_11 (by decide) (fun hc1 => ?_) (fun hc1 => ?_)
    · replace h := ite_t hc1 h
      refine V.iload_n dX11_areUnlike_54 rfl ?_
      obtain ⟨hB2, h⟩ := ck_s h
      have e1 := inj1 h
      subst e1
      exact V.iret dX11_areUnlike_55 rfl (isB_n hB2)
    replace h := ite_f hc1 h
    refine V.iload_n dX11_areUnlike_14 rfl ?_
    refine V.if_eq (tgt := 35) dX11_areUnlike_15 (by decide) (fun hc3 => ?_) (fun hc3 => ?_)
    · replace h := ite_t hc3 h
      refine V.mask [true, true, false, true] rfl ?_
      exact okc_Mod_areUnlike_35 ih h
    replace h := ite_f hc3 h
    refine V.iload_n dX11_areUnlike_18 rfl ?_
    refine V.aload_n dX11_areUnlike_19 rfl ?_
    refine V.getR dX11_areUnlike_20 fl_RX11_47 s0_103 rfl rfl ?_
    refine V.iload_n dX11_areUnlike_23 rfl ?_
    obtain ⟨hb4, h⟩ := ck_s h
    refine V.iald dX11_areUnlike_24 s0_116 rfl (vp_of hb4) ?_
    refine V.ishr dX11_areUnlike_25 ?_
    refine V.iconst dX11_areUnlike_26 ic_1 ?_
    refine V.iand dX11_areUnlike_27 ?_
    refine V.if_ne (tgt := 35) dX11_areUnlike_28 (by decide) (fun hc5 => ?_) (fun hc5 => ?_)
    · replace h := ite_f hc5 h
      refine V.mask [true, true, false, true] rfl ?_
      exact okc_Mod_areUnlike_35 ih h
    replace h := ite_t hc5 h
    refine V.iconst dX11_areUnlike_31 ic_1 ?_
    refine V.goto (tgt := 36) dX11_areUnlike_32 (by decide) ?_
    refine V.mask [true, true, false, true] rfl ?_
    exact okc_Mod_areUnlike_36 ih h
theorem ok_Mod_areUnlike {X : Sc} {l : Launch}  {M : Mem}  {r : Int32}  (h : f_Mod_areUnlike M = some r) : Mt X l yX11_areUnlike cX11_areUnlike 4 (some .boolean) 0 0 0 [.ref 103] S0 M (some (.int r)) S0 M := by
  refine Mt.ofV (by decide) (Nat.le_of_ble_eq_true rfl) ?_
  show V X yX11_areUnlike cX11_areUnlike 4 (some .boolean) (rmD 0 0 0) l (FM (some (.int r)) S0 M 0 0) 0 [some (.ref 103), none, none, none] [] S0 M 0 0
  unfold f_Mod_areUnlike at h
  refine V.iconst dX11_areUnlike_0 ic_0 ?_
  refine V.istore_n dX11_areUnlike_1 (by decide) rfl ?_
  refine V.iconst dX11_areUnlike_2 ic_1 ?_
  refine V.istore_n dX11_areUnlike_3 (by decide) rfl ?_
  refine V.iconst dX11_areUnlike_4 ic_0 ?_
  refine V.istore_n dX11_areUnlike_5 (by decide) rfl ?_
  exact okc_Mod_areUnlike_6 _ _ _ _ _ h
theorem okc_Mod_nextSeats_53 {X : Sc} {l : Launch}     {x1 : Int32} {M : Mem} {r : Int32} {M' : Mem} (h : f_Mod_nextSeats_J53  x1 M = some (r, M')) : V X yX11_nextSeats cX11_nextSeats 2 (some .boolean) (rmD 0 0 0) l (FM (some (.int r)) S0 M' 0 0) 53 [none, some (.int x1)] [] S0 M 0 0 := by
  unfold f_Mod_nextSeats_J53 at h
  refine V.iload_n dX11_nextSeats_53 rfl ?_
  refine V.if_lt (tgt := 61) dX11_nextSeats_54 (by decide) (fun hc1 => ?_) (fun hc1 => ?_)
  · replace h := ite_t hc1 h
    refine V.iconst dX11_nextSeats_61 ic_0 ?_
    obtain ⟨e1, e2⟩ := inj2 h
    subst e1
    subst e2
    exact V.iret dX11_nextSeats_62 rfl rfl
  replace h := ite_f hc1 h
  refine V.iconst dX11_nextSeats_57 ic_1 ?_
  refine V.goto (tgt := 62) dX11_nextSeats_58 (by decide) ?_
  obtain ⟨e1, e2⟩ := inj2 h
  subst e1
  subst e2
  exact V.iret dX11_nextSeats_62 rfl rfl
theorem okc_Mod_nextSeats_39 {X : Sc} {l : Launch}     {x1 : Int32} {M : Mem} {r : Int32} {M' : Mem} (h : f_Mod_nextSeats_J39  x1 M = some (r, M')) : V X yX11_nextSeats cX11_nextSeats 2 (some .boolean) (rmD 0 0 0) l (FM (some (.int r)) S0 M' 0 0) 39 [some (.ref 103), some (.int x1)] [] S0 M 0 0 := by
  unfold f_Mod_nextSeats_J39 at h
  refine V.iload_n dX11_nextSeats_39 rfl ?_
  refine V.if_lt (tgt := 53) dX11_nextSeats_40 (by decide) (fun hc1 => ?_) (fun hc1 => ?_)
  · replace h := ite_t hc1 h
    refine V.mask [false, true] rfl ?_
    exact okc_Mod_nextSeats_53 h
  replace h := ite_f hc1 h
  refine V.aload_n dX11_nextSeats_43 rfl ?_
  refine V.getR dX11_nextSeats_44 fl_RX11_47 s0_103 rfl rfl ?_
  refine V.iload_n dX11_nextSeats_47 rfl ?_
  refine V.dup2 dX11_nextSeats_48 rfl rfl ?_
  obtain ⟨hb2, h⟩ := ck_s h
  refine V.iald dX11_nextSeats_49 s0_116 rfl (vp_of hb2) ?_
  refine V.iconst dX11_nextSeats_50 ic_1 ?_
  refine V.iadd dX11_nextSeats_51 ?_
  obtain ⟨hb3, h⟩ := ck_s h
  refine V.iast dX11_nextSeats_52 s0_116 rfl (vp_of hb3) (fun M4 hM4 => ?_)
  replace h := setM_at h M4 hM4
  refine V.mask [false, true] rfl ?_
  exact okc_Mod_nextSeats_53 h
theorem okc_Mod_nextSeats_7 {X : Sc} {l : Launch}     : ∀ (n : Nat) (x1 : Int32) (M : Mem) (r : Int32) (M' : Mem), f_Mod_nextSeats_L7  n x1 M = some (r, M') → V X yX11_nextSeats cX11_nextSeats 2 (some .boolean) (rmD 0 0 0) l (FM (some (.int r)) S0 M' 0 0) 7 [some (.ref 103), some (.int x1)] [] S0 M 0 0 := by
  intro n
  induction n with
  | zero =>
    intro x1 M r M' h
    rw [f_Mod_nextSeats_L7] at h
    cases h
  | succ n ih =>
    intro x1 M r M' h
    rw [f_Mod_nextSeats_L7] at h
    refine V.iload_n dX11_nextSeats_7 rfl ?_
    refine V.if_lt (tgt := 39) dX11_nextSeats_8 (by decide) (fun hc1 => ?_) (fun hc1 => ?_)
    · replace h := ite_t hc1 h
      exact okc_Mod_nextSeats_39 h
    replace h := ite_f hc1 h
    refine V.aload_n dX11_nextSeats_11 rfl ?_
    refine V.getR dX11_nextSeats_12 fl_RX11_47 s0_103 rfl rfl ?_
    refine V.iload_n dX11_nextSeats_15 rfl ?_
    obtain ⟨hb2, h⟩ := ck_s h
    refine V.iald dX11_nextSeats_16 s0_116 rfl (vp_of hb2) ?_
    refine V.aload_n dX11_nextSeats_17 rfl ?_
    refine V.getI dX11_nextSeats_18 fl_RX11_102 s0_103 rfl rfl ?_
    refine V.iconst dX11_nextSeats_21 ic_1 ?_
    refine V.isub dX11_nextSeats_22 ?_
    refine V.icmp_ne (tgt := 39) dX11_nextSeats_23 (by decide) (fun hc3 => ?_) (fun hc3 => ?_)
    · replace h := ite_f hc3 h
      exact okc_Mod_nextSeats_39 h
    replace h := ite_t hc3 h
    refine V.aload_n dX11_nextSeats_26 rfl ?_
    refine V.getR dX11_nextSeats_27 fl_RX11_47 s0_103 rfl rfl ?_
    refine V.iload_n dX11_nextSeats_30 rfl ?_
    refine V.iconst dX11_nextSeats_31 ic_0 ?_
    obtain ⟨hb4, h⟩ := ck_s h
    refine V.iast dX11_nextSeats_32 s0_116 rfl (vp_of hb4) (fun M5 hM5 => ?_)
    replace h := setM_at h M5 hM5
    refine V.iinc dX11_nextSeats_33 rfl (iinc_c ic_m1) (by decide) rfl ?_
    refine V.goto (tgt := 7) dX11_nextSeats_36 (by decide) ?_
    exact ih _ _ _ _ h
theorem ok_Mod_nextSeats {X : Sc} {l : Launch}  {M : Mem}  {r : Int32} {M' : Mem}  (h : f_Mod_nextSeats M = some (r, M')) : Mt X l yX11_nextSeats cX11_nextSeats 2 (some .boolean) 0 0 0 [.ref 103] S0 M (some (.int r)) S0 M' := by
  refine Mt.ofV (by decide) (Nat.le_of_ble_eq_true rfl) ?_
  show V X yX11_nextSeats cX11_nextSeats 2 (some .boolean) (rmD 0 0 0) l (FM (some (.int r)) S0 M' 0 0) 0 [some (.ref 103), none] [] S0 M 0 0
  unfold f_Mod_nextSeats at h
  refine V.aload_n dX11_nextSeats_0 rfl ?_
  refine V.getI dX11_nextSeats_1 fl_RX11_109 s0_103 rfl rfl ?_
  refine V.iconst dX11_nextSeats_4 ic_1 ?_
  refine V.isub dX11_nextSeats_5 ?_
  refine V.nmI (fun w1 hw1 => ?_)
  replace h := nmI_at h w1 hw1
  refine V.istore_n dX11_nextSeats_6 (by decide) rfl ?_
  exact okc_Mod_nextSeats_7 _ _ _ _ _ h
theorem okc_Mod_findSeating_140 {X : Sc} {l : Launch} {k39 : Int32 → Mem → Option Mem}  (hk39 : ∀ (x2 : Int32) (M : Mem) (M' : Mem), k39 x2 M = some M' → V X yX11_findSeating cX11_findSeating 5 none (rmD 6 0 0) l (FM none S0 M' 0 0) 39 [some (.ref 103), none, some (.int x2), none, none] [] S0 M 0 0)   {M : Mem} {M' : Mem} (h : f_Mod_findSeating_J140 k39 M = some M') : V X yX11_findSeating cX11_findSeating 5 none (rmD 6 0 0) l (FM none S0 M' 0 0) 140 [some (.ref 103), none, none, none, none] [] S0 M 0 0 := by
  unfold f_Mod_findSeating_J140 at h
  refine V.aload_n dX11_findSeating_140 rfl ?_
  obtain ⟨v2, M3, hv1, h⟩ := bnd2_s h
  refine V.cVi dX11_findSeating_141 rfl mv_RX11_312 (ok_Mod_nextSeats hv1) rfl rfl s0_103 rfl (by decide) ⟨Nat.zero_le _, Nat.zero_le _⟩ (Nat.le_of_ble_eq_true rfl) (Nat.zero_le _) ?_
  refine V.istore_n dX11_findSeating_144 (by decide) rfl ?_
  refine V.goto (tgt := 39) dX11_findSeating_145 (by decide) ?_
  exact hk39 _ _ _ h
theorem okc_Mod_findSeating_133 {X : Sc} {l : Launch} {k39 : Int32 → Mem → Option Mem}  (hk39 : ∀ (x2 : Int32) (M : Mem) (M' : Mem), k39 x2 M = some M' → V X yX11_findSeating cX11_findSeating 5 none (rmD 6 0 0) l (FM none S0 M' 0 0) 39 [some (.ref 103), none, some (.int x2), none, none] [] S0 M 0 0)  {s1 : Int32} {s2 : Int32} {M : Mem} {M' : Mem} (h : f_Mod_findSeating_J133 k39 s1 s2 M = some M') : V X yX11_findSeating cX11_findSeating 5 none (rmD 6 0 0) l (FM none S0 M' 0 0) 133 [some (.ref 103), none, none, none, none] [.int s2, .int s1, .ref 103] S0 M 0 0 := by
  unfold f_Mod_findSeating_J133 at h
  obtain ⟨v2, hv1, h⟩ := bnd_s h
  refine V.cSi dX11_findSeating_133 rfl mv_RX11_195 (ok_Mod_flag hv1) rfl rfl (by decide) ⟨Nat.zero_le _, Nat.zero_le _⟩ (Nat.le_of_ble_eq_true rfl) (Nat.zero_le _) ?_
  refine V.iadd dX11_findSeating_136 ?_
  refine V.putI dX11_findSeating_137 fp_RX11_303 s0_103 rfl rfl (fun M3 hM3 => ?_)
  replace h := setM_at h M3 hM3
  exact okc_Mod_findSeating_140 hk39 h
theorem okc_Mod_findSeating_115 {X : Sc} {l : Launch} {k39 : Int32 → Mem → Option Mem}  (hk39 : ∀ (x2 : Int32) (M : Mem) (M' : Mem), k39 x2 M = some M' → V X yX11_findSeating cX11_findSeating 5 none (rmD 6 0 0) l (FM none S0 M' 0 0) 39 [some (.ref 103), none, some (.int x2), none, none] [] S0 M 0 0)  {x3 : Int32} {M : Mem} {M' : Mem} (h : f_Mod_findSeating_J115 k39 x3 M = some M') : V X yX11_findSeating cX11_findSeating 5 none (rmD 6 0 0) l (FM none S0 M' 0 0) 115 [some (.ref 103), none, none, some (.int x3), none] [] S0 M 0 0 := by
  unfold f_Mod_findSeating_J115 at h
  refine V.aload_n dX11_findSeating_115 rfl ?_
  refine V.dup dX11_findSeating_116 rfl ?_
  refine V.getI dX11_findSeating_117 fl_RX11_303 s0_103 rfl rfl ?_
  refine V.iload_n dX11_findSeating_120 rfl ?_
  refine V.aload_n dX11_findSeating_121 rfl ?_
  refine V.getI dX11_findSeating_122 fl_RX11_300 s0_103 rfl rfl ?_
  refine V.icmp_ne (tgt := 132) dX11_findSeating_125 (by decide) (fun hc1 => ?_) (fun hc1 => ?_)
  · replace h := ite_f hc1 h
    refine V.iconst dX11_findSeating_132 ic_0 ?_
    refine V.mask [true, false, false, false, false] rfl ?_
    exact okc_Mod_findSeating_133 hk39 h
  replace h := ite_t hc1 h
  refine V.iconst dX11_findSeating_128 ic_1 ?_
  refine V.goto (tgt := 133) dX11_findSeating_129 (by decide) ?_
  refine V.mask [true, false, false, false, false] rfl ?_
  exact okc_Mod_findSeating_133 hk39 h
theorem okc_Mod_findSeating_88 {X : Sc} {l : Launch} {k39 : Int32 → Mem → Option Mem}  (hk39 : ∀ (x2 : Int32) (M : Mem) (M' : Mem), k39 x2 M = some M' → V X yX11_findSeating cX11_findSeating 5 none (rmD 6 0 0) l (FM none S0 M' 0 0) 39 [some (.ref 103), none, some (.int x2), none, none] [] S0 M 0 0)  : ∀ (n : Nat) (x3 : Int32) (x4 : Int32) (M : Mem) (M' : Mem), f_Mod_findSeating_L88 k39 n x3 x4 M = some M' → V X yX11_findSeating cX11_findSeating 5 none (rmD 6 0 0) l (FM none S0 M' 0 0) 88 [some (.ref 103), none, none, some (.int x3), some (.int x4)] [] S0 M 0 0 := by
  intro n
  induction n with
  | zero =>
    intro x3 x4 M M' h
    rw [f_Mod_findSeating_L88] at h
    cases h
  | succ n ih =>
    intro x3 x4 M M' h
    rw [f_Mod_findSeating_L88] at h
    refine V.iload dX11_findSeating_88 rfl ?_
    refine V.bipush dX11_findSeating_90 bp_6 ?_
    refine V.icmp_ge (tgt := 115) dX11_findSeating_92 (by decide) (fun hc1 => ?_) (fun hc1 => ?_)
    · replace h := ite_t hc1 h
      refine V.mask [true, false, false, true, false] rfl ?_
      exact okc_Mod_findSeating_115 hk39 h
    replace h := ite_f hc1 h
    refine V.aload_n dX11_findSeating_95 rfl ?_
    refine V.getR dX11_findSeating_96 fl_RX11_50 s0_103 rfl rfl ?_
    refine V.iload dX11_findSeating_99 rfl ?_
    refine V.aload_n dX11_findSeating_101 rfl ?_
    refine V.getR dX11_findSeating_102 fl_RX11_47 s0_103 rfl rfl ?_
    refine V.iload dX11_findSeating_105 rfl ?_
    obtain ⟨hb2, h⟩ := ck_s h
    refine V.iald dX11_findSeating_107 s0_116 rfl (vp_of hb2) ?_
    obtain ⟨hb3, h⟩ := ck_s h
    refine V.iast dX11_findSeating_108 s0_117 rfl (vp_of hb3) (fun M4 hM4 => ?_)
    replace h := setM_at h M4 hM4
    refine V.iinc dX11_findSeating_109 rfl (iinc_c ic_1) (by decide) rfl ?_
    refine V.goto (tgt := 88) dX11_findSeating_112 (by decide) ?_
    exact ih _ _ _ _ h
theorem okc_Mod_findSeating_75 {X : Sc} {l : Launch} {k39 : Int32 → Mem → Option Mem}  (hk39 : ∀ (x2 : Int32) (M : Mem) (M' : Mem), k39 x2 M = some M' → V X yX11_findSeating cX11_findSeating 5 none (rmD 6 0 0) l (FM none S0 M' 0 0) 39 [some (.ref 103), none, some (.int x2), none, none] [] S0 M 0 0)  {x3 : Int32} {M : Mem} {M' : Mem} (h : f_Mod_findSeating_J75 k39 x3 M = some M') : V X yX11_findSeating cX11_findSeating 5 none (rmD 6 0 0) l (FM none S0 M' 0 0) 75 [some (.ref 103), none, none, some (.int x3), none] [] S0 M 0 0 := by
  unfold f_Mod_findSeating_J75 at h
  refine V.aload_n dX11_findSeating_75 rfl ?_
  refine V.iload_n dX11_findSeating_76 rfl ?_
  refine V.putI dX11_findSeating_77 fp_RX11_300 s0_103 rfl rfl (fun M1 hM1 => ?_)
  replace h := setM_at h M1 hM1
  refine V.aload_n dX11_findSeating_80 rfl ?_
  refine V.iconst dX11_findSeating_81 ic_0 ?_
  refine V.putI dX11_findSeating_82 fp_RX11_303 s0_103 rfl rfl (fun M2 hM2 => ?_)
  replace h := setM_at h M2 hM2
  refine V.iconst dX11_findSeating_85 ic_0 ?_
  refine V.istore dX11_findSeating_86 (by decide) rfl ?_
  exact okc_Mod_findSeating_88 hk39 _ _ _ _ _ h
theorem okc_Mod_findSeating_39 {X : Sc} {l : Launch}     : ∀ (n : Nat) (x2 : Int32) (M : Mem) (M' : Mem), f_Mod_findSeating_L39  n x2 M = some M' → V X yX11_findSeating cX11_findSeating 5 none (rmD 6 0 0) l (FM none S0 M' 0 0) 39 [some (.ref 103), none, some (.int x2), none, none] [] S0 M 0 0 := by
  intro n
  induction n with
  | zero =>
    intro x2 M M' h
    rw [f_Mod_findSeating_L39] at h
    cases h
  | succ n ih =>
    intro x2 M M' h
    rw [f_Mod_findSeating_L39] at h
    refine V.iload_n dX11_findSeating_39 rfl ?_
    refine V.if_eq (tgt := 148) dX11_findSeating_40 (by decide) (fun hc1 => ?_) (fun hc1 => ?_)
    · replace h := ite_t hc1 h
      have e1 := inj1 h
      subst e1
      exact V.vret dX11_findSeating_148 rfl
    replace h := ite_f hc1 h
    refine V.aload_n dX11_findSeating_43 rfl ?_
    obtain ⟨v3, hv2, h⟩ := bnd_s h
    refine V.cVi dX11_findSeating_44 rfl mv_RX11_306 (ok_Mod_areUnlike hv2) rfl rfl s0_103 rfl (by decide) ⟨Nat.zero_le _, Nat.zero_le _⟩ (Nat.le_of_ble_eq_true rfl) (Nat.zero_le _) ?_
    refine V.if_eq (tgt := 140) dX11_findSeating_47 (by decide) (fun hc4 => ?_) (fun hc4 => ?_)
    · replace h := ite_t hc4 h
      refine V.mask [true, false, false, false, false] rfl ?_
      exact okc_Mod_findSeating_140 ih h
    replace h := ite_f hc4 h
    refine V.aload_n dX11_findSeating_50 rfl ?_
    obtain ⟨v6, hv5, h⟩ := bnd_s h
    refine V.cVi dX11_findSeating_51 rfl mv_RX11_294 (ok_Mod_brokenBy hv5) rfl rfl s0_103 rfl (by decide) ⟨Nat.zero_le _, Nat.zero_le _⟩ (Nat.le_of_ble_eq_true rfl) (Nat.zero_le _) ?_
    obtain ⟨v8, hv7, h⟩ := bnd_s h
    refine V.cSi dX11_findSeating_54 rfl mv_RX11_309 (ok_Mod_bitsOf hv7) rfl rfl (by decide) ⟨Nat.zero_le _, Nat.zero_le _⟩ (Nat.le_of_ble_eq_true rfl) (Nat.zero_le _) ?_
    refine V.istore_n dX11_findSeating_57 (by decide) rfl ?_
    refine V.aload_n dX11_findSeating_58 rfl ?_
    refine V.getI dX11_findSeating_59 fl_RX11_300 s0_103 rfl rfl ?_
    refine V.bipush dX11_findSeating_62 bp_m4 ?_
    refine V.icmp_eq (tgt := 75) dX11_findSeating_64 (by decide) (fun hc9 => ?_) (fun hc9 => ?_)
    · replace h := ite_t hc9 h
      refine V.mask [true, false, false, true, false] rfl ?_
      exact okc_Mod_findSeating_75 ih h
    replace h := ite_f hc9 h
    refine V.iload_n dX11_findSeating_67 rfl ?_
    refine V.aload_n dX11_findSeating_68 rfl ?_
    refine V.getI dX11_findSeating_69 fl_RX11_300 s0_103 rfl rfl ?_
    refine V.icmp_ge (tgt := 115) dX11_findSeating_72 (by decide) (fun hc10 => ?_) (fun hc10 => ?_)
    · replace h := ite_t hc10 h
      refine V.mask [true, false, false, true, false] rfl ?_
      exact okc_Mod_findSeating_115 ih h
    replace h := ite_f hc10 h
    refine V.mask [true, false, false, true, false] rfl ?_
    exact okc_Mod_findSeating_75 ih h
theorem okc_Mod_findSeating_18 {X : Sc} {l : Launch}     : ∀ (n : Nat) (x2 : Int32) (M : Mem) (M' : Mem), f_Mod_findSeating_L18  n x2 M = some M' → V X yX11_findSeating cX11_findSeating 5 none (rmD 6 0 0) l (FM none S0 M' 0 0) 18 [some (.ref 103), none, some (.int x2), none, none] [] S0 M 0 0 := by
  intro n
  induction n with
  | zero =>
    intro x2 M M' h
    rw [f_Mod_findSeating_L18] at h
    cases h
  | succ n ih =>
    intro x2 M M' h
    rw [f_Mod_findSeating_L18] at h
    refine V.iload_n dX11_findSeating_18 rfl ?_
    refine V.bipush dX11_findSeating_19 bp_6 ?_
    refine V.icmp_ge (tgt := 37) dX11_findSeating_21 (by decide) (fun hc1 => ?_) (fun hc1 => ?_)
    · replace h := ite_t hc1 h
      refine V.iconst dX11_findSeating_37 ic_1 ?_
      refine V.istore_n dX11_findSeating_38 (by decide) rfl ?_
      exact okc_Mod_findSeating_39 _ _ _ _ h
    replace h := ite_f hc1 h
    refine V.aload_n dX11_findSeating_24 rfl ?_
    refine V.getR dX11_findSeating_25 fl_RX11_47 s0_103 rfl rfl ?_
    refine V.iload_n dX11_findSeating_28 rfl ?_
    refine V.iconst dX11_findSeating_29 ic_0 ?_
    obtain ⟨hb2, h⟩ := ck_s h
    refine V.iast dX11_findSeating_30 s0_116 rfl (vp_of hb2) (fun M3 hM3 => ?_)
    replace h := setM_at h M3 hM3
    refine V.iinc dX11_findSeating_31 rfl (iinc_c ic_1) (by decide) rfl ?_
    refine V.goto (tgt := 18) dX11_findSeating_34 (by decide) ?_
    exact ih _ _ _ h
theorem ok_Mod_findSeating {X : Sc} {l : Launch}  {M : Mem} {x1 : Int32} {M' : Mem}  (h : f_Mod_findSeating x1 M = some M') : Mt X l yX11_findSeating cX11_findSeating 5 none 6 0 0 [.ref 103, .int x1] S0 M none S0 M' := by
  refine Mt.ofV (by decide) (Nat.le_of_ble_eq_true rfl) ?_
  show V X yX11_findSeating cX11_findSeating 5 none (rmD 6 0 0) l (FM none S0 M' 0 0) 0 [some (.ref 103), some (.int x1), none, none, none] [] S0 M 0 0
  unfold f_Mod_findSeating at h
  refine V.aload_n dX11_findSeating_0 rfl ?_
  refine V.iload_n dX11_findSeating_1 rfl ?_
  obtain ⟨M2, hv1, h⟩ := bnd_s h
  refine V.cVv dX11_findSeating_2 rfl mv_RX11_288 (ok_Mod_findHeards hv1) rfl rfl s0_103 rfl (by decide) ⟨Nat.zero_le _, Nat.zero_le _⟩ (Nat.le_of_ble_eq_true rfl) (Nat.zero_le _) ?_
  refine V.aload_n dX11_findSeating_5 rfl ?_
  refine V.bipush dX11_findSeating_6 bp_m4 ?_
  refine V.putI dX11_findSeating_8 fp_RX11_300 s0_103 rfl rfl (fun M3 hM3 => ?_)
  replace h := setM_at h M3 hM3
  refine V.aload_n dX11_findSeating_11 rfl ?_
  refine V.iconst dX11_findSeating_12 ic_0 ?_
  refine V.putI dX11_findSeating_13 fp_RX11_303 s0_103 rfl rfl (fun M4 hM4 => ?_)
  replace h := setM_at h M4 hM4
  refine V.iconst dX11_findSeating_16 ic_0 ?_
  refine V.istore_n dX11_findSeating_17 (by decide) rfl ?_
  refine V.mask [true, false, true, false, false] rfl ?_
  exact okc_Mod_findSeating_18 _ _ _ _ h
theorem okc_Mod_seating_30 {X : Sc} {l : Launch}     {x1 : Int32} {x2 : Int32} {M : Mem} {r : Int32} {M' : Mem} (h : f_Mod_seating_J30  x1 x2 M = some (r, M')) : V X yX11_seating cX11_seating 3 (some .int) (rmD 7 0 0) l (FM (some (.int r)) S0 M' 0 0) 30 [some (.ref 103), some (.int x1), some (.int x2)] [] S0 M 0 0 := by
  unfold f_Mod_seating_J30 at h
  refine V.aload_n dX11_seating_30 rfl ?_
  refine V.iload_n dX11_seating_31 rfl ?_
  obtain ⟨M2, hv1, h⟩ := bnd_s h
  refine V.cVv dX11_seating_32 rfl mv_RX11_315 (ok_Mod_findSeating hv1) rfl rfl s0_103 rfl (by decide) ⟨Nat.zero_le _, Nat.zero_le _⟩ (Nat.le_of_ble_eq_true rfl) (Nat.zero_le _) ?_
  refine V.iload_n dX11_seating_35 rfl ?_
  refine V.if_ne (tgt := 46) dX11_seating_36 (by decide) (fun hc3 => ?_) (fun hc3 => ?_)
  · replace h := ite_f hc3 h
    refine V.iload_n dX11_seating_46 rfl ?_
    refine V.iconst dX11_seating_47 ic_1 ?_
    refine V.icmp_ne (tgt := 58) dX11_seating_48 (by decide) (fun hc4 => ?_) (fun hc4 => ?_)
    · replace h := ite_f hc4 h
      refine V.aload_n dX11_seating_58 rfl ?_
      refine V.getR dX11_seating_59 fl_RX11_50 s0_103 rfl rfl ?_
      refine V.iload_n dX11_seating_62 rfl ?_
      refine V.bipush dX11_seating_63 bp_10 ?_
      refine V.isub dX11_seating_65 ?_
      obtain ⟨hb5, h⟩ := ck_s h
      refine V.iald dX11_seating_66 s0_117 rfl (vp_of hb5) ?_
      obtain ⟨e1, e2⟩ := inj2 h
      subst e1
      subst e2
      exact V.iret dX11_seating_67 rfl rfl
    replace h := ite_t hc4 h
    refine V.aload_n dX11_seating_51 rfl ?_
    refine V.getI dX11_seating_52 fl_RX11_303 s0_103 rfl rfl ?_
    refine V.goto (tgt := 67) dX11_seating_55 (by decide) ?_
    obtain ⟨e1, e2⟩ := inj2 h
    subst e1
    subst e2
    exact V.iret dX11_seating_67 rfl rfl
  replace h := ite_t hc3 h
  refine V.aload_n dX11_seating_39 rfl ?_
  refine V.getI dX11_seating_40 fl_RX11_300 s0_103 rfl rfl ?_
  refine V.goto (tgt := 67) dX11_seating_43 (by decide) ?_
  obtain ⟨e1, e2⟩ := inj2 h
  subst e1
  subst e2
  exact V.iret dX11_seating_67 rfl rfl
theorem ok_Mod_seating {X : Sc} {l : Launch}  {M : Mem} {x1 : Int32} {x2 : Int32} {r : Int32} {M' : Mem}  (h : f_Mod_seating x1 x2 M = some (r, M')) : Mt X l yX11_seating cX11_seating 3 (some .int) 7 0 0 [.ref 103, .int x1, .int x2] S0 M (some (.int r)) S0 M' := by
  refine Mt.ofV (by decide) (Nat.le_of_ble_eq_true rfl) ?_
  show V X yX11_seating cX11_seating 3 (some .int) (rmD 7 0 0) l (FM (some (.int r)) S0 M' 0 0) 0 [some (.ref 103), some (.int x1), some (.int x2)] [] S0 M 0 0
  unfold f_Mod_seating at h
  refine V.iload_n dX11_seating_0 rfl ?_
  obtain ⟨v2, hv1, h⟩ := bnd_s h
  refine V.cSi dX11_seating_1 rfl mv_RX11_231 (ok_Mod_isHour hv1) rfl rfl (by decide) ⟨Nat.zero_le _, Nat.zero_le _⟩ (Nat.le_of_ble_eq_true rfl) (Nat.zero_le _) ?_
  refine V.if_eq (tgt := 28) dX11_seating_4 (by decide) (fun hc3 => ?_) (fun hc3 => ?_)
  · replace h := ite_t hc3 h
    refine V.iconst dX11_seating_28 ic_m1 ?_
    obtain ⟨e1, e2⟩ := inj2 h
    subst e1
    subst e2
    exact V.iret dX11_seating_29 rfl rfl
  replace h := ite_f hc3 h
  refine V.iload_n dX11_seating_7 rfl ?_
  refine V.i2l dX11_seating_8 ?_
  refine V.lconst dX11_seating_9 lc_0 ?_
  refine V.lconst dX11_seating_10 lc_1 ?_
  obtain ⟨v5, hv4, h⟩ := bnd_s h
  refine V.cSi dX11_seating_11 rfl mv_RX11_120 (ok_Mod_in hv4) rfl rfl (by decide) ⟨Nat.zero_le _, Nat.zero_le _⟩ (Nat.le_of_ble_eq_true rfl) (Nat.zero_le _) ?_
  refine V.if_ne (tgt := 30) dX11_seating_14 (by decide) (fun hc6 => ?_) (fun hc6 => ?_)
  · replace h := ite_f hc6 h
    exact okc_Mod_seating_30 h
  replace h := ite_t hc6 h
  refine V.aload_n dX11_seating_17 rfl ?_
  refine V.iload_n dX11_seating_18 rfl ?_
  refine V.bipush dX11_seating_19 bp_10 ?_
  refine V.isub dX11_seating_21 ?_
  obtain ⟨v8, hv7, h⟩ := bnd_s h
  refine V.cVi dX11_seating_22 rfl mv_RX11_248 (ok_Mod_isOne hv7) rfl rfl s0_103 rfl (by decide) ⟨Nat.zero_le _, Nat.zero_le _⟩ (Nat.le_of_ble_eq_true rfl) (Nat.zero_le _) ?_
  refine V.if_ne (tgt := 30) dX11_seating_25 (by decide) (fun hc9 => ?_) (fun hc9 => ?_)
  · replace h := ite_f hc9 h
    exact okc_Mod_seating_30 h
  replace h := ite_t hc9 h
  refine V.iconst dX11_seating_28 ic_m1 ?_
  obtain ⟨e1, e2⟩ := inj2 h
  subst e1
  subst e2
  exact V.iret dX11_seating_29 rfl rfl
theorem okc_Mod_hasBench_5 {X : Sc} {l : Launch}   {M : Mem}   : ∀ (n : Nat) (x1 : Int32) (x2 : Int32) (x3 : Int32) (x4 : Int32) (r : Int32), f_Mod_hasBench_L5 M n x1 x2 x3 x4 = some r → V X yX11_hasBench cX11_hasBench 5 (some .boolean) (rmD 2 0 0) l (FM (some (.int r)) S0 M 0 0) 5 [some (.ref 103), some (.int x1), some (.int x2), some (.int x3), some (.int x4)] [] S0 M 0 0 := by
  intro n
  induction n with
  | zero =>
    intro x1 x2 x3 x4 r h
    rw [f_Mod_hasBench_L5] at h
    cases h
  | succ n ih =>
    intro x1 x2 x3 x4 r h
    rw [f_Mod_hasBench_L5] at h
    refine V.iload dX11_hasBench_5 rfl ?_
    refine V.aload_n dX11_hasBench_7 rfl ?_
    refine V.getI dX11_hasBench_8 fl_RX11_102 s0_103 rfl rfl ?_
    refine V.icmp_ge (tgt := 41) dX11_hasBench_11 (by decide) (fun hc1 => ?_) (fun hc1 => ?_)
    · replace h := ite_t hc1 h
      refine V.iload_n dX11_hasBench_41 rfl ?_
      obtain ⟨hB2, h⟩ := ck_s h
      have e1 := inj1 h
      subst e1
      exact V.iret dX11_hasBench_42 rfl (isB_n hB2)
    replace h := ite_f hc1 h
    refine V.iload_n dX11_hasBench_14 rfl ?_
    refine V.if_ne (tgt := 29) dX11_hasBench_15 (by decide) (fun hc3 => ?_) (fun hc3 => ?_)
    · replace h := ite_f hc3 h
      refine V.iconst dX11_hasBench_29 ic_1 ?_
      refine V.goto (tgt := 34) dX11_hasBench_30 (by decide) ?_
      refine V.istore_n dX11_hasBench_34 (by decide) rfl ?_
      refine V.iinc dX11_hasBench_35 rfl (iinc_c ic_1) (by decide) rfl ?_
      refine V.goto (tgt := 5) dX11_hasBench_38 (by decide) ?_
      exact ih _ _ _ _ _ h
    replace h := ite_t hc3 h
    refine V.aload_n dX11_hasBench_18 rfl ?_
    refine V.iload dX11_hasBench_19 rfl ?_
    refine V.iload_n dX11_hasBench_21 rfl ?_
    obtain ⟨v5, hv4, h⟩ := bnd_s h
    refine V.cVi dX11_hasBench_22 rfl mv_RX11_234 (ok_Mod_cellOf hv4) rfl rfl s0_103 rfl (by decide) ⟨Nat.zero_le _, Nat.zero_le _⟩ (Nat.le_of_ble_eq_true rfl) (Nat.zero_le _) ?_
    refine V.iload_n dX11_hasBench_25 rfl ?_
    refine V.icmp_ne (tgt := 33) dX11_hasBench_26 (by decide) (fun hc6 => ?_) (fun hc6 => ?_)
    · replace h := ite_f hc6 h
      refine V.iconst dX11_hasBench_33 ic_0 ?_
      refine V.istore_n dX11_hasBench_34 (by decide) rfl ?_
      refine V.iinc dX11_hasBench_35 rfl (iinc_c ic_1) (by decide) rfl ?_
      refine V.goto (tgt := 5) dX11_hasBench_38 (by decide) ?_
      exact ih _ _ _ _ _ h
    replace h := ite_t hc6 h
    refine V.iconst dX11_hasBench_29 ic_1 ?_
    refine V.goto (tgt := 34) dX11_hasBench_30 (by decide) ?_
    refine V.istore_n dX11_hasBench_34 (by decide) rfl ?_
    refine V.iinc dX11_hasBench_35 rfl (iinc_c ic_1) (by decide) rfl ?_
    refine V.goto (tgt := 5) dX11_hasBench_38 (by decide) ?_
    exact ih _ _ _ _ _ h
theorem ok_Mod_hasBench {X : Sc} {l : Launch}  {M : Mem} {x1 : Int32} {x2 : Int32} {r : Int32}  (h : f_Mod_hasBench M x1 x2 = some r) : Mt X l yX11_hasBench cX11_hasBench 5 (some .boolean) 2 0 0 [.ref 103, .int x1, .int x2] S0 M (some (.int r)) S0 M := by
  refine Mt.ofV (by decide) (Nat.le_of_ble_eq_true rfl) ?_
  show V X yX11_hasBench cX11_hasBench 5 (some .boolean) (rmD 2 0 0) l (FM (some (.int r)) S0 M 0 0) 0 [some (.ref 103), some (.int x1), some (.int x2), none, none] [] S0 M 0 0
  unfold f_Mod_hasBench at h
  refine V.iconst dX11_hasBench_0 ic_0 ?_
  refine V.istore_n dX11_hasBench_1 (by decide) rfl ?_
  refine V.iconst dX11_hasBench_2 ic_0 ?_
  refine V.istore dX11_hasBench_3 (by decide) rfl ?_
  exact okc_Mod_hasBench_5 _ _ _ _ _ _ h
theorem okc_Mod_findBetter_149 {X : Sc} {l : Launch} {k20 : Int32 → Int32 → Int32 → Mem → Option Mem}  (hk20 : ∀ (x1 : Int32) (x2 : Int32) (x3 : Int32) (M : Mem) (M' : Mem), k20 x1 x2 x3 M = some M' → V X yX11_findBetter cX11_findBetter 6 none (rmD 7 0 0) l (FM none S0 M' 0 0) 20 [some (.ref 103), some (.int x1), some (.int x2), some (.int x3), none, none] [] S0 M 0 0)  {x1 : Int32} {x2 : Int32} {x3 : Int32} {s1 : Int32} {M : Mem} {M' : Mem} (h : f_Mod_findBetter_J149 k20 x1 x2 x3 s1 M = some M') : V X yX11_findBetter cX11_findBetter 6 none (rmD 7 0 0) l (FM none S0 M' 0 0) 149 [some (.ref 103), some (.int x1), some (.int x2), some (.int x3), none, none] [.int s1, .ref 103] S0 M 0 0 := by
  unfold f_Mod_findBetter_J149 at h
  refine V.putI dX11_findBetter_149 fp_RX11_318 s0_103 rfl rfl (fun M1 hM1 => ?_)
  replace h := setM_at h M1 hM1
  refine V.iinc dX11_findBetter_152 rfl (iinc_c ic_1) (by decide) rfl ?_
  refine V.goto (tgt := 20) dX11_findBetter_155 (by decide) ?_
  exact hk20 _ _ _ _ _ h
theorem okc_Mod_findBetter_127 {X : Sc} {l : Launch} {k20 : Int32 → Int32 → Int32 → Mem → Option Mem}  (hk20 : ∀ (x1 : Int32) (x2 : Int32) (x3 : Int32) (M : Mem) (M' : Mem), k20 x1 x2 x3 M = some M' → V X yX11_findBetter cX11_findBetter 6 none (rmD 7 0 0) l (FM none S0 M' 0 0) 20 [some (.ref 103), some (.int x1), some (.int x2), some (.int x3), none, none] [] S0 M 0 0)  {x1 : Int32} {x2 : Int32} {x3 : Int32} {x5 : Int32} {s1 : Int32} {M : Mem} {M' : Mem} (h : f_Mod_findBetter_J127 k20 x1 x2 x3 x5 s1 M = some M') : V X yX11_findBetter cX11_findBetter 6 none (rmD 7 0 0) l (FM none S0 M' 0 0) 127 [some (.ref 103), some (.int x1), some (.int x2), some (.int x3), none, some (.int x5)] [.int s1, .ref 103] S0 M 0 0 := by
  unfold f_Mod_findBetter_J127 at h
  refine V.putI dX11_findBetter_127 fp_RX11_321 s0_103 rfl rfl (fun M1 hM1 => ?_)
  replace h := setM_at h M1 hM1
  refine V.aload_n dX11_findBetter_130 rfl ?_
  refine V.iload dX11_findBetter_131 rfl ?_
  refine V.aload_n dX11_findBetter_133 rfl ?_
  refine V.getI dX11_findBetter_134 fl_RX11_318 s0_103 rfl rfl ?_
  refine V.icmp_ge (tgt := 145) dX11_findBetter_137 (by decide) (fun hc2 => ?_) (fun hc2 => ?_)
  · replace h := ite_t hc2 h
    refine V.aload_n dX11_findBetter_145 rfl ?_
    refine V.getI dX11_findBetter_146 fl_RX11_318 s0_103 rfl rfl ?_
    refine V.mask [true, true, true, true, false, false] rfl ?_
    exact okc_Mod_findBetter_149 hk20 h
  replace h := ite_f hc2 h
  refine V.iload dX11_findBetter_140 rfl ?_
  refine V.goto (tgt := 149) dX11_findBetter_142 (by decide) ?_
  refine V.mask [true, true, true, true, false, false] rfl ?_
  exact okc_Mod_findBetter_149 hk20 h
theorem okc_Mod_findBetter_90 {X : Sc} {l : Launch} {k20 : Int32 → Int32 → Int32 → Mem → Option Mem}  (hk20 : ∀ (x1 : Int32) (x2 : Int32) (x3 : Int32) (M : Mem) (M' : Mem), k20 x1 x2 x3 M = some M' → V X yX11_findBetter cX11_findBetter 6 none (rmD 7 0 0) l (FM none S0 M' 0 0) 20 [some (.ref 103), some (.int x1), some (.int x2), some (.int x3), none, none] [] S0 M 0 0)  {x1 : Int32} {x2 : Int32} {x3 : Int32} {x4 : Int32} {s1 : Int32} {s2 : Int32} {M : Mem} {M' : Mem} (h : f_Mod_findBetter_J90 k20 x1 x2 x3 x4 s1 s2 M = some M') : V X yX11_findBetter cX11_findBetter 6 none (rmD 7 0 0) l (FM none S0 M' 0 0) 90 [some (.ref 103), some (.int x1), some (.int x2), some (.int x3), some (.int x4), none] [.int s2, .int s1, .ref 104] S0 M 0 0 := by
  unfold f_Mod_findBetter_J90 at h
  obtain ⟨hb1, h⟩ := ck_s h
  refine V.iast dX11_findBetter_90 s0_104 rfl (vp_of hb1) (fun M2 hM2 => ?_)
  replace h := setM_at h M2 hM2
  refine V.aload_n dX11_findBetter_91 rfl ?_
  refine V.iload_n dX11_findBetter_92 rfl ?_
  obtain ⟨v4, M5, hv3, h⟩ := bnd2_s h
  refine V.cVi dX11_findBetter_93 rfl mv_RX11_297 (ok_Mod_brokenIn hv3) rfl rfl s0_103 rfl (by decide) ⟨Nat.zero_le _, Nat.zero_le _⟩ (Nat.le_of_ble_eq_true rfl) (Nat.zero_le _) ?_
  obtain ⟨v7, hv6, h⟩ := bnd_s h
  refine V.cSi dX11_findBetter_96 rfl mv_RX11_309 (ok_Mod_bitsOf hv6) rfl rfl (by decide) ⟨Nat.zero_le _, Nat.zero_le _⟩ (Nat.le_of_ble_eq_true rfl) (Nat.zero_le _) ?_
  refine V.istore dX11_findBetter_99 (by decide) rfl ?_
  refine V.aload_n dX11_findBetter_101 rfl ?_
  refine V.getR dX11_findBetter_102 fl_RX11_7 s0_103 rfl rfl ?_
  refine V.iload_n dX11_findBetter_105 rfl ?_
  refine V.iload dX11_findBetter_106 rfl ?_
  obtain ⟨hb8, h⟩ := ck_s h
  refine V.iast dX11_findBetter_108 s0_104 rfl (vp_of hb8) (fun M9 hM9 => ?_)
  replace h := setM_at h M9 hM9
  refine V.aload_n dX11_findBetter_109 rfl ?_
  refine V.iload dX11_findBetter_110 rfl ?_
  refine V.aload_n dX11_findBetter_112 rfl ?_
  refine V.getI dX11_findBetter_113 fl_RX11_318 s0_103 rfl rfl ?_
  refine V.icmp_ge (tgt := 123) dX11_findBetter_116 (by decide) (fun hc10 => ?_) (fun hc10 => ?_)
  · replace h := ite_t hc10 h
    refine V.aload_n dX11_findBetter_123 rfl ?_
    refine V.getI dX11_findBetter_124 fl_RX11_321 s0_103 rfl rfl ?_
    refine V.mask [true, true, true, true, false, true] rfl ?_
    exact okc_Mod_findBetter_127 hk20 h
  replace h := ite_f hc10 h
  refine V.iload_n dX11_findBetter_119 rfl ?_
  refine V.goto (tgt := 127) dX11_findBetter_120 (by decide) ?_
  refine V.mask [true, true, true, true, false, true] rfl ?_
  exact okc_Mod_findBetter_127 hk20 h
theorem okc_Mod_findBetter_68 {X : Sc} {l : Launch} {k20 : Int32 → Int32 → Int32 → Mem → Option Mem}  (hk20 : ∀ (x1 : Int32) (x2 : Int32) (x3 : Int32) (M : Mem) (M' : Mem), k20 x1 x2 x3 M = some M' → V X yX11_findBetter cX11_findBetter 6 none (rmD 7 0 0) l (FM none S0 M' 0 0) 20 [some (.ref 103), some (.int x1), some (.int x2), some (.int x3), none, none] [] S0 M 0 0)  {x1 : Int32} {x2 : Int32} {x3 : Int32} {M : Mem} {M' : Mem} (h : f_Mod_findBetter_J68 k20 x1 x2 x3 M = some M') : V X yX11_findBetter cX11_findBetter 6 none (rmD 7 0 0) l (FM none S0 M' 0 0) 68 [some (.ref 103), some (.int x1), some (.int x2), some (.int x3), none, none] [] S0 M 0 0 := by
  unfold f_Mod_findBetter_J68 at h
  refine V.aload_n dX11_findBetter_68 rfl ?_
  refine V.getR dX11_findBetter_69 fl_RX11_7 s0_103 rfl rfl ?_
  refine V.iload_n dX11_findBetter_72 rfl ?_
  obtain ⟨hb1, h⟩ := ck_s h
  refine V.iald dX11_findBetter_73 s0_104 rfl (vp_of hb1) ?_
  refine V.nmI (fun w2 hw2 => ?_)
  replace h := nmI_at h w2 hw2
  refine V.istore dX11_findBetter_74 (by decide) rfl ?_
  refine V.aload_n dX11_findBetter_76 rfl ?_
  refine V.getR dX11_findBetter_77 fl_RX11_7 s0_103 rfl rfl ?_
  refine V.iload_n dX11_findBetter_80 rfl ?_
  refine V.iload_n dX11_findBetter_81 rfl ?_
  refine V.if_eq (tgt := 89) dX11_findBetter_82 (by decide) (fun hc3 => ?_) (fun hc3 => ?_)
  · replace h := ite_t hc3 h
    refine V.iconst dX11_findBetter_89 ic_0 ?_
    exact okc_Mod_findBetter_90 hk20 h
  replace h := ite_f hc3 h
  refine V.iconst dX11_findBetter_85 ic_2 ?_
  refine V.goto (tgt := 90) dX11_findBetter_86 (by decide) ?_
  exact okc_Mod_findBetter_90 hk20 h
theorem okc_Mod_findBetter_20 {X : Sc} {l : Launch}     : ∀ (n : Nat) (x1 : Int32) (x2 : Int32) (x3 : Int32) (M : Mem) (M' : Mem), f_Mod_findBetter_L20  n x1 x2 x3 M = some M' → V X yX11_findBetter cX11_findBetter 6 none (rmD 7 0 0) l (FM none S0 M' 0 0) 20 [some (.ref 103), some (.int x1), some (.int x2), some (.int x3), none, none] [] S0 M 0 0 := by
  intro n
  induction n with
  | zero =>
    intro x1 x2 x3 M M' h
    rw [f_Mod_findBetter_L20] at h
    cases h
  | succ n ih =>
    intro x1 x2 x3 M M' h
    rw [f_Mod_findBetter_L20] at h
    refine V.iload_n dX11_findBetter_20 rfl ?_
    refine V.bipush dX11_findBetter_21 bp_81 ?_
    refine V.icmp_ge (tgt := 158) dX11_findBetter_23 (by decide) (fun hc1 => ?_) (fun hc1 => ?_)
    · replace h := ite_t hc1 h
      have e1 := inj1 h
      subst e1
      exact V.vret dX11_findBetter_158 rfl
    replace h := ite_f hc1 h
    refine V.aload_n dX11_findBetter_26 rfl ?_
    refine V.iload_n dX11_findBetter_27 rfl ?_
    obtain ⟨v3, hv2, h⟩ := bnd_s h
    refine V.cVi dX11_findBetter_28 rfl mv_RX11_219 (ok_Mod_isCell hv2) rfl rfl s0_103 rfl (by decide) ⟨Nat.zero_le _, Nat.zero_le _⟩ (Nat.le_of_ble_eq_true rfl) (Nat.zero_le _) ?_
    refine V.if_eq (tgt := 152) dX11_findBetter_31 (by decide) (fun hc4 => ?_) (fun hc4 => ?_)
    · replace h := ite_t hc4 h
      refine V.iinc dX11_findBetter_152 rfl (iinc_c ic_1) (by decide) rfl ?_
      refine V.goto (tgt := 20) dX11_findBetter_155 (by decide) ?_
      exact ih _ _ _ _ _ h
    replace h := ite_f hc4 h
    refine V.iload_n dX11_findBetter_34 rfl ?_
    refine V.if_eq (tgt := 59) dX11_findBetter_35 (by decide) (fun hc5 => ?_) (fun hc5 => ?_)
    · replace h := ite_t hc5 h
      refine V.aload_n dX11_findBetter_59 rfl ?_
      refine V.getR dX11_findBetter_60 fl_RX11_7 s0_103 rfl rfl ?_
      refine V.iload_n dX11_findBetter_63 rfl ?_
      obtain ⟨hb6, h⟩ := ck_s h
      refine V.iald dX11_findBetter_64 s0_104 rfl (vp_of hb6) ?_
      refine V.if_le (tgt := 152) dX11_findBetter_65 (by decide) (fun hc7 => ?_) (fun hc7 => ?_)
      · replace h := ite_t hc7 h
        refine V.iinc dX11_findBetter_152 rfl (iinc_c ic_1) (by decide) rfl ?_
        refine V.goto (tgt := 20) dX11_findBetter_155 (by decide) ?_
        exact ih _ _ _ _ _ h
      replace h := ite_f hc7 h
      exact okc_Mod_findBetter_68 ih h
    replace h := ite_f hc5 h
    refine V.aload_n dX11_findBetter_38 rfl ?_
    refine V.getR dX11_findBetter_39 fl_RX11_7 s0_103 rfl rfl ?_
    refine V.iload_n dX11_findBetter_42 rfl ?_
    obtain ⟨hb8, h⟩ := ck_s h
    refine V.iald dX11_findBetter_43 s0_104 rfl (vp_of hb8) ?_
    refine V.if_ne (tgt := 152) dX11_findBetter_44 (by decide) (fun hc9 => ?_) (fun hc9 => ?_)
    · replace h := ite_f hc9 h
      refine V.iinc dX11_findBetter_152 rfl (iinc_c ic_1) (by decide) rfl ?_
      refine V.goto (tgt := 20) dX11_findBetter_155 (by decide) ?_
      exact ih _ _ _ _ _ h
    replace h := ite_t hc9 h
    refine V.aload_n dX11_findBetter_47 rfl ?_
    refine V.iload_n dX11_findBetter_48 rfl ?_
    refine V.iload_n dX11_findBetter_49 rfl ?_
    obtain ⟨v11, hv10, h⟩ := bnd_s h
    refine V.cVi dX11_findBetter_50 rfl mv_RX11_324 (ok_Mod_hasBench hv10) rfl rfl s0_103 rfl (by decide) ⟨Nat.zero_le _, Nat.zero_le _⟩ (Nat.le_of_ble_eq_true rfl) (Nat.zero_le _) ?_
    refine V.if_ne (tgt := 152) dX11_findBetter_53 (by decide) (fun hc12 => ?_) (fun hc12 => ?_)
    · replace h := ite_f hc12 h
      refine V.iinc dX11_findBetter_152 rfl (iinc_c ic_1) (by decide) rfl ?_
      refine V.goto (tgt := 20) dX11_findBetter_155 (by decide) ?_
      exact ih _ _ _ _ _ h
    replace h := ite_t hc12 h
    refine V.goto (tgt := 68) dX11_findBetter_56 (by decide) ?_
    exact okc_Mod_findBetter_68 ih h
theorem ok_Mod_findBetter {X : Sc} {l : Launch}  {M : Mem} {x1 : Int32} {x2 : Int32} {M' : Mem}  (h : f_Mod_findBetter x1 x2 M = some M') : Mt X l yX11_findBetter cX11_findBetter 6 none 7 0 0 [.ref 103, .int x1, .int x2] S0 M none S0 M' := by
  refine Mt.ofV (by decide) (Nat.le_of_ble_eq_true rfl) ?_
  show V X yX11_findBetter cX11_findBetter 6 none (rmD 7 0 0) l (FM none S0 M' 0 0) 0 [some (.ref 103), some (.int x1), some (.int x2), none, none, none] [] S0 M 0 0
  unfold f_Mod_findBetter at h
  refine V.aload_n dX11_findBetter_0 rfl ?_
  refine V.aload_n dX11_findBetter_1 rfl ?_
  refine V.iload_n dX11_findBetter_2 rfl ?_
  obtain ⟨v2, M3, hv1, h⟩ := bnd2_s h
  refine V.cVi dX11_findBetter_3 rfl mv_RX11_297 (ok_Mod_brokenIn hv1) rfl rfl s0_103 rfl (by decide) ⟨Nat.zero_le _, Nat.zero_le _⟩ (Nat.le_of_ble_eq_true rfl) (Nat.zero_le _) ?_
  obtain ⟨v5, hv4, h⟩ := bnd_s h
  refine V.cSi dX11_findBetter_6 rfl mv_RX11_309 (ok_Mod_bitsOf hv4) rfl rfl (by decide) ⟨Nat.zero_le _, Nat.zero_le _⟩ (Nat.le_of_ble_eq_true rfl) (Nat.zero_le _) ?_
  refine V.putI dX11_findBetter_9 fp_RX11_318 s0_103 rfl rfl (fun M6 hM6 => ?_)
  replace h := setM_at h M6 hM6
  refine V.aload_n dX11_findBetter_12 rfl ?_
  refine V.bipush dX11_findBetter_13 bp_m4 ?_
  refine V.putI dX11_findBetter_15 fp_RX11_321 s0_103 rfl rfl (fun M7 hM7 => ?_)
  replace h := setM_at h M7 hM7
  refine V.iconst dX11_findBetter_18 ic_0 ?_
  refine V.istore_n dX11_findBetter_19 (by decide) rfl ?_
  exact okc_Mod_findBetter_20 _ _ _ _ _ _ h
theorem ok_Mod_curtain {X : Sc} {l : Launch}  {M : Mem} {x1 : Int32} {x2 : Int32} {r : Int32} {M' : Mem}  (h : f_Mod_curtain x1 x2 M = some (r, M')) : Mt X l yX11_curtain cX11_curtain 3 (some .int) 8 0 0 [.ref 103, .int x1, .int x2] S0 M (some (.int r)) S0 M' := by
  refine Mt.ofV (by decide) (Nat.le_of_ble_eq_true rfl) ?_
  show V X yX11_curtain cX11_curtain 3 (some .int) (rmD 8 0 0) l (FM (some (.int r)) S0 M' 0 0) 0 [some (.ref 103), some (.int x1), some (.int x2)] [] S0 M 0 0
  unfold f_Mod_curtain at h
  refine V.iload_n dX11_curtain_0 rfl ?_
  obtain ⟨v2, hv1, h⟩ := bnd_s h
  refine V.cSi dX11_curtain_1 rfl mv_RX11_231 (ok_Mod_isHour hv1) rfl rfl (by decide) ⟨Nat.zero_le _, Nat.zero_le _⟩ (Nat.le_of_ble_eq_true rfl) (Nat.zero_le _) ?_
  refine V.if_eq (tgt := 17) dX11_curtain_4 (by decide) (fun hc3 => ?_) (fun hc3 => ?_)
  · replace h := ite_t hc3 h
    refine V.iconst dX11_curtain_17 ic_m1 ?_
    obtain ⟨e1, e2⟩ := inj2 h
    subst e1
    subst e2
    exact V.iret dX11_curtain_18 rfl rfl
  replace h := ite_f hc3 h
  refine V.iload_n dX11_curtain_7 rfl ?_
  refine V.i2l dX11_curtain_8 ?_
  refine V.lconst dX11_curtain_9 lc_0 ?_
  refine V.lconst dX11_curtain_10 lc_1 ?_
  obtain ⟨v5, hv4, h⟩ := bnd_s h
  refine V.cSi dX11_curtain_11 rfl mv_RX11_120 (ok_Mod_in hv4) rfl rfl (by decide) ⟨Nat.zero_le _, Nat.zero_le _⟩ (Nat.le_of_ble_eq_true rfl) (Nat.zero_le _) ?_
  refine V.if_ne (tgt := 19) dX11_curtain_14 (by decide) (fun hc6 => ?_) (fun hc6 => ?_)
  · replace h := ite_f hc6 h
    refine V.aload_n dX11_curtain_19 rfl ?_
    refine V.iload_n dX11_curtain_20 rfl ?_
    refine V.iconst dX11_curtain_21 ic_1 ?_
    obtain ⟨M8, hv7, h⟩ := bnd_s h
    refine V.cVv dX11_curtain_22 rfl mv_RX11_328 (ok_Mod_findBetter hv7) rfl rfl s0_103 rfl (by decide) ⟨Nat.zero_le _, Nat.zero_le _⟩ (Nat.le_of_ble_eq_true rfl) (Nat.zero_le _) ?_
    refine V.aload_n dX11_curtain_25 rfl ?_
    refine V.getI dX11_curtain_26 fl_RX11_321 s0_103 rfl rfl ?_
    refine V.bipush dX11_curtain_29 bp_m4 ?_
    refine V.icmp_ne (tgt := 39) dX11_curtain_31 (by decide) (fun hc9 => ?_) (fun hc9 => ?_)
    · replace h := ite_f hc9 h
      refine V.iload_n dX11_curtain_39 rfl ?_
      refine V.if_ne (tgt := 50) dX11_curtain_40 (by decide) (fun hc10 => ?_) (fun hc10 => ?_)
      · replace h := ite_f hc10 h
        refine V.aload_n dX11_curtain_50 rfl ?_
        refine V.getI dX11_curtain_51 fl_RX11_318 s0_103 rfl rfl ?_
        obtain ⟨e1, e2⟩ := inj2 h
        subst e1
        subst e2
        exact V.iret dX11_curtain_54 rfl rfl
      replace h := ite_t hc10 h
      refine V.aload_n dX11_curtain_43 rfl ?_
      refine V.getI dX11_curtain_44 fl_RX11_321 s0_103 rfl rfl ?_
      refine V.goto (tgt := 54) dX11_curtain_47 (by decide) ?_
      obtain ⟨e1, e2⟩ := inj2 h
      subst e1
      subst e2
      exact V.iret dX11_curtain_54 rfl rfl
    replace h := ite_t hc9 h
    refine V.bipush dX11_curtain_34 bp_m4 ?_
    refine V.goto (tgt := 54) dX11_curtain_36 (by decide) ?_
    obtain ⟨e1, e2⟩ := inj2 h
    subst e1
    subst e2
    exact V.iret dX11_curtain_54 rfl rfl
  replace h := ite_t hc6 h
  refine V.iconst dX11_curtain_17 ic_m1 ?_
  obtain ⟨e1, e2⟩ := inj2 h
  subst e1
  subst e2
  exact V.iret dX11_curtain_18 rfl rfl
theorem ok_Mod_clear {X : Sc} {l : Launch}  {M : Mem} {x1 : Int32} {x2 : Int32} {r : Int32} {M' : Mem}  (h : f_Mod_clear x1 x2 M = some (r, M')) : Mt X l yX11_clear cX11_clear 3 (some .int) 8 0 0 [.ref 103, .int x1, .int x2] S0 M (some (.int r)) S0 M' := by
  refine Mt.ofV (by decide) (Nat.le_of_ble_eq_true rfl) ?_
  show V X yX11_clear cX11_clear 3 (some .int) (rmD 8 0 0) l (FM (some (.int r)) S0 M' 0 0) 0 [some (.ref 103), some (.int x1), some (.int x2)] [] S0 M 0 0
  unfold f_Mod_clear at h
  refine V.iload_n dX11_clear_0 rfl ?_
  obtain ⟨v2, hv1, h⟩ := bnd_s h
  refine V.cSi dX11_clear_1 rfl mv_RX11_231 (ok_Mod_isHour hv1) rfl rfl (by decide) ⟨Nat.zero_le _, Nat.zero_le _⟩ (Nat.le_of_ble_eq_true rfl) (Nat.zero_le _) ?_
  refine V.if_eq (tgt := 17) dX11_clear_4 (by decide) (fun hc3 => ?_) (fun hc3 => ?_)
  · replace h := ite_t hc3 h
    refine V.iconst dX11_clear_17 ic_m1 ?_
    obtain ⟨e1, e2⟩ := inj2 h
    subst e1
    subst e2
    exact V.iret dX11_clear_18 rfl rfl
  replace h := ite_f hc3 h
  refine V.iload_n dX11_clear_7 rfl ?_
  refine V.i2l dX11_clear_8 ?_
  refine V.lconst dX11_clear_9 lc_0 ?_
  refine V.lconst dX11_clear_10 lc_1 ?_
  obtain ⟨v5, hv4, h⟩ := bnd_s h
  refine V.cSi dX11_clear_11 rfl mv_RX11_120 (ok_Mod_in hv4) rfl rfl (by decide) ⟨Nat.zero_le _, Nat.zero_le _⟩ (Nat.le_of_ble_eq_true rfl) (Nat.zero_le _) ?_
  refine V.if_ne (tgt := 19) dX11_clear_14 (by decide) (fun hc6 => ?_) (fun hc6 => ?_)
  · replace h := ite_f hc6 h
    refine V.aload_n dX11_clear_19 rfl ?_
    refine V.iload_n dX11_clear_20 rfl ?_
    refine V.iconst dX11_clear_21 ic_0 ?_
    obtain ⟨M8, hv7, h⟩ := bnd_s h
    refine V.cVv dX11_clear_22 rfl mv_RX11_328 (ok_Mod_findBetter hv7) rfl rfl s0_103 rfl (by decide) ⟨Nat.zero_le _, Nat.zero_le _⟩ (Nat.le_of_ble_eq_true rfl) (Nat.zero_le _) ?_
    refine V.aload_n dX11_clear_25 rfl ?_
    refine V.getI dX11_clear_26 fl_RX11_321 s0_103 rfl rfl ?_
    refine V.bipush dX11_clear_29 bp_m4 ?_
    refine V.icmp_ne (tgt := 39) dX11_clear_31 (by decide) (fun hc9 => ?_) (fun hc9 => ?_)
    · replace h := ite_f hc9 h
      refine V.iload_n dX11_clear_39 rfl ?_
      refine V.if_ne (tgt := 50) dX11_clear_40 (by decide) (fun hc10 => ?_) (fun hc10 => ?_)
      · replace h := ite_f hc10 h
        refine V.aload_n dX11_clear_50 rfl ?_
        refine V.getI dX11_clear_51 fl_RX11_318 s0_103 rfl rfl ?_
        obtain ⟨e1, e2⟩ := inj2 h
        subst e1
        subst e2
        exact V.iret dX11_clear_54 rfl rfl
      replace h := ite_t hc10 h
      refine V.aload_n dX11_clear_43 rfl ?_
      refine V.getI dX11_clear_44 fl_RX11_321 s0_103 rfl rfl ?_
      refine V.goto (tgt := 54) dX11_clear_47 (by decide) ?_
      obtain ⟨e1, e2⟩ := inj2 h
      subst e1
      subst e2
      exact V.iret dX11_clear_54 rfl rfl
    replace h := ite_t hc9 h
    refine V.bipush dX11_clear_34 bp_m4 ?_
    refine V.goto (tgt := 54) dX11_clear_36 (by decide) ?_
    obtain ⟨e1, e2⟩ := inj2 h
    subst e1
    subst e2
    exact V.iret dX11_clear_54 rfl rfl
  replace h := ite_t hc6 h
  refine V.iconst dX11_clear_17 ic_m1 ?_
  obtain ⟨e1, e2⟩ := inj2 h
  subst e1
  subst e2
  exact V.iret dX11_clear_18 rfl rfl
theorem okc_Mod_hours_24 {X : Sc} {l : Launch} {k4 : Int32 → Int32 → Mem → Option (Int32 × Mem)}  (hk4 : ∀ (x1 : Int32) (x2 : Int32) (M : Mem) (r : Int32) (M' : Mem), k4 x1 x2 M = some (r, M') → V X yX11_hours cX11_hours 3 (some .int) (rmD 7 0 0) l (FM (some (.int r)) S0 M' 0 0) 4 [some (.ref 103), some (.int x1), some (.int x2)] [] S0 M 0 0)  {x2 : Int32} {s0 : Int32} {s1 : Int32} {M : Mem} {r : Int32} {M' : Mem} (h : f_Mod_hours_J24 k4 x2 s0 s1 M = some (r, M')) : V X yX11_hours cX11_hours 3 (some .int) (rmD 7 0 0) l (FM (some (.int r)) S0 M' 0 0) 24 [some (.ref 103), none, some (.int x2)] [.int s1, .int s0] S0 M 0 0 := by
  unfold f_Mod_hours_J24 at h
  obtain ⟨v2, hv1, h⟩ := bnd_s h
  refine V.cSi dX11_hours_24 rfl mv_RX11_195 (ok_Mod_flag hv1) rfl rfl (by decide) ⟨Nat.zero_le _, Nat.zero_le _⟩ (Nat.le_of_ble_eq_true rfl) (Nat.zero_le _) ?_
  refine V.iload_n dX11_hours_27 rfl ?_
  refine V.ishl dX11_hours_28 ?_
  refine V.ior dX11_hours_29 ?_
  refine V.nmI (fun w3 hw3 => ?_)
  replace h := nmI_at h w3 hw3
  refine V.istore_n dX11_hours_30 (by decide) rfl ?_
  refine V.iinc dX11_hours_31 rfl (iinc_c ic_1) (by decide) rfl ?_
  refine V.goto (tgt := 4) dX11_hours_34 (by decide) ?_
  exact hk4 _ _ _ _ _ h
theorem okc_Mod_hours_4 {X : Sc} {l : Launch}     : ∀ (n : Nat) (x1 : Int32) (x2 : Int32) (M : Mem) (r : Int32) (M' : Mem), f_Mod_hours_L4  n x1 x2 M = some (r, M') → V X yX11_hours cX11_hours 3 (some .int) (rmD 7 0 0) l (FM (some (.int r)) S0 M' 0 0) 4 [some (.ref 103), some (.int x1), some (.int x2)] [] S0 M 0 0 := by
  intro n
  induction n with
  | zero =>
    intro x1 x2 M r M' h
    rw [f_Mod_hours_L4] at h
    cases h
  | succ n ih =>
    intro x1 x2 M r M' h
    rw [f_Mod_hours_L4] at h
    refine V.iload_n dX11_hours_4 rfl ?_
    refine V.bipush dX11_hours_5 bp_12 ?_
    refine V.icmp_ge (tgt := 37) dX11_hours_7 (by decide) (fun hc1 => ?_) (fun hc1 => ?_)
    · replace h := ite_t hc1 h
      refine V.iload_n dX11_hours_37 rfl ?_
      obtain ⟨e1, e2⟩ := inj2 h
      subst e1
      subst e2
      exact V.iret dX11_hours_38 rfl rfl
    replace h := ite_f hc1 h
    refine V.iload_n dX11_hours_10 rfl ?_
    refine V.aload_n dX11_hours_11 rfl ?_
    refine V.iload_n dX11_hours_12 rfl ?_
    obtain ⟨v3, M4, hv2, h⟩ := bnd2_s h
    refine V.cVi dX11_hours_13 rfl mv_RX11_297 (ok_Mod_brokenIn hv2) rfl rfl s0_103 rfl (by decide) ⟨Nat.zero_le _, Nat.zero_le _⟩ (Nat.le_of_ble_eq_true rfl) (Nat.zero_le _) ?_
    refine V.if_ne (tgt := 23) dX11_hours_16 (by decide) (fun hc5 => ?_) (fun hc5 => ?_)
    · replace h := ite_f hc5 h
      refine V.iconst dX11_hours_23 ic_0 ?_
      refine V.mask [true, false, true] rfl ?_
      exact okc_Mod_hours_24 ih h
    replace h := ite_t hc5 h
    refine V.iconst dX11_hours_19 ic_1 ?_
    refine V.goto (tgt := 24) dX11_hours_20 (by decide) ?_
    refine V.mask [true, false, true] rfl ?_
    exact okc_Mod_hours_24 ih h
theorem ok_Mod_hours {X : Sc} {l : Launch}  {M : Mem}  {r : Int32} {M' : Mem}  (h : f_Mod_hours M = some (r, M')) : Mt X l yX11_hours cX11_hours 3 (some .int) 7 0 0 [.ref 103] S0 M (some (.int r)) S0 M' := by
  refine Mt.ofV (by decide) (Nat.le_of_ble_eq_true rfl) ?_
  show V X yX11_hours cX11_hours 3 (some .int) (rmD 7 0 0) l (FM (some (.int r)) S0 M' 0 0) 0 [some (.ref 103), none, none] [] S0 M 0 0
  unfold f_Mod_hours at h
  refine V.iconst dX11_hours_0 ic_0 ?_
  refine V.istore_n dX11_hours_1 (by decide) rfl ?_
  refine V.iconst dX11_hours_2 ic_0 ?_
  refine V.istore_n dX11_hours_3 (by decide) rfl ?_
  exact okc_Mod_hours_4 _ _ _ _ _ _ h
