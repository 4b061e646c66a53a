theorem ok_Tap_rewind {X : Sc} {l : Launch}  {M : Mem}  {M' : Mem}  (h : f_Tap_rewind M = some M') : Mt X l yX6_rewind cX6_rewind 1 none 0 0 0 [.ref 70] S0 M none S0 M' := by
  refine Mt.ofV (by decide) (Nat.le_of_ble_eq_true rfl) ?_
  show V X yX6_rewind cX6_rewind 1 none (rmD 0 0 0) l (FM none S0 M' 0 0) 0 [some (.ref 70)] [] S0 M 0 0
  unfold f_Tap_rewind at h
  refine V.aload_n dX6_rewind_0 rfl ?_
  refine V.iconst dX6_rewind_1 ic_0 ?_
  refine V.putI dX6_rewind_2 fp_RX6_30 s0_70 rfl rfl (fun M1 hM1 => ?_)
  replace h := setM_at h M1 hM1
  refine V.aload_n dX6_rewind_5 rfl ?_
  refine V.iconst dX6_rewind_6 ic_0 ?_
  refine V.putI dX6_rewind_7 fp_RX6_24 s0_70 rfl rfl (fun M2 hM2 => ?_)
  replace h := setM_at h M2 hM2
  have e1 := inj1 h
  subst e1
  exact V.vret dX6_rewind_10 rfl
theorem ok_Tap_fail {X : Sc} {l : Launch}  {M : Mem} {x1 : Int32} {x2 : Int32} {M' : Mem}  (h : f_Tap_fail x1 x2 M = some M') : Mt X l yX6_fail cX6_fail 3 none 0 0 0 [.ref 70, .int x1, .int x2] S0 M none S0 M' := by
  refine Mt.ofV (by decide) (Nat.le_of_ble_eq_true rfl) ?_
  show V X yX6_fail cX6_fail 3 none (rmD 0 0 0) l (FM none S0 M' 0 0) 0 [some (.ref 70), some (.int x1), some (.int x2)] [] S0 M 0 0
  unfold f_Tap_fail at h
  refine V.aload_n dX6_fail_0 rfl ?_
  refine V.getI dX6_fail_1 fl_RX6_24 s0_70 rfl rfl ?_
  refine V.if_ne (tgt := 17) dX6_fail_4 (by decide) (fun hc1 => ?_) (fun hc1 => ?_)
  · replace h := ite_f hc1 h
    have e1 := inj1 h
    subst e1
    exact V.vret dX6_fail_17 rfl
  replace h := ite_t hc1 h
  refine V.aload_n dX6_fail_7 rfl ?_
  refine V.iload_n dX6_fail_8 rfl ?_
  refine V.putI dX6_fail_9 fp_RX6_24 s0_70 rfl rfl (fun M2 hM2 => ?_)
  replace h := setM_at h M2 hM2
  refine V.aload_n dX6_fail_12 rfl ?_
  refine V.iload_n dX6_fail_13 rfl ?_
  refine V.putI dX6_fail_14 fp_RX6_27 s0_70 rfl rfl (fun M3 hM3 => ?_)
  replace h := setM_at h M3 hM3
  have e1 := inj1 h
  subst e1
  exact V.vret dX6_fail_17 rfl
theorem okc_Tap_tokenOf_28 {X : Sc} {l : Launch} {sh : List Shp}   {M : Mem}   {x0 : Int32} {r : Int32} (h : f_Tap_tokenOf_J28  x0 = some r) : V X yX6_tokenOf cX6_tokenOf 1 (some .int) (rmD 0 0 0) l (FM (some (.int r)) sh M 0 0) 28 [some (.int x0)] [] sh M 0 0 := by
  unfold f_Tap_tokenOf_J28 at h
  refine V.iload_n dX6_tokenOf_28 rfl ?_
  refine V.bipush dX6_tokenOf_29 bp_59 ?_
  refine V.icmp_ne (tgt := 38) dX6_tokenOf_31 (by decide) (fun hc1 => ?_) (fun hc1 => ?_)
  · replace h := ite_f hc1 h
    refine V.iconst dX6_tokenOf_38 ic_0 ?_
    have e1 := inj1 h
    subst e1
    exact V.iret dX6_tokenOf_39 rfl rfl
  replace h := ite_t hc1 h
  refine V.iconst dX6_tokenOf_34 ic_3 ?_
  refine V.goto (tgt := 39) dX6_tokenOf_35 (by decide) ?_
  have e1 := inj1 h
  subst e1
  exact V.iret dX6_tokenOf_39 rfl rfl
theorem okc_Tap_tokenOf_14 {X : Sc} {l : Launch} {sh : List Shp}   {M : Mem}   {x0 : Int32} {r : Int32} (h : f_Tap_tokenOf_J14  x0 = some r) : V X yX6_tokenOf cX6_tokenOf 1 (some .int) (rmD 0 0 0) l (FM (some (.int r)) sh M 0 0) 14 [some (.int x0)] [] sh M 0 0 := by
  unfold f_Tap_tokenOf_J14 at h
  refine V.iload_n dX6_tokenOf_14 rfl ?_
  refine V.bipush dX6_tokenOf_15 bp_48 ?_
  refine V.icmp_lt (tgt := 28) dX6_tokenOf_17 (by decide) (fun hc1 => ?_) (fun hc1 => ?_)
  · replace h := ite_t hc1 h
    exact okc_Tap_tokenOf_28 h
  replace h := ite_f hc1 h
  refine V.iload_n dX6_tokenOf_20 rfl ?_
  refine V.bipush dX6_tokenOf_21 bp_57 ?_
  refine V.icmp_gt (tgt := 28) dX6_tokenOf_23 (by decide) (fun hc2 => ?_) (fun hc2 => ?_)
  · replace h := ite_t hc2 h
    exact okc_Tap_tokenOf_28 h
  replace h := ite_f hc2 h
  refine V.iconst dX6_tokenOf_26 ic_2 ?_
  have e1 := inj1 h
  subst e1
  exact V.iret dX6_tokenOf_27 rfl rfl
theorem ok_Tap_tokenOf {X : Sc} {l : Launch} {sh : List Shp}  {M : Mem} {x0 : Int32} {r : Int32}  (h : f_Tap_tokenOf x0 = some r) : Mt X l yX6_tokenOf cX6_tokenOf 1 (some .int) 0 0 0 [.int x0] sh M (some (.int r)) sh M := by
  refine Mt.ofV (by decide) (Nat.le_of_ble_eq_true rfl) ?_
  show V X yX6_tokenOf cX6_tokenOf 1 (some .int) (rmD 0 0 0) l (FM (some (.int r)) sh M 0 0) 0 [some (.int x0)] [] sh M 0 0
  unfold f_Tap_tokenOf at h
  refine V.iload_n dX6_tokenOf_0 rfl ?_
  refine V.bipush dX6_tokenOf_1 bp_97 ?_
  refine V.icmp_lt (tgt := 14) dX6_tokenOf_3 (by decide) (fun hc1 => ?_) (fun hc1 => ?_)
  · replace h := ite_t hc1 h
    exact okc_Tap_tokenOf_14 h
  replace h := ite_f hc1 h
  refine V.iload_n dX6_tokenOf_6 rfl ?_
  refine V.bipush dX6_tokenOf_7 bp_122 ?_
  refine V.icmp_gt (tgt := 14) dX6_tokenOf_9 (by decide) (fun hc2 => ?_) (fun hc2 => ?_)
  · replace h := ite_t hc2 h
    exact okc_Tap_tokenOf_14 h
  replace h := ite_f hc2 h
  refine V.iconst dX6_tokenOf_12 ic_1 ?_
  have e1 := inj1 h
  subst e1
  exact V.iret dX6_tokenOf_13 rfl rfl
theorem okc_Tap_nextToken_259 {X : Sc} {l : Launch}      {M : Mem} {M' : Mem} (h : f_Tap_nextToken_J259  M = some M') : V X yX6_nextToken cX6_nextToken 2 none (rmD 1 0 0) l (FM none S0 M' 0 0) 259 [some (.ref 70), none] [] S0 M 0 0 := by
  unfold f_Tap_nextToken_J259 at h
  refine V.aload_n dX6_nextToken_259 rfl ?_
  refine V.iconst dX6_nextToken_260 ic_1 ?_
  refine V.aload_n dX6_nextToken_261 rfl ?_
  refine V.getI dX6_nextToken_262 fl_RX6_18 s0_70 rfl rfl ?_
  obtain ⟨M2, hv1, h⟩ := bnd_s h
  refine V.cVv dX6_nextToken_265 rfl mv_RX6_43 (ok_Tap_fail hv1) rfl rfl s0_70 rfl (by decide) ⟨Nat.zero_le _, Nat.zero_le _⟩ (Nat.le_of_ble_eq_true rfl) (Nat.zero_le _) ?_
  have e1 := inj1 h
  subst e1
  exact V.vret dX6_nextToken_268 rfl
theorem okc_Tap_nextToken_231 {X : Sc} {l : Launch}      {M : Mem} {M' : Mem} (h : f_Tap_nextToken_J231  M = some M') : V X yX6_nextToken cX6_nextToken 2 none (rmD 1 0 0) l (FM none S0 M' 0 0) 231 [some (.ref 70), none] [] S0 M 0 0 := by
  unfold f_Tap_nextToken_J231 at h
  refine V.aload_n dX6_nextToken_231 rfl ?_
  refine V.getI dX6_nextToken_232 fl_RX6_15 s0_70 rfl rfl ?_
  refine V.if_eq (tgt := 259) dX6_nextToken_235 (by decide) (fun hc1 => ?_) (fun hc1 => ?_)
  · replace h := ite_t hc1 h
    exact okc_Tap_nextToken_259 h
  replace h := ite_f hc1 h
  refine V.aload_n dX6_nextToken_238 rfl ?_
  refine V.getI dX6_nextToken_239 fl_RX6_15 s0_70 rfl rfl ?_
  refine V.iconst dX6_nextToken_242 ic_2 ?_
  refine V.icmp_ne (tgt := 268) dX6_nextToken_243 (by decide) (fun hc2 => ?_) (fun hc2 => ?_)
  · replace h := ite_f hc2 h
    have e1 := inj1 h
    subst e1
    exact V.vret dX6_nextToken_268 rfl
  replace h := ite_t hc2 h
  refine V.aload_n dX6_nextToken_246 rfl ?_
  refine V.getI dX6_nextToken_247 fl_RX6_30 s0_70 rfl rfl ?_
  refine V.aload_n dX6_nextToken_250 rfl ?_
  refine V.getI dX6_nextToken_251 fl_RX6_18 s0_70 rfl rfl ?_
  refine V.isub dX6_nextToken_254 ?_
  refine V.iconst dX6_nextToken_255 ic_3 ?_
  refine V.icmp_le (tgt := 268) dX6_nextToken_256 (by decide) (fun hc3 => ?_) (fun hc3 => ?_)
  · replace h := ite_t hc3 h
    have e1 := inj1 h
    subst e1
    exact V.vret dX6_nextToken_268 rfl
  replace h := ite_f hc3 h
  exact okc_Tap_nextToken_259 h
theorem okc_Tap_nextToken_213 {X : Sc} {l : Launch}      {M : Mem} {M' : Mem} (h : f_Tap_nextToken_J213  M = some M') : V X yX6_nextToken cX6_nextToken 2 none (rmD 1 0 0) l (FM none S0 M' 0 0) 213 [some (.ref 70), none] [] S0 M 0 0 := by
  unfold f_Tap_nextToken_J213 at h
  refine V.aload_n dX6_nextToken_213 rfl ?_
  refine V.getI dX6_nextToken_214 fl_RX6_15 s0_70 rfl rfl ?_
  refine V.iconst dX6_nextToken_217 ic_3 ?_
  refine V.icmp_ne (tgt := 231) dX6_nextToken_218 (by decide) (fun hc1 => ?_) (fun hc1 => ?_)
  · replace h := ite_f hc1 h
    exact okc_Tap_nextToken_231 h
  replace h := ite_t hc1 h
  refine V.aload_n dX6_nextToken_221 rfl ?_
  refine V.dup dX6_nextToken_222 rfl ?_
  refine V.getI dX6_nextToken_223 fl_RX6_30 s0_70 rfl rfl ?_
  refine V.iconst dX6_nextToken_226 ic_1 ?_
  refine V.iadd dX6_nextToken_227 ?_
  refine V.putI dX6_nextToken_228 fp_RX6_30 s0_70 rfl rfl (fun M2 hM2 => ?_)
  replace h := setM_at h M2 hM2
  exact okc_Tap_nextToken_231 h
theorem okc_Tap_nextToken_132 {X : Sc} {l : Launch}     : ∀ (n : Nat) (x1 : Int32) (M : Mem) (M' : Mem), f_Tap_nextToken_L132  n x1 M = some M' → V X yX6_nextToken cX6_nextToken 2 none (rmD 1 0 0) l (FM none S0 M' 0 0) 132 [some (.ref 70), some (.int x1)] [] S0 M 0 0 := by
  intro n
  induction n with
  | zero =>
    intro x1 M M' h
    rw [f_Tap_nextToken_L132] at h
    cases h
  | succ n ih =>
    intro x1 M M' h
    rw [f_Tap_nextToken_L132] at h
    refine V.iload_n dX6_nextToken_132 rfl ?_
    refine V.if_eq (tgt := 213) dX6_nextToken_133 (by decide) (fun hc1 => ?_) (fun hc1 => ?_)
    · replace h := ite_t hc1 h
      refine V.mask [true, false] rfl ?_
      exact okc_Tap_nextToken_213 h
    replace h := ite_f hc1 h
    refine V.aload_n dX6_nextToken_136 rfl ?_
    refine V.getI dX6_nextToken_137 fl_RX6_30 s0_70 rfl rfl ?_
    refine V.aload_n dX6_nextToken_140 rfl ?_
    refine V.getI dX6_nextToken_141 fl_RX6_9 s0_70 rfl rfl ?_
    refine V.icmp_ge (tgt := 213) dX6_nextToken_144 (by decide) (fun hc2 => ?_) (fun hc2 => ?_)
    · replace h := ite_t hc2 h
      refine V.mask [true, false] rfl ?_
      exact okc_Tap_nextToken_213 h
    replace h := ite_f hc2 h
    refine V.aload_n dX6_nextToken_147 rfl ?_
    refine V.getI dX6_nextToken_148 fl_RX6_30 s0_70 rfl rfl ?_
    refine V.sipush dX6_nextToken_151 sp_320 ?_
    refine V.icmp_ge (tgt := 213) dX6_nextToken_154 (by decide) (fun hc3 => ?_) (fun hc3 => ?_)
    · replace h := ite_t hc3 h
      refine V.mask [true, false] rfl ?_
      exact okc_Tap_nextToken_213 h
    replace h := ite_f hc3 h
    refine V.aload_n dX6_nextToken_157 rfl ?_
    refine V.getR dX6_nextToken_158 fl_RX6_33 s0_70 rfl rfl ?_
    refine V.aload_n dX6_nextToken_161 rfl ?_
    refine V.getI dX6_nextToken_162 fl_RX6_30 s0_70 rfl rfl ?_
    obtain ⟨hb4, h⟩ := ck_s h
    refine V.bald dX6_nextToken_165 s0_71 rfl (vp_of hb4) ?_
    obtain ⟨v6, hv5, h⟩ := bnd_s h
    refine V.cSi dX6_nextToken_166 rfl mv_RX6_37 (ok_Tap_tokenOf hv5) rfl rfl (by decide) ⟨Nat.zero_le _, Nat.zero_le _⟩ (Nat.le_of_ble_eq_true rfl) (Nat.zero_le _) ?_
    refine V.aload_n dX6_nextToken_169 rfl ?_
    refine V.getI dX6_nextToken_170 fl_RX6_15 s0_70 rfl rfl ?_
    refine V.icmp_ne (tgt := 213) dX6_nextToken_173 (by decide) (fun hc7 => ?_) (fun hc7 => ?_)
    · replace h := ite_f hc7 h
      refine V.mask [true, false] rfl ?_
      exact okc_Tap_nextToken_213 h
    replace h := ite_t hc7 h
    refine V.aload_n dX6_nextToken_176 rfl ?_
    refine V.bipush dX6_nextToken_177 bp_10 ?_
    refine V.aload_n dX6_nextToken_179 rfl ?_
    refine V.getI dX6_nextToken_180 fl_RX6_21 s0_70 rfl rfl ?_
    refine V.imul dX6_nextToken_183 ?_
    refine V.aload_n dX6_nextToken_184 rfl ?_
    refine V.getR dX6_nextToken_185 fl_RX6_33 s0_70 rfl rfl ?_
    refine V.aload_n dX6_nextToken_188 rfl ?_
    refine V.getI dX6_nextToken_189 fl_RX6_30 s0_70 rfl rfl ?_
    obtain ⟨hb8, h⟩ := ck_s h
    refine V.bald dX6_nextToken_192 s0_71 rfl (vp_of hb8) ?_
    refine V.iadd dX6_nextToken_193 ?_
    refine V.bipush dX6_nextToken_194 bp_48 ?_
    refine V.isub dX6_nextToken_196 ?_
    refine V.putI dX6_nextToken_197 fp_RX6_21 s0_70 rfl rfl (fun M9 hM9 => ?_)
    replace h := setM_at h M9 hM9
    refine V.aload_n dX6_nextToken_200 rfl ?_
    refine V.dup dX6_nextToken_201 rfl ?_
    refine V.getI dX6_nextToken_202 fl_RX6_30 s0_70 rfl rfl ?_
    refine V.iconst dX6_nextToken_205 ic_1 ?_
    refine V.iadd dX6_nextToken_206 ?_
    refine V.putI dX6_nextToken_207 fp_RX6_30 s0_70 rfl rfl (fun M10 hM10 => ?_)
    replace h := setM_at h M10 hM10
    refine V.goto (tgt := 132) dX6_nextToken_210 (by decide) ?_
    exact ih _ _ _ h
theorem okc_Tap_nextToken_131 {X : Sc} {l : Launch}     {s0 : Int32} {M : Mem} {M' : Mem} (h : f_Tap_nextToken_J131  s0 M = some M') : V X yX6_nextToken cX6_nextToken 2 none (rmD 1 0 0) l (FM none S0 M' 0 0) 131 [some (.ref 70), none] [.int s0] S0 M 0 0 := by
  unfold f_Tap_nextToken_J131 at h
  refine V.istore_n dX6_nextToken_131 (by decide) rfl ?_
  exact okc_Tap_nextToken_132 _ _ _ _ h
theorem okc_Tap_nextToken_126 {X : Sc} {l : Launch}      {M : Mem} {M' : Mem} (h : f_Tap_nextToken_J126  M = some M') : V X yX6_nextToken cX6_nextToken 2 none (rmD 1 0 0) l (FM none S0 M' 0 0) 126 [some (.ref 70), none] [] S0 M 0 0 := by
  unfold f_Tap_nextToken_J126 at h
  refine V.iconst dX6_nextToken_126 ic_1 ?_
  refine V.goto (tgt := 131) dX6_nextToken_127 (by decide) ?_
  exact okc_Tap_nextToken_131 h
theorem okc_Tap_nextToken_102 {X : Sc} {l : Launch}     {s1 : Int32} {M : Mem} {M' : Mem} (h : f_Tap_nextToken_J102  s1 M = some M') : V X yX6_nextToken cX6_nextToken 2 none (rmD 1 0 0) l (FM none S0 M' 0 0) 102 [some (.ref 70), none] [.int s1, .ref 70] S0 M 0 0 := by
  unfold f_Tap_nextToken_J102 at h
  refine V.putI dX6_nextToken_102 fp_RX6_15 s0_70 rfl rfl (fun M1 hM1 => ?_)
  replace h := setM_at h M1 hM1
  refine V.aload_n dX6_nextToken_105 rfl ?_
  refine V.iconst dX6_nextToken_106 ic_0 ?_
  refine V.putI dX6_nextToken_107 fp_RX6_21 s0_70 rfl rfl (fun M2 hM2 => ?_)
  replace h := setM_at h M2 hM2
  refine V.aload_n dX6_nextToken_110 rfl ?_
  refine V.getI dX6_nextToken_111 fl_RX6_15 s0_70 rfl rfl ?_
  refine V.iconst dX6_nextToken_114 ic_1 ?_
  refine V.icmp_eq (tgt := 126) dX6_nextToken_115 (by decide) (fun hc3 => ?_) (fun hc3 => ?_)
  · replace h := ite_t hc3 h
    exact okc_Tap_nextToken_126 h
  replace h := ite_f hc3 h
  refine V.aload_n dX6_nextToken_118 rfl ?_
  refine V.getI dX6_nextToken_119 fl_RX6_15 s0_70 rfl rfl ?_
  refine V.iconst dX6_nextToken_122 ic_2 ?_
  refine V.icmp_ne (tgt := 130) dX6_nextToken_123 (by decide) (fun hc4 => ?_) (fun hc4 => ?_)
  · replace h := ite_f hc4 h
    refine V.iconst dX6_nextToken_130 ic_0 ?_
    exact okc_Tap_nextToken_131 h
  replace h := ite_t hc4 h
  exact okc_Tap_nextToken_126 h
theorem okc_Tap_nextToken_101 {X : Sc} {l : Launch}      {M : Mem} {M' : Mem} (h : f_Tap_nextToken_J101  M = some M') : V X yX6_nextToken cX6_nextToken 2 none (rmD 1 0 0) l (FM none S0 M' 0 0) 101 [some (.ref 70), none] [.ref 70] S0 M 0 0 := by
  unfold f_Tap_nextToken_J101 at h
  refine V.iconst dX6_nextToken_101 ic_4 ?_
  exact okc_Tap_nextToken_102 h
theorem okc_Tap_nextToken_56 {X : Sc} {l : Launch}      {M : Mem} {M' : Mem} (h : f_Tap_nextToken_J56  M = some M') : V X yX6_nextToken cX6_nextToken 2 none (rmD 1 0 0) l (FM none S0 M' 0 0) 56 [some (.ref 70), none] [] S0 M 0 0 := by
  unfold f_Tap_nextToken_J56 at h
  refine V.aload_n dX6_nextToken_56 rfl ?_
  refine V.aload_n dX6_nextToken_57 rfl ?_
  refine V.getI dX6_nextToken_58 fl_RX6_30 s0_70 rfl rfl ?_
  refine V.putI dX6_nextToken_61 fp_RX6_18 s0_70 rfl rfl (fun M1 hM1 => ?_)
  replace h := setM_at h M1 hM1
  refine V.aload_n dX6_nextToken_64 rfl ?_
  refine V.aload_n dX6_nextToken_65 rfl ?_
  refine V.getI dX6_nextToken_66 fl_RX6_30 s0_70 rfl rfl ?_
  refine V.aload_n dX6_nextToken_69 rfl ?_
  refine V.getI dX6_nextToken_70 fl_RX6_9 s0_70 rfl rfl ?_
  refine V.icmp_ge (tgt := 101) dX6_nextToken_73 (by decide) (fun hc2 => ?_) (fun hc2 => ?_)
  · replace h := ite_t hc2 h
    exact okc_Tap_nextToken_101 h
  replace h := ite_f hc2 h
  refine V.aload_n dX6_nextToken_76 rfl ?_
  refine V.getI dX6_nextToken_77 fl_RX6_30 s0_70 rfl rfl ?_
  refine V.sipush dX6_nextToken_80 sp_320 ?_
  refine V.icmp_ge (tgt := 101) dX6_nextToken_83 (by decide) (fun hc3 => ?_) (fun hc3 => ?_)
  · replace h := ite_t hc3 h
    exact okc_Tap_nextToken_101 h
  replace h := ite_f hc3 h
  refine V.aload_n dX6_nextToken_86 rfl ?_
  refine V.getR dX6_nextToken_87 fl_RX6_33 s0_70 rfl rfl ?_
  refine V.aload_n dX6_nextToken_90 rfl ?_
  refine V.getI dX6_nextToken_91 fl_RX6_30 s0_70 rfl rfl ?_
  obtain ⟨hb4, h⟩ := ck_s h
  refine V.bald dX6_nextToken_94 s0_71 rfl (vp_of hb4) ?_
  obtain ⟨v6, hv5, h⟩ := bnd_s h
  refine V.cSi dX6_nextToken_95 rfl mv_RX6_37 (ok_Tap_tokenOf hv5) rfl rfl (by decide) ⟨Nat.zero_le _, Nat.zero_le _⟩ (Nat.le_of_ble_eq_true rfl) (Nat.zero_le _) ?_
  refine V.goto (tgt := 102) dX6_nextToken_98 (by decide) ?_
  exact okc_Tap_nextToken_102 h
theorem okc_Tap_nextToken_8 {X : Sc} {l : Launch}     : ∀ (n : Nat)  (M : Mem) (M' : Mem), f_Tap_nextToken_L8  n M = some M' → V X yX6_nextToken cX6_nextToken 2 none (rmD 1 0 0) l (FM none S0 M' 0 0) 8 [some (.ref 70), none] [] S0 M 0 0 := by
  intro n
  induction n with
  | zero =>
    intro M M' h
    rw [f_Tap_nextToken_L8] at h
    cases h
  | succ n ih =>
    intro M M' h
    rw [f_Tap_nextToken_L8] at h
    refine V.aload_n dX6_nextToken_8 rfl ?_
    refine V.getI dX6_nextToken_9 fl_RX6_30 s0_70 rfl rfl ?_
    refine V.aload_n dX6_nextToken_12 rfl ?_
    refine V.getI dX6_nextToken_13 fl_RX6_9 s0_70 rfl rfl ?_
    refine V.icmp_ge (tgt := 56) dX6_nextToken_16 (by decide) (fun hc1 => ?_) (fun hc1 => ?_)
    · replace h := ite_t hc1 h
      exact okc_Tap_nextToken_56 h
    replace h := ite_f hc1 h
    refine V.aload_n dX6_nextToken_19 rfl ?_
    refine V.getI dX6_nextToken_20 fl_RX6_30 s0_70 rfl rfl ?_
    refine V.sipush dX6_nextToken_23 sp_320 ?_
    refine V.icmp_ge (tgt := 56) dX6_nextToken_26 (by decide) (fun hc2 => ?_) (fun hc2 => ?_)
    · replace h := ite_t hc2 h
      exact okc_Tap_nextToken_56 h
    replace h := ite_f hc2 h
    refine V.aload_n dX6_nextToken_29 rfl ?_
    refine V.getR dX6_nextToken_30 fl_RX6_33 s0_70 rfl rfl ?_
    refine V.aload_n dX6_nextToken_33 rfl ?_
    refine V.getI dX6_nextToken_34 fl_RX6_30 s0_70 rfl rfl ?_
    obtain ⟨hb3, h⟩ := ck_s h
    refine V.bald dX6_nextToken_37 s0_71 rfl (vp_of hb3) ?_
    refine V.bipush dX6_nextToken_38 bp_32 ?_
    refine V.icmp_ne (tgt := 56) dX6_nextToken_40 (by decide) (fun hc4 => ?_) (fun hc4 => ?_)
    · replace h := ite_f hc4 h
      exact okc_Tap_nextToken_56 h
    replace h := ite_t hc4 h
    refine V.aload_n dX6_nextToken_43 rfl ?_
    refine V.dup dX6_nextToken_44 rfl ?_
    refine V.getI dX6_nextToken_45 fl_RX6_30 s0_70 rfl rfl ?_
    refine V.iconst dX6_nextToken_48 ic_1 ?_
    refine V.iadd dX6_nextToken_49 ?_
    refine V.putI dX6_nextToken_50 fp_RX6_30 s0_70 rfl rfl (fun M5 hM5 => ?_)
    replace h := setM_at h M5 hM5
    refine V.goto (tgt := 8) dX6_nextToken_53 (by decide) ?_
    exact ih _ _ h
theorem ok_Tap_nextToken {X : Sc} {l : Launch}  {M : Mem}  {M' : Mem}  (h : f_Tap_nextToken M = some M') : Mt X l yX6_nextToken cX6_nextToken 2 none 1 0 0 [.ref 70] S0 M none S0 M' := by
  refine Mt.ofV (by decide) (Nat.le_of_ble_eq_true rfl) ?_
  show V X yX6_nextToken cX6_nextToken 2 none (rmD 1 0 0) l (FM none S0 M' 0 0) 0 [some (.ref 70), none] [] S0 M 0 0
  unfold f_Tap_nextToken at h
  refine V.aload_n dX6_nextToken_0 rfl ?_
  refine V.getI dX6_nextToken_1 fl_RX6_24 s0_70 rfl rfl ?_
  refine V.if_eq (tgt := 8) dX6_nextToken_4 (by decide) (fun hc1 => ?_) (fun hc1 => ?_)
  · replace h := ite_t hc1 h
    exact okc_Tap_nextToken_8 _ _ _ h
  replace h := ite_f hc1 h
  have e1 := inj1 h
  subst e1
  exact V.vret dX6_nextToken_7 rfl
theorem okc_Tap_isName_28 {X : Sc} {l : Launch}  {s : Nat} {M : Mem}  (hs : isStr s = true) : ∀ (n : Nat) (x2 : Int32) (r : Int32), f_Tap_isName_L28 s M n x2 = some r → V X yX6_isName cX6_isName 3 (some .boolean) (rmD 7 0 0) l (FM (some (.int r)) S0 M 0 0) 28 [some (.ref 70), some (.ref s), some (.int x2)] [] S0 M 0 0 := by
  intro n
  induction n with
  | zero =>
    intro x2 r h
    rw [f_Tap_isName_L28] at h
    cases h
  | succ n ih =>
    intro x2 r h
    rw [f_Tap_isName_L28] at h
    refine V.iload_n dX6_isName_28 rfl ?_
    refine V.aload_n dX6_isName_29 rfl ?_
    refine V.strLen dX6_isName_30 rfl mv_RX6_47 hs (by decide) (Nat.le_of_ble_eq_true rfl) ?_
    refine V.icmp_ge (tgt := 75) dX6_isName_33 (by decide) (fun hc1 => ?_) (fun hc1 => ?_)
    · replace h := ite_t hc1 h
      refine V.iconst dX6_isName_75 ic_1 ?_
      have e1 := inj1 h
      subst e1
      exact V.iret dX6_isName_76 rfl rfl
    replace h := ite_f hc1 h
    refine V.aload_n dX6_isName_36 rfl ?_
    refine V.getI dX6_isName_37 fl_RX6_18 s0_70 rfl rfl ?_
    refine V.iload_n dX6_isName_40 rfl ?_
    refine V.iadd dX6_isName_41 ?_
    refine V.sipush dX6_isName_42 sp_320 ?_
    refine V.icmp_ge (tgt := 75) dX6_isName_45 (by decide) (fun hc2 => ?_) (fun hc2 => ?_)
    · replace h := ite_t hc2 h
      refine V.iconst dX6_isName_75 ic_1 ?_
      have e1 := inj1 h
      subst e1
      exact V.iret dX6_isName_76 rfl rfl
    replace h := ite_f hc2 h
    refine V.aload_n dX6_isName_48 rfl ?_
    refine V.getR dX6_isName_49 fl_RX6_33 s0_70 rfl rfl ?_
    refine V.aload_n dX6_isName_52 rfl ?_
    refine V.getI dX6_isName_53 fl_RX6_18 s0_70 rfl rfl ?_
    refine V.iload_n dX6_isName_56 rfl ?_
    refine V.iadd dX6_isName_57 ?_
    obtain ⟨hb3, h⟩ := ck_s h
    refine V.bald dX6_isName_58 s0_71 rfl (vp_of hb3) ?_
    refine V.aload_n dX6_isName_59 rfl ?_
    refine V.iload_n dX6_isName_60 rfl ?_
    obtain ⟨hb4, h⟩ := ck_s h
    refine V.strChar dX6_isName_61 rfl mv_RX6_52 hs hb4 (by decide) (Nat.le_of_ble_eq_true rfl) ?_
    refine V.icmp_eq (tgt := 69) dX6_isName_64 (by decide) (fun hc5 => ?_) (fun hc5 => ?_)
    · replace h := ite_t hc5 h
      refine V.iinc dX6_isName_69 rfl (iinc_c ic_1) (by decide) rfl ?_
      refine V.goto (tgt := 28) dX6_isName_72 (by decide) ?_
      exact ih _ _ h
    replace h := ite_f hc5 h
    refine V.iconst dX6_isName_67 ic_0 ?_
    have e1 := inj1 h
    subst e1
    exact V.iret dX6_isName_68 rfl rfl
theorem ok_Tap_isName {X : Sc} {l : Launch} {s : Nat} {M : Mem}  {r : Int32} (hs : isStr s = true) (h : f_Tap_isName s M = some r) : Mt X l yX6_isName cX6_isName 3 (some .boolean) 7 0 0 [.ref 70, .ref s] S0 M (some (.int r)) S0 M := by
  refine Mt.ofV (by decide) (Nat.le_of_ble_eq_true rfl) ?_
  show V X yX6_isName cX6_isName 3 (some .boolean) (rmD 7 0 0) l (FM (some (.int r)) S0 M 0 0) 0 [some (.ref 70), some (.ref s), none] [] S0 M 0 0
  unfold f_Tap_isName at h
  refine V.aload_n dX6_isName_0 rfl ?_
  refine V.getI dX6_isName_1 fl_RX6_15 s0_70 rfl rfl ?_
  refine V.iconst dX6_isName_4 ic_1 ?_
  refine V.icmp_ne (tgt := 24) dX6_isName_5 (by decide) (fun hc1 => ?_) (fun hc1 => ?_)
  · replace h := ite_f hc1 h
    refine V.iconst dX6_isName_24 ic_0 ?_
    have e1 := inj1 h
    subst e1
    exact V.iret dX6_isName_25 rfl rfl
  replace h := ite_t hc1 h
  refine V.aload_n dX6_isName_8 rfl ?_
  refine V.getI dX6_isName_9 fl_RX6_30 s0_70 rfl rfl ?_
  refine V.aload_n dX6_isName_12 rfl ?_
  refine V.getI dX6_isName_13 fl_RX6_18 s0_70 rfl rfl ?_
  refine V.isub dX6_isName_16 ?_
  refine V.aload_n dX6_isName_17 rfl ?_
  refine V.strLen dX6_isName_18 rfl mv_RX6_47 hs (by decide) (Nat.le_of_ble_eq_true rfl) ?_
  refine V.icmp_eq (tgt := 26) dX6_isName_21 (by decide) (fun hc2 => ?_) (fun hc2 => ?_)
  · replace h := ite_t hc2 h
    refine V.iconst dX6_isName_26 ic_0 ?_
    refine V.istore_n dX6_isName_27 (by decide) rfl ?_
    exact okc_Tap_isName_28 hs _ _ _ h
  replace h := ite_f hc2 h
  refine V.iconst dX6_isName_24 ic_0 ?_
  have e1 := inj1 h
  subst e1
  exact V.iret dX6_isName_25 rfl rfl
theorem okc_Tol_startAnew_42 {X : Sc} {l : Launch} {sh : List Shp}  {t : Nat}  (ht : LTol sh t) : ∀ (n : Nat) (x1 : Int32) (M : Mem) (M' : Mem), f_Tol_startAnew_L42 t n x1 M = some M' → V X yX8_startAnew cX8_startAnew 2 none (rmD 1 0 0) l (FM none sh M' 0 0) 42 [some (.ref t), some (.int x1)] [] sh M 0 0 := by
  intro n
  induction n with
  | zero =>
    intro x1 M M' h
    rw [f_Tol_startAnew_L42] at h
    cases h
  | succ n ih =>
    intro x1 M M' h
    rw [f_Tol_startAnew_L42] at h
    refine V.iload_n dX8_startAnew_42 rfl ?_
    refine V.bipush dX8_startAnew_43 bp_6 ?_
    refine V.icmp_ge (tgt := 61) dX8_startAnew_45 (by decide) (fun hc1 => ?_) (fun hc1 => ?_)
    · replace h := ite_t hc1 h
      refine V.aload_n dX8_startAnew_61 rfl ?_
      refine V.getR dX8_startAnew_62 fl_RX8_21 (LTol.f0 ht) rfl rfl ?_
      refine V.iconst dX8_startAnew_65 ic_0 ?_
      refine V.putI dX8_startAnew_66 fp_RX8_63 (LTol.f3 ht) rfl rfl (fun M2 hM2 => ?_)
      replace h := setM_at h M2 hM2
      refine V.aload_n dX8_startAnew_69 rfl ?_
      refine V.getR dX8_startAnew_70 fl_RX8_28 (LTol.f0 ht) rfl rfl ?_
      refine V.iconst dX8_startAnew_73 ic_0 ?_
      refine V.putI dX8_startAnew_74 fp_RX8_66 (LTol.f9 ht) rfl rfl (fun M3 hM3 => ?_)
      replace h := setM_at h M3 hM3
      refine V.aload_n dX8_startAnew_77 rfl ?_
      refine V.getR dX8_startAnew_78 fl_RX8_32 (LTol.f0 ht) rfl rfl ?_
      refine V.iconst dX8_startAnew_81 ic_0 ?_
      refine V.putI dX8_startAnew_82 fp_RX8_66 (LTol.f13 ht) rfl rfl (fun M4 hM4 => ?_)
      replace h := setM_at h M4 hM4
      have e1 := inj1 h
      subst e1
      exact V.vret dX8_startAnew_85 rfl
    replace h := ite_f hc1 h
    refine V.aload_n dX8_startAnew_48 rfl ?_
    refine V.getR dX8_startAnew_49 fl_RX8_15 (LTol.f0 ht) rfl rfl ?_
    refine V.iload_n dX8_startAnew_52 rfl ?_
    refine V.iload_n dX8_startAnew_53 rfl ?_
    obtain ⟨hb5, h⟩ := ck_s h
    refine V.iast dX8_startAnew_54 (LTol.f2 ht) rfl (vp_of hb5) (fun M6 hM6 => ?_)
    replace h := setM_at h M6 hM6
    refine V.iinc dX8_startAnew_55 rfl (iinc_c ic_1) (by decide) rfl ?_
    refine V.goto (tgt := 42) dX8_startAnew_58 (by decide) ?_
    exact ih _ _ _ h
theorem ok_Tol_startAnew {X : Sc} {l : Launch} {sh : List Shp} {t : Nat} {M : Mem}  {M' : Mem} (ht : LTol sh t) (h : f_Tol_startAnew t M = some M') : Mt X l yX8_startAnew cX8_startAnew 2 none 1 0 0 [.ref t] sh M none sh M' := by
  refine Mt.ofV (by decide) (Nat.le_of_ble_eq_true rfl) ?_
  show V X yX8_startAnew cX8_startAnew 2 none (rmD 1 0 0) l (FM none sh M' 0 0) 0 [some (.ref t), none] [] sh M 0 0
  unfold f_Tol_startAnew at h
  refine V.aload_n dX8_startAnew_0 rfl ?_
  refine V.bipush dX8_startAnew_1 bp_9 ?_
  refine V.putI dX8_startAnew_3 fp_RX8_38 (LTol.f0 ht) rfl rfl (fun M1 hM1 => ?_)
  replace h := setM_at h M1 hM1
  refine V.aload_n dX8_startAnew_6 rfl ?_
  refine V.bipush dX8_startAnew_7 bp_7 ?_
  refine V.putI dX8_startAnew_9 fp_RX8_42 (LTol.f0 ht) rfl rfl (fun M2 hM2 => ?_)
  replace h := setM_at h M2 hM2
  refine V.aload_n dX8_startAnew_12 rfl ?_
  refine V.iconst dX8_startAnew_13 ic_3 ?_
  refine V.putI dX8_startAnew_14 fp_RX8_45 (LTol.f0 ht) rfl rfl (fun M3 hM3 => ?_)
  replace h := setM_at h M3 hM3
  refine V.aload_n dX8_startAnew_17 rfl ?_
  refine V.iconst dX8_startAnew_18 ic_5 ?_
  refine V.putI dX8_startAnew_19 fp_RX8_48 (LTol.f0 ht) rfl rfl (fun M4 hM4 => ?_)
  replace h := setM_at h M4 hM4
  refine V.aload_n dX8_startAnew_22 rfl ?_
  refine V.iconst dX8_startAnew_23 ic_0 ?_
  refine V.putI dX8_startAnew_24 fp_RX8_51 (LTol.f0 ht) rfl rfl (fun M5 hM5 => ?_)
  replace h := setM_at h M5 hM5
  refine V.aload_n dX8_startAnew_27 rfl ?_
  refine V.iconst dX8_startAnew_28 ic_0 ?_
  refine V.putI dX8_startAnew_29 fp_RX8_54 (LTol.f0 ht) rfl rfl (fun M6 hM6 => ?_)
  replace h := setM_at h M6 hM6
  refine V.aload_n dX8_startAnew_32 rfl ?_
  refine V.getR dX8_startAnew_33 fl_RX8_9 (LTol.f0 ht) rfl rfl ?_
  refine V.iconst dX8_startAnew_36 ic_0 ?_
  obtain ⟨M8, hv7, h⟩ := bnd_s h
  refine V.cSv dX8_startAnew_37 rfl mv_RX8_57 (ok_Arr_fill (LTol.f1 ht) hv7) rfl rfl (by decide) ⟨Nat.zero_le _, Nat.zero_le _⟩ (Nat.le_of_ble_eq_true rfl) (Nat.zero_le _) ?_
  refine V.iconst dX8_startAnew_40 ic_0 ?_
  refine V.istore_n dX8_startAnew_41 (by decide) rfl ?_
  exact okc_Tol_startAnew_42 ht _ _ _ _ h
theorem ok_Rea_nameOfLine {X : Sc} {l : Launch} {sh : List Shp}  {M : Mem} {x0 : Int32} {r : Nat}  (h : f_Rea_nameOfLine x0 = some r) : Mt X l yX7_nameOfLine cX7_nameOfLine 1 (some (.object "java/lang/String")) 0 0 0 [.int x0] sh M (some (.ref r)) sh M := by
  refine Mt.ofV (by decide) (Nat.le_of_ble_eq_true rfl) ?_
  show V X yX7_nameOfLine cX7_nameOfLine 1 (some (.object "java/lang/String")) (rmD 0 0 0) l (FM (some (.ref r)) sh M 0 0) 0 [some (.int x0)] [] sh M 0 0
  unfold f_Rea_nameOfLine at h
  refine V.iload_n dX7_nameOfLine_0 rfl ?_
  by_cases hc1 : x0 = 0
  · replace h := ite_t hc1 h
    refine V.tabAt (off := 55) (tgt := 56) dX7_nameOfLine_1 hc1 (by decide) (by decide) (by decide) (by decide) ?_
    refine V.ldcS (i := 0) dX7_nameOfLine_56 rfl rfl ?_
    have e1 := inj1 h
    subst e1
    exact V.aret dX7_nameOfLine_58 rfl (Or.inl ⟨_, rfl⟩)
  replace h := ite_f hc1 h
  by_cases hc2 : x0 = 1
  · replace h := ite_t hc2 h
    refine V.tabAt (off := 58) (tgt := 59) dX7_nameOfLine_1 hc2 (by decide) (by decide) (by decide) (by decide) ?_
    refine V.ldcS (i := 1) dX7_nameOfLine_59 rfl rfl ?_
    have e1 := inj1 h
    subst e1
    exact V.aret dX7_nameOfLine_61 rfl (Or.inl ⟨_, rfl⟩)
  replace h := ite_f hc2 h
  by_cases hc3 : x0 = 2
  · replace h := ite_t hc3 h
    refine V.tabAt (off := 61) (tgt := 62) dX7_nameOfLine_1 hc3 (by decide) (by decide) (by decide) (by decide) ?_
    refine V.ldcS (i := 2) dX7_nameOfLine_62 rfl rfl ?_
    have e1 := inj1 h
    subst e1
    exact V.aret dX7_nameOfLine_64 rfl (Or.inl ⟨_, rfl⟩)
  replace h := ite_f hc3 h
  by_cases hc4 : x0 = 3
  · replace h := ite_t hc4 h
    refine V.tabAt (off := 64) (tgt := 65) dX7_nameOfLine_1 hc4 (by decide) (by decide) (by decide) (by decide) ?_
    refine V.ldcS (i := 3) dX7_nameOfLine_65 rfl rfl ?_
    have e1 := inj1 h
    subst e1
    exact V.aret dX7_nameOfLine_67 rfl (Or.inl ⟨_, rfl⟩)
  replace h := ite_f hc4 h
  by_cases hc5 : x0 = 4
  · replace h := ite_t hc5 h
    refine V.tabAt (off := 67) (tgt := 68) dX7_nameOfLine_1 hc5 (by decide) (by decide) (by decide) (by decide) ?_
    refine V.ldcS (i := 4) dX7_nameOfLine_68 rfl rfl ?_
    have e1 := inj1 h
    subst e1
    exact V.aret dX7_nameOfLine_70 rfl (Or.inl ⟨_, rfl⟩)
  replace h := ite_f hc5 h
  by_cases hc6 : x0 = 5
  · replace h := ite_t hc6 h
    refine V.tabAt (off := 70) (tgt := 71) dX7_nameOfLine_1 hc6 (by decide) (by decide) (by decide) (by decide) ?_
    refine V.ldcS (i := 5) dX7_nameOfLine_71 rfl rfl ?_
    have e1 := inj1 h
    subst e1
    exact V.aret dX7_nameOfLine_73 rfl (Or.inl ⟨_, rfl⟩)
  replace h := ite_f hc6 h
  by_cases hc7 : x0 = 6
  · replace h := ite_t hc7 h
    refine V.tabAt (off := 73) (tgt := 74) dX7_nameOfLine_1 hc7 (by decide) (by decide) (by decide) (by decide) ?_
    refine V.ldcS (i := 6) dX7_nameOfLine_74 rfl rfl ?_
    have e1 := inj1 h
    subst e1
    exact V.aret dX7_nameOfLine_76 rfl (Or.inl ⟨_, rfl⟩)
  replace h := ite_f hc7 h
  by_cases hc8 : x0 = 7
  · replace h := ite_t hc8 h
    refine V.tabAt (off := 76) (tgt := 77) dX7_nameOfLine_1 hc8 (by decide) (by decide) (by decide) (by decide) ?_
    refine V.ldcS (i := 7) dX7_nameOfLine_77 rfl rfl ?_
    have e1 := inj1 h
    subst e1
    exact V.aret dX7_nameOfLine_79 rfl (Or.inl ⟨_, rfl⟩)
  replace h := ite_f hc8 h
  by_cases hc9 : x0 = 8
  · replace h := ite_t hc9 h
    refine V.tabAt (off := 79) (tgt := 80) dX7_nameOfLine_1 hc9 (by decide) (by decide) (by decide) (by decide) ?_
    refine V.ldcS (i := 8) dX7_nameOfLine_80 rfl rfl ?_
    have e1 := inj1 h
    subst e1
    exact V.aret dX7_nameOfLine_82 rfl (Or.inl ⟨_, rfl⟩)
  replace h := ite_f hc9 h
  by_cases hc10 : x0 = 9
  · replace h := ite_t hc10 h
    refine V.tabAt (off := 82) (tgt := 83) dX7_nameOfLine_1 hc10 (by decide) (by decide) (by decide) (by decide) ?_
    refine V.ldcS (i := 9) dX7_nameOfLine_83 rfl rfl ?_
    have e1 := inj1 h
    subst e1
    exact V.aret dX7_nameOfLine_85 rfl (Or.inl ⟨_, rfl⟩)
  replace h := ite_f hc10 h
  refine V.tabOut (tgt := 86) dX7_nameOfLine_1 (by have e0 := i32_lit (k := 0) hc1 (by decide); have e1 := i32_lit (k := 1) hc2 (by decide); have e2 := i32_lit (k := 2) hc3 (by decide); have e3 := i32_lit (k := 3) hc4 (by decide); have e4 := i32_lit (k := 4) hc5 (by decide); have e5 := i32_lit (k := 5) hc6 (by decide); have e6 := i32_lit (k := 6) hc7 (by decide); have e7 := i32_lit (k := 7) hc8 (by decide); have e8 := i32_lit (k := 8) hc9 (by decide); have e9 := i32_lit (k := 9) hc10 (by decide); omega) (by decide) ?_
  refine V.ldcS (i := 10) dX7_nameOfLine_86 rfl rfl ?_
  have e1 := inj1 h
  subst e1
  exact V.aret dX7_nameOfLine_88 rfl (Or.inl ⟨_, rfl⟩)
theorem okc_Rea_lineBegun_2 {X : Sc} {l : Launch}   {M : Mem}   : ∀ (n : Nat) (x1 : Int32) (r : Int32), f_Rea_lineBegun_L2 M n x1 = some r → V X yX7_lineBegun cX7_lineBegun 2 (some .int) (rmD 8 0 0) l (FM (some (.int r)) S0 M 0 0) 2 [some (.ref 52), some (.int x1)] [] S0 M 0 0 := by
  intro n
  induction n with
  | zero =>
    intro x1 r h
    rw [f_Rea_lineBegun_L2] at h
    cases h
  | succ n ih =>
    intro x1 r h
    rw [f_Rea_lineBegun_L2] at h
    refine V.iload_n dX7_lineBegun_2 rfl ?_
    refine V.bipush dX7_lineBegun_3 bp_11 ?_
    refine V.icmp_ge (tgt := 30) dX7_lineBegun_5 (by decide) (fun hc1 => ?_) (fun hc1 => ?_)
    · replace h := ite_t hc1 h
      refine V.bipush dX7_lineBegun_30 bp_m4 ?_
      have e1 := inj1 h
      subst e1
      exact V.iret dX7_lineBegun_32 rfl rfl
    replace h := ite_f hc1 h
    refine V.aload_n dX7_lineBegun_8 rfl ?_
    refine V.getR dX7_lineBegun_9 fl_RX7_21 s0_52 rfl rfl ?_
    refine V.iload_n dX7_lineBegun_12 rfl ?_
    obtain ⟨r3, hv2, h⟩ := bnd_s h
    obtain ⟨hr4, h⟩ := ck_s h
    refine V.cSr dX7_lineBegun_13 rfl mv_RX7_107 (ok_Rea_nameOfLine hv2) rfl rfl (by decide) ⟨Nat.zero_le _, Nat.zero_le _⟩ (Nat.le_of_ble_eq_true rfl) (Nat.zero_le _) ?_
    obtain ⟨v6, hv5, h⟩ := bnd_s h
    refine V.cVi dX7_lineBegun_16 rfl mv_RX7_111 (ok_Tap_isName hr4 hv5) rfl rfl s0_70 rfl (by decide) ⟨Nat.zero_le _, Nat.zero_le _⟩ (Nat.le_of_ble_eq_true rfl) (Nat.zero_le _) ?_
    refine V.if_eq (tgt := 24) dX7_lineBegun_19 (by decide) (fun hc7 => ?_) (fun hc7 => ?_)
    · replace h := ite_t hc7 h
      refine V.iinc dX7_lineBegun_24 rfl (iinc_c ic_1) (by decide) rfl ?_
      refine V.goto (tgt := 2) dX7_lineBegun_27 (by decide) ?_
      exact ih _ _ h
    replace h := ite_f hc7 h
    refine V.iload_n dX7_lineBegun_22 rfl ?_
    have e1 := inj1 h
    subst e1
    exact V.iret dX7_lineBegun_23 rfl rfl
theorem ok_Rea_lineBegun {X : Sc} {l : Launch}  {M : Mem}  {r : Int32}  (h : f_Rea_lineBegun M = some r) : Mt X l yX7_lineBegun cX7_lineBegun 2 (some .int) 8 0 0 [.ref 52] S0 M (some (.int r)) S0 M := by
  refine Mt.ofV (by decide) (Nat.le_of_ble_eq_true rfl) ?_
  show V X yX7_lineBegun cX7_lineBegun 2 (some .int) (rmD 8 0 0) l (FM (some (.int r)) S0 M 0 0) 0 [some (.ref 52), none] [] S0 M 0 0
  unfold f_Rea_lineBegun at h
  refine V.iconst dX7_lineBegun_0 ic_0 ?_
  refine V.istore_n dX7_lineBegun_1 (by decide) rfl ?_
  exact okc_Rea_lineBegun_2 _ _ _ h
theorem ok_Rea_failHere {X : Sc} {l : Launch}  {M : Mem} {x1 : Int32} {M' : Mem}  (h : f_Rea_failHere x1 M = some M') : Mt X l yX7_failHere cX7_failHere 2 none 1 0 0 [.ref 52, .int x1] S0 M none S0 M' := by
  refine Mt.ofV (by decide) (Nat.le_of_ble_eq_true rfl) ?_
  show V X yX7_failHere cX7_failHere 2 none (rmD 1 0 0) l (FM none S0 M' 0 0) 0 [some (.ref 52), some (.int x1)] [] S0 M 0 0
  unfold f_Rea_failHere at h
  refine V.aload_n dX7_failHere_0 rfl ?_
  refine V.getR dX7_failHere_1 fl_RX7_21 s0_52 rfl rfl ?_
  refine V.iload_n dX7_failHere_4 rfl ?_
  refine V.aload_n dX7_failHere_5 rfl ?_
  refine V.getR dX7_failHere_6 fl_RX7_21 s0_52 rfl rfl ?_
  refine V.getI dX7_failHere_9 fl_RX7_198 s0_70 rfl rfl ?_
  obtain ⟨M2, hv1, h⟩ := bnd_s h
  refine V.cVv dX7_failHere_12 rfl mv_RX7_201 (ok_Tap_fail hv1) rfl rfl s0_70 rfl (by decide) ⟨Nat.zero_le _, Nat.zero_le _⟩ (Nat.le_of_ble_eq_true rfl) (Nat.zero_le _) ?_
  have e1 := inj1 h
  subst e1
  exact V.vret dX7_failHere_15 rfl
theorem ok_Rea_readNumber {X : Sc} {l : Launch}  {M : Mem} {x1 : Int32} {x2 : Int32} {r : Int32} {M' : Mem}  (h : f_Rea_readNumber x1 x2 M = some (r, M')) : Mt X l yX7_readNumber cX7_readNumber 3 (some .int) 2 0 0 [.ref 52, .int x1, .int x2] S0 M (some (.int r)) S0 M' := by
  refine Mt.ofV (by decide) (Nat.le_of_ble_eq_true rfl) ?_
  show V X yX7_readNumber cX7_readNumber 3 (some .int) (rmD 2 0 0) l (FM (some (.int r)) S0 M' 0 0) 0 [some (.ref 52), some (.int x1), some (.int x2)] [] S0 M 0 0
  unfold f_Rea_readNumber at h
  refine V.aload_n dX7_readNumber_0 rfl ?_
  refine V.getR dX7_readNumber_1 fl_RX7_21 s0_52 rfl rfl ?_
  obtain ⟨M2, hv1, h⟩ := bnd_s h
  refine V.cVv dX7_readNumber_4 rfl mv_RX7_38 (ok_Tap_nextToken hv1) rfl rfl s0_70 rfl (by decide) ⟨Nat.zero_le _, Nat.zero_le _⟩ (Nat.le_of_ble_eq_true rfl) (Nat.zero_le _) ?_
  refine V.aload_n dX7_readNumber_7 rfl ?_
  refine V.getR dX7_readNumber_8 fl_RX7_21 s0_52 rfl rfl ?_
  refine V.getI dX7_readNumber_11 fl_RX7_44 s0_70 rfl rfl ?_
  refine V.iconst dX7_readNumber_14 ic_2 ?_
  refine V.icmp_eq (tgt := 25) dX7_readNumber_15 (by decide) (fun hc3 => ?_) (fun hc3 => ?_)
  · replace h := ite_t hc3 h
    refine V.aload_n dX7_readNumber_25 rfl ?_
    refine V.getR dX7_readNumber_26 fl_RX7_21 s0_52 rfl rfl ?_
    refine V.getI dX7_readNumber_29 fl_RX7_188 s0_70 rfl rfl ?_
    refine V.iload_n dX7_readNumber_32 rfl ?_
    refine V.iload_n dX7_readNumber_33 rfl ?_
    obtain ⟨v5, hv4, h⟩ := bnd_s h
    refine V.cSNi dX7_readNumber_34 rfl wn_RX7_191 mn_RX7_191 (ok_Hal_within hv4) rfl rfl (by decide) ⟨Nat.zero_le _, Nat.zero_le _⟩ (Nat.le_of_ble_eq_true rfl) (Nat.zero_le _) ?_
    refine V.if_ne (tgt := 47) dX7_readNumber_37 (by decide) (fun hc6 => ?_) (fun hc6 => ?_)
    · replace h := ite_f hc6 h
      refine V.aload_n dX7_readNumber_47 rfl ?_
      refine V.getR dX7_readNumber_48 fl_RX7_21 s0_52 rfl rfl ?_
      refine V.getI dX7_readNumber_51 fl_RX7_188 s0_70 rfl rfl ?_
      obtain ⟨e1, e2⟩ := inj2 h
      subst e1
      subst e2
      exact V.iret dX7_readNumber_54 rfl rfl
    replace h := ite_t hc6 h
    refine V.aload_n dX7_readNumber_40 rfl ?_
    refine V.iconst dX7_readNumber_41 ic_3 ?_
    obtain ⟨M8, hv7, h⟩ := bnd_s h
    refine V.cVv dX7_readNumber_42 rfl mv_RX7_130 (ok_Rea_failHere hv7) rfl rfl s0_52 rfl (by decide) ⟨Nat.zero_le _, Nat.zero_le _⟩ (Nat.le_of_ble_eq_true rfl) (Nat.zero_le _) ?_
    refine V.iload_n dX7_readNumber_45 rfl ?_
    obtain ⟨e1, e2⟩ := inj2 h
    subst e1
    subst e2
    exact V.iret dX7_readNumber_46 rfl rfl
  replace h := ite_f hc3 h
  refine V.aload_n dX7_readNumber_18 rfl ?_
  refine V.iconst dX7_readNumber_19 ic_2 ?_
  obtain ⟨M10, hv9, h⟩ := bnd_s h
  refine V.cVv dX7_readNumber_20 rfl mv_RX7_130 (ok_Rea_failHere hv9) rfl rfl s0_52 rfl (by decide) ⟨Nat.zero_le _, Nat.zero_le _⟩ (Nat.le_of_ble_eq_true rfl) (Nat.zero_le _) ?_
  refine V.iload_n dX7_readNumber_23 rfl ?_
  obtain ⟨e1, e2⟩ := inj2 h
  subst e1
  subst e2
  exact V.iret dX7_readNumber_24 rfl rfl
theorem ok_Rea_requireSign {X : Sc} {l : Launch}  {M : Mem}  {M' : Mem}  (h : f_Rea_requireSign M = some M') : Mt X l yX7_requireSign cX7_requireSign 1 none 2 0 0 [.ref 52] S0 M none S0 M' := by
  refine Mt.ofV (by decide) (Nat.le_of_ble_eq_true rfl) ?_
  show V X yX7_requireSign cX7_requireSign 1 none (rmD 2 0 0) l (FM none S0 M' 0 0) 0 [some (.ref 52)] [] S0 M 0 0
  unfold f_Rea_requireSign at h
  refine V.aload_n dX7_requireSign_0 rfl ?_
  refine V.getR dX7_requireSign_1 fl_RX7_21 s0_52 rfl rfl ?_
  refine V.getI dX7_requireSign_4 fl_RX7_44 s0_70 rfl rfl ?_
  refine V.iconst dX7_requireSign_7 ic_3 ?_
  refine V.icmp_eq (tgt := 16) dX7_requireSign_8 (by decide) (fun hc1 => ?_) (fun hc1 => ?_)
  · replace h := ite_t hc1 h
    have e1 := inj1 h
    subst e1
    exact V.vret dX7_requireSign_16 rfl
  replace h := ite_f hc1 h
  refine V.aload_n dX7_requireSign_11 rfl ?_
  refine V.iconst dX7_requireSign_12 ic_2 ?_
  obtain ⟨M3, hv2, h⟩ := bnd_s h
  refine V.cVv dX7_requireSign_13 rfl mv_RX7_130 (ok_Rea_failHere hv2) rfl rfl s0_52 rfl (by decide) ⟨Nat.zero_le _, Nat.zero_le _⟩ (Nat.le_of_ble_eq_true rfl) (Nat.zero_le _) ?_
  have e1 := inj1 h
  subst e1
  exact V.vret dX7_requireSign_16 rfl
theorem ok_Rea_readSign {X : Sc} {l : Launch}  {M : Mem}  {M' : Mem}  (h : f_Rea_readSign M = some M') : Mt X l yX7_readSign cX7_readSign 1 none 3 0 0 [.ref 52] S0 M none S0 M' := by
  refine Mt.ofV (by decide) (Nat.le_of_ble_eq_true rfl) ?_
  show V X yX7_readSign cX7_readSign 1 none (rmD 3 0 0) l (FM none S0 M' 0 0) 0 [some (.ref 52)] [] S0 M 0 0
  unfold f_Rea_readSign at h
  refine V.aload_n dX7_readSign_0 rfl ?_
  refine V.getR dX7_readSign_1 fl_RX7_21 s0_52 rfl rfl ?_
  obtain ⟨M2, hv1, h⟩ := bnd_s h
  refine V.cVv dX7_readSign_4 rfl mv_RX7_38 (ok_Tap_nextToken hv1) rfl rfl s0_70 rfl (by decide) ⟨Nat.zero_le _, Nat.zero_le _⟩ (Nat.le_of_ble_eq_true rfl) (Nat.zero_le _) ?_
  refine V.aload_n dX7_readSign_7 rfl ?_
  obtain ⟨M4, hv3, h⟩ := bnd_s h
  refine V.cVv dX7_readSign_8 rfl mv_RX7_161 (ok_Rea_requireSign hv3) rfl rfl s0_52 rfl (by decide) ⟨Nat.zero_le _, Nat.zero_le _⟩ (Nat.le_of_ble_eq_true rfl) (Nat.zero_le _) ?_
  have e1 := inj1 h
  subst e1
  exact V.vret dX7_readSign_11 rfl
theorem okc_Rea_readRule_153 {X : Sc} {l : Launch}      {M : Mem} {M' : Mem} (h : f_Rea_readRule_J153  M = some M') : V X yX7_readRule cX7_readRule 2 none (rmD 4 0 0) l (FM none S0 M' 0 0) 153 [some (.ref 52), none] [] S0 M 0 0 := by
  unfold f_Rea_readRule_J153 at h
  refine V.aload_n dX7_readRule_153 rfl ?_
  obtain ⟨M2, hv1, h⟩ := bnd_s h
  refine V.cVv dX7_readRule_154 rfl mv_RX7_151 (ok_Rea_readSign hv1) rfl rfl s0_52 rfl (by decide) ⟨Nat.zero_le _, Nat.zero_le _⟩ (Nat.le_of_ble_eq_true rfl) (Nat.zero_le _) ?_
  have e1 := inj1 h
  subst e1
  exact V.vret dX7_readRule_157 rfl
theorem okc_Rea_readRule_17 {X : Sc} {l : Launch}     {x1 : Int32} {M : Mem} {M' : Mem} (h : f_Rea_readRule_J17  x1 M = some M') : V X yX7_readRule cX7_readRule 2 none (rmD 4 0 0) l (FM none S0 M' 0 0) 17 [some (.ref 52), some (.int x1)] [] S0 M 0 0 := by
  unfold f_Rea_readRule_J17 at h
  refine V.aload_n dX7_readRule_17 rfl ?_
  refine V.dup dX7_readRule_18 rfl ?_
  refine V.getI dX7_readRule_19 fl_RX7_25 s0_52 rfl rfl ?_
  refine V.iconst dX7_readRule_22 ic_1 ?_
  refine V.iload_n dX7_readRule_23 rfl ?_
  refine V.ishl dX7_readRule_24 ?_
  refine V.ior dX7_readRule_25 ?_
  refine V.putI dX7_readRule_26 fp_RX7_25 s0_52 rfl rfl (fun M1 hM1 => ?_)
  replace h := setM_at h M1 hM1
  refine V.iload_n dX7_readRule_29 rfl ?_
  by_cases hc2 : x1 = 0
  · replace h := ite_t hc2 h
    refine V.tabAt (off := 30) (tgt := 60) dX7_readRule_30 hc2 (by decide) (by decide) (by decide) (by decide) ?_
    refine V.aload_n dX7_readRule_60 rfl ?_
    refine V.getR dX7_readRule_61 fl_RX7_12 s0_52 rfl rfl ?_
    refine V.aload_n dX7_readRule_64 rfl ?_
    refine V.iconst dX7_readRule_65 ic_3 ?_
    refine V.bipush dX7_readRule_66 bp_9 ?_
    obtain ⟨v4, M5, hv3, h⟩ := bnd2_s h
    refine V.cVi dX7_readRule_68 rfl mv_RX7_136 (ok_Rea_readNumber hv3) rfl rfl s0_52 rfl (by decide) ⟨Nat.zero_le _, Nat.zero_le _⟩ (Nat.le_of_ble_eq_true rfl) (Nat.zero_le _) ?_
    refine V.putI dX7_readRule_71 fp_RX7_139 s0_53 rfl rfl (fun M6 hM6 => ?_)
    replace h := setM_at h M6 hM6
    refine V.aload_n dX7_readRule_74 rfl ?_
    refine V.getR dX7_readRule_75 fl_RX7_12 s0_52 rfl rfl ?_
    refine V.aload_n dX7_readRule_78 rfl ?_
    refine V.iconst dX7_readRule_79 ic_3 ?_
    refine V.bipush dX7_readRule_80 bp_9 ?_
    obtain ⟨v8, M9, hv7, h⟩ := bnd2_s h
    refine V.cVi dX7_readRule_82 rfl mv_RX7_136 (ok_Rea_readNumber hv7) rfl rfl s0_52 rfl (by decide) ⟨Nat.zero_le _, Nat.zero_le _⟩ (Nat.le_of_ble_eq_true rfl) (Nat.zero_le _) ?_
    refine V.putI dX7_readRule_85 fp_RX7_142 s0_53 rfl rfl (fun M10 hM10 => ?_)
    replace h := setM_at h M10 hM10
    refine V.goto (tgt := 153) dX7_readRule_88 (by decide) ?_
    refine V.mask [true, false] rfl ?_
    exact okc_Rea_readRule_153 h
  replace h := ite_f hc2 h
  by_cases hc11 : x1 = 1
  · replace h := ite_t hc11 h
    refine V.tabAt (off := 61) (tgt := 91) dX7_readRule_30 hc11 (by decide) (by decide) (by decide) (by decide) ?_
    refine V.aload_n dX7_readRule_91 rfl ?_
    refine V.getR dX7_readRule_92 fl_RX7_12 s0_52 rfl rfl ?_
    refine V.aload_n dX7_readRule_95 rfl ?_
    refine V.iconst dX7_readRule_96 ic_0 ?_
    refine V.bipush dX7_readRule_97 bp_20 ?_
    obtain ⟨v13, M14, hv12, h⟩ := bnd2_s h
    refine V.cVi dX7_readRule_99 rfl mv_RX7_136 (ok_Rea_readNumber hv12) rfl rfl s0_52 rfl (by decide) ⟨Nat.zero_le _, Nat.zero_le _⟩ (Nat.le_of_ble_eq_true rfl) (Nat.zero_le _) ?_
    refine V.putI dX7_readRule_102 fp_RX7_145 s0_53 rfl rfl (fun M15 hM15 => ?_)
    replace h := setM_at h M15 hM15
    refine V.goto (tgt := 153) dX7_readRule_105 (by decide) ?_
    refine V.mask [true, false] rfl ?_
    exact okc_Rea_readRule_153 h
  replace h := ite_f hc11 h
  by_cases hc16 : x1 = 2
  · replace h := ite_t hc16 h
    refine V.tabAt (off := 78) (tgt := 108) dX7_readRule_30 hc16 (by decide) (by decide) (by decide) (by decide) ?_
    refine V.aload_n dX7_readRule_108 rfl ?_
    refine V.getR dX7_readRule_109 fl_RX7_12 s0_52 rfl rfl ?_
    refine V.aload_n dX7_readRule_112 rfl ?_
    refine V.iconst dX7_readRule_113 ic_0 ?_
    refine V.bipush dX7_readRule_114 bp_50 ?_
    obtain ⟨v18, M19, hv17, h⟩ := bnd2_s h
    refine V.cVi dX7_readRule_116 rfl mv_RX7_136 (ok_Rea_readNumber hv17) rfl rfl s0_52 rfl (by decide) ⟨Nat.zero_le _, Nat.zero_le _⟩ (Nat.le_of_ble_eq_true rfl) (Nat.zero_le _) ?_
    refine V.putI dX7_readRule_119 fp_RX7_147 s0_53 rfl rfl (fun M20 hM20 => ?_)
    replace h := setM_at h M20 hM20
    refine V.goto (tgt := 153) dX7_readRule_122 (by decide) ?_
    refine V.mask [true, false] rfl ?_
    exact okc_Rea_readRule_153 h
  replace h := ite_f hc16 h
  by_cases hc21 : x1 = 3
  · replace h := ite_t hc21 h
    refine V.tabAt (off := 95) (tgt := 125) dX7_readRule_30 hc21 (by decide) (by decide) (by decide) (by decide) ?_
    refine V.aload_n dX7_readRule_125 rfl ?_
    refine V.getR dX7_readRule_126 fl_RX7_12 s0_52 rfl rfl ?_
    refine V.aload_n dX7_readRule_129 rfl ?_
    refine V.iconst dX7_readRule_130 ic_0 ?_
    refine V.bipush dX7_readRule_131 bp_9 ?_
    obtain ⟨v23, M24, hv22, h⟩ := bnd2_s h
    refine V.cVi dX7_readRule_133 rfl mv_RX7_136 (ok_Rea_readNumber hv22) rfl rfl s0_52 rfl (by decide) ⟨Nat.zero_le _, Nat.zero_le _⟩ (Nat.le_of_ble_eq_true rfl) (Nat.zero_le _) ?_
    refine V.putI dX7_readRule_136 fp_RX7_149 s0_53 rfl rfl (fun M25 hM25 => ?_)
    replace h := setM_at h M25 hM25
    refine V.goto (tgt := 153) dX7_readRule_139 (by decide) ?_
    refine V.mask [true, false] rfl ?_
    exact okc_Rea_readRule_153 h
  replace h := ite_f hc21 h
  refine V.tabOut (tgt := 142) dX7_readRule_30 (by have e0 := i32_lit (k := 0) hc2 (by decide); have e1 := i32_lit (k := 1) hc11 (by decide); have e2 := i32_lit (k := 2) hc16 (by decide); have e3 := i32_lit (k := 3) hc21 (by decide); omega) (by decide) ?_
  refine V.aload_n dX7_readRule_142 rfl ?_
  refine V.aload_n dX7_readRule_143 rfl ?_
  refine V.iconst dX7_readRule_144 ic_0 ?_
  refine V.bipush dX7_readRule_145 bp_6 ?_
  obtain ⟨v27, M28, hv26, h⟩ := bnd2_s h
  refine V.cVi dX7_readRule_147 rfl mv_RX7_136 (ok_Rea_readNumber hv26) rfl rfl s0_52 rfl (by decide) ⟨Nat.zero_le _, Nat.zero_le _⟩ (Nat.le_of_ble_eq_true rfl) (Nat.zero_le _) ?_
  refine V.putI dX7_readRule_150 fp_RX7_29 s0_52 rfl rfl (fun M29 hM29 => ?_)
  replace h := setM_at h M29 hM29
  refine V.mask [true, false] rfl ?_
  exact okc_Rea_readRule_153 h
theorem ok_Rea_readRule {X : Sc} {l : Launch}  {M : Mem} {x1 : Int32} {M' : Mem}  (h : f_Rea_readRule x1 M = some M') : Mt X l yX7_readRule cX7_readRule 2 none 4 0 0 [.ref 52, .int x1] S0 M none S0 M' := by
  refine Mt.ofV (by decide) (Nat.le_of_ble_eq_true rfl) ?_
  show V X yX7_readRule cX7_readRule 2 none (rmD 4 0 0) l (FM none S0 M' 0 0) 0 [some (.ref 52), some (.int x1)] [] S0 M 0 0
  unfold f_Rea_readRule at h
  refine V.aload_n dX7_readRule_0 rfl ?_
  refine V.getI dX7_readRule_1 fl_RX7_25 s0_52 rfl rfl ?_
  refine V.iload_n dX7_readRule_4 rfl ?_
  obtain ⟨v2, hv1, h⟩ := bnd_s h
  refine V.cSNi dX7_readRule_5 rfl wn_RX7_133 mn_RX7_133 (ok_Hal_bit hv1) rfl rfl (by decide) ⟨Nat.zero_le _, Nat.zero_le _⟩ (Nat.le_of_ble_eq_true rfl) (Nat.zero_le _) ?_
  refine V.iconst dX7_readRule_8 ic_1 ?_
  refine V.icmp_ne (tgt := 17) dX7_readRule_9 (by decide) (fun hc3 => ?_) (fun hc3 => ?_)
  · replace h := ite_f hc3 h
    exact okc_Rea_readRule_17 h
  replace h := ite_t hc3 h
  refine V.aload_n dX7_readRule_12 rfl ?_
  refine V.iconst dX7_readRule_13 ic_4 ?_
  obtain ⟨M5, hv4, h⟩ := bnd_s h
  refine V.cVv dX7_readRule_14 rfl mv_RX7_130 (ok_Rea_failHere hv4) rfl rfl s0_52 rfl (by decide) ⟨Nat.zero_le _, Nat.zero_le _⟩ (Nat.le_of_ble_eq_true rfl) (Nat.zero_le _) ?_
  exact okc_Rea_readRule_17 h
theorem ok_Rea_nameOfKind {X : Sc} {l : Launch} {sh : List Shp}  {M : Mem} {x0 : Int32} {r : Nat}  (h : f_Rea_nameOfKind x0 = some r) : Mt X l yX7_nameOfKind cX7_nameOfKind 1 (some (.object "java/lang/String")) 0 0 0 [.int x0] sh M (some (.ref r)) sh M := by
  refine Mt.ofV (by decide) (Nat.le_of_ble_eq_true rfl) ?_
  show V X yX7_nameOfKind cX7_nameOfKind 1 (some (.object "java/lang/String")) (rmD 0 0 0) l (FM (some (.ref r)) sh M 0 0) 0 [some (.int x0)] [] sh M 0 0
  unfold f_Rea_nameOfKind at h
  refine V.iload_n dX7_nameOfKind_0 rfl ?_
  by_cases hc1 : x0 = 0
  · replace h := ite_t hc1 h
    refine V.tabAt (off := 31) (tgt := 32) dX7_nameOfKind_1 hc1 (by decide) (by decide) (by decide) (by decide) ?_
    refine V.ldcS (i := 11) dX7_nameOfKind_32 rfl rfl ?_
    have e1 := inj1 h
    subst e1
    exact V.aret dX7_nameOfKind_34 rfl (Or.inl ⟨_, rfl⟩)
  replace h := ite_f hc1 h
  by_cases hc2 : x0 = 1
  · replace h := ite_t hc2 h
    refine V.tabAt (off := 34) (tgt := 35) dX7_nameOfKind_1 hc2 (by decide) (by decide) (by decide) (by decide) ?_
    refine V.ldcS (i := 12) dX7_nameOfKind_35 rfl rfl ?_
    have e1 := inj1 h
    subst e1
    exact V.aret dX7_nameOfKind_37 rfl (Or.inl ⟨_, rfl⟩)
  replace h := ite_f hc2 h
  by_cases hc3 : x0 = 2
  · replace h := ite_t hc3 h
    refine V.tabAt (off := 37) (tgt := 38) dX7_nameOfKind_1 hc3 (by decide) (by decide) (by decide) (by decide) ?_
    refine V.ldcS (i := 13) dX7_nameOfKind_38 rfl rfl ?_
    have e1 := inj1 h
    subst e1
    exact V.aret dX7_nameOfKind_40 rfl (Or.inl ⟨_, rfl⟩)
  replace h := ite_f hc3 h
  by_cases hc4 : x0 = 3
  · replace h := ite_t hc4 h
    refine V.tabAt (off := 40) (tgt := 41) dX7_nameOfKind_1 hc4 (by decide) (by decide) (by decide) (by decide) ?_
    refine V.ldcS (i := 14) dX7_nameOfKind_41 rfl rfl ?_
    have e1 := inj1 h
    subst e1
    exact V.aret dX7_nameOfKind_43 rfl (Or.inl ⟨_, rfl⟩)
  replace h := ite_f hc4 h
  refine V.tabOut (tgt := 44) dX7_nameOfKind_1 (by have e0 := i32_lit (k := 0) hc1 (by decide); have e1 := i32_lit (k := 1) hc2 (by decide); have e2 := i32_lit (k := 2) hc3 (by decide); have e3 := i32_lit (k := 3) hc4 (by decide); omega) (by decide) ?_
  refine V.ldcS (i := 15) dX7_nameOfKind_44 rfl rfl ?_
  have e1 := inj1 h
  subst e1
  exact V.aret dX7_nameOfKind_46 rfl (Or.inl ⟨_, rfl⟩)
theorem okc_Rea_readKind_9 {X : Sc} {l : Launch}     : ∀ (n : Nat) (x1 : Int32) (M : Mem) (r : Int32) (M' : Mem), f_Rea_readKind_L9  n x1 M = some (r, M') → V X yX7_readKind cX7_readKind 2 (some .int) (rmD 8 0 0) l (FM (some (.int r)) S0 M' 0 0) 9 [some (.ref 52), some (.int x1)] [] S0 M 0 0 := by
  intro n
  induction n with
  | zero =>
    intro x1 M r M' h
    rw [f_Rea_readKind_L9] at h
    cases h
  | succ n ih =>
    intro x1 M r M' h
    rw [f_Rea_readKind_L9] at h
    refine V.iload_n dX7_readKind_9 rfl ?_
    refine V.iconst dX7_readKind_10 ic_4 ?_
    refine V.icmp_gt (tgt := 43) dX7_readKind_11 (by decide) (fun hc1 => ?_) (fun hc1 => ?_)
    · replace h := ite_t hc1 h
      refine V.iconst dX7_readKind_43 ic_0 ?_
      obtain ⟨e1, e2⟩ := inj2 h
      subst e1
      subst e2
      exact V.iret dX7_readKind_44 rfl rfl
    replace h := ite_f hc1 h
    refine V.aload_n dX7_readKind_14 rfl ?_
    refine V.getR dX7_readKind_15 fl_RX7_21 s0_52 rfl rfl ?_
    refine V.iload_n dX7_readKind_18 rfl ?_
    obtain ⟨r3, hv2, h⟩ := bnd_s h
    obtain ⟨hr4, h⟩ := ck_s h
    refine V.cSr dX7_readKind_19 rfl mv_RX7_195 (ok_Rea_nameOfKind hv2) rfl rfl (by decide) ⟨Nat.zero_le _, Nat.zero_le _⟩ (Nat.le_of_ble_eq_true rfl) (Nat.zero_le _) ?_
    obtain ⟨v6, hv5, h⟩ := bnd_s h
    refine V.cVi dX7_readKind_22 rfl mv_RX7_111 (ok_Tap_isName hr4 hv5) rfl rfl s0_70 rfl (by decide) ⟨Nat.zero_le _, Nat.zero_le _⟩ (Nat.le_of_ble_eq_true rfl) (Nat.zero_le _) ?_
    refine V.if_eq (tgt := 37) dX7_readKind_25 (by decide) (fun hc7 => ?_) (fun hc7 => ?_)
    · replace h := ite_t hc7 h
      refine V.iinc dX7_readKind_37 rfl (iinc_c ic_1) (by decide) rfl ?_
      refine V.goto (tgt := 9) dX7_readKind_40 (by decide) ?_
      exact ih _ _ _ _ h
    replace h := ite_f hc7 h
    refine V.aload_n dX7_readKind_28 rfl ?_
    refine V.getR dX7_readKind_29 fl_RX7_21 s0_52 rfl rfl ?_
    obtain ⟨M9, hv8, h⟩ := bnd_s h
    refine V.cVv dX7_readKind_32 rfl mv_RX7_38 (ok_Tap_nextToken hv8) rfl rfl s0_70 rfl (by decide) ⟨Nat.zero_le _, Nat.zero_le _⟩ (Nat.le_of_ble_eq_true rfl) (Nat.zero_le _) ?_
    refine V.iload_n dX7_readKind_35 rfl ?_
    obtain ⟨e1, e2⟩ := inj2 h
    subst e1
    subst e2
    exact V.iret dX7_readKind_36 rfl rfl
theorem ok_Rea_readKind {X : Sc} {l : Launch}  {M : Mem}  {r : Int32} {M' : Mem}  (h : f_Rea_readKind M = some (r, M')) : Mt X l yX7_readKind cX7_readKind 2 (some .int) 8 0 0 [.ref 52] S0 M (some (.int r)) S0 M' := by
  refine Mt.ofV (by decide) (Nat.le_of_ble_eq_true rfl) ?_
  show V X yX7_readKind cX7_readKind 2 (some .int) (rmD 8 0 0) l (FM (some (.int r)) S0 M' 0 0) 0 [some (.ref 52), none] [] S0 M 0 0
  unfold f_Rea_readKind at h
  refine V.aload_n dX7_readKind_0 rfl ?_
  refine V.getR dX7_readKind_1 fl_RX7_21 s0_52 rfl rfl ?_
  obtain ⟨M2, hv1, h⟩ := bnd_s h
  refine V.cVv dX7_readKind_4 rfl mv_RX7_38 (ok_Tap_nextToken hv1) rfl rfl s0_70 rfl (by decide) ⟨Nat.zero_le _, Nat.zero_le _⟩ (Nat.le_of_ble_eq_true rfl) (Nat.zero_le _) ?_
  refine V.iconst dX7_readKind_7 ic_0 ?_
  refine V.istore_n dX7_readKind_8 (by decide) rfl ?_
  exact okc_Rea_readKind_9 _ _ _ _ _ h
theorem okc_Rea_readBench_20 {X : Sc} {l : Launch}      {M : Mem} {M' : Mem} (h : f_Rea_readBench_J20  M = some M') : V X yX7_readBench cX7_readBench 5 none (rmD 9 0 0) l (FM none S0 M' 0 0) 20 [some (.ref 52), none, none, none, none] [] S0 M 0 0 := by
  unfold f_Rea_readBench_J20 at h
  refine V.aload_n dX7_readBench_20 rfl ?_
  refine V.iconst dX7_readBench_21 ic_0 ?_
  refine V.bipush dX7_readBench_22 bp_8 ?_
  obtain ⟨v2, M3, hv1, h⟩ := bnd2_s h
  refine V.cVi dX7_readBench_24 rfl mv_RX7_136 (ok_Rea_readNumber hv1) rfl rfl s0_52 rfl (by decide) ⟨Nat.zero_le _, Nat.zero_le _⟩ (Nat.le_of_ble_eq_true rfl) (Nat.zero_le _) ?_
  refine V.istore_n dX7_readBench_27 (by decide) rfl ?_
  refine V.aload_n dX7_readBench_28 rfl ?_
  refine V.iconst dX7_readBench_29 ic_0 ?_
  refine V.bipush dX7_readBench_30 bp_8 ?_
  obtain ⟨v5, M6, hv4, h⟩ := bnd2_s h
  refine V.cVi dX7_readBench_32 rfl mv_RX7_136 (ok_Rea_readNumber hv4) rfl rfl s0_52 rfl (by decide) ⟨Nat.zero_le _, Nat.zero_le _⟩ (Nat.le_of_ble_eq_true rfl) (Nat.zero_le _) ?_
  refine V.istore_n dX7_readBench_35 (by decide) rfl ?_
  refine V.aload_n dX7_readBench_36 rfl ?_
  refine V.iconst dX7_readBench_37 ic_0 ?_
  refine V.bipush dX7_readBench_38 bp_7 ?_
  obtain ⟨v8, M9, hv7, h⟩ := bnd2_s h
  refine V.cVi dX7_readBench_40 rfl mv_RX7_136 (ok_Rea_readNumber hv7) rfl rfl s0_52 rfl (by decide) ⟨Nat.zero_le _, Nat.zero_le _⟩ (Nat.le_of_ble_eq_true rfl) (Nat.zero_le _) ?_
  refine V.istore_n dX7_readBench_43 (by decide) rfl ?_
  refine V.aload_n dX7_readBench_44 rfl ?_
  refine V.iconst dX7_readBench_45 ic_1 ?_
  refine V.bipush dX7_readBench_46 bp_100 ?_
  obtain ⟨v11, M12, hv10, h⟩ := bnd2_s h
  refine V.cVi dX7_readBench_48 rfl mv_RX7_136 (ok_Rea_readNumber hv10) rfl rfl s0_52 rfl (by decide) ⟨Nat.zero_le _, Nat.zero_le _⟩ (Nat.le_of_ble_eq_true rfl) (Nat.zero_le _) ?_
  refine V.istore dX7_readBench_51 (by decide) rfl ?_
  refine V.aload_n dX7_readBench_53 rfl ?_
  refine V.getR dX7_readBench_54 fl_RX7_12 s0_52 rfl rfl ?_
  refine V.getR dX7_readBench_57 fl_RX7_55 s0_53 rfl rfl ?_
  refine V.iload_n dX7_readBench_60 rfl ?_
  refine V.iload_n dX7_readBench_61 rfl ?_
  refine V.iload_n dX7_readBench_62 rfl ?_
  refine V.iload dX7_readBench_63 rfl ?_
  refine V.aload_n dX7_readBench_65 rfl ?_
  obtain ⟨v14, M15, hv13, h⟩ := bnd2_s h
  refine V.cVi dX7_readBench_66 rfl mv_RX7_154 (ok_Rea_readKind hv13) rfl rfl s0_52 rfl (by decide) ⟨Nat.zero_le _, Nat.zero_le _⟩ (Nat.le_of_ble_eq_true rfl) (Nat.zero_le _) ?_
  obtain ⟨M17, hv16, h⟩ := bnd_s h
  refine V.cVv dX7_readBench_69 rfl mv_RX7_157 (ok_Ben_add s0_Ben56 hv16) rfl rfl s0_56 rfl (by decide) ⟨Nat.zero_le _, Nat.zero_le _⟩ (Nat.le_of_ble_eq_true rfl) (Nat.zero_le _) ?_
  refine V.aload_n dX7_readBench_72 rfl ?_
  obtain ⟨M19, hv18, h⟩ := bnd_s h
  refine V.cVv dX7_readBench_73 rfl mv_RX7_161 (ok_Rea_requireSign hv18) rfl rfl s0_52 rfl (by decide) ⟨Nat.zero_le _, Nat.zero_le _⟩ (Nat.le_of_ble_eq_true rfl) (Nat.zero_le _) ?_
  have e1 := inj1 h
  subst e1
  exact V.vret dX7_readBench_76 rfl
theorem ok_Rea_readBench {X : Sc} {l : Launch}  {M : Mem}  {M' : Mem}  (h : f_Rea_readBench M = some M') : Mt X l yX7_readBench cX7_readBench 5 none 9 0 0 [.ref 52] S0 M none S0 M' := by
  refine Mt.ofV (by decide) (Nat.le_of_ble_eq_true rfl) ?_
  show V X yX7_readBench cX7_readBench 5 none (rmD 9 0 0) l (FM none S0 M' 0 0) 0 [some (.ref 52), none, none, none, none] [] S0 M 0 0
  unfold f_Rea_readBench at h
  refine V.aload_n dX7_readBench_0 rfl ?_
  refine V.getR dX7_readBench_1 fl_RX7_12 s0_52 rfl rfl ?_
  refine V.getR dX7_readBench_4 fl_RX7_55 s0_53 rfl rfl ?_
  refine V.getI dX7_readBench_7 fl_RX7_59 s0_56 rfl rfl ?_
  refine V.bipush dX7_readBench_10 bp_8 ?_
  refine V.icmp_lt (tgt := 20) dX7_readBench_12 (by decide) (fun hc1 => ?_) (fun hc1 => ?_)
  · replace h := ite_t hc1 h
    exact okc_Rea_readBench_20 h
  replace h := ite_f hc1 h
  refine V.aload_n dX7_readBench_15 rfl ?_
  refine V.iconst dX7_readBench_16 ic_5 ?_
  obtain ⟨M3, hv2, h⟩ := bnd_s h
  refine V.cVv dX7_readBench_17 rfl mv_RX7_130 (ok_Rea_failHere hv2) rfl rfl s0_52 rfl (by decide) ⟨Nat.zero_le _, Nat.zero_le _⟩ (Nat.le_of_ble_eq_true rfl) (Nat.zero_le _) ?_
  exact okc_Rea_readBench_20 h
theorem ok_Tol_setState {X : Sc} {l : Launch} {sh : List Shp} {t : Nat} {M : Mem} {x1 : Int32} {x2 : Int32} {M' : Mem} (ht : LTol sh t) (h : f_Tol_setState t x1 x2 M = some M') : Mt X l yX8_setState cX8_setState 3 none 0 0 0 [.ref t, .int x1, .int x2] sh M none sh M' := by
  refine Mt.ofV (by decide) (Nat.le_of_ble_eq_true rfl) ?_
  show V X yX8_setState cX8_setState 3 none (rmD 0 0 0) l (FM none sh M' 0 0) 0 [some (.ref t), some (.int x1), some (.int x2)] [] sh M 0 0
  unfold f_Tol_setState at h
  refine V.iload_n dX8_setState_0 rfl ?_
  refine V.if_lt (tgt := 17) dX8_setState_1 (by decide) (fun hc1 => ?_) (fun hc1 => ?_)
  · replace h := ite_t hc1 h
    have e1 := inj1 h
    subst e1
    exact V.vret dX8_setState_17 rfl
  replace h := ite_f hc1 h
  refine V.iload_n dX8_setState_4 rfl ?_
  refine V.bipush dX8_setState_5 bp_81 ?_
  refine V.icmp_ge (tgt := 17) dX8_setState_7 (by decide) (fun hc2 => ?_) (fun hc2 => ?_)
  · replace h := ite_t hc2 h
    have e1 := inj1 h
    subst e1
    exact V.vret dX8_setState_17 rfl
  replace h := ite_f hc2 h
  refine V.aload_n dX8_setState_10 rfl ?_
  refine V.getR dX8_setState_11 fl_RX8_9 (LTol.f0 ht) rfl rfl ?_
  refine V.iload_n dX8_setState_14 rfl ?_
  refine V.iload_n dX8_setState_15 rfl ?_
  obtain ⟨hb3, h⟩ := ck_s h
  refine V.iast dX8_setState_16 (LTol.f1 ht) rfl (vp_of hb3) (fun M4 hM4 => ?_)
  replace h := setM_at h M4 hM4
  have e1 := inj1 h
  subst e1
  exact V.vret dX8_setState_17 rfl
theorem okc_Rea_readDeafCell_41 {X : Sc} {l : Launch}     {x1 : Int32} {x4 : Int32} {M : Mem} {M' : Mem} (h : f_Rea_readDeafCell_J41  x1 x4 M = some M') : V X yX7_readDeafCell cX7_readDeafCell 5 none (rmD 4 0 0) l (FM none S0 M' 0 0) 41 [some (.ref 52), some (.int x1), none, none, some (.int x4)] [] S0 M 0 0 := by
  unfold f_Rea_readDeafCell_J41 at h
  refine V.aload_n dX7_readDeafCell_41 rfl ?_
  refine V.getR dX7_readDeafCell_42 fl_RX7_12 s0_52 rfl rfl ?_
  refine V.iload dX7_readDeafCell_45 rfl ?_
  refine V.iload_n dX7_readDeafCell_47 rfl ?_
  obtain ⟨M2, hv1, h⟩ := bnd_s h
  refine V.cVv dX7_readDeafCell_48 rfl mv_RX7_168 (ok_Tol_setState s0_Tol53 hv1) rfl rfl s0_53 rfl (by decide) ⟨Nat.zero_le _, Nat.zero_le _⟩ (Nat.le_of_ble_eq_true rfl) (Nat.zero_le _) ?_
  refine V.aload_n dX7_readDeafCell_51 rfl ?_
  obtain ⟨M4, hv3, h⟩ := bnd_s h
  refine V.cVv dX7_readDeafCell_52 rfl mv_RX7_151 (ok_Rea_readSign hv3) rfl rfl s0_52 rfl (by decide) ⟨Nat.zero_le _, Nat.zero_le _⟩ (Nat.le_of_ble_eq_true rfl) (Nat.zero_le _) ?_
  have e1 := inj1 h
  subst e1
  exact V.vret dX7_readDeafCell_55 rfl
theorem ok_Rea_readDeafCell {X : Sc} {l : Launch}  {M : Mem} {x1 : Int32} {M' : Mem}  (h : f_Rea_readDeafCell x1 M = some M') : Mt X l yX7_readDeafCell cX7_readDeafCell 5 none 4 0 0 [.ref 52, .int x1] S0 M none S0 M' := by
  refine Mt.ofV (by decide) (Nat.le_of_ble_eq_true rfl) ?_
  show V X yX7_readDeafCell cX7_readDeafCell 5 none (rmD 4 0 0) l (FM none S0 M' 0 0) 0 [some (.ref 52), some (.int x1), none, none, none] [] S0 M 0 0
  unfold f_Rea_readDeafCell at h
  refine V.aload_n dX7_readDeafCell_0 rfl ?_
  refine V.iconst dX7_readDeafCell_1 ic_0 ?_
  refine V.bipush dX7_readDeafCell_2 bp_8 ?_
  obtain ⟨v2, M3, hv1, h⟩ := bnd2_s h
  refine V.cVi dX7_readDeafCell_4 rfl mv_RX7_136 (ok_Rea_readNumber hv1) rfl rfl s0_52 rfl (by decide) ⟨Nat.zero_le _, Nat.zero_le _⟩ (Nat.le_of_ble_eq_true rfl) (Nat.zero_le _) ?_
  refine V.istore_n dX7_readDeafCell_7 (by decide) rfl ?_
  refine V.aload_n dX7_readDeafCell_8 rfl ?_
  refine V.iconst dX7_readDeafCell_9 ic_0 ?_
  refine V.bipush dX7_readDeafCell_10 bp_8 ?_
  obtain ⟨v5, M6, hv4, h⟩ := bnd2_s h
  refine V.cVi dX7_readDeafCell_12 rfl mv_RX7_136 (ok_Rea_readNumber hv4) rfl rfl s0_52 rfl (by decide) ⟨Nat.zero_le _, Nat.zero_le _⟩ (Nat.le_of_ble_eq_true rfl) (Nat.zero_le _) ?_
  refine V.istore_n dX7_readDeafCell_15 (by decide) rfl ?_
  refine V.bipush dX7_readDeafCell_16 bp_9 ?_
  refine V.iload_n dX7_readDeafCell_18 rfl ?_
  refine V.imul dX7_readDeafCell_19 ?_
  refine V.iload_n dX7_readDeafCell_20 rfl ?_
  refine V.iadd dX7_readDeafCell_21 ?_
  refine V.nmI (fun w7 hw7 => ?_)
  replace h := nmI_at h w7 hw7
  refine V.istore dX7_readDeafCell_22 (by decide) rfl ?_
  refine V.aload_n dX7_readDeafCell_24 rfl ?_
  refine V.getR dX7_readDeafCell_25 fl_RX7_12 s0_52 rfl rfl ?_
  refine V.iload dX7_readDeafCell_28 rfl ?_
  obtain ⟨v9, hv8, h⟩ := bnd_s h
  refine V.cVi dX7_readDeafCell_30 rfl mv_RX7_164 (ok_Tol_stateOf s0_Tol53 hv8) rfl rfl s0_53 rfl (by decide) ⟨Nat.zero_le _, Nat.zero_le _⟩ (Nat.le_of_ble_eq_true rfl) (Nat.zero_le _) ?_
  refine V.if_eq (tgt := 41) dX7_readDeafCell_33 (by decide) (fun hc10 => ?_) (fun hc10 => ?_)
  · replace h := ite_t hc10 h
    refine V.mask [true, true, false, false, true] rfl ?_
    exact okc_Rea_readDeafCell_41 h
  replace h := ite_f hc10 h
  refine V.aload_n dX7_readDeafCell_36 rfl ?_
  refine V.iconst dX7_readDeafCell_37 ic_4 ?_
  obtain ⟨M12, hv11, h⟩ := bnd_s h
  refine V.cVv dX7_readDeafCell_38 rfl mv_RX7_130 (ok_Rea_failHere hv11) rfl rfl s0_52 rfl (by decide) ⟨Nat.zero_le _, Nat.zero_le _⟩ (Nat.le_of_ble_eq_true rfl) (Nat.zero_le _) ?_
  refine V.mask [true, true, false, false, true] rfl ?_
  exact okc_Rea_readDeafCell_41 h
theorem ok_Tri_add {X : Sc} {l : Launch} {sh : List Shp} {a : Nat} {M : Mem} {x1 : Int32} {x2 : Int32} {x3 : Int32} {M' : Mem} (ha : LTri sh a) (h : f_Tri_add a x1 x2 x3 M = some M') : Mt X l yX9_add cX9_add 4 none 0 0 0 [.ref a, .int x1, .int x2, .int x3] sh M none sh M' := by
  refine Mt.ofV (by decide) (Nat.le_of_ble_eq_true rfl) ?_
  show V X yX9_add cX9_add 4 none (rmD 0 0 0) l (FM none sh M' 0 0) 0 [some (.ref a), some (.int x1), some (.int x2), some (.int x3)] [] sh M 0 0
  unfold f_Tri_add at h
  refine V.aload_n dX9_add_0 rfl ?_
  refine V.getI dX9_add_1 fl_RX9_9 (LTri.f0 ha) rfl rfl ?_
  refine V.if_lt (tgt := 16) dX9_add_4 (by decide) (fun hc1 => ?_) (fun hc1 => ?_)
  · replace h := ite_t hc1 h
    have e1 := inj1 h
    subst e1
    exact V.vret dX9_add_16 rfl
  replace h := ite_f hc1 h
  refine V.aload_n dX9_add_7 rfl ?_
  refine V.getI dX9_add_8 fl_RX9_9 (LTri.f0 ha) rfl rfl ?_
  refine V.bipush dX9_add_11 bp_12 ?_
  refine V.icmp_lt (tgt := 17) dX9_add_13 (by decide) (fun hc2 => ?_) (fun hc2 => ?_)
  · replace h := ite_t hc2 h
    refine V.aload_n dX9_add_17 rfl ?_
    refine V.getR dX9_add_18 fl_RX9_15 (LTri.f0 ha) rfl rfl ?_
    refine V.aload_n dX9_add_21 rfl ?_
    refine V.getI dX9_add_22 fl_RX9_9 (LTri.f0 ha) rfl rfl ?_
    refine V.iload_n dX9_add_25 rfl ?_
    obtain ⟨hb3, h⟩ := ck_s h
    refine V.iast dX9_add_26 (LTri.f1 ha) rfl (vp_of hb3) (fun M4 hM4 => ?_)
    replace h := setM_at h M4 hM4
    refine V.aload_n dX9_add_27 rfl ?_
    refine V.getR dX9_add_28 fl_RX9_19 (LTri.f0 ha) rfl rfl ?_
    refine V.aload_n dX9_add_31 rfl ?_
    refine V.getI dX9_add_32 fl_RX9_9 (LTri.f0 ha) rfl rfl ?_
    refine V.iload_n dX9_add_35 rfl ?_
    obtain ⟨hb5, h⟩ := ck_s h
    refine V.iast dX9_add_36 (LTri.f2 ha) rfl (vp_of hb5) (fun M6 hM6 => ?_)
    replace h := setM_at h M6 hM6
    refine V.aload_n dX9_add_37 rfl ?_
    refine V.getR dX9_add_38 fl_RX9_22 (LTri.f0 ha) rfl rfl ?_
    refine V.aload_n dX9_add_41 rfl ?_
    refine V.getI dX9_add_42 fl_RX9_9 (LTri.f0 ha) rfl rfl ?_
    refine V.iload_n dX9_add_45 rfl ?_
    obtain ⟨hb7, h⟩ := ck_s h
    refine V.iast dX9_add_46 (LTri.f3 ha) rfl (vp_of hb7) (fun M8 hM8 => ?_)
    replace h := setM_at h M8 hM8
    refine V.aload_n dX9_add_47 rfl ?_
    refine V.dup dX9_add_48 rfl ?_
    refine V.getI dX9_add_49 fl_RX9_9 (LTri.f0 ha) rfl rfl ?_
    refine V.iconst dX9_add_52 ic_1 ?_
    refine V.iadd dX9_add_53 ?_
    refine V.putI dX9_add_54 fp_RX9_9 (LTri.f0 ha) rfl rfl (fun M9 hM9 => ?_)
    replace h := setM_at h M9 hM9
    have e1 := inj1 h
    subst e1
    exact V.vret dX9_add_57 rfl
  replace h := ite_f hc2 h
  have e1 := inj1 h
  subst e1
  exact V.vret dX9_add_16 rfl
theorem okc_Rea_readWant_44 {X : Sc} {l : Launch}     {x1 : Int32} {x2 : Int32} {x3 : Int32} {M : Mem} {M' : Mem} (h : f_Rea_readWant_J44  x1 x2 x3 M = some M') : V X yX7_readWant cX7_readWant 4 none (rmD 4 0 0) l (FM none S0 M' 0 0) 44 [some (.ref 52), some (.int x1), some (.int x2), some (.int x3)] [] S0 M 0 0 := by
  unfold f_Rea_readWant_J44 at h
  refine V.aload_n dX7_readWant_44 rfl ?_
  refine V.getR dX7_readWant_45 fl_RX7_12 s0_52 rfl rfl ?_
  refine V.getR dX7_readWant_48 fl_RX7_172 s0_53 rfl rfl ?_
  refine V.iload_n dX7_readWant_51 rfl ?_
  refine V.iload_n dX7_readWant_52 rfl ?_
  refine V.iload_n dX7_readWant_53 rfl ?_
  obtain ⟨M2, hv1, h⟩ := bnd_s h
  refine V.cVv dX7_readWant_54 rfl mv_RX7_179 (ok_Tri_add s0_Tri62 hv1) rfl rfl s0_62 rfl (by decide) ⟨Nat.zero_le _, Nat.zero_le _⟩ (Nat.le_of_ble_eq_true rfl) (Nat.zero_le _) ?_
  refine V.aload_n dX7_readWant_57 rfl ?_
  obtain ⟨M4, hv3, h⟩ := bnd_s h
  refine V.cVv dX7_readWant_58 rfl mv_RX7_151 (ok_Rea_readSign hv3) rfl rfl s0_52 rfl (by decide) ⟨Nat.zero_le _, Nat.zero_le _⟩ (Nat.le_of_ble_eq_true rfl) (Nat.zero_le _) ?_
  have e1 := inj1 h
  subst e1
  exact V.vret dX7_readWant_61 rfl
theorem okc_Rea_readWant_20 {X : Sc} {l : Launch}     {x1 : Int32} {M : Mem} {M' : Mem} (h : f_Rea_readWant_J20  x1 M = some M') : V X yX7_readWant cX7_readWant 4 none (rmD 4 0 0) l (FM none S0 M' 0 0) 20 [some (.ref 52), some (.int x1), none, none] [] S0 M 0 0 := by
  unfold f_Rea_readWant_J20 at h
  refine V.aload_n dX7_readWant_20 rfl ?_
  refine V.iconst dX7_readWant_21 ic_0 ?_
  refine V.iconst dX7_readWant_22 ic_5 ?_
  obtain ⟨v2, M3, hv1, h⟩ := bnd2_s h
  refine V.cVi dX7_readWant_23 rfl mv_RX7_136 (ok_Rea_readNumber hv1) rfl rfl s0_52 rfl (by decide) ⟨Nat.zero_le _, Nat.zero_le _⟩ (Nat.le_of_ble_eq_true rfl) (Nat.zero_le _) ?_
  refine V.istore_n dX7_readWant_26 (by decide) rfl ?_
  refine V.aload_n dX7_readWant_27 rfl ?_
  refine V.iconst dX7_readWant_28 ic_0 ?_
  refine V.iconst dX7_readWant_29 ic_5 ?_
  obtain ⟨v5, M6, hv4, h⟩ := bnd2_s h
  refine V.cVi dX7_readWant_30 rfl mv_RX7_136 (ok_Rea_readNumber hv4) rfl rfl s0_52 rfl (by decide) ⟨Nat.zero_le _, Nat.zero_le _⟩ (Nat.le_of_ble_eq_true rfl) (Nat.zero_le _) ?_
  refine V.istore_n dX7_readWant_33 (by decide) rfl ?_
  refine V.iload_n dX7_readWant_34 rfl ?_
  refine V.iload_n dX7_readWant_35 rfl ?_
  refine V.icmp_ne (tgt := 44) dX7_readWant_36 (by decide) (fun hc7 => ?_) (fun hc7 => ?_)
  · replace h := ite_f hc7 h
    exact okc_Rea_readWant_44 h
  replace h := ite_t hc7 h
  refine V.aload_n dX7_readWant_39 rfl ?_
  refine V.iconst dX7_readWant_40 ic_4 ?_
  obtain ⟨M9, hv8, h⟩ := bnd_s h
  refine V.cVv dX7_readWant_41 rfl mv_RX7_130 (ok_Rea_failHere hv8) rfl rfl s0_52 rfl (by decide) ⟨Nat.zero_le _, Nat.zero_le _⟩ (Nat.le_of_ble_eq_true rfl) (Nat.zero_le _) ?_
  exact okc_Rea_readWant_44 h
theorem ok_Rea_readWant {X : Sc} {l : Launch}  {M : Mem} {x1 : Int32} {M' : Mem}  (h : f_Rea_readWant x1 M = some M') : Mt X l yX7_readWant cX7_readWant 4 none 4 0 0 [.ref 52, .int x1] S0 M none S0 M' := by
  refine Mt.ofV (by decide) (Nat.le_of_ble_eq_true rfl) ?_
  show V X yX7_readWant cX7_readWant 4 none (rmD 4 0 0) l (FM none S0 M' 0 0) 0 [some (.ref 52), some (.int x1), none, none] [] S0 M 0 0
  unfold f_Rea_readWant at h
  refine V.aload_n dX7_readWant_0 rfl ?_
  refine V.getR dX7_readWant_1 fl_RX7_12 s0_52 rfl rfl ?_
  refine V.getR dX7_readWant_4 fl_RX7_172 s0_53 rfl rfl ?_
  refine V.getI dX7_readWant_7 fl_RX7_176 s0_62 rfl rfl ?_
  refine V.bipush dX7_readWant_10 bp_8 ?_
  refine V.icmp_lt (tgt := 20) dX7_readWant_12 (by decide) (fun hc1 => ?_) (fun hc1 => ?_)
  · replace h := ite_t hc1 h
    exact okc_Rea_readWant_20 h
  replace h := ite_f hc1 h
  refine V.aload_n dX7_readWant_15 rfl ?_
  refine V.iconst dX7_readWant_16 ic_5 ?_
  obtain ⟨M3, hv2, h⟩ := bnd_s h
  refine V.cVv dX7_readWant_17 rfl mv_RX7_130 (ok_Rea_failHere hv2) rfl rfl s0_52 rfl (by decide) ⟨Nat.zero_le _, Nat.zero_le _⟩ (Nat.le_of_ble_eq_true rfl) (Nat.zero_le _) ?_
  exact okc_Rea_readWant_20 h
theorem ok_Tol_latestHour {X : Sc} {l : Launch} {sh : List Shp} {t : Nat} {M : Mem}  {r : Int32} (ht : LTol sh t) (h : f_Tol_latestHour t M = some r) : Mt X l yX8_latestHour cX8_latestHour 1 (some .int) 1 0 0 [.ref t] sh M (some (.int r)) sh M := by
  refine Mt.ofV (by decide) (Nat.le_of_ble_eq_true rfl) ?_
  show V X yX8_latestHour cX8_latestHour 1 (some .int) (rmD 1 0 0) l (FM (some (.int r)) sh M 0 0) 0 [some (.ref t)] [] sh M 0 0
  unfold f_Tol_latestHour at h
  refine V.aload_n dX8_latestHour_0 rfl ?_
  refine V.getR dX8_latestHour_1 fl_RX8_32 (LTol.f0 ht) rfl rfl ?_
  refine V.getI dX8_latestHour_4 fl_RX8_66 (LTol.f13 ht) rfl rfl ?_
  refine V.if_le (tgt := 30) dX8_latestHour_7 (by decide) (fun hc1 => ?_) (fun hc1 => ?_)
  · replace h := ite_t hc1 h
    refine V.iconst dX8_latestHour_30 ic_0 ?_
    have e1 := inj1 h
    subst e1
    exact V.iret dX8_latestHour_31 rfl rfl
  replace h := ite_f hc1 h
  refine V.aload_n dX8_latestHour_10 rfl ?_
  refine V.getR dX8_latestHour_11 fl_RX8_32 (LTol.f0 ht) rfl rfl ?_
  refine V.aload_n dX8_latestHour_14 rfl ?_
  refine V.getR dX8_latestHour_15 fl_RX8_32 (LTol.f0 ht) rfl rfl ?_
  refine V.getI dX8_latestHour_18 fl_RX8_66 (LTol.f13 ht) rfl rfl ?_
  refine V.iconst dX8_latestHour_21 ic_1 ?_
  refine V.isub dX8_latestHour_22 ?_
  refine V.iconst dX8_latestHour_23 ic_0 ?_
  obtain ⟨v3, hv2, h⟩ := bnd_s h
  refine V.cVi dX8_latestHour_24 rfl mv_RX8_96 (ok_Tri_part (LTol.s13 ht) hv2) rfl rfl (LTol.f13 ht) rfl (by decide) ⟨Nat.zero_le _, Nat.zero_le _⟩ (Nat.le_of_ble_eq_true rfl) (Nat.zero_le _) ?_
  refine V.goto (tgt := 31) dX8_latestHour_27 (by decide) ?_
  have e1 := inj1 h
  subst e1
  exact V.iret dX8_latestHour_31 rfl rfl
theorem okc_Rea_readWhisper_20 {X : Sc} {l : Launch}      {M : Mem} {M' : Mem} (h : f_Rea_readWhisper_J20  M = some M') : V X yX7_readWhisper cX7_readWhisper 3 none (rmD 4 0 0) l (FM none S0 M' 0 0) 20 [some (.ref 52), none, none] [] S0 M 0 0 := by
  unfold f_Rea_readWhisper_J20 at h
  refine V.aload_n dX7_readWhisper_20 rfl ?_
  refine V.aload_n dX7_readWhisper_21 rfl ?_
  refine V.getR dX7_readWhisper_22 fl_RX7_12 s0_52 rfl rfl ?_
  obtain ⟨v2, hv1, h⟩ := bnd_s h
  refine V.cVi dX7_readWhisper_25 rfl mv_RX7_185 (ok_Tol_latestHour s0_Tol53 hv1) rfl rfl s0_53 rfl (by decide) ⟨Nat.zero_le _, Nat.zero_le _⟩ (Nat.le_of_ble_eq_true rfl) (Nat.zero_le _) ?_
  refine V.bipush dX7_readWhisper_28 bp_11 ?_
  obtain ⟨v4, M5, hv3, h⟩ := bnd2_s h
  refine V.cVi dX7_readWhisper_30 rfl mv_RX7_136 (ok_Rea_readNumber hv3) rfl rfl s0_52 rfl (by decide) ⟨Nat.zero_le _, Nat.zero_le _⟩ (Nat.le_of_ble_eq_true rfl) (Nat.zero_le _) ?_
  refine V.istore_n dX7_readWhisper_33 (by decide) rfl ?_
  refine V.aload_n dX7_readWhisper_34 rfl ?_
  refine V.iconst dX7_readWhisper_35 ic_0 ?_
  refine V.iconst dX7_readWhisper_36 ic_5 ?_
  obtain ⟨v7, M8, hv6, h⟩ := bnd2_s h
  refine V.cVi dX7_readWhisper_37 rfl mv_RX7_136 (ok_Rea_readNumber hv6) rfl rfl s0_52 rfl (by decide) ⟨Nat.zero_le _, Nat.zero_le _⟩ (Nat.le_of_ble_eq_true rfl) (Nat.zero_le _) ?_
  refine V.istore_n dX7_readWhisper_40 (by decide) rfl ?_
  refine V.aload_n dX7_readWhisper_41 rfl ?_
  refine V.getR dX7_readWhisper_42 fl_RX7_12 s0_52 rfl rfl ?_
  refine V.getR dX7_readWhisper_45 fl_RX7_182 s0_53 rfl rfl ?_
  refine V.iload_n dX7_readWhisper_48 rfl ?_
  refine V.iload_n dX7_readWhisper_49 rfl ?_
  refine V.aload_n dX7_readWhisper_50 rfl ?_
  refine V.iconst dX7_readWhisper_51 ic_0 ?_
  refine V.bipush dX7_readWhisper_52 bp_7 ?_
  obtain ⟨v10, M11, hv9, h⟩ := bnd2_s h
  refine V.cVi dX7_readWhisper_54 rfl mv_RX7_136 (ok_Rea_readNumber hv9) rfl rfl s0_52 rfl (by decide) ⟨Nat.zero_le _, Nat.zero_le _⟩ (Nat.le_of_ble_eq_true rfl) (Nat.zero_le _) ?_
  obtain ⟨M13, hv12, h⟩ := bnd_s h
  refine V.cVv dX7_readWhisper_57 rfl mv_RX7_179 (ok_Tri_add s0_Tri66 hv12) rfl rfl s0_66 rfl (by decide) ⟨Nat.zero_le _, Nat.zero_le _⟩ (Nat.le_of_ble_eq_true rfl) (Nat.zero_le _) ?_
  refine V.aload_n dX7_readWhisper_60 rfl ?_
  obtain ⟨M15, hv14, h⟩ := bnd_s h
  refine V.cVv dX7_readWhisper_61 rfl mv_RX7_151 (ok_Rea_readSign hv14) rfl rfl s0_52 rfl (by decide) ⟨Nat.zero_le _, Nat.zero_le _⟩ (Nat.le_of_ble_eq_true rfl) (Nat.zero_le _) ?_
  have e1 := inj1 h
  subst e1
  exact V.vret dX7_readWhisper_64 rfl
theorem ok_Rea_readWhisper {X : Sc} {l : Launch}  {M : Mem}  {M' : Mem}  (h : f_Rea_readWhisper M = some M') : Mt X l yX7_readWhisper cX7_readWhisper 3 none 4 0 0 [.ref 52] S0 M none S0 M' := by
  refine Mt.ofV (by decide) (Nat.le_of_ble_eq_true rfl) ?_
  show V X yX7_readWhisper cX7_readWhisper 3 none (rmD 4 0 0) l (FM none S0 M' 0 0) 0 [some (.ref 52), none, none] [] S0 M 0 0
  unfold f_Rea_readWhisper at h
  refine V.aload_n dX7_readWhisper_0 rfl ?_
  refine V.getR dX7_readWhisper_1 fl_RX7_12 s0_52 rfl rfl ?_
  refine V.getR dX7_readWhisper_4 fl_RX7_182 s0_53 rfl rfl ?_
  refine V.getI dX7_readWhisper_7 fl_RX7_176 s0_66 rfl rfl ?_
  refine V.bipush dX7_readWhisper_10 bp_12 ?_
  refine V.icmp_lt (tgt := 20) dX7_readWhisper_12 (by decide) (fun hc1 => ?_) (fun hc1 => ?_)
  · replace h := ite_t hc1 h
    exact okc_Rea_readWhisper_20 h
  replace h := ite_f hc1 h
  refine V.aload_n dX7_readWhisper_15 rfl ?_
  refine V.iconst dX7_readWhisper_16 ic_5 ?_
  obtain ⟨M3, hv2, h⟩ := bnd_s h
  refine V.cVv dX7_readWhisper_17 rfl mv_RX7_130 (ok_Rea_failHere hv2) rfl rfl s0_52 rfl (by decide) ⟨Nat.zero_le _, Nat.zero_le _⟩ (Nat.le_of_ble_eq_true rfl) (Nat.zero_le _) ?_
  exact okc_Rea_readWhisper_20 h
theorem okc_Rea_readLine_60 {X : Sc} {l : Launch}     {x1 : Int32} {M : Mem} {M' : Mem} (h : f_Rea_readLine_J60  x1 M = some M') : V X yX7_readLine cX7_readLine 2 none (rmD 10 0 0) l (FM none S0 M' 0 0) 60 [some (.ref 52), some (.int x1)] [] S0 M 0 0 := by
  unfold f_Rea_readLine_J60 at h
  refine V.aload_n dX7_readLine_60 rfl ?_
  refine V.iload_n dX7_readLine_61 rfl ?_
  obtain ⟨M2, hv1, h⟩ := bnd_s h
  refine V.cVv dX7_readLine_62 rfl mv_RX7_115 (ok_Rea_readRule hv1) rfl rfl s0_52 rfl (by decide) ⟨Nat.zero_le _, Nat.zero_le _⟩ (Nat.le_of_ble_eq_true rfl) (Nat.zero_le _) ?_
  refine V.goto (tgt := 119) dX7_readLine_65 (by decide) ?_
  have e1 := inj1 h
  subst e1
  exact V.vret dX7_readLine_119 rfl
theorem ok_Rea_readLine {X : Sc} {l : Launch}  {M : Mem} {x1 : Int32} {M' : Mem}  (h : f_Rea_readLine x1 M = some M') : Mt X l yX7_readLine cX7_readLine 2 none 10 0 0 [.ref 52, .int x1] S0 M none S0 M' := by
  refine Mt.ofV (by decide) (Nat.le_of_ble_eq_true rfl) ?_
  show V X yX7_readLine cX7_readLine 2 none (rmD 10 0 0) l (FM none S0 M' 0 0) 0 [some (.ref 52), some (.int x1)] [] S0 M 0 0
  unfold f_Rea_readLine at h
  refine V.iload_n dX7_readLine_0 rfl ?_
  by_cases hc1 : x1 = 0
  · replace h := ite_t hc1 h
    refine V.tabAt (off := 59) (tgt := 60) dX7_readLine_1 hc1 (by decide) (by decide) (by decide) (by decide) ?_
    exact okc_Rea_readLine_60 h
  replace h := ite_f hc1 h
  by_cases hc2 : x1 = 1
  · replace h := ite_t hc2 h
    refine V.tabAt (off := 59) (tgt := 60) dX7_readLine_1 hc2 (by decide) (by decide) (by decide) (by decide) ?_
    exact okc_Rea_readLine_60 h
  replace h := ite_f hc2 h
  by_cases hc3 : x1 = 2
  · replace h := ite_t hc3 h
    refine V.tabAt (off := 59) (tgt := 60) dX7_readLine_1 hc3 (by decide) (by decide) (by decide) (by decide) ?_
    exact okc_Rea_readLine_60 h
  replace h := ite_f hc3 h
  by_cases hc4 : x1 = 3
  · replace h := ite_t hc4 h
    refine V.tabAt (off := 59) (tgt := 60) dX7_readLine_1 hc4 (by decide) (by decide) (by decide) (by decide) ?_
    exact okc_Rea_readLine_60 h
  replace h := ite_f hc4 h
  by_cases hc5 : x1 = 4
  · replace h := ite_t hc5 h
    refine V.tabAt (off := 59) (tgt := 60) dX7_readLine_1 hc5 (by decide) (by decide) (by decide) (by decide) ?_
    exact okc_Rea_readLine_60 h
  replace h := ite_f hc5 h
  by_cases hc6 : x1 = 5
  · replace h := ite_t hc6 h
    refine V.tabAt (off := 67) (tgt := 68) dX7_readLine_1 hc6 (by decide) (by decide) (by decide) (by decide) ?_
    refine V.aload_n dX7_readLine_68 rfl ?_
    obtain ⟨M8, hv7, h⟩ := bnd_s h
    refine V.cVv dX7_readLine_69 rfl mv_RX7_118 (ok_Rea_readBench hv7) rfl rfl s0_52 rfl (by decide) ⟨Nat.zero_le _, Nat.zero_le _⟩ (Nat.le_of_ble_eq_true rfl) (Nat.zero_le _) ?_
    refine V.goto (tgt := 119) dX7_readLine_72 (by decide) ?_
    have e1 := inj1 h
    subst e1
    exact V.vret dX7_readLine_119 rfl
  replace h := ite_f hc6 h
  by_cases hc9 : x1 = 6
  · replace h := ite_t hc9 h
    refine V.tabAt (off := 74) (tgt := 75) dX7_readLine_1 hc9 (by decide) (by decide) (by decide) (by decide) ?_
    refine V.aload_n dX7_readLine_75 rfl ?_
    refine V.iconst dX7_readLine_76 ic_1 ?_
    obtain ⟨M11, hv10, h⟩ := bnd_s h
    refine V.cVv dX7_readLine_77 rfl mv_RX7_121 (ok_Rea_readDeafCell hv10) rfl rfl s0_52 rfl (by decide) ⟨Nat.zero_le _, Nat.zero_le _⟩ (Nat.le_of_ble_eq_true rfl) (Nat.zero_le _) ?_
    refine V.goto (tgt := 119) dX7_readLine_80 (by decide) ?_
    have e1 := inj1 h
    subst e1
    exact V.vret dX7_readLine_119 rfl
  replace h := ite_f hc9 h
  by_cases hc12 : x1 = 7
  · replace h := ite_t hc12 h
    refine V.tabAt (off := 82) (tgt := 83) dX7_readLine_1 hc12 (by decide) (by decide) (by decide) (by decide) ?_
    refine V.aload_n dX7_readLine_83 rfl ?_
    refine V.iconst dX7_readLine_84 ic_2 ?_
    obtain ⟨M14, hv13, h⟩ := bnd_s h
    refine V.cVv dX7_readLine_85 rfl mv_RX7_121 (ok_Rea_readDeafCell hv13) rfl rfl s0_52 rfl (by decide) ⟨Nat.zero_le _, Nat.zero_le _⟩ (Nat.le_of_ble_eq_true rfl) (Nat.zero_le _) ?_
    refine V.goto (tgt := 119) dX7_readLine_88 (by decide) ?_
    have e1 := inj1 h
    subst e1
    exact V.vret dX7_readLine_119 rfl
  replace h := ite_f hc12 h
  by_cases hc15 : x1 = 8
  · replace h := ite_t hc15 h
    refine V.tabAt (off := 90) (tgt := 91) dX7_readLine_1 hc15 (by decide) (by decide) (by decide) (by decide) ?_
    refine V.aload_n dX7_readLine_91 rfl ?_
    refine V.iconst dX7_readLine_92 ic_1 ?_
    obtain ⟨M17, hv16, h⟩ := bnd_s h
    refine V.cVv dX7_readLine_93 rfl mv_RX7_124 (ok_Rea_readWant hv16) rfl rfl s0_52 rfl (by decide) ⟨Nat.zero_le _, Nat.zero_le _⟩ (Nat.le_of_ble_eq_true rfl) (Nat.zero_le _) ?_
    refine V.goto (tgt := 119) dX7_readLine_96 (by decide) ?_
    have e1 := inj1 h
    subst e1
    exact V.vret dX7_readLine_119 rfl
  replace h := ite_f hc15 h
  by_cases hc18 : x1 = 9
  · replace h := ite_t hc18 h
    refine V.tabAt (off := 98) (tgt := 99) dX7_readLine_1 hc18 (by decide) (by decide) (by decide) (by decide) ?_
    refine V.aload_n dX7_readLine_99 rfl ?_
    refine V.iconst dX7_readLine_100 ic_0 ?_
    obtain ⟨M20, hv19, h⟩ := bnd_s h
    refine V.cVv dX7_readLine_101 rfl mv_RX7_124 (ok_Rea_readWant hv19) rfl rfl s0_52 rfl (by decide) ⟨Nat.zero_le _, Nat.zero_le _⟩ (Nat.le_of_ble_eq_true rfl) (Nat.zero_le _) ?_
    refine V.goto (tgt := 119) dX7_readLine_104 (by decide) ?_
    have e1 := inj1 h
    subst e1
    exact V.vret dX7_readLine_119 rfl
  replace h := ite_f hc18 h
  by_cases hc21 : x1 = 10
  · replace h := ite_t hc21 h
    refine V.tabAt (off := 106) (tgt := 107) dX7_readLine_1 hc21 (by decide) (by decide) (by decide) (by decide) ?_
    refine V.aload_n dX7_readLine_107 rfl ?_
    obtain ⟨M23, hv22, h⟩ := bnd_s h
    refine V.cVv dX7_readLine_108 rfl mv_RX7_127 (ok_Rea_readWhisper hv22) rfl rfl s0_52 rfl (by decide) ⟨Nat.zero_le _, Nat.zero_le _⟩ (Nat.le_of_ble_eq_true rfl) (Nat.zero_le _) ?_
    refine V.goto (tgt := 119) dX7_readLine_111 (by decide) ?_
    have e1 := inj1 h
    subst e1
    exact V.vret dX7_readLine_119 rfl
  replace h := ite_f hc21 h
  refine V.tabOut (tgt := 114) dX7_readLine_1 (by have e0 := i32_lit (k := 0) hc1 (by decide); have e1 := i32_lit (k := 1) hc2 (by decide); have e2 := i32_lit (k := 2) hc3 (by decide); have e3 := i32_lit (k := 3) hc4 (by decide); have e4 := i32_lit (k := 4) hc5 (by decide); have e5 := i32_lit (k := 5) hc6 (by decide); have e6 := i32_lit (k := 6) hc9 (by decide); have e7 := i32_lit (k := 7) hc12 (by decide); have e8 := i32_lit (k := 8) hc15 (by decide); have e9 := i32_lit (k := 9) hc18 (by decide); have e10 := i32_lit (k := 10) hc21 (by decide); omega) (by decide) ?_
  refine V.aload_n dX7_readLine_114 rfl ?_
  refine V.iconst dX7_readLine_115 ic_2 ?_
  obtain ⟨M25, hv24, h⟩ := bnd_s h
  refine V.cVv dX7_readLine_116 rfl mv_RX7_130 (ok_Rea_failHere hv24) rfl rfl s0_52 rfl (by decide) ⟨Nat.zero_le _, Nat.zero_le _⟩ (Nat.le_of_ble_eq_true rfl) (Nat.zero_le _) ?_
  have e1 := inj1 h
  subst e1
  exact V.vret dX7_readLine_119 rfl
theorem okc_Rea_anyCellMissing_2 {X : Sc} {l : Launch}   {M : Mem}   : ∀ (n : Nat) (x1 : Int32) (r : Int32), f_Rea_anyCellMissing_L2 M n x1 = some r → V X yX7_anyCellMissing cX7_anyCellMissing 2 (some .boolean) (rmD 1 0 0) l (FM (some (.int r)) S0 M 0 0) 2 [some (.ref 52), some (.int x1)] [] S0 M 0 0 := by
  intro n
  induction n with
  | zero =>
    intro x1 r h
    rw [f_Rea_anyCellMissing_L2] at h
    cases h
  | succ n ih =>
    intro x1 r h
    rw [f_Rea_anyCellMissing_L2] at h
    refine V.iload_n dX7_anyCellMissing_2 rfl ?_
    refine V.bipush dX7_anyCellMissing_3 bp_81 ?_
    refine V.icmp_ge (tgt := 52) dX7_anyCellMissing_5 (by decide) (fun hc1 => ?_) (fun hc1 => ?_)
    · replace h := ite_t hc1 h
      refine V.iconst dX7_anyCellMissing_52 ic_0 ?_
      have e1 := inj1 h
      subst e1
      exact V.iret dX7_anyCellMissing_53 rfl rfl
    replace h := ite_f hc1 h
    refine V.aload_n dX7_anyCellMissing_8 rfl ?_
    refine V.getR dX7_anyCellMissing_9 fl_RX7_12 s0_52 rfl rfl ?_
    refine V.iload_n dX7_anyCellMissing_12 rfl ?_
    obtain ⟨v3, hv2, h⟩ := bnd_s h
    refine V.cVi dX7_anyCellMissing_13 rfl mv_RX7_218 (ok_Tol_isCell s0_Tol53 hv2) rfl rfl s0_53 rfl (by decide) ⟨Nat.zero_le _, Nat.zero_le _⟩ (Nat.le_of_ble_eq_true rfl) (Nat.zero_le _) ?_
    refine V.if_ne (tgt := 46) dX7_anyCellMissing_16 (by decide) (fun hc4 => ?_) (fun hc4 => ?_)
    · replace h := ite_f hc4 h
      refine V.iinc dX7_anyCellMissing_46 rfl (iinc_c ic_1) (by decide) rfl ?_
      refine V.goto (tgt := 2) dX7_anyCellMissing_49 (by decide) ?_
      exact ih _ _ h
    replace h := ite_t hc4 h
    refine V.aload_n dX7_anyCellMissing_19 rfl ?_
    refine V.getR dX7_anyCellMissing_20 fl_RX7_12 s0_52 rfl rfl ?_
    refine V.iload_n dX7_anyCellMissing_23 rfl ?_
    obtain ⟨v6, hv5, h⟩ := bnd_s h
    refine V.cVi dX7_anyCellMissing_24 rfl mv_RX7_164 (ok_Tol_stateOf s0_Tol53 hv5) rfl rfl s0_53 rfl (by decide) ⟨Nat.zero_le _, Nat.zero_le _⟩ (Nat.le_of_ble_eq_true rfl) (Nat.zero_le _) ?_
    refine V.if_ne (tgt := 44) dX7_anyCellMissing_27 (by decide) (fun hc7 => ?_) (fun hc7 => ?_)
    · replace h := ite_f hc7 h
      refine V.iconst dX7_anyCellMissing_44 ic_1 ?_
      have e1 := inj1 h
      subst e1
      exact V.iret dX7_anyCellMissing_45 rfl rfl
    replace h := ite_t hc7 h
    refine V.aload_n dX7_anyCellMissing_30 rfl ?_
    refine V.getR dX7_anyCellMissing_31 fl_RX7_12 s0_52 rfl rfl ?_
    refine V.getR dX7_anyCellMissing_34 fl_RX7_55 s0_53 rfl rfl ?_
    refine V.iload_n dX7_anyCellMissing_37 rfl ?_
    obtain ⟨v9, hv8, h⟩ := bnd_s h
    refine V.cVi dX7_anyCellMissing_38 rfl mv_RX7_214 (ok_Ben_anyPutOn s0_Ben56 hv8) rfl rfl s0_56 rfl (by decide) ⟨Nat.zero_le _, Nat.zero_le _⟩ (Nat.le_of_ble_eq_true rfl) (Nat.zero_le _) ?_
    refine V.if_eq (tgt := 46) dX7_anyCellMissing_41 (by decide) (fun hc10 => ?_) (fun hc10 => ?_)
    · replace h := ite_t hc10 h
      refine V.iinc dX7_anyCellMissing_46 rfl (iinc_c ic_1) (by decide) rfl ?_
      refine V.goto (tgt := 2) dX7_anyCellMissing_49 (by decide) ?_
      exact ih _ _ h
    replace h := ite_f hc10 h
    refine V.iconst dX7_anyCellMissing_44 ic_1 ?_
    have e1 := inj1 h
    subst e1
    exact V.iret dX7_anyCellMissing_45 rfl rfl
theorem ok_Rea_anyCellMissing {X : Sc} {l : Launch}  {M : Mem}  {r : Int32}  (h : f_Rea_anyCellMissing M = some r) : Mt X l yX7_anyCellMissing cX7_anyCellMissing 2 (some .boolean) 1 0 0 [.ref 52] S0 M (some (.int r)) S0 M := by
  refine Mt.ofV (by decide) (Nat.le_of_ble_eq_true rfl) ?_
  show V X yX7_anyCellMissing cX7_anyCellMissing 2 (some .boolean) (rmD 1 0 0) l (FM (some (.int r)) S0 M 0 0) 0 [some (.ref 52), none] [] S0 M 0 0
  unfold f_Rea_anyCellMissing at h
  refine V.iconst dX7_anyCellMissing_0 ic_0 ?_
  refine V.istore_n dX7_anyCellMissing_1 (by decide) rfl ?_
  exact okc_Rea_anyCellMissing_2 _ _ _ h
theorem okc_Rea_anyOneMissing_70 {X : Sc} {l : Launch}   {M : Mem}   : ∀ (n : Nat) (x1 : Int32) (r : Int32), f_Rea_anyOneMissing_L70 M n x1 = some r → V X yX7_anyOneMissing cX7_anyOneMissing 2 (some .boolean) (rmD 1 0 0) l (FM (some (.int r)) S0 M 0 0) 70 [some (.ref 52), some (.int x1)] [] S0 M 0 0 := by
  intro n
  induction n with
  | zero =>
    intro x1 r h
    rw [f_Rea_anyOneMissing_L70] at h
    cases h
  | succ n ih =>
    intro x1 r h
    rw [f_Rea_anyOneMissing_L70] at h
    refine V.iload_n dX7_anyOneMissing_70 rfl ?_
    refine V.aload_n dX7_anyOneMissing_71 rfl ?_
    refine V.getR dX7_anyOneMissing_72 fl_RX7_12 s0_52 rfl rfl ?_
    refine V.getR dX7_anyOneMissing_75 fl_RX7_182 s0_53 rfl rfl ?_
    refine V.getI dX7_anyOneMissing_78 fl_RX7_176 s0_66 rfl rfl ?_
    refine V.icmp_ge (tgt := 114) dX7_anyOneMissing_81 (by decide) (fun hc1 => ?_) (fun hc1 => ?_)
    · replace h := ite_t hc1 h
      refine V.iconst dX7_anyOneMissing_114 ic_0 ?_
      have e1 := inj1 h
      subst e1
      exact V.iret dX7_anyOneMissing_115 rfl rfl
    replace h := ite_f hc1 h
    refine V.aload_n dX7_anyOneMissing_84 rfl ?_
    refine V.getR dX7_anyOneMissing_85 fl_RX7_12 s0_52 rfl rfl ?_
    refine V.getR dX7_anyOneMissing_88 fl_RX7_182 s0_53 rfl rfl ?_
    refine V.iload_n dX7_anyOneMissing_91 rfl ?_
    refine V.iconst dX7_anyOneMissing_92 ic_1 ?_
    obtain ⟨v3, hv2, h⟩ := bnd_s h
    refine V.cVi dX7_anyOneMissing_93 rfl mv_RX7_221 (ok_Tri_part s0_Tri66 hv2) rfl rfl s0_66 rfl (by decide) ⟨Nat.zero_le _, Nat.zero_le _⟩ (Nat.le_of_ble_eq_true rfl) (Nat.zero_le _) ?_
    refine V.aload_n dX7_anyOneMissing_96 rfl ?_
    refine V.getR dX7_anyOneMissing_97 fl_RX7_12 s0_52 rfl rfl ?_
    refine V.getI dX7_anyOneMissing_100 fl_RX7_70 s0_53 rfl rfl ?_
    refine V.icmp_lt (tgt := 108) dX7_anyOneMissing_103 (by decide) (fun hc4 => ?_) (fun hc4 => ?_)
    · replace h := ite_t hc4 h
      refine V.iinc dX7_anyOneMissing_108 rfl (iinc_c ic_1) (by decide) rfl ?_
      refine V.goto (tgt := 70) dX7_anyOneMissing_111 (by decide) ?_
      exact ih _ _ h
    replace h := ite_f hc4 h
    refine V.iconst dX7_anyOneMissing_106 ic_1 ?_
    have e1 := inj1 h
    subst e1
    exact V.iret dX7_anyOneMissing_107 rfl rfl
theorem okc_Rea_anyOneMissing_2 {X : Sc} {l : Launch}   {M : Mem}   : ∀ (n : Nat) (x1 : Int32) (r : Int32), f_Rea_anyOneMissing_L2 M n x1 = some r → V X yX7_anyOneMissing cX7_anyOneMissing 2 (some .boolean) (rmD 1 0 0) l (FM (some (.int r)) S0 M 0 0) 2 [some (.ref 52), some (.int x1)] [] S0 M 0 0 := by
  intro n
  induction n with
  | zero =>
    intro x1 r h
    rw [f_Rea_anyOneMissing_L2] at h
    cases h
  | succ n ih =>
    intro x1 r h
    rw [f_Rea_anyOneMissing_L2] at h
    refine V.iload_n dX7_anyOneMissing_2 rfl ?_
    refine V.aload_n dX7_anyOneMissing_3 rfl ?_
    refine V.getR dX7_anyOneMissing_4 fl_RX7_12 s0_52 rfl rfl ?_
    refine V.getR dX7_anyOneMissing_7 fl_RX7_172 s0_53 rfl rfl ?_
    refine V.getI dX7_anyOneMissing_10 fl_RX7_176 s0_62 rfl rfl ?_
    refine V.icmp_ge (tgt := 68) dX7_anyOneMissing_13 (by decide) (fun hc1 => ?_) (fun hc1 => ?_)
    · replace h := ite_t hc1 h
      refine V.iconst dX7_anyOneMissing_68 ic_0 ?_
      refine V.istore_n dX7_anyOneMissing_69 (by decide) rfl ?_
      exact okc_Rea_anyOneMissing_70 _ _ _ h
    replace h := ite_f hc1 h
    refine V.aload_n dX7_anyOneMissing_16 rfl ?_
    refine V.getR dX7_anyOneMissing_17 fl_RX7_12 s0_52 rfl rfl ?_
    refine V.getR dX7_anyOneMissing_20 fl_RX7_172 s0_53 rfl rfl ?_
    refine V.iload_n dX7_anyOneMissing_23 rfl ?_
    refine V.iconst dX7_anyOneMissing_24 ic_0 ?_
    obtain ⟨v3, hv2, h⟩ := bnd_s h
    refine V.cVi dX7_anyOneMissing_25 rfl mv_RX7_221 (ok_Tri_part s0_Tri62 hv2) rfl rfl s0_62 rfl (by decide) ⟨Nat.zero_le _, Nat.zero_le _⟩ (Nat.le_of_ble_eq_true rfl) (Nat.zero_le _) ?_
    refine V.aload_n dX7_anyOneMissing_28 rfl ?_
    refine V.getR dX7_anyOneMissing_29 fl_RX7_12 s0_52 rfl rfl ?_
    refine V.getI dX7_anyOneMissing_32 fl_RX7_70 s0_53 rfl rfl ?_
    refine V.icmp_ge (tgt := 60) dX7_anyOneMissing_35 (by decide) (fun hc4 => ?_) (fun hc4 => ?_)
    · replace h := ite_t hc4 h
      refine V.iconst dX7_anyOneMissing_60 ic_1 ?_
      have e1 := inj1 h
      subst e1
      exact V.iret dX7_anyOneMissing_61 rfl rfl
    replace h := ite_f hc4 h
    refine V.aload_n dX7_anyOneMissing_38 rfl ?_
    refine V.getR dX7_anyOneMissing_39 fl_RX7_12 s0_52 rfl rfl ?_
    refine V.getR dX7_anyOneMissing_42 fl_RX7_172 s0_53 rfl rfl ?_
    refine V.iload_n dX7_anyOneMissing_45 rfl ?_
    refine V.iconst dX7_anyOneMissing_46 ic_1 ?_
    obtain ⟨v6, hv5, h⟩ := bnd_s h
    refine V.cVi dX7_anyOneMissing_47 rfl mv_RX7_221 (ok_Tri_part s0_Tri62 hv5) rfl rfl s0_62 rfl (by decide) ⟨Nat.zero_le _, Nat.zero_le _⟩ (Nat.le_of_ble_eq_true rfl) (Nat.zero_le _) ?_
    refine V.aload_n dX7_anyOneMissing_50 rfl ?_
    refine V.getR dX7_anyOneMissing_51 fl_RX7_12 s0_52 rfl rfl ?_
    refine V.getI dX7_anyOneMissing_54 fl_RX7_70 s0_53 rfl rfl ?_
    refine V.icmp_lt (tgt := 62) dX7_anyOneMissing_57 (by decide) (fun hc7 => ?_) (fun hc7 => ?_)
    · replace h := ite_t hc7 h
      refine V.iinc dX7_anyOneMissing_62 rfl (iinc_c ic_1) (by decide) rfl ?_
      refine V.goto (tgt := 2) dX7_anyOneMissing_65 (by decide) ?_
      exact ih _ _ h
    replace h := ite_f hc7 h
    refine V.iconst dX7_anyOneMissing_60 ic_1 ?_
    have e1 := inj1 h
    subst e1
    exact V.iret dX7_anyOneMissing_61 rfl rfl
theorem ok_Rea_anyOneMissing {X : Sc} {l : Launch}  {M : Mem}  {r : Int32}  (h : f_Rea_anyOneMissing M = some r) : Mt X l yX7_anyOneMissing cX7_anyOneMissing 2 (some .boolean) 1 0 0 [.ref 52] S0 M (some (.int r)) S0 M := by
  refine Mt.ofV (by decide) (Nat.le_of_ble_eq_true rfl) ?_
  show V X yX7_anyOneMissing cX7_anyOneMissing 2 (some .boolean) (rmD 1 0 0) l (FM (some (.int r)) S0 M 0 0) 0 [some (.ref 52), none] [] S0 M 0 0
  unfold f_Rea_anyOneMissing at h
  refine V.iconst dX7_anyOneMissing_0 ic_0 ?_
  refine V.istore_n dX7_anyOneMissing_1 (by decide) rfl ?_
  exact okc_Rea_anyOneMissing_2 _ _ _ h
theorem okc_Rea_checkAll_52 {X : Sc} {l : Launch}     : ∀ (n : Nat) (x1 : Int32) (M : Mem) (M' : Mem), f_Rea_checkAll_L52  n x1 M = some M' → V X yX7_checkAll cX7_checkAll 2 none (rmD 2 0 0) l (FM none S0 M' 0 0) 52 [some (.ref 52), some (.int x1)] [] S0 M 0 0 := by
  intro n
  induction n with
  | zero =>
    intro x1 M M' h
    rw [f_Rea_checkAll_L52] at h
    cases h
  | succ n ih =>
    intro x1 M M' h
    rw [f_Rea_checkAll_L52] at h
    refine V.iload_n dX7_checkAll_52 rfl ?_
    refine V.bipush dX7_checkAll_53 bp_81 ?_
    refine V.icmp_ge (tgt := 105) dX7_checkAll_55 (by decide) (fun hc1 => ?_) (fun hc1 => ?_)
    · replace h := ite_t hc1 h
      have e1 := inj1 h
      subst e1
      exact V.vret dX7_checkAll_105 rfl
    replace h := ite_f hc1 h
    refine V.aload_n dX7_checkAll_58 rfl ?_
    refine V.getR dX7_checkAll_59 fl_RX7_12 s0_52 rfl rfl ?_
    refine V.iload_n dX7_checkAll_62 rfl ?_
    obtain ⟨v3, hv2, h⟩ := bnd_s h
    refine V.cVi dX7_checkAll_63 rfl mv_RX7_164 (ok_Tol_stateOf s0_Tol53 hv2) rfl rfl s0_53 rfl (by decide) ⟨Nat.zero_le _, Nat.zero_le _⟩ (Nat.le_of_ble_eq_true rfl) (Nat.zero_le _) ?_
    refine V.if_eq (tgt := 99) dX7_checkAll_66 (by decide) (fun hc4 => ?_) (fun hc4 => ?_)
    · replace h := ite_t hc4 h
      refine V.iinc dX7_checkAll_99 rfl (iinc_c ic_1) (by decide) rfl ?_
      refine V.goto (tgt := 52) dX7_checkAll_102 (by decide) ?_
      exact ih _ _ _ h
    replace h := ite_f hc4 h
    refine V.aload_n dX7_checkAll_69 rfl ?_
    refine V.getR dX7_checkAll_70 fl_RX7_12 s0_52 rfl rfl ?_
    refine V.getR dX7_checkAll_73 fl_RX7_55 s0_53 rfl rfl ?_
    refine V.iload_n dX7_checkAll_76 rfl ?_
    obtain ⟨v6, hv5, h⟩ := bnd_s h
    refine V.cVi dX7_checkAll_77 rfl mv_RX7_214 (ok_Ben_anyPutOn s0_Ben56 hv5) rfl rfl s0_56 rfl (by decide) ⟨Nat.zero_le _, Nat.zero_le _⟩ (Nat.le_of_ble_eq_true rfl) (Nat.zero_le _) ?_
    refine V.if_eq (tgt := 99) dX7_checkAll_80 (by decide) (fun hc7 => ?_) (fun hc7 => ?_)
    · replace h := ite_t hc7 h
      refine V.iinc dX7_checkAll_99 rfl (iinc_c ic_1) (by decide) rfl ?_
      refine V.goto (tgt := 52) dX7_checkAll_102 (by decide) ?_
      exact ih _ _ _ h
    replace h := ite_f hc7 h
    refine V.aload_n dX7_checkAll_83 rfl ?_
    refine V.getR dX7_checkAll_84 fl_RX7_21 s0_52 rfl rfl ?_
    refine V.bipush dX7_checkAll_87 bp_7 ?_
    refine V.aload_n dX7_checkAll_89 rfl ?_
    refine V.getR dX7_checkAll_90 fl_RX7_21 s0_52 rfl rfl ?_
    refine V.getI dX7_checkAll_93 fl_RX7_211 s0_70 rfl rfl ?_
    obtain ⟨M9, hv8, h⟩ := bnd_s h
    refine V.cVv dX7_checkAll_96 rfl mv_RX7_201 (ok_Tap_fail hv8) rfl rfl s0_70 rfl (by decide) ⟨Nat.zero_le _, Nat.zero_le _⟩ (Nat.le_of_ble_eq_true rfl) (Nat.zero_le _) ?_
    refine V.iinc dX7_checkAll_99 rfl (iinc_c ic_1) (by decide) rfl ?_
    refine V.goto (tgt := 52) dX7_checkAll_102 (by decide) ?_
    exact ih _ _ _ h
theorem okc_Rea_checkAll_50 {X : Sc} {l : Launch}      {M : Mem} {M' : Mem} (h : f_Rea_checkAll_J50  M = some M') : V X yX7_checkAll cX7_checkAll 2 none (rmD 2 0 0) l (FM none S0 M' 0 0) 50 [some (.ref 52), none] [] S0 M 0 0 := by
  unfold f_Rea_checkAll_J50 at h
  refine V.iconst dX7_checkAll_50 ic_0 ?_
  refine V.istore_n dX7_checkAll_51 (by decide) rfl ?_
  exact okc_Rea_checkAll_52 _ _ _ _ h
theorem okc_Rea_checkAll_34 {X : Sc} {l : Launch}      {M : Mem} {M' : Mem} (h : f_Rea_checkAll_J34  M = some M') : V X yX7_checkAll cX7_checkAll 2 none (rmD 2 0 0) l (FM none S0 M' 0 0) 34 [some (.ref 52), none] [] S0 M 0 0 := by
  unfold f_Rea_checkAll_J34 at h
  refine V.aload_n dX7_checkAll_34 rfl ?_
  refine V.getR dX7_checkAll_35 fl_RX7_21 s0_52 rfl rfl ?_
  refine V.bipush dX7_checkAll_38 bp_6 ?_
  refine V.aload_n dX7_checkAll_40 rfl ?_
  refine V.getR dX7_checkAll_41 fl_RX7_21 s0_52 rfl rfl ?_
  refine V.getI dX7_checkAll_44 fl_RX7_211 s0_70 rfl rfl ?_
  obtain ⟨M2, hv1, h⟩ := bnd_s h
  refine V.cVv dX7_checkAll_47 rfl mv_RX7_201 (ok_Tap_fail hv1) rfl rfl s0_70 rfl (by decide) ⟨Nat.zero_le _, Nat.zero_le _⟩ (Nat.le_of_ble_eq_true rfl) (Nat.zero_le _) ?_
  exact okc_Rea_checkAll_50 h
theorem ok_Rea_checkAll {X : Sc} {l : Launch}  {M : Mem}  {M' : Mem}  (h : f_Rea_checkAll M = some M') : Mt X l yX7_checkAll cX7_checkAll 2 none 2 0 0 [.ref 52] S0 M none S0 M' := by
  refine Mt.ofV (by decide) (Nat.le_of_ble_eq_true rfl) ?_
  show V X yX7_checkAll cX7_checkAll 2 none (rmD 2 0 0) l (FM none S0 M' 0 0) 0 [some (.ref 52), none] [] S0 M 0 0
  unfold f_Rea_checkAll at h
  refine V.aload_n dX7_checkAll_0 rfl ?_
  obtain ⟨v2, hv1, h⟩ := bnd_s h
  refine V.cVi dX7_checkAll_1 rfl mv_RX7_204 (ok_Rea_anyCellMissing hv1) rfl rfl s0_52 rfl (by decide) ⟨Nat.zero_le _, Nat.zero_le _⟩ (Nat.le_of_ble_eq_true rfl) (Nat.zero_le _) ?_
  refine V.if_ne (tgt := 34) dX7_checkAll_4 (by decide) (fun hc3 => ?_) (fun hc3 => ?_)
  · replace h := ite_f hc3 h
    exact okc_Rea_checkAll_34 h
  replace h := ite_t hc3 h
  refine V.aload_n dX7_checkAll_7 rfl ?_
  obtain ⟨v5, hv4, h⟩ := bnd_s h
  refine V.cVi dX7_checkAll_8 rfl mv_RX7_208 (ok_Rea_anyOneMissing hv4) rfl rfl s0_52 rfl (by decide) ⟨Nat.zero_le _, Nat.zero_le _⟩ (Nat.le_of_ble_eq_true rfl) (Nat.zero_le _) ?_
  refine V.if_ne (tgt := 34) dX7_checkAll_11 (by decide) (fun hc6 => ?_) (fun hc6 => ?_)
  · replace h := ite_f hc6 h
    exact okc_Rea_checkAll_34 h
  replace h := ite_t hc6 h
  refine V.aload_n dX7_checkAll_14 rfl ?_
  refine V.getR dX7_checkAll_15 fl_RX7_12 s0_52 rfl rfl ?_
  refine V.getI dX7_checkAll_18 fl_RX7_70 s0_53 rfl rfl ?_
  refine V.aload_n dX7_checkAll_21 rfl ?_
  refine V.getR dX7_checkAll_22 fl_RX7_12 s0_52 rfl rfl ?_
  refine V.getR dX7_checkAll_25 fl_RX7_55 s0_53 rfl rfl ?_
  refine V.getI dX7_checkAll_28 fl_RX7_59 s0_56 rfl rfl ?_
  refine V.icmp_le (tgt := 50) dX7_checkAll_31 (by decide) (fun hc7 => ?_) (fun hc7 => ?_)
  · replace h := ite_t hc7 h
    exact okc_Rea_checkAll_50 h
  replace h := ite_f hc7 h
  exact okc_Rea_checkAll_34 h
theorem okc_Rea_readLines_116 {X : Sc} {l : Launch}     {x1 : Int32} {s1 : Int32} {M : Mem} {r : Int32} {M' : Mem} (h : f_Rea_readLines_J116  x1 s1 M = some (r, M')) : V X yX7_readLines cX7_readLines 2 (some .int) (rmD 11 0 0) l (FM (some (.int r)) S0 M' 0 0) 116 [some (.ref 52), some (.int x1)] [.int s1, .ref 53] S0 M 0 0 := by
  unfold f_Rea_readLines_J116 at h
  refine V.putI dX7_readLines_116 fp_RX7_70 s0_53 rfl rfl (fun M1 hM1 => ?_)
  replace h := setM_at h M1 hM1
  refine V.aload_n dX7_readLines_119 rfl ?_
  obtain ⟨M3, hv2, h⟩ := bnd_s h
  refine V.cVv dX7_readLines_120 rfl mv_RX7_73 (ok_Rea_checkAll hv2) rfl rfl s0_52 rfl (by decide) ⟨Nat.zero_le _, Nat.zero_le _⟩ (Nat.le_of_ble_eq_true rfl) (Nat.zero_le _) ?_
  refine V.iload_n dX7_readLines_123 rfl ?_
  obtain ⟨e1, e2⟩ := inj2 h
  subst e1
  subst e2
  exact V.iret dX7_readLines_124 rfl rfl
theorem okc_Rea_readLines_82 {X : Sc} {l : Launch}     {x1 : Int32} {M : Mem} {r : Int32} {M' : Mem} (h : f_Rea_readLines_J82  x1 M = some (r, M')) : V X yX7_readLines cX7_readLines 2 (some .int) (rmD 11 0 0) l (FM (some (.int r)) S0 M' 0 0) 82 [some (.ref 52), some (.int x1)] [] S0 M 0 0 := by
  unfold f_Rea_readLines_J82 at h
  refine V.aload_n dX7_readLines_82 rfl ?_
  refine V.getR dX7_readLines_83 fl_RX7_12 s0_52 rfl rfl ?_
  refine V.aload_n dX7_readLines_86 rfl ?_
  refine V.getI dX7_readLines_87 fl_RX7_29 s0_52 rfl rfl ?_
  refine V.iconst dX7_readLines_90 ic_m1 ?_
  refine V.icmp_ne (tgt := 112) dX7_readLines_91 (by decide) (fun hc1 => ?_) (fun hc1 => ?_)
  · replace h := ite_f hc1 h
    refine V.aload_n dX7_readLines_112 rfl ?_
    refine V.getI dX7_readLines_113 fl_RX7_29 s0_52 rfl rfl ?_
    exact okc_Rea_readLines_116 h
  replace h := ite_t hc1 h
  refine V.aload_n dX7_readLines_94 rfl ?_
  refine V.getR dX7_readLines_95 fl_RX7_12 s0_52 rfl rfl ?_
  refine V.getR dX7_readLines_98 fl_RX7_55 s0_53 rfl rfl ?_
  refine V.getI dX7_readLines_101 fl_RX7_59 s0_56 rfl rfl ?_
  refine V.bipush dX7_readLines_104 bp_6 ?_
  refine V.mmin dX7_readLines_106 rfl mv_RX7_64 (by decide) (Nat.le_of_ble_eq_true rfl) ?_
  refine V.goto (tgt := 116) dX7_readLines_109 (by decide) ?_
  exact okc_Rea_readLines_116 h
theorem okc_Rea_readLines_33 {X : Sc} {l : Launch}     : ∀ (n : Nat) (x1 : Int32) (M : Mem) (r : Int32) (M' : Mem), f_Rea_readLines_L33  n x1 M = some (r, M') → V X yX7_readLines cX7_readLines 2 (some .int) (rmD 11 0 0) l (FM (some (.int r)) S0 M' 0 0) 33 [some (.ref 52), some (.int x1)] [] S0 M 0 0 := by
  intro n
  induction n with
  | zero =>
    intro x1 M r M' h
    rw [f_Rea_readLines_L33] at h
    cases h
  | succ n ih =>
    intro x1 M r M' h
    rw [f_Rea_readLines_L33] at h
    refine V.aload_n dX7_readLines_33 rfl ?_
    refine V.getR dX7_readLines_34 fl_RX7_21 s0_52 rfl rfl ?_
    refine V.getI dX7_readLines_37 fl_RX7_41 s0_70 rfl rfl ?_
    refine V.if_ne (tgt := 82) dX7_readLines_40 (by decide) (fun hc1 => ?_) (fun hc1 => ?_)
    · replace h := ite_f hc1 h
      exact okc_Rea_readLines_82 h
    replace h := ite_t hc1 h
    refine V.aload_n dX7_readLines_43 rfl ?_
    refine V.getR dX7_readLines_44 fl_RX7_21 s0_52 rfl rfl ?_
    refine V.getI dX7_readLines_47 fl_RX7_44 s0_70 rfl rfl ?_
    refine V.iconst dX7_readLines_50 ic_4 ?_
    refine V.icmp_eq (tgt := 82) dX7_readLines_51 (by decide) (fun hc2 => ?_) (fun hc2 => ?_)
    · replace h := ite_t hc2 h
      exact okc_Rea_readLines_82 h
    replace h := ite_f hc2 h
    refine V.iload_n dX7_readLines_54 rfl ?_
    refine V.sipush dX7_readLines_55 sp_320 ?_
    refine V.icmp_gt (tgt := 82) dX7_readLines_58 (by decide) (fun hc3 => ?_) (fun hc3 => ?_)
    · replace h := ite_t hc3 h
      exact okc_Rea_readLines_82 h
    replace h := ite_f hc3 h
    refine V.aload_n dX7_readLines_61 rfl ?_
    refine V.aload_n dX7_readLines_62 rfl ?_
    obtain ⟨v5, hv4, h⟩ := bnd_s h
    refine V.cVi dX7_readLines_63 rfl mv_RX7_47 (ok_Rea_lineBegun hv4) rfl rfl s0_52 rfl (by decide) ⟨Nat.zero_le _, Nat.zero_le _⟩ (Nat.le_of_ble_eq_true rfl) (Nat.zero_le _) ?_
    obtain ⟨M7, hv6, h⟩ := bnd_s h
    refine V.cVv dX7_readLines_66 rfl mv_RX7_51 (ok_Rea_readLine hv6) rfl rfl s0_52 rfl (by decide) ⟨Nat.zero_le _, Nat.zero_le _⟩ (Nat.le_of_ble_eq_true rfl) (Nat.zero_le _) ?_
    refine V.iinc dX7_readLines_69 rfl (iinc_c ic_1) (by decide) rfl ?_
    refine V.aload_n dX7_readLines_72 rfl ?_
    refine V.getR dX7_readLines_73 fl_RX7_21 s0_52 rfl rfl ?_
    obtain ⟨M9, hv8, h⟩ := bnd_s h
    refine V.cVv dX7_readLines_76 rfl mv_RX7_38 (ok_Tap_nextToken hv8) rfl rfl s0_70 rfl (by decide) ⟨Nat.zero_le _, Nat.zero_le _⟩ (Nat.le_of_ble_eq_true rfl) (Nat.zero_le _) ?_
    refine V.goto (tgt := 33) dX7_readLines_79 (by decide) ?_
    exact ih _ _ _ _ h
theorem ok_Rea_readLines {X : Sc} {l : Launch}  {M : Mem}  {r : Int32} {M' : Mem}  (h : f_Rea_readLines M = some (r, M')) : Mt X l yX7_readLines cX7_readLines 2 (some .int) 11 0 0 [.ref 52] S0 M (some (.int r)) S0 M' := by
  refine Mt.ofV (by decide) (Nat.le_of_ble_eq_true rfl) ?_
  show V X yX7_readLines cX7_readLines 2 (some .int) (rmD 11 0 0) l (FM (some (.int r)) S0 M' 0 0) 0 [some (.ref 52), none] [] S0 M 0 0
  unfold f_Rea_readLines at h
  refine V.aload_n dX7_readLines_0 rfl ?_
  refine V.getR dX7_readLines_1 fl_RX7_12 s0_52 rfl rfl ?_
  obtain ⟨M2, hv1, h⟩ := bnd_s h
  refine V.cVv dX7_readLines_4 rfl mv_RX7_32 (ok_Tol_startAnew s0_Tol53 hv1) rfl rfl s0_53 rfl (by decide) ⟨Nat.zero_le _, Nat.zero_le _⟩ (Nat.le_of_ble_eq_true rfl) (Nat.zero_le _) ?_
  refine V.aload_n dX7_readLines_7 rfl ?_
  refine V.iconst dX7_readLines_8 ic_0 ?_
  refine V.putI dX7_readLines_9 fp_RX7_25 s0_52 rfl rfl (fun M3 hM3 => ?_)
  replace h := setM_at h M3 hM3
  refine V.aload_n dX7_readLines_12 rfl ?_
  refine V.iconst dX7_readLines_13 ic_m1 ?_
  refine V.putI dX7_readLines_14 fp_RX7_29 s0_52 rfl rfl (fun M4 hM4 => ?_)
  replace h := setM_at h M4 hM4
  refine V.aload_n dX7_readLines_17 rfl ?_
  refine V.getR dX7_readLines_18 fl_RX7_21 s0_52 rfl rfl ?_
  obtain ⟨M6, hv5, h⟩ := bnd_s h
  refine V.cVv dX7_readLines_21 rfl mv_RX7_35 (ok_Tap_rewind hv5) rfl rfl s0_70 rfl (by decide) ⟨Nat.zero_le _, Nat.zero_le _⟩ (Nat.le_of_ble_eq_true rfl) (Nat.zero_le _) ?_
  refine V.aload_n dX7_readLines_24 rfl ?_
  refine V.getR dX7_readLines_25 fl_RX7_21 s0_52 rfl rfl ?_
  obtain ⟨M8, hv7, h⟩ := bnd_s h
  refine V.cVv dX7_readLines_28 rfl mv_RX7_38 (ok_Tap_nextToken hv7) rfl rfl s0_70 rfl (by decide) ⟨Nat.zero_le _, Nat.zero_le _⟩ (Nat.le_of_ble_eq_true rfl) (Nat.zero_le _) ?_
  refine V.iconst dX7_readLines_31 ic_0 ?_
  refine V.istore_n dX7_readLines_32 (by decide) rfl ?_
  exact okc_Rea_readLines_33 _ _ _ _ _ h
theorem ok_Tri_copyFrom {X : Sc} {l : Launch} {sh : List Shp} {a : Nat} {o : Nat} {M : Mem}  {M' : Mem} (ha : LTri sh a) (ho : LTri sh o) (h : f_Tri_copyFrom a o M = some M') : Mt X l yX9_copyFrom cX9_copyFrom 2 none 1 0 0 [.ref a, .ref o] sh M none sh M' := by
  refine Mt.ofV (by decide) (Nat.le_of_ble_eq_true rfl) ?_
  show V X yX9_copyFrom cX9_copyFrom 2 none (rmD 1 0 0) l (FM none sh M' 0 0) 0 [some (.ref a), some (.ref o)] [] sh M 0 0
  unfold f_Tri_copyFrom at h
  refine V.aload_n dX9_copyFrom_0 rfl ?_
  refine V.aload_n dX9_copyFrom_1 rfl ?_
  refine V.getI dX9_copyFrom_2 fl_RX9_9 (LTri.f0 ho) rfl rfl ?_
  refine V.putI dX9_copyFrom_5 fp_RX9_9 (LTri.f0 ha) rfl rfl (fun M1 hM1 => ?_)
  replace h := setM_at h M1 hM1
  refine V.aload_n dX9_copyFrom_8 rfl ?_
  refine V.getR dX9_copyFrom_9 fl_RX9_15 (LTri.f0 ho) rfl rfl ?_
  refine V.iconst dX9_copyFrom_12 ic_0 ?_
  refine V.aload_n dX9_copyFrom_13 rfl ?_
  refine V.getR dX9_copyFrom_14 fl_RX9_15 (LTri.f0 ha) rfl rfl ?_
  refine V.iconst dX9_copyFrom_17 ic_0 ?_
  refine V.bipush dX9_copyFrom_18 bp_12 ?_
  refine V.copyi dX9_copyFrom_20 rfl wm_RX9_25 w_acn w_acs w_aci (LTri.f1 ho) (LTri.f1 ha) rfl rfl (by decide) (by decide) (by decide) (by decide) (by decide) (by decide) (Nat.le_of_ble_eq_true rfl) (fun M2 hM2 => ?_)
  replace h := cpyM_at h M2 hM2
  refine V.aload_n dX9_copyFrom_23 rfl ?_
  refine V.getR dX9_copyFrom_24 fl_RX9_19 (LTri.f0 ho) rfl rfl ?_
  refine V.iconst dX9_copyFrom_27 ic_0 ?_
  refine V.aload_n dX9_copyFrom_28 rfl ?_
  refine V.getR dX9_copyFrom_29 fl_RX9_19 (LTri.f0 ha) rfl rfl ?_
  refine V.iconst dX9_copyFrom_32 ic_0 ?_
  refine V.bipush dX9_copyFrom_33 bp_12 ?_
  refine V.copyi dX9_copyFrom_35 rfl wm_RX9_25 w_acn w_acs w_aci (LTri.f2 ho) (LTri.f2 ha) rfl rfl (by decide) (by decide) (by decide) (by decide) (by decide) (by decide) (Nat.le_of_ble_eq_true rfl) (fun M3 hM3 => ?_)
  replace h := cpyM_at h M3 hM3
  refine V.aload_n dX9_copyFrom_38 rfl ?_
  refine V.getR dX9_copyFrom_39 fl_RX9_22 (LTri.f0 ho) rfl rfl ?_
  refine V.iconst dX9_copyFrom_42 ic_0 ?_
  refine V.aload_n dX9_copyFrom_43 rfl ?_
  refine V.getR dX9_copyFrom_44 fl_RX9_22 (LTri.f0 ha) rfl rfl ?_
  refine V.iconst dX9_copyFrom_47 ic_0 ?_
  refine V.bipush dX9_copyFrom_48 bp_12 ?_
  refine V.copyi dX9_copyFrom_50 rfl wm_RX9_25 w_acn w_acs w_aci (LTri.f3 ho) (LTri.f3 ha) rfl rfl (by decide) (by decide) (by decide) (by decide) (by decide) (by decide) (Nat.le_of_ble_eq_true rfl) (fun M4 hM4 => ?_)
  replace h := cpyM_at h M4 hM4
  have e1 := inj1 h
  subst e1
  exact V.vret dX9_copyFrom_53 rfl
theorem ok_Tol_copyChanging {X : Sc} {l : Launch} {sh : List Shp} {t : Nat} {o : Nat} {M : Mem}  {M' : Mem} (ht : LTol sh t) (ho : LTol sh o) (h : f_Tol_copyChanging t o M = some M') : Mt X l yX8_copyChanging cX8_copyChanging 2 none 2 0 0 [.ref t, .ref o] sh M none sh M' := by
  refine Mt.ofV (by decide) (Nat.le_of_ble_eq_true rfl) ?_
  show V X yX8_copyChanging cX8_copyChanging 2 none (rmD 2 0 0) l (FM none sh M' 0 0) 0 [some (.ref t), some (.ref o)] [] sh M 0 0
  unfold f_Tol_copyChanging at h
  refine V.aload_n dX8_copyChanging_0 rfl ?_
  refine V.getR dX8_copyChanging_1 fl_RX8_9 (LTol.f0 ho) rfl rfl ?_
  refine V.iconst dX8_copyChanging_4 ic_0 ?_
  refine V.aload_n dX8_copyChanging_5 rfl ?_
  refine V.getR dX8_copyChanging_6 fl_RX8_9 (LTol.f0 ht) rfl rfl ?_
  refine V.iconst dX8_copyChanging_9 ic_0 ?_
  refine V.bipush dX8_copyChanging_10 bp_81 ?_
  refine V.copyi dX8_copyChanging_12 rfl wm_RX8_78 w_acn w_acs w_aci (LTol.f1 ho) (LTol.f1 ht) rfl rfl (by decide) (by decide) (by decide) (by decide) (by decide) (by decide) (Nat.le_of_ble_eq_true rfl) (fun M1 hM1 => ?_)
  replace h := cpyM_at h M1 hM1
  refine V.aload_n dX8_copyChanging_15 rfl ?_
  refine V.aload_n dX8_copyChanging_16 rfl ?_
  refine V.getI dX8_copyChanging_17 fl_RX8_51 (LTol.f0 ho) rfl rfl ?_
  refine V.putI dX8_copyChanging_20 fp_RX8_51 (LTol.f0 ht) rfl rfl (fun M2 hM2 => ?_)
  replace h := setM_at h M2 hM2
  refine V.aload_n dX8_copyChanging_23 rfl ?_
  refine V.getR dX8_copyChanging_24 fl_RX8_15 (LTol.f0 ho) rfl rfl ?_
  refine V.iconst dX8_copyChanging_27 ic_0 ?_
  refine V.aload_n dX8_copyChanging_28 rfl ?_
  refine V.getR dX8_copyChanging_29 fl_RX8_15 (LTol.f0 ht) rfl rfl ?_
  refine V.iconst dX8_copyChanging_32 ic_0 ?_
  refine V.bipush dX8_copyChanging_33 bp_6 ?_
  refine V.copyi dX8_copyChanging_35 rfl wm_RX8_78 w_acn w_acs w_aci (LTol.f2 ho) (LTol.f2 ht) rfl rfl (by decide) (by decide) (by decide) (by decide) (by decide) (by decide) (Nat.le_of_ble_eq_true rfl) (fun M3 hM3 => ?_)
  replace h := cpyM_at h M3 hM3
  refine V.aload_n dX8_copyChanging_38 rfl ?_
  refine V.getR dX8_copyChanging_39 fl_RX8_32 (LTol.f0 ht) rfl rfl ?_
  refine V.aload_n dX8_copyChanging_42 rfl ?_
  refine V.getR dX8_copyChanging_43 fl_RX8_32 (LTol.f0 ho) rfl rfl ?_
  obtain ⟨M5, hv4, h⟩ := bnd_s h
  refine V.cVv dX8_copyChanging_46 rfl mv_RX8_71 (ok_Tri_copyFrom (LTol.s13 ht) (LTol.s13 ho) hv4) rfl rfl (LTol.f13 ht) rfl (by decide) ⟨Nat.zero_le _, Nat.zero_le _⟩ (Nat.le_of_ble_eq_true rfl) (Nat.zero_le _) ?_
  have e1 := inj1 h
  subst e1
  exact V.vret dX8_copyChanging_49 rfl
theorem ok_Tol_copyAll {X : Sc} {l : Launch} {sh : List Shp} {t : Nat} {o : Nat} {M : Mem}  {M' : Mem} (ht : LTol sh t) (ho : LTol sh o) (h : f_Tol_copyAll t o M = some M') : Mt X l yX8_copyAll cX8_copyAll 2 none 3 0 0 [.ref t, .ref o] sh M none sh M' := by
  refine Mt.ofV (by decide) (Nat.le_of_ble_eq_true rfl) ?_
  show V X yX8_copyAll cX8_copyAll 2 none (rmD 3 0 0) l (FM none sh M' 0 0) 0 [some (.ref t), some (.ref o)] [] sh M 0 0
  unfold f_Tol_copyAll at h
  refine V.aload_n dX8_copyAll_0 rfl ?_
  refine V.aload_n dX8_copyAll_1 rfl ?_
  refine V.getI dX8_copyAll_2 fl_RX8_38 (LTol.f0 ho) rfl rfl ?_
  refine V.putI dX8_copyAll_5 fp_RX8_38 (LTol.f0 ht) rfl rfl (fun M1 hM1 => ?_)
  replace h := setM_at h M1 hM1
  refine V.aload_n dX8_copyAll_8 rfl ?_
  refine V.aload_n dX8_copyAll_9 rfl ?_
  refine V.getI dX8_copyAll_10 fl_RX8_42 (LTol.f0 ho) rfl rfl ?_
  refine V.putI dX8_copyAll_13 fp_RX8_42 (LTol.f0 ht) rfl rfl (fun M2 hM2 => ?_)
  replace h := setM_at h M2 hM2
  refine V.aload_n dX8_copyAll_16 rfl ?_
  refine V.aload_n dX8_copyAll_17 rfl ?_
  refine V.getI dX8_copyAll_18 fl_RX8_45 (LTol.f0 ho) rfl rfl ?_
  refine V.putI dX8_copyAll_21 fp_RX8_45 (LTol.f0 ht) rfl rfl (fun M3 hM3 => ?_)
  replace h := setM_at h M3 hM3
  refine V.aload_n dX8_copyAll_24 rfl ?_
  refine V.aload_n dX8_copyAll_25 rfl ?_
  refine V.getI dX8_copyAll_26 fl_RX8_48 (LTol.f0 ho) rfl rfl ?_
  refine V.putI dX8_copyAll_29 fp_RX8_48 (LTol.f0 ht) rfl rfl (fun M4 hM4 => ?_)
  replace h := setM_at h M4 hM4
  refine V.aload_n dX8_copyAll_32 rfl ?_
  refine V.aload_n dX8_copyAll_33 rfl ?_
  refine V.getI dX8_copyAll_34 fl_RX8_54 (LTol.f0 ho) rfl rfl ?_
  refine V.putI dX8_copyAll_37 fp_RX8_54 (LTol.f0 ht) rfl rfl (fun M5 hM5 => ?_)
  replace h := setM_at h M5 hM5
  refine V.aload_n dX8_copyAll_40 rfl ?_
  refine V.getR dX8_copyAll_41 fl_RX8_21 (LTol.f0 ht) rfl rfl ?_
  refine V.aload_n dX8_copyAll_44 rfl ?_
  refine V.getR dX8_copyAll_45 fl_RX8_21 (LTol.f0 ho) rfl rfl ?_
  obtain ⟨M7, hv6, h⟩ := bnd_s h
  refine V.cVv dX8_copyAll_48 rfl mv_RX8_67 (ok_Ben_copyFrom (LTol.s3 ht) (LTol.s3 ho) hv6) rfl rfl (LTol.f3 ht) rfl (by decide) ⟨Nat.zero_le _, Nat.zero_le _⟩ (Nat.le_of_ble_eq_true rfl) (Nat.zero_le _) ?_
  refine V.aload_n dX8_copyAll_51 rfl ?_
  refine V.getR dX8_copyAll_52 fl_RX8_28 (LTol.f0 ht) rfl rfl ?_
  refine V.aload_n dX8_copyAll_55 rfl ?_
  refine V.getR dX8_copyAll_56 fl_RX8_28 (LTol.f0 ho) rfl rfl ?_
  obtain ⟨M9, hv8, h⟩ := bnd_s h
  refine V.cVv dX8_copyAll_59 rfl mv_RX8_71 (ok_Tri_copyFrom (LTol.s9 ht) (LTol.s9 ho) hv8) rfl rfl (LTol.f9 ht) rfl (by decide) ⟨Nat.zero_le _, Nat.zero_le _⟩ (Nat.le_of_ble_eq_true rfl) (Nat.zero_le _) ?_
  refine V.aload_n dX8_copyAll_62 rfl ?_
  refine V.aload_n dX8_copyAll_63 rfl ?_
  obtain ⟨M11, hv10, h⟩ := bnd_s h
  refine V.cVv dX8_copyAll_64 rfl mv_RX8_74 (ok_Tol_copyChanging ht ho hv10) rfl rfl (LTol.f0 ht) rfl (by decide) ⟨Nat.zero_le _, Nat.zero_le _⟩ (Nat.le_of_ble_eq_true rfl) (Nat.zero_le _) ?_
  have e1 := inj1 h
  subst e1
  exact V.vret dX8_copyAll_67 rfl
theorem ok_Tol_isFree {X : Sc} {l : Launch} {sh : List Shp} {t : Nat} {M : Mem} {x1 : Int32} {r : Int32} (ht : LTol sh t) (h : f_Tol_isFree t M x1 = some r) : Mt X l yX8_isFree cX8_isFree 2 (some .boolean) 1 0 0 [.ref t, .int x1] sh M (some (.int r)) sh M := by
  refine Mt.ofV (by decide) (Nat.le_of_ble_eq_true rfl) ?_
  show V X yX8_isFree cX8_isFree 2 (some .boolean) (rmD 1 0 0) l (FM (some (.int r)) sh M 0 0) 0 [some (.ref t), some (.int x1)] [] sh M 0 0
  unfold f_Tol_isFree at h
  refine V.aload_n dX8_isFree_0 rfl ?_
  refine V.iload_n dX8_isFree_1 rfl ?_
  obtain ⟨v2, hv1, h⟩ := bnd_s h
  refine V.cVi dX8_isFree_2 rfl mv_RX8_84 (ok_Tol_isCell ht hv1) rfl rfl (LTol.f0 ht) rfl (by decide) ⟨Nat.zero_le _, Nat.zero_le _⟩ (Nat.le_of_ble_eq_true rfl) (Nat.zero_le _) ?_
  refine V.if_eq (tgt := 20) dX8_isFree_5 (by decide) (fun hc3 => ?_) (fun hc3 => ?_)
  · replace h := ite_t hc3 h
    refine V.iconst dX8_isFree_20 ic_0 ?_
    have e1 := inj1 h
    subst e1
    exact V.iret dX8_isFree_21 rfl rfl
  replace h := ite_f hc3 h
  refine V.aload_n dX8_isFree_8 rfl ?_
  refine V.iload_n dX8_isFree_9 rfl ?_
  obtain ⟨v5, hv4, h⟩ := bnd_s h
  refine V.cVi dX8_isFree_10 rfl mv_RX8_88 (ok_Tol_stateOf ht hv4) rfl rfl (LTol.f0 ht) rfl (by decide) ⟨Nat.zero_le _, Nat.zero_le _⟩ (Nat.le_of_ble_eq_true rfl) (Nat.zero_le _) ?_
  refine V.if_ne (tgt := 20) dX8_isFree_13 (by decide) (fun hc6 => ?_) (fun hc6 => ?_)
  · replace h := ite_f hc6 h
    refine V.iconst dX8_isFree_20 ic_0 ?_
    have e1 := inj1 h
    subst e1
    exact V.iret dX8_isFree_21 rfl rfl
  replace h := ite_t hc6 h
  refine V.iconst dX8_isFree_16 ic_1 ?_
  refine V.goto (tgt := 21) dX8_isFree_17 (by decide) ?_
  have e1 := inj1 h
  subst e1
  exact V.iret dX8_isFree_21 rfl rfl
theorem okc_Tol_deafCells_4 {X : Sc} {l : Launch} {sh : List Shp}  {t : Nat} {M : Mem}  (ht : LTol sh t) : ∀ (n : Nat) (x1 : Int32) (x2 : Int32) (r : Int32), f_Tol_deafCells_L4 t M n x1 x2 = some r → V X yX8_deafCells cX8_deafCells 3 (some .int) (rmD 1 0 0) l (FM (some (.int r)) sh M 0 0) 4 [some (.ref t), some (.int x1), some (.int x2)] [] sh M 0 0 := by
  intro n
  induction n with
  | zero =>
    intro x1 x2 r h
    rw [f_Tol_deafCells_L4] at h
    cases h
  | succ n ih =>
    intro x1 x2 r h
    rw [f_Tol_deafCells_L4] at h
    refine V.iload_n dX8_deafCells_4 rfl ?_
    refine V.bipush dX8_deafCells_5 bp_81 ?_
    refine V.icmp_ge (tgt := 32) dX8_deafCells_7 (by decide) (fun hc1 => ?_) (fun hc1 => ?_)
    · replace h := ite_t hc1 h
      refine V.iload_n dX8_deafCells_32 rfl ?_
      have e1 := inj1 h
      subst e1
      exact V.iret dX8_deafCells_33 rfl rfl
    replace h := ite_f hc1 h
    refine V.iload_n dX8_deafCells_10 rfl ?_
    refine V.aload_n dX8_deafCells_11 rfl ?_
    refine V.iload_n dX8_deafCells_12 rfl ?_
    obtain ⟨v3, hv2, h⟩ := bnd_s h
    refine V.cVi dX8_deafCells_13 rfl mv_RX8_88 (ok_Tol_stateOf ht hv2) rfl rfl (LTol.f0 ht) rfl (by decide) ⟨Nat.zero_le _, Nat.zero_le _⟩ (Nat.le_of_ble_eq_true rfl) (Nat.zero_le _) ?_
    refine V.if_ne (tgt := 23) dX8_deafCells_16 (by decide) (fun hc4 => ?_) (fun hc4 => ?_)
    · replace h := ite_f hc4 h
      refine V.iconst dX8_deafCells_23 ic_1 ?_
      refine V.iadd dX8_deafCells_24 ?_
      refine V.nmI (fun w5 hw5 => ?_)
      replace h := nmI_at h w5 hw5
      refine V.istore_n dX8_deafCells_25 (by decide) rfl ?_
      refine V.iinc dX8_deafCells_26 rfl (iinc_c ic_1) (by decide) rfl ?_
      refine V.goto (tgt := 4) dX8_deafCells_29 (by decide) ?_
      exact ih _ _ _ h
    replace h := ite_t hc4 h
    refine V.iconst dX8_deafCells_19 ic_0 ?_
    refine V.goto (tgt := 24) dX8_deafCells_20 (by decide) ?_
    refine V.iadd dX8_deafCells_24 ?_
    refine V.nmI (fun w6 hw6 => ?_)
    replace h := nmI_at h w6 hw6
    refine V.istore_n dX8_deafCells_25 (by decide) rfl ?_
    refine V.iinc dX8_deafCells_26 rfl (iinc_c ic_1) (by decide) rfl ?_
    refine V.goto (tgt := 4) dX8_deafCells_29 (by decide) ?_
    exact ih _ _ _ h
theorem ok_Tol_deafCells {X : Sc} {l : Launch} {sh : List Shp} {t : Nat} {M : Mem}  {r : Int32} (ht : LTol sh t) (h : f_Tol_deafCells t M = some r) : Mt X l yX8_deafCells cX8_deafCells 3 (some .int) 1 0 0 [.ref t] sh M (some (.int r)) sh M := by
  refine Mt.ofV (by decide) (Nat.le_of_ble_eq_true rfl) ?_
  show V X yX8_deafCells cX8_deafCells 3 (some .int) (rmD 1 0 0) l (FM (some (.int r)) sh M 0 0) 0 [some (.ref t), none, none] [] sh M 0 0
  unfold f_Tol_deafCells at h
  refine V.iconst dX8_deafCells_0 ic_0 ?_
  refine V.istore_n dX8_deafCells_1 (by decide) rfl ?_
  refine V.iconst dX8_deafCells_2 ic_0 ?_
  refine V.istore_n dX8_deafCells_3 (by decide) rfl ?_
  exact okc_Tol_deafCells_4 ht _ _ _ _ h
theorem okc_Tol_anyBenchOn_2 {X : Sc} {l : Launch} {sh : List Shp}  {t : Nat} {M : Mem}  (ht : LTol sh t) : ∀ (n : Nat) (x1 : Int32) (x2 : Int32) (x3 : Int32) (r : Int32), f_Tol_anyBenchOn_L2 t M n x1 x2 x3 = some r → V X yX8_anyBenchOn cX8_anyBenchOn 4 (some .boolean) (rmD 2 0 0) l (FM (some (.int r)) sh M 0 0) 2 [some (.ref t), some (.int x1), some (.int x2), some (.int x3)] [] sh M 0 0 := by
  intro n
  induction n with
  | zero =>
    intro x1 x2 x3 r h
    rw [f_Tol_anyBenchOn_L2] at h
    cases h
  | succ n ih =>
    intro x1 x2 x3 r h
    rw [f_Tol_anyBenchOn_L2] at h
    refine V.iload_n dX8_anyBenchOn_2 rfl ?_
    refine V.aload_n dX8_anyBenchOn_3 rfl ?_
    refine V.getR dX8_anyBenchOn_4 fl_RX8_21 (LTol.f0 ht) rfl rfl ?_
    refine V.getI dX8_anyBenchOn_7 fl_RX8_63 (LTol.f3 ht) rfl rfl ?_
    refine V.icmp_ge (tgt := 38) dX8_anyBenchOn_10 (by decide) (fun hc1 => ?_) (fun hc1 => ?_)
    · replace h := ite_t hc1 h
      refine V.iconst dX8_anyBenchOn_38 ic_0 ?_
      have e1 := inj1 h
      subst e1
      exact V.iret dX8_anyBenchOn_39 rfl rfl
    replace h := ite_f hc1 h
    refine V.aload_n dX8_anyBenchOn_13 rfl ?_
    refine V.getR dX8_anyBenchOn_14 fl_RX8_21 (LTol.f0 ht) rfl rfl ?_
    refine V.iload_n dX8_anyBenchOn_17 rfl ?_
    refine V.iload_n dX8_anyBenchOn_18 rfl ?_
    refine V.aload_n dX8_anyBenchOn_19 rfl ?_
    refine V.getI dX8_anyBenchOn_20 fl_RX8_38 (LTol.f0 ht) rfl rfl ?_
    obtain ⟨v3, hv2, h⟩ := bnd_s h
    refine V.cVi dX8_anyBenchOn_23 rfl mv_RX8_92 (ok_Ben_cellIn (LTol.s3 ht) hv2) rfl rfl (LTol.f3 ht) rfl (by decide) ⟨Nat.zero_le _, Nat.zero_le _⟩ (Nat.le_of_ble_eq_true rfl) (Nat.zero_le _) ?_
    refine V.iload_n dX8_anyBenchOn_26 rfl ?_
    refine V.icmp_ne (tgt := 32) dX8_anyBenchOn_27 (by decide) (fun hc4 => ?_) (fun hc4 => ?_)
    · replace h := ite_f hc4 h
      refine V.iinc dX8_anyBenchOn_32 rfl (iinc_c ic_1) (by decide) rfl ?_
      refine V.goto (tgt := 2) dX8_anyBenchOn_35 (by decide) ?_
      exact ih _ _ _ _ h
    replace h := ite_t hc4 h
    refine V.iconst dX8_anyBenchOn_30 ic_1 ?_
    have e1 := inj1 h
    subst e1
    exact V.iret dX8_anyBenchOn_31 rfl rfl
theorem ok_Tol_anyBenchOn {X : Sc} {l : Launch} {sh : List Shp} {t : Nat} {M : Mem} {x1 : Int32} {x2 : Int32} {r : Int32} (ht : LTol sh t) (h : f_Tol_anyBenchOn t M x1 x2 = some r) : Mt X l yX8_anyBenchOn cX8_anyBenchOn 4 (some .boolean) 2 0 0 [.ref t, .int x1, .int x2] sh M (some (.int r)) sh M := by
  refine Mt.ofV (by decide) (Nat.le_of_ble_eq_true rfl) ?_
  show V X yX8_anyBenchOn cX8_anyBenchOn 4 (some .boolean) (rmD 2 0 0) l (FM (some (.int r)) sh M 0 0) 0 [some (.ref t), some (.int x1), some (.int x2), none] [] sh M 0 0
  unfold f_Tol_anyBenchOn at h
  refine V.iconst dX8_anyBenchOn_0 ic_0 ?_
  refine V.istore_n dX8_anyBenchOn_1 (by decide) rfl ?_
  exact okc_Tol_anyBenchOn_2 ht _ _ _ _ _ h
theorem okc_Tol_sitterOn_2 {X : Sc} {l : Launch} {sh : List Shp}  {t : Nat} {M : Mem}  (ht : LTol sh t) : ∀ (n : Nat) (x1 : Int32) (x2 : Int32) (r : Int32), f_Tol_sitterOn_L2 t M n x1 x2 = some r → V X yX8_sitterOn cX8_sitterOn 3 (some .int) (rmD 1 0 0) l (FM (some (.int r)) sh M 0 0) 2 [some (.ref t), some (.int x1), some (.int x2)] [] sh M 0 0 := by
  intro n
  induction n with
  | zero =>
    intro x1 x2 r h
    rw [f_Tol_sitterOn_L2] at h
    cases h
  | succ n ih =>
    intro x1 x2 r h
    rw [f_Tol_sitterOn_L2] at h
    refine V.iload_n dX8_sitterOn_2 rfl ?_
    refine V.aload_n dX8_sitterOn_3 rfl ?_
    refine V.getI dX8_sitterOn_4 fl_RX8_54 (LTol.f0 ht) rfl rfl ?_
    refine V.icmp_ge (tgt := 27) dX8_sitterOn_7 (by decide) (fun hc1 => ?_) (fun hc1 => ?_)
    · replace h := ite_t hc1 h
      refine V.bipush dX8_sitterOn_27 bp_m4 ?_
      have e1 := inj1 h
      subst e1
      exact V.iret dX8_sitterOn_29 rfl rfl
    replace h := ite_f hc1 h
    refine V.aload_n dX8_sitterOn_10 rfl ?_
    refine V.iload_n dX8_sitterOn_11 rfl ?_
    obtain ⟨v3, hv2, h⟩ := bnd_s h
    refine V.cVi dX8_sitterOn_12 rfl mv_RX8_100 (ok_Tol_seatOf ht hv2) rfl rfl (LTol.f0 ht) rfl (by decide) ⟨Nat.zero_le _, Nat.zero_le _⟩ (Nat.le_of_ble_eq_true rfl) (Nat.zero_le _) ?_
    refine V.iload_n dX8_sitterOn_15 rfl ?_
    refine V.icmp_ne (tgt := 21) dX8_sitterOn_16 (by decide) (fun hc4 => ?_) (fun hc4 => ?_)
    · replace h := ite_f hc4 h
      refine V.iinc dX8_sitterOn_21 rfl (iinc_c ic_1) (by decide) rfl ?_
      refine V.goto (tgt := 2) dX8_sitterOn_24 (by decide) ?_
      exact ih _ _ _ h
    replace h := ite_t hc4 h
    refine V.iload_n dX8_sitterOn_19 rfl ?_
    have e1 := inj1 h
    subst e1
    exact V.iret dX8_sitterOn_20 rfl rfl
theorem ok_Tol_sitterOn {X : Sc} {l : Launch} {sh : List Shp} {t : Nat} {M : Mem} {x1 : Int32} {r : Int32} (ht : LTol sh t) (h : f_Tol_sitterOn t M x1 = some r) : Mt X l yX8_sitterOn cX8_sitterOn 3 (some .int) 1 0 0 [.ref t, .int x1] sh M (some (.int r)) sh M := by
  refine Mt.ofV (by decide) (Nat.le_of_ble_eq_true rfl) ?_
  show V X yX8_sitterOn cX8_sitterOn 3 (some .int) (rmD 1 0 0) l (FM (some (.int r)) sh M 0 0) 0 [some (.ref t), some (.int x1), none] [] sh M 0 0
  unfold f_Tol_sitterOn at h
  refine V.iconst dX8_sitterOn_0 ic_0 ?_
  refine V.istore_n dX8_sitterOn_1 (by decide) rfl ?_
  exact okc_Tol_sitterOn_2 ht _ _ _ _ h
theorem okc_Tol_seatOn_30 {X : Sc} {l : Launch} {sh : List Shp}  {t : Nat}  (ht : LTol sh t) {x1 : Int32} {x2 : Int32} {x4 : Int32} {M : Mem} {r : Int32} {M' : Mem} (h : f_Tol_seatOn_J30 t x1 x2 x4 M = some (r, M')) : V X yX8_seatOn cX8_seatOn 5 (some .int) (rmD 2 0 0) l (FM (some (.int r)) sh M' 0 0) 30 [some (.ref t), some (.int x1), some (.int x2), none, some (.int x4)] [] sh M 0 0 := by
  unfold f_Tol_seatOn_J30 at h
  refine V.iload_n dX8_seatOn_30 rfl ?_
  refine V.iconst dX8_seatOn_31 ic_0 ?_
  refine V.iconst dX8_seatOn_32 ic_5 ?_
  obtain ⟨v2, hv1, h⟩ := bnd_s h
  refine V.cSNi dX8_seatOn_33 rfl wn_RX8_106 mn_RX8_106 (ok_Hal_within hv1) rfl rfl (by decide) ⟨Nat.zero_le _, Nat.zero_le _⟩ (Nat.le_of_ble_eq_true rfl) (Nat.zero_le _) ?_
  refine V.if_eq (tgt := 46) dX8_seatOn_36 (by decide) (fun hc3 => ?_) (fun hc3 => ?_)
  · replace h := ite_t hc3 h
    refine V.iload dX8_seatOn_46 rfl ?_
    obtain ⟨e1, e2⟩ := inj2 h
    subst e1
    subst e2
    exact V.iret dX8_seatOn_48 rfl rfl
  replace h := ite_f hc3 h
  refine V.aload_n dX8_seatOn_39 rfl ?_
  refine V.getR dX8_seatOn_40 fl_RX8_15 (LTol.f0 ht) rfl rfl ?_
  refine V.iload_n dX8_seatOn_43 rfl ?_
  refine V.iload_n dX8_seatOn_44 rfl ?_
  obtain ⟨hb4, h⟩ := ck_s h
  refine V.iast dX8_seatOn_45 (LTol.f2 ht) rfl (vp_of hb4) (fun M5 hM5 => ?_)
  replace h := setM_at h M5 hM5
  refine V.iload dX8_seatOn_46 rfl ?_
  obtain ⟨e1, e2⟩ := inj2 h
  subst e1
  subst e2
  exact V.iret dX8_seatOn_48 rfl rfl
theorem ok_Tol_seatOn {X : Sc} {l : Launch} {sh : List Shp} {t : Nat} {M : Mem} {x1 : Int32} {x2 : Int32} {r : Int32} {M' : Mem} (ht : LTol sh t) (h : f_Tol_seatOn t x1 x2 M = some (r, M')) : Mt X l yX8_seatOn cX8_seatOn 5 (some .int) 2 0 0 [.ref t, .int x1, .int x2] sh M (some (.int r)) sh M' := by
  refine Mt.ofV (by decide) (Nat.le_of_ble_eq_true rfl) ?_
  show V X yX8_seatOn cX8_seatOn 5 (some .int) (rmD 2 0 0) l (FM (some (.int r)) sh M' 0 0) 0 [some (.ref t), some (.int x1), some (.int x2), none, none] [] sh M 0 0
  unfold f_Tol_seatOn at h
  refine V.aload_n dX8_seatOn_0 rfl ?_
  refine V.iload_n dX8_seatOn_1 rfl ?_
  obtain ⟨v2, hv1, h⟩ := bnd_s h
  refine V.cVi dX8_seatOn_2 rfl mv_RX8_103 (ok_Tol_sitterOn ht hv1) rfl rfl (LTol.f0 ht) rfl (by decide) ⟨Nat.zero_le _, Nat.zero_le _⟩ (Nat.le_of_ble_eq_true rfl) (Nat.zero_le _) ?_
  refine V.istore_n dX8_seatOn_5 (by decide) rfl ?_
  refine V.aload_n dX8_seatOn_6 rfl ?_
  refine V.iload_n dX8_seatOn_7 rfl ?_
  obtain ⟨v4, hv3, h⟩ := bnd_s h
  refine V.cVi dX8_seatOn_8 rfl mv_RX8_100 (ok_Tol_seatOf ht hv3) rfl rfl (LTol.f0 ht) rfl (by decide) ⟨Nat.zero_le _, Nat.zero_le _⟩ (Nat.le_of_ble_eq_true rfl) (Nat.zero_le _) ?_
  refine V.istore dX8_seatOn_11 (by decide) rfl ?_
  refine V.iload_n dX8_seatOn_13 rfl ?_
  refine V.iconst dX8_seatOn_14 ic_0 ?_
  refine V.iconst dX8_seatOn_15 ic_5 ?_
  obtain ⟨v6, hv5, h⟩ := bnd_s h
  refine V.cSNi dX8_seatOn_16 rfl wn_RX8_106 mn_RX8_106 (ok_Hal_within hv5) rfl rfl (by decide) ⟨Nat.zero_le _, Nat.zero_le _⟩ (Nat.le_of_ble_eq_true rfl) (Nat.zero_le _) ?_
  refine V.if_eq (tgt := 30) dX8_seatOn_19 (by decide) (fun hc7 => ?_) (fun hc7 => ?_)
  · replace h := ite_t hc7 h
    refine V.mask [true, true, true, false, true] rfl ?_
    exact okc_Tol_seatOn_30 ht h
  replace h := ite_f hc7 h
  refine V.aload_n dX8_seatOn_22 rfl ?_
  refine V.getR dX8_seatOn_23 fl_RX8_15 (LTol.f0 ht) rfl rfl ?_
  refine V.iload_n dX8_seatOn_26 rfl ?_
  refine V.iload dX8_seatOn_27 rfl ?_
  obtain ⟨hb8, h⟩ := ck_s h
  refine V.iast dX8_seatOn_29 (LTol.f2 ht) rfl (vp_of hb8) (fun M9 hM9 => ?_)
  replace h := setM_at h M9 hM9
  refine V.mask [true, true, true, false, true] rfl ?_
  exact okc_Tol_seatOn_30 ht h
theorem ok_Hal_feed {X : Sc} {l : Launch}  {M : Mem} {x1 : Int64} {r : Int32} {M' : Mem}  (h : f_Hal_feed x1 M = some (r, M')) : Mt X l yX10_feed cX10_feed 3 (some .int) 1 0 0 [.ref 0, .long x1] S0 M (some (.int r)) S0 M' := by
  refine Mt.ofV (by decide) (Nat.le_of_ble_eq_true rfl) ?_
  show V X yX10_feed cX10_feed 3 (some .int) (rmD 1 0 0) l (FM (some (.int r)) S0 M' 0 0) 0 [some (.ref 0), some (.long x1), none] [] S0 M 0 0
  unfold f_Hal_feed at h
  refine V.aload_n dX10_feed_0 rfl ?_
  refine V.getR dX10_feed_1 fl_RX10_29 s0_0 rfl rfl ?_
  refine V.getR dX10_feed_4 fl_RX10_64 s0_52 rfl rfl ?_
  refine V.lload_n dX10_feed_7 rfl ?_
  obtain ⟨v2, M3, hv1, h⟩ := bnd2_s h
  refine V.cVi dX10_feed_8 rfl mv_RX10_68 (ok_Tap_append hv1) rfl rfl s0_70 rfl (by decide) ⟨Nat.zero_le _, Nat.zero_le _⟩ (Nat.le_of_ble_eq_true rfl) (Nat.zero_le _) ?_
  obtain ⟨e1, e2⟩ := inj2 h
  subst e1
  subst e2
  exact V.iret dX10_feed_11 rfl rfl
theorem ok_Hal_end {X : Sc} {l : Launch}  {M : Mem} {x1 : Int32} {r : Int32} {M' : Mem}  (h : f_Hal_end x1 M = some (r, M')) : Mt X l yX10_end cX10_end 3 (some .int) 1 0 0 [.ref 0, .int x1] S0 M (some (.int r)) S0 M' := by
  refine Mt.ofV (by decide) (Nat.le_of_ble_eq_true rfl) ?_
  show V X yX10_end cX10_end 3 (some .int) (rmD 1 0 0) l (FM (some (.int r)) S0 M' 0 0) 0 [some (.ref 0), some (.int x1), none] [] S0 M 0 0
  unfold f_Hal_end at h
  refine V.iload_n dX10_end_0 rfl ?_
  refine V.iconst dX10_end_1 ic_0 ?_
  refine V.aload_n dX10_end_2 rfl ?_
  refine V.getR dX10_end_3 fl_RX10_29 s0_0 rfl rfl ?_
  refine V.getR dX10_end_6 fl_RX10_64 s0_52 rfl rfl ?_
  refine V.getI dX10_end_9 fl_RX10_74 s0_70 rfl rfl ?_
  obtain ⟨v2, hv1, h⟩ := bnd_s h
  refine V.cSi dX10_end_12 rfl mv_RX10_77 (ok_Hal_within hv1) rfl rfl (by decide) ⟨Nat.zero_le _, Nat.zero_le _⟩ (Nat.le_of_ble_eq_true rfl) (Nat.zero_le _) ?_
  refine V.if_ne (tgt := 20) dX10_end_15 (by decide) (fun hc3 => ?_) (fun hc3 => ?_)
  · replace h := ite_f hc3 h
    refine V.aload_n dX10_end_20 rfl ?_
    refine V.getR dX10_end_21 fl_RX10_29 s0_0 rfl rfl ?_
    refine V.getR dX10_end_24 fl_RX10_64 s0_52 rfl rfl ?_
    refine V.getI dX10_end_27 fl_RX10_74 s0_70 rfl rfl ?_
    refine V.nmI (fun w4 hw4 => ?_)
    replace h := nmI_at h w4 hw4
    refine V.istore_n dX10_end_30 (by decide) rfl ?_
    refine V.aload_n dX10_end_31 rfl ?_
    refine V.getR dX10_end_32 fl_RX10_29 s0_0 rfl rfl ?_
    refine V.getR dX10_end_35 fl_RX10_64 s0_52 rfl rfl ?_
    refine V.iload_n dX10_end_38 rfl ?_
    refine V.putI dX10_end_39 fp_RX10_74 s0_70 rfl rfl (fun M5 hM5 => ?_)
    replace h := setM_at h M5 hM5
    refine V.iload_n dX10_end_42 rfl ?_
    obtain ⟨e1, e2⟩ := inj2 h
    subst e1
    subst e2
    exact V.iret dX10_end_43 rfl rfl
  replace h := ite_t hc3 h
  refine V.iconst dX10_end_18 ic_m1 ?_
  obtain ⟨e1, e2⟩ := inj2 h
  subst e1
  subst e2
  exact V.iret dX10_end_19 rfl rfl
theorem ok_Hal_text {X : Sc} {l : Launch}  {M : Mem}  {r : Int32} {M' : Mem}  (h : f_Hal_text M = some (r, M')) : Mt X l yX10_text cX10_text 2 (some .int) 12 0 0 [.ref 0] S0 M (some (.int r)) S0 M' := by
  refine Mt.ofV (by decide) (Nat.le_of_ble_eq_true rfl) ?_
  show V X yX10_text cX10_text 2 (some .int) (rmD 12 0 0) l (FM (some (.int r)) S0 M' 0 0) 0 [some (.ref 0), none] [] S0 M 0 0
  unfold f_Hal_text at h
  refine V.aload_n dX10_text_0 rfl ?_
  refine V.getR dX10_text_1 fl_RX10_29 s0_0 rfl rfl ?_
  obtain ⟨v2, M3, hv1, h⟩ := bnd2_s h
  refine V.cVi dX10_text_4 rfl mv_RX10_81 (ok_Rea_readLines hv1) rfl rfl s0_52 rfl (by decide) ⟨Nat.zero_le _, Nat.zero_le _⟩ (Nat.le_of_ble_eq_true rfl) (Nat.zero_le _) ?_
  refine V.istore_n dX10_text_7 (by decide) rfl ?_
  refine V.aload_n dX10_text_8 rfl ?_
  refine V.getR dX10_text_9 fl_RX10_29 s0_0 rfl rfl ?_
  refine V.getR dX10_text_12 fl_RX10_64 s0_52 rfl rfl ?_
  refine V.iconst dX10_text_15 ic_0 ?_
  refine V.putI dX10_text_16 fp_RX10_74 s0_70 rfl rfl (fun M4 hM4 => ?_)
  replace h := setM_at h M4 hM4
  refine V.aload_n dX10_text_19 rfl ?_
  refine V.getR dX10_text_20 fl_RX10_29 s0_0 rfl rfl ?_
  refine V.getR dX10_text_23 fl_RX10_64 s0_52 rfl rfl ?_
  refine V.getI dX10_text_26 fl_RX10_85 s0_70 rfl rfl ?_
  refine V.if_eq (tgt := 46) dX10_text_29 (by decide) (fun hc5 => ?_) (fun hc5 => ?_)
  · replace h := ite_t hc5 h
    refine V.aload_n dX10_text_46 rfl ?_
    refine V.getR dX10_text_47 fl_RX10_10 s0_0 rfl rfl ?_
    refine V.aload_n dX10_text_50 rfl ?_
    refine V.getR dX10_text_51 fl_RX10_29 s0_0 rfl rfl ?_
    refine V.getR dX10_text_54 fl_RX10_91 s0_52 rfl rfl ?_
    obtain ⟨M7, hv6, h⟩ := bnd_s h
    refine V.cVv dX10_text_57 rfl mv_RX10_94 (ok_Tol_copyAll s0_Tol1 s0_Tol53 hv6) rfl rfl s0_1 rfl (by decide) ⟨Nat.zero_le _, Nat.zero_le _⟩ (Nat.le_of_ble_eq_true rfl) (Nat.zero_le _) ?_
    refine V.aload_n dX10_text_60 rfl ?_
    refine V.iconst dX10_text_61 ic_0 ?_
    refine V.putI dX10_text_62 fp_RX10_22 s0_0 rfl rfl (fun M8 hM8 => ?_)
    replace h := setM_at h M8 hM8
    refine V.iload_n dX10_text_65 rfl ?_
    obtain ⟨e1, e2⟩ := inj2 h
    subst e1
    subst e2
    exact V.iret dX10_text_66 rfl rfl
  replace h := ite_f hc5 h
  refine V.bipush dX10_text_32 bp_m10 ?_
  refine V.aload_n dX10_text_34 rfl ?_
  refine V.getR dX10_text_35 fl_RX10_29 s0_0 rfl rfl ?_
  refine V.getR dX10_text_38 fl_RX10_64 s0_52 rfl rfl ?_
  refine V.getI dX10_text_41 fl_RX10_88 s0_70 rfl rfl ?_
  refine V.isub dX10_text_44 ?_
  obtain ⟨e1, e2⟩ := inj2 h
  subst e1
  subst e2
  exact V.iret dX10_text_45 rfl rfl
theorem ok_Hal_fault {X : Sc} {l : Launch}  {M : Mem}  {r : Int32}  (h : f_Hal_fault M = some r) : Mt X l yX10_fault cX10_fault 1 (some .int) 0 0 0 [.ref 0] S0 M (some (.int r)) S0 M := by
  refine Mt.ofV (by decide) (Nat.le_of_ble_eq_true rfl) ?_
  show V X yX10_fault cX10_fault 1 (some .int) (rmD 0 0 0) l (FM (some (.int r)) S0 M 0 0) 0 [some (.ref 0)] [] S0 M 0 0
  unfold f_Hal_fault at h
  refine V.aload_n dX10_fault_0 rfl ?_
  refine V.getR dX10_fault_1 fl_RX10_29 s0_0 rfl rfl ?_
  refine V.getR dX10_fault_4 fl_RX10_64 s0_52 rfl rfl ?_
  refine V.getI dX10_fault_7 fl_RX10_85 s0_70 rfl rfl ?_
  have e1 := inj1 h
  subst e1
  exact V.iret dX10_fault_10 rfl rfl
theorem ok_Hal_rule {X : Sc} {l : Launch}  {M : Mem} {x1 : Int32} {r : Int32}  (h : f_Hal_rule M x1 = some r) : Mt X l yX10_rule cX10_rule 2 (some .int) 0 0 0 [.ref 0, .int x1] S0 M (some (.int r)) S0 M := by
  refine Mt.ofV (by decide) (Nat.le_of_ble_eq_true rfl) ?_
  show V X yX10_rule cX10_rule 2 (some .int) (rmD 0 0 0) l (FM (some (.int r)) S0 M 0 0) 0 [some (.ref 0), some (.int x1)] [] S0 M 0 0
  unfold f_Hal_rule at h
  refine V.iload_n dX10_rule_0 rfl ?_
  by_cases hc1 : x1 = 0
  · replace h := ite_t hc1 h
    refine V.tabAt (off := 35) (tgt := 36) dX10_rule_1 hc1 (by decide) (by decide) (by decide) (by decide) ?_
    refine V.aload_n dX10_rule_36 rfl ?_
    refine V.getR dX10_rule_37 fl_RX10_10 s0_0 rfl rfl ?_
    refine V.getI dX10_rule_40 fl_RX10_98 s0_1 rfl rfl ?_
    have e1 := inj1 h
    subst e1
    exact V.iret dX10_rule_43 rfl rfl
  replace h := ite_f hc1 h
  by_cases hc2 : x1 = 1
  · replace h := ite_t hc2 h
    refine V.tabAt (off := 43) (tgt := 44) dX10_rule_1 hc2 (by decide) (by decide) (by decide) (by decide) ?_
    refine V.aload_n dX10_rule_44 rfl ?_
    refine V.getR dX10_rule_45 fl_RX10_10 s0_0 rfl rfl ?_
    refine V.getI dX10_rule_48 fl_RX10_101 s0_1 rfl rfl ?_
    have e1 := inj1 h
    subst e1
    exact V.iret dX10_rule_51 rfl rfl
  replace h := ite_f hc2 h
  by_cases hc3 : x1 = 2
  · replace h := ite_t hc3 h
    refine V.tabAt (off := 51) (tgt := 52) dX10_rule_1 hc3 (by decide) (by decide) (by decide) (by decide) ?_
    refine V.aload_n dX10_rule_52 rfl ?_
    refine V.getR dX10_rule_53 fl_RX10_10 s0_0 rfl rfl ?_
    refine V.getI dX10_rule_56 fl_RX10_104 s0_1 rfl rfl ?_
    have e1 := inj1 h
    subst e1
    exact V.iret dX10_rule_59 rfl rfl
  replace h := ite_f hc3 h
  by_cases hc4 : x1 = 3
  · replace h := ite_t hc4 h
    refine V.tabAt (off := 59) (tgt := 60) dX10_rule_1 hc4 (by decide) (by decide) (by decide) (by decide) ?_
    refine V.aload_n dX10_rule_60 rfl ?_
    refine V.getR dX10_rule_61 fl_RX10_10 s0_0 rfl rfl ?_
    refine V.getI dX10_rule_64 fl_RX10_107 s0_1 rfl rfl ?_
    have e1 := inj1 h
    subst e1
    exact V.iret dX10_rule_67 rfl rfl
  replace h := ite_f hc4 h
  by_cases hc5 : x1 = 4
  · replace h := ite_t hc5 h
    refine V.tabAt (off := 67) (tgt := 68) dX10_rule_1 hc5 (by decide) (by decide) (by decide) (by decide) ?_
    refine V.aload_n dX10_rule_68 rfl ?_
    refine V.getR dX10_rule_69 fl_RX10_10 s0_0 rfl rfl ?_
    refine V.getI dX10_rule_72 fl_RX10_110 s0_1 rfl rfl ?_
    have e1 := inj1 h
    subst e1
    exact V.iret dX10_rule_75 rfl rfl
  replace h := ite_f hc5 h
  refine V.tabOut (tgt := 76) dX10_rule_1 (by have e0 := i32_lit (k := 0) hc1 (by decide); have e1 := i32_lit (k := 1) hc2 (by decide); have e2 := i32_lit (k := 2) hc3 (by decide); have e3 := i32_lit (k := 3) hc4 (by decide); have e4 := i32_lit (k := 4) hc5 (by decide); omega) (by decide) ?_
  refine V.iconst dX10_rule_76 ic_m1 ?_
  have e1 := inj1 h
  subst e1
  exact V.iret dX10_rule_77 rfl rfl
theorem ok_Hal_cell {X : Sc} {l : Launch}  {M : Mem} {x1 : Int32} {r : Int32}  (h : f_Hal_cell M x1 = some r) : Mt X l yX10_cell cX10_cell 2 (some .int) 1 0 0 [.ref 0, .int x1] S0 M (some (.int r)) S0 M := by
  refine Mt.ofV (by decide) (Nat.le_of_ble_eq_true rfl) ?_
  show V X yX10_cell cX10_cell 2 (some .int) (rmD 1 0 0) l (FM (some (.int r)) S0 M 0 0) 0 [some (.ref 0), some (.int x1)] [] S0 M 0 0
  unfold f_Hal_cell at h
  refine V.aload_n dX10_cell_0 rfl ?_
  refine V.getR dX10_cell_1 fl_RX10_10 s0_0 rfl rfl ?_
  refine V.iload_n dX10_cell_4 rfl ?_
  obtain ⟨v2, hv1, h⟩ := bnd_s h
  refine V.cVi dX10_cell_5 rfl mv_RX10_113 (ok_Tol_isCell s0_Tol1 hv1) rfl rfl s0_1 rfl (by decide) ⟨Nat.zero_le _, Nat.zero_le _⟩ (Nat.le_of_ble_eq_true rfl) (Nat.zero_le _) ?_
  refine V.if_eq (tgt := 22) dX10_cell_8 (by decide) (fun hc3 => ?_) (fun hc3 => ?_)
  · replace h := ite_t hc3 h
    refine V.iconst dX10_cell_22 ic_m1 ?_
    have e1 := inj1 h
    subst e1
    exact V.iret dX10_cell_23 rfl rfl
  replace h := ite_f hc3 h
  refine V.aload_n dX10_cell_11 rfl ?_
  refine V.getR dX10_cell_12 fl_RX10_10 s0_0 rfl rfl ?_
  refine V.iload_n dX10_cell_15 rfl ?_
  obtain ⟨v5, hv4, h⟩ := bnd_s h
  refine V.cVi dX10_cell_16 rfl mv_RX10_117 (ok_Tol_stateOf s0_Tol1 hv4) rfl rfl s0_1 rfl (by decide) ⟨Nat.zero_le _, Nat.zero_le _⟩ (Nat.le_of_ble_eq_true rfl) (Nat.zero_le _) ?_
  refine V.goto (tgt := 23) dX10_cell_19 (by decide) ?_
  have e1 := inj1 h
  subst e1
  exact V.iret dX10_cell_23 rfl rfl
theorem ok_Hal_isBench {X : Sc} {l : Launch}  {M : Mem} {x1 : Int32} {r : Int32}  (h : f_Hal_isBench M x1 = some r) : Mt X l yX10_isBench cX10_isBench 2 (some .boolean) 1 0 0 [.ref 0, .int x1] S0 M (some (.int r)) S0 M := by
  refine Mt.ofV (by decide) (Nat.le_of_ble_eq_true rfl) ?_
  show V X yX10_isBench cX10_isBench 2 (some .boolean) (rmD 1 0 0) l (FM (some (.int r)) S0 M 0 0) 0 [some (.ref 0), some (.int x1)] [] S0 M 0 0
  unfold f_Hal_isBench at h
  refine V.iload_n dX10_isBench_0 rfl ?_
  refine V.iconst dX10_isBench_1 ic_0 ?_
  refine V.aload_n dX10_isBench_2 rfl ?_
  refine V.getR dX10_isBench_3 fl_RX10_10 s0_0 rfl rfl ?_
  refine V.getR dX10_isBench_6 fl_RX10_127 s0_1 rfl rfl ?_
  refine V.getI dX10_isBench_9 fl_RX10_199 s0_4 rfl rfl ?_
  refine V.iconst dX10_isBench_12 ic_1 ?_
  refine V.isub dX10_isBench_13 ?_
  obtain ⟨v2, hv1, h⟩ := bnd_s h
  refine V.cSi dX10_isBench_14 rfl mv_RX10_77 (ok_Hal_within hv1) rfl rfl (by decide) ⟨Nat.zero_le _, Nat.zero_le _⟩ (Nat.le_of_ble_eq_true rfl) (Nat.zero_le _) ?_
  obtain ⟨hB3, h⟩ := ck_s h
  have e1 := inj1 h
  subst e1
  exact V.iret dX10_isBench_17 rfl (isB_n hB3)
theorem ok_Hal_isHour {X : Sc} {l : Launch} {sh : List Shp}  {M : Mem} {x0 : Int32} {r : Int32}  (h : f_Hal_isHour x0 = some r) : Mt X l yX10_isHour cX10_isHour 1 (some .boolean) 1 0 0 [.int x0] sh M (some (.int r)) sh M := by
  refine Mt.ofV (by decide) (Nat.le_of_ble_eq_true rfl) ?_
  show V X yX10_isHour cX10_isHour 1 (some .boolean) (rmD 1 0 0) l (FM (some (.int r)) sh M 0 0) 0 [some (.int x0)] [] sh M 0 0
  unfold f_Hal_isHour at h
  refine V.iload_n dX10_isHour_0 rfl ?_
  refine V.iconst dX10_isHour_1 ic_0 ?_
  refine V.bipush dX10_isHour_2 bp_11 ?_
  obtain ⟨v2, hv1, h⟩ := bnd_s h
  refine V.cSi dX10_isHour_4 rfl mv_RX10_77 (ok_Hal_within hv1) rfl rfl (by decide) ⟨Nat.zero_le _, Nat.zero_le _⟩ (Nat.le_of_ble_eq_true rfl) (Nat.zero_le _) ?_
  obtain ⟨hB3, h⟩ := ck_s h
  have e1 := inj1 h
  subst e1
  exact V.iret dX10_isHour_7 rfl (isB_n hB3)
theorem ok_Hal_bench {X : Sc} {l : Launch}  {M : Mem} {x1 : Int32} {x2 : Int32} {x3 : Int32} {r : Int32}  (h : f_Hal_bench M x1 x2 x3 = some r) : Mt X l yX10_bench cX10_bench 4 (some .int) 2 0 0 [.ref 0, .int x1, .int x2, .int x3] S0 M (some (.int r)) S0 M := by
  refine Mt.ofV (by decide) (Nat.le_of_ble_eq_true rfl) ?_
  show V X yX10_bench cX10_bench 4 (some .int) (rmD 2 0 0) l (FM (some (.int r)) S0 M 0 0) 0 [some (.ref 0), some (.int x1), some (.int x2), some (.int x3)] [] S0 M 0 0
  unfold f_Hal_bench at h
  refine V.aload_n dX10_bench_0 rfl ?_
  refine V.iload_n dX10_bench_1 rfl ?_
  obtain ⟨v2, hv1, h⟩ := bnd_s h
  refine V.cVi dX10_bench_2 rfl mv_RX10_121 (ok_Hal_isBench hv1) rfl rfl s0_0 rfl (by decide) ⟨Nat.zero_le _, Nat.zero_le _⟩ (Nat.le_of_ble_eq_true rfl) (Nat.zero_le _) ?_
  refine V.if_eq (tgt := 15) dX10_bench_5 (by decide) (fun hc3 => ?_) (fun hc3 => ?_)
  · replace h := ite_t hc3 h
    refine V.iconst dX10_bench_15 ic_m1 ?_
    have e1 := inj1 h
    subst e1
    exact V.iret dX10_bench_16 rfl rfl
  replace h := ite_f hc3 h
  refine V.iload_n dX10_bench_8 rfl ?_
  obtain ⟨v5, hv4, h⟩ := bnd_s h
  refine V.cSi dX10_bench_9 rfl mv_RX10_124 (ok_Hal_isHour hv4) rfl rfl (by decide) ⟨Nat.zero_le _, Nat.zero_le _⟩ (Nat.le_of_ble_eq_true rfl) (Nat.zero_le _) ?_
  refine V.if_ne (tgt := 17) dX10_bench_12 (by decide) (fun hc6 => ?_) (fun hc6 => ?_)
  · replace h := ite_f hc6 h
    refine V.iload_n dX10_bench_17 rfl ?_
    by_cases hc7 : x3 = 0
    · replace h := ite_t hc7 h
      refine V.tabAt (off := 34) (tgt := 52) dX10_bench_18 hc7 (by decide) (by decide) (by decide) (by decide) ?_
      refine V.aload_n dX10_bench_52 rfl ?_
      refine V.getR dX10_bench_53 fl_RX10_10 s0_0 rfl rfl ?_
      refine V.getR dX10_bench_56 fl_RX10_127 s0_1 rfl rfl ?_
      refine V.iload_n dX10_bench_59 rfl ?_
      refine V.iload_n dX10_bench_60 rfl ?_
      refine V.aload_n dX10_bench_61 rfl ?_
      refine V.getR dX10_bench_62 fl_RX10_10 s0_0 rfl rfl ?_
      refine V.getI dX10_bench_65 fl_RX10_98 s0_1 rfl rfl ?_
      obtain ⟨v9, hv8, h⟩ := bnd_s h
      refine V.cVi dX10_bench_68 rfl mv_RX10_131 (ok_Ben_cellIn s0_Ben4 hv8) rfl rfl s0_4 rfl (by decide) ⟨Nat.zero_le _, Nat.zero_le _⟩ (Nat.le_of_ble_eq_true rfl) (Nat.zero_le _) ?_
      have e1 := inj1 h
      subst e1
      exact V.iret dX10_bench_71 rfl rfl
    replace h := ite_f hc7 h
    by_cases hc10 : x3 = 1
    · replace h := ite_t hc10 h
      refine V.tabAt (off := 54) (tgt := 72) dX10_bench_18 hc10 (by decide) (by decide) (by decide) (by decide) ?_
      refine V.aload_n dX10_bench_72 rfl ?_
      refine V.getR dX10_bench_73 fl_RX10_10 s0_0 rfl rfl ?_
      refine V.getR dX10_bench_76 fl_RX10_127 s0_1 rfl rfl ?_
      refine V.iload_n dX10_bench_79 rfl ?_
      refine V.iload_n dX10_bench_80 rfl ?_
      obtain ⟨v12, hv11, h⟩ := bnd_s h
      refine V.cVi dX10_bench_81 rfl mv_RX10_137 (ok_Ben_facingIn s0_Ben4 hv11) rfl rfl s0_4 rfl (by decide) ⟨Nat.zero_le _, Nat.zero_le _⟩ (Nat.le_of_ble_eq_true rfl) (Nat.zero_le _) ?_
      have e1 := inj1 h
      subst e1
      exact V.iret dX10_bench_84 rfl rfl
    replace h := ite_f hc10 h
    by_cases hc13 : x3 = 2
    · replace h := ite_t hc13 h
      refine V.tabAt (off := 67) (tgt := 85) dX10_bench_18 hc13 (by decide) (by decide) (by decide) (by decide) ?_
      refine V.aload_n dX10_bench_85 rfl ?_
      refine V.getR dX10_bench_86 fl_RX10_10 s0_0 rfl rfl ?_
      refine V.getR dX10_bench_89 fl_RX10_127 s0_1 rfl rfl ?_
      refine V.iload_n dX10_bench_92 rfl ?_
      obtain ⟨v15, hv14, h⟩ := bnd_s h
      refine V.cVi dX10_bench_93 rfl mv_RX10_141 (ok_Ben_earOf s0_Ben4 hv14) rfl rfl s0_4 rfl (by decide) ⟨Nat.zero_le _, Nat.zero_le _⟩ (Nat.le_of_ble_eq_true rfl) (Nat.zero_le _) ?_
      have e1 := inj1 h
      subst e1
      exact V.iret dX10_bench_96 rfl rfl
    replace h := ite_f hc13 h
    by_cases hc16 : x3 = 3
    · replace h := ite_t hc16 h
      refine V.tabAt (off := 79) (tgt := 97) dX10_bench_18 hc16 (by decide) (by decide) (by decide) (by decide) ?_
      refine V.aload_n dX10_bench_97 rfl ?_
      refine V.getR dX10_bench_98 fl_RX10_10 s0_0 rfl rfl ?_
      refine V.getR dX10_bench_101 fl_RX10_127 s0_1 rfl rfl ?_
      refine V.iload_n dX10_bench_104 rfl ?_
      obtain ⟨v18, hv17, h⟩ := bnd_s h
      refine V.cVi dX10_bench_105 rfl mv_RX10_144 (ok_Ben_kindOf s0_Ben4 hv17) rfl rfl s0_4 rfl (by decide) ⟨Nat.zero_le _, Nat.zero_le _⟩ (Nat.le_of_ble_eq_true rfl) (Nat.zero_le _) ?_
      have e1 := inj1 h
      subst e1
      exact V.iret dX10_bench_108 rfl rfl
    replace h := ite_f hc16 h
    by_cases hc19 : x3 = 4
    · replace h := ite_t hc19 h
      refine V.tabAt (off := 91) (tgt := 109) dX10_bench_18 hc19 (by decide) (by decide) (by decide) (by decide) ?_
      refine V.aload_n dX10_bench_109 rfl ?_
      refine V.getR dX10_bench_110 fl_RX10_10 s0_0 rfl rfl ?_
      refine V.iload_n dX10_bench_113 rfl ?_
      obtain ⟨v21, hv20, h⟩ := bnd_s h
      refine V.cVi dX10_bench_114 rfl mv_RX10_147 (ok_Tol_sitterOn s0_Tol1 hv20) rfl rfl s0_1 rfl (by decide) ⟨Nat.zero_le _, Nat.zero_le _⟩ (Nat.le_of_ble_eq_true rfl) (Nat.zero_le _) ?_
      have e1 := inj1 h
      subst e1
      exact V.iret dX10_bench_117 rfl rfl
    replace h := ite_f hc19 h
    refine V.tabOut (tgt := 118) dX10_bench_18 (by have e0 := i32_lit (k := 0) hc7 (by decide); have e1 := i32_lit (k := 1) hc10 (by decide); have e2 := i32_lit (k := 2) hc13 (by decide); have e3 := i32_lit (k := 3) hc16 (by decide); have e4 := i32_lit (k := 4) hc19 (by decide); omega) (by decide) ?_
    refine V.iconst dX10_bench_118 ic_m1 ?_
    have e1 := inj1 h
    subst e1
    exact V.iret dX10_bench_119 rfl rfl
  replace h := ite_t hc6 h
  refine V.iconst dX10_bench_15 ic_m1 ?_
  have e1 := inj1 h
  subst e1
  exact V.iret dX10_bench_16 rfl rfl
theorem ok_Hal_want {X : Sc} {l : Launch}  {M : Mem} {x1 : Int32} {x2 : Int32} {r : Int32}  (h : f_Hal_want M x1 x2 = some r) : Mt X l yX10_want cX10_want 3 (some .int) 1 0 0 [.ref 0, .int x1, .int x2] S0 M (some (.int r)) S0 M := by
  refine Mt.ofV (by decide) (Nat.le_of_ble_eq_true rfl) ?_
  show V X yX10_want cX10_want 3 (some .int) (rmD 1 0 0) l (FM (some (.int r)) S0 M 0 0) 0 [some (.ref 0), some (.int x1), some (.int x2)] [] S0 M 0 0
  unfold f_Hal_want at h
  refine V.aload_n dX10_want_0 rfl ?_
  refine V.getR dX10_want_1 fl_RX10_10 s0_0 rfl rfl ?_
  refine V.getR dX10_want_4 fl_RX10_150 s0_1 rfl rfl ?_
  refine V.iload_n dX10_want_7 rfl ?_
  refine V.iload_n dX10_want_8 rfl ?_
  obtain ⟨v2, hv1, h⟩ := bnd_s h
  refine V.cVi dX10_want_9 rfl mv_RX10_154 (ok_Tri_part s0_Tri10 hv1) rfl rfl s0_10 rfl (by decide) ⟨Nat.zero_le _, Nat.zero_le _⟩ (Nat.le_of_ble_eq_true rfl) (Nat.zero_le _) ?_
  have e1 := inj1 h
  subst e1
  exact V.iret dX10_want_12 rfl rfl
theorem okc_Hal_hang_43 {X : Sc} {l : Launch}     {x1 : Int32} {x2 : Int32} {M : Mem} {r : Int32} {M' : Mem} (h : f_Hal_hang_J43  x1 x2 M = some (r, M')) : V X yX10_hang cX10_hang 4 (some .int) (rmD 1 0 0) l (FM (some (.int r)) S0 M' 0 0) 43 [some (.ref 0), some (.int x1), some (.int x2), none] [] S0 M 0 0 := by
  unfold f_Hal_hang_J43 at h
  refine V.aload_n dX10_hang_43 rfl ?_
  refine V.getR dX10_hang_44 fl_RX10_10 s0_0 rfl rfl ?_
  refine V.iload_n dX10_hang_47 rfl ?_
  obtain ⟨v2, hv1, h⟩ := bnd_s h
  refine V.cVi dX10_hang_48 rfl mv_RX10_117 (ok_Tol_stateOf s0_Tol1 hv1) rfl rfl s0_1 rfl (by decide) ⟨Nat.zero_le _, Nat.zero_le _⟩ (Nat.le_of_ble_eq_true rfl) (Nat.zero_le _) ?_
  refine V.istore_n dX10_hang_51 (by decide) rfl ?_
  refine V.aload_n dX10_hang_52 rfl ?_
  refine V.getR dX10_hang_53 fl_RX10_10 s0_0 rfl rfl ?_
  refine V.iload_n dX10_hang_56 rfl ?_
  refine V.iload_n dX10_hang_57 rfl ?_
  obtain ⟨M4, hv3, h⟩ := bnd_s h
  refine V.cVv dX10_hang_58 rfl mv_RX10_162 (ok_Tol_setState s0_Tol1 hv3) rfl rfl s0_1 rfl (by decide) ⟨Nat.zero_le _, Nat.zero_le _⟩ (Nat.le_of_ble_eq_true rfl) (Nat.zero_le _) ?_
  refine V.iload_n dX10_hang_61 rfl ?_
  obtain ⟨e1, e2⟩ := inj2 h
  subst e1
  subst e2
  exact V.iret dX10_hang_62 rfl rfl
theorem ok_Hal_hang {X : Sc} {l : Launch}  {M : Mem} {x1 : Int32} {x2 : Int32} {r : Int32} {M' : Mem}  (h : f_Hal_hang x1 x2 M = some (r, M')) : Mt X l yX10_hang cX10_hang 4 (some .int) 1 0 0 [.ref 0, .int x1, .int x2] S0 M (some (.int r)) S0 M' := by
  refine Mt.ofV (by decide) (Nat.le_of_ble_eq_true rfl) ?_
  show V X yX10_hang cX10_hang 4 (some .int) (rmD 1 0 0) l (FM (some (.int r)) S0 M' 0 0) 0 [some (.ref 0), some (.int x1), some (.int x2), none] [] S0 M 0 0
  unfold f_Hal_hang at h
  refine V.aload_n dX10_hang_0 rfl ?_
  refine V.getR dX10_hang_1 fl_RX10_10 s0_0 rfl rfl ?_
  refine V.iload_n dX10_hang_4 rfl ?_
  obtain ⟨v2, hv1, h⟩ := bnd_s h
  refine V.cVi dX10_hang_5 rfl mv_RX10_113 (ok_Tol_isCell s0_Tol1 hv1) rfl rfl s0_1 rfl (by decide) ⟨Nat.zero_le _, Nat.zero_le _⟩ (Nat.le_of_ble_eq_true rfl) (Nat.zero_le _) ?_
  refine V.if_eq (tgt := 20) dX10_hang_8 (by decide) (fun hc3 => ?_) (fun hc3 => ?_)
  · replace h := ite_t hc3 h
    refine V.iconst dX10_hang_20 ic_m1 ?_
    obtain ⟨e1, e2⟩ := inj2 h
    subst e1
    subst e2
    exact V.iret dX10_hang_21 rfl rfl
  replace h := ite_f hc3 h
  refine V.iload_n dX10_hang_11 rfl ?_
  refine V.iconst dX10_hang_12 ic_0 ?_
  refine V.iconst dX10_hang_13 ic_2 ?_
  obtain ⟨v5, hv4, h⟩ := bnd_s h
  refine V.cSi dX10_hang_14 rfl mv_RX10_77 (ok_Hal_within hv4) rfl rfl (by decide) ⟨Nat.zero_le _, Nat.zero_le _⟩ (Nat.le_of_ble_eq_true rfl) (Nat.zero_le _) ?_
  refine V.if_ne (tgt := 22) dX10_hang_17 (by decide) (fun hc6 => ?_) (fun hc6 => ?_)
  · replace h := ite_f hc6 h
    refine V.iload_n dX10_hang_22 rfl ?_
    refine V.if_eq (tgt := 43) dX10_hang_23 (by decide) (fun hc7 => ?_) (fun hc7 => ?_)
    · replace h := ite_t hc7 h
      exact okc_Hal_hang_43 h
    replace h := ite_f hc7 h
    refine V.aload_n dX10_hang_26 rfl ?_
    refine V.getR dX10_hang_27 fl_RX10_10 s0_0 rfl rfl ?_
    refine V.getR dX10_hang_30 fl_RX10_127 s0_1 rfl rfl ?_
    refine V.iload_n dX10_hang_33 rfl ?_
    obtain ⟨v9, hv8, h⟩ := bnd_s h
    refine V.cVi dX10_hang_34 rfl mv_RX10_159 (ok_Ben_anyPutOn s0_Ben4 hv8) rfl rfl s0_4 rfl (by decide) ⟨Nat.zero_le _, Nat.zero_le _⟩ (Nat.le_of_ble_eq_true rfl) (Nat.zero_le _) ?_
    refine V.if_eq (tgt := 43) dX10_hang_37 (by decide) (fun hc10 => ?_) (fun hc10 => ?_)
    · replace h := ite_t hc10 h
      exact okc_Hal_hang_43 h
    replace h := ite_f hc10 h
    refine V.bipush dX10_hang_40 bp_m2 ?_
    obtain ⟨e1, e2⟩ := inj2 h
    subst e1
    subst e2
    exact V.iret dX10_hang_42 rfl rfl
  replace h := ite_t hc6 h
  refine V.iconst dX10_hang_20 ic_m1 ?_
  obtain ⟨e1, e2⟩ := inj2 h
  subst e1
  subst e2
  exact V.iret dX10_hang_21 rfl rfl
theorem ok_Hal_warm {X : Sc} {l : Launch}  {M : Mem} {x1 : Int32} {r : Int32} {M' : Mem}  (h : f_Hal_warm x1 M = some (r, M')) : Mt X l yX10_warm cX10_warm 3 (some .int) 1 0 0 [.ref 0, .int x1] S0 M (some (.int r)) S0 M' := by
  refine Mt.ofV (by decide) (Nat.le_of_ble_eq_true rfl) ?_
  show V X yX10_warm cX10_warm 3 (some .int) (rmD 1 0 0) l (FM (some (.int r)) S0 M' 0 0) 0 [some (.ref 0), some (.int x1), none] [] S0 M 0 0
  unfold f_Hal_warm at h
  refine V.iload_n dX10_warm_0 rfl ?_
  refine V.iconst dX10_warm_1 ic_0 ?_
  refine V.bipush dX10_warm_2 bp_9 ?_
  obtain ⟨v2, hv1, h⟩ := bnd_s h
  refine V.cSi dX10_warm_4 rfl mv_RX10_77 (ok_Hal_within hv1) rfl rfl (by decide) ⟨Nat.zero_le _, Nat.zero_le _⟩ (Nat.le_of_ble_eq_true rfl) (Nat.zero_le _) ?_
  refine V.if_ne (tgt := 12) dX10_warm_7 (by decide) (fun hc3 => ?_) (fun hc3 => ?_)
  · replace h := ite_f hc3 h
    refine V.aload_n dX10_warm_12 rfl ?_
    refine V.getR dX10_warm_13 fl_RX10_10 s0_0 rfl rfl ?_
    refine V.getI dX10_warm_16 fl_RX10_110 s0_1 rfl rfl ?_
    refine V.nmI (fun w4 hw4 => ?_)
    replace h := nmI_at h w4 hw4
    refine V.istore_n dX10_warm_19 (by decide) rfl ?_
    refine V.aload_n dX10_warm_20 rfl ?_
    refine V.getR dX10_warm_21 fl_RX10_10 s0_0 rfl rfl ?_
    refine V.iload_n dX10_warm_24 rfl ?_
    refine V.putI dX10_warm_25 fp_RX10_110 s0_1 rfl rfl (fun M5 hM5 => ?_)
    replace h := setM_at h M5 hM5
    refine V.iload_n dX10_warm_28 rfl ?_
    obtain ⟨e1, e2⟩ := inj2 h
    subst e1
    subst e2
    exact V.iret dX10_warm_29 rfl rfl
  replace h := ite_t hc3 h
  refine V.iconst dX10_warm_10 ic_m1 ?_
  obtain ⟨e1, e2⟩ := inj2 h
  subst e1
  subst e2
  exact V.iret dX10_warm_11 rfl rfl
