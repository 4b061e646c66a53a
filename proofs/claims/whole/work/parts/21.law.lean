/-! THE CLAIM OUT OF ONE WALK OF THE LAW'S BODY. Your part is whole_start (and what it stands on); all else here is the same for every law, but numbers. -/
def R_law : String := "HallAnswersLaw"
def lw_P (b : Addr) (xs : List Int32) (args : Array Value) (s : State) : Prop := args = #[.ref b] ∧ s.IntsAt b xs ∧ xs.length ≤ 2560 ∧ (Jvm.Cond.and given_1 narrow_1).before args s = true
def lw_Q (_ : Array Value) (s : State) (o : Outcome) (t : State) : Prop := o = .returned (some (.int 1)) ∧ Framed s o t [] 600000 7302250
def lw_Z (below : List Frame) (a : Array Value) (s : State) : State → Prop := fun t => ∃ o, t.status = .running ∧ Ended t below o ∧ lw_Q a s o t
/-- the law's own end, with 1 on the stack, nothing written that was there before, its room as the claim has it -/
theorem lw_ret {p : Program} {l : Launch} {e : Env} {s : State} {m : MethodId} {below : List Frame} {meth : Method} {c : Code} {b : Nat} (hx : p.tables.exec = Jvm.exec) (hb : c.code = code) (hr : meth.sig.returnType = ret) (hlocks : meth.locks = false) {pc : Nat} {H : Heap} {ls : Array Slot} (hdg : decode code pc = .ok (.ireturn, 1)) : W p l e room_1 s m #[Value.ref b] below meth c H [] 600000 7302250 (lw_Z below #[Value.ref b] s) (F0 m pc ls [.int 1]) := by
  intro T hT X
  obtain ⟨fs, hret, hrun, hended, hW, hframe⟩ := X.leave (v := some (.int 1)) (hlocks := hlocks) (fun h => by rw [hr] at h; cases h)
  have hmeth' : T.vm.method? m = some meth := X.method'
  refine ⟨T.setFrames fs, ?_, .returned (some (.int 1)), hrun, hended, rfl, ⟨_, rfl⟩, hW, hframe⟩
  jvm_step X.here [X.here.top, hx, hb, hdg, hmeth', hr, ret, narrow_b1]
  (try refine ⟨rfl, ?_⟩); (try refine ⟨rfl, ?_⟩)
  first | (intro acts; rw [hret _ acts rfl rfl rfl]) | rw [hret _ _ rfl rfl rfl]
  exact Steps.refl _
/-- what holds at the law's entry: the machine, the code, the tables' words (any of lw_tbl by 'hts w (by decide +kernel)'), the script of L ints xs at the cell b, what the Statement gives of the start (any of its parts by flat_of_before) -/
def lw_At (p : Program) (s : State) (m : MethodId) (meth : Method) (c : Code) (b L : Nat) (xs : Nat → Int32) : Prop :=
  p.tables.exec = Jvm.exec ∧ c.code = code ∧ meth.sig.returnType = ret ∧ c.maxLocals = 4 ∧ s.vm.findClass R_law = some m.cls ∧ (∀ w ∈ lw_tbl, w.before #[Value.ref b] s = true) ∧ va_X b L xs s s.heap ∧ b < s.heap.size ∧ meth.locks = false ∧ (Jvm.Cond.and given_1 narrow_1).before #[Value.ref b] s = true

/-! the law, machine side -/
theorem lw_retA {p : Program} {l : Launch} {e : Env} {s : State} {m : MethodId} {args : Array Value} {below : List Frame} {meth : Method} {c : Code} (hx : p.tables.exec = Jvm.exec) (hb : c.code = code) (hr : meth.sig.returnType = ret) (hlocks : meth.locks = false) {pc : Nat} {H : Heap} {ls : Array Slot} (hdg : decode code pc = .ok (.ireturn, 1)) : W p l e room_1 s m args below meth c H [] 600000 7302250 (lw_Z below args s) (F0 m pc ls [.int 1]) := by
  intro T hT X
  obtain ⟨fs, hret, hrun, hended, hW, hframe⟩ := X.leave (v := some (.int 1)) (hlocks := hlocks) (fun h => by rw [hr] at h; cases h)
  have hmeth' : T.vm.method? m = some meth := X.method'
  refine ⟨T.setFrames fs, ?_, .returned (some (.int 1)), hrun, hended, rfl, ⟨_, rfl⟩, hW, hframe⟩
  jvm_step X.here [X.here.top, hx, hb, hdg, hmeth', hr, ret, narrow_b1]
  (try refine ⟨rfl, ?_⟩); (try refine ⟨rfl, ?_⟩)
  first | (intro acts; rw [hret _ acts rfl rfl rfl]) | rw [hret _ _ rfl rfl rfl]
  exact Steps.refl _
def FLaw : Fi → List Frame → Array Value → State → State → Prop := fun _ below args s => lw_Z below args s
abbrev slLaw : Nat := 3112
theorem law_sz : 122 ≤ S0.length := by decide +kernel
theorem law_F : 122 ≤ room_1.cells ∧ slLaw ≤ room_1.slots := by decide
theorem V.lawret {X : Sc} {l : Launch} {pc : Nat} {ls : List (Option Value)} {M : Mem} (hd : decode cL_law pc = .ok (.ireturn, 1)) : V X yL_law cL_law 4 ret room_1 l FLaw pc ls [.int 1] S0 M 122 slLaw := by
  intro Φ p e s m args below meth c H locs lsA hC hN hH hW hS hL
  have hb : fi_b Φ = s.heap.size := by
    have h0 : S0.length = 122 := rfl
    omega
  refine va_forget (fun q hq => by have h1 : fi_b Φ ≤ q.base := hS.2.2 q hq; omega) ?_
  exact W.widen (k := 600000) (n := 7302250) (by decide) (by decide) (lw_retA hC.1 hC.2.1 hC.2.2.2.1 hC.2.2.2.2.1 hd)
theorem nw_RL_7 : Cond.classLink RL 7 RX10 ∈ GW ∧ Cond.instantiable RX10 10 ∈ GW ∧ Cond.initialized RX10 ∈ GW := ⟨gw_at 105 (by decide +kernel) rfl, gw_at 106 (by decide +kernel) rfl, gw_at 85 (by decide +kernel) rfl⟩
theorem nw_RL_10 : Cond.classLink RL 10 RX11 ∈ GW ∧ Cond.instantiable RX11 44 ∈ GW ∧ Cond.initialized RX11 ∈ GW := ⟨gw_at 1116 (by decide +kernel) rfl, gw_at 1117 (by decide +kernel) rfl, gw_at 97 (by decide +kernel) rfl⟩
theorem iw_RL_9 : Cond.methodLink RL 9 yX10_init ∈ GW ∧ Cond.instanceMethod yX10_init ∈ GW ∧ Cond.initialized yX10_init.cls ∈ GW ∧ Cond.code yX10_init cX10_init 1 none ∈ GW ∧ MX yX10_init 0 := ⟨gw_at 107 (by decide +kernel) rfl, gw_at 108 (by decide +kernel) rfl, gw_at 85 (by decide +kernel) rfl, gw_at 109 (by decide +kernel) rfl, ⟨by decide +kernel, by decide +kernel, by decide +kernel⟩⟩
theorem iw_RL_12 : Cond.methodLink RL 12 yX11_init ∈ GW ∧ Cond.instanceMethod yX11_init ∈ GW ∧ Cond.initialized yX11_init.cls ∈ GW ∧ Cond.code yX11_init cX11_init 2 none ∈ GW ∧ MX yX11_init 0 := ⟨gw_at 1118 (by decide +kernel) rfl, gw_at 1119 (by decide +kernel) rfl, gw_at 97 (by decide +kernel) rfl, gw_at 1120 (by decide +kernel) rfl, ⟨by decide +kernel, by decide +kernel, by decide +kernel⟩⟩
theorem dvX10 : ∀ k, k < 10 → tyX10 k = .int ∨ defaultValue (tyX10 k) = .null ∧ tyX10 k ≠ .int := by decide +kernel
theorem dvX11 : ∀ k, k < 44 → tyX11 k = .int ∨ defaultValue (tyX11 k) = .null ∧ tyX11 k ≠ .int := by decide +kernel
def c_Law : CR :=
  mkO 0 (10, 10, [some none, some none, some none, none, some none, some none, some none, some none, some none, none]) [] (fun _ _ => 0) fun sh1 M1 =>
  caO 1 102 (c_Hal 0 sh1 M1) sh1 fun sh2 M2 =>
  mkO 103 (11, 44, [some none, some none, none, none, none, none, none, none, none, some none, some none, some none, some none, some none, some none, none, none, none, none, none, none, some none, none, none, none, none, none, none, none, some none, some none, none, some none, some none, some none, none, none, none, none, some none, some none, some none, some none, none]) sh2 M2 fun sh3 M3 =>
  caO 104 18 (c_Mod 103 sh3 M3) sh3 fun sh4 M4 =>
  some (sh4, M4)
theorem okc_Law_law_18 {X : Sc} {l : Launch}     : ∀ (n : Nat) (x3 : Int32) (M : Mem) , f_Law_law_L18 X n x3 M = some 1 → V X yL_law cL_law 4 ret room_1 l FLaw 18 [some (.ref 1000), some (.ref 0), some (.ref 103), some (.int x3)] [] S0 M 122 slLaw := by
  intro n
  induction n with
  | zero =>
    intro x3 M  h
    rw [f_Law_law_L18] at h
    cases h
  | succ n ih =>
    intro x3 M  h
    rw [f_Law_law_L18] at h
    refine V.iload_n dL_law_18 rfl ?_
    refine V.aload_n dL_law_19 rfl ?_
    refine V.lenS dL_law_20 ?_
    refine V.iconst dL_law_21 ic_5 ?_
    refine V.isub dL_law_22 ?_
    refine V.icmp_gt (tgt := 1551) dL_law_23 (by decide) (fun hc1 => ?_) (fun hc1 => ?_)
    · replace h := ite_t hc1 h
      refine V.iconst dL_law_1551 ic_1 ?_
      exact V.lawret dL_law_1552
    replace h := ite_f hc1 h
    refine V.aload_n dL_law_26 rfl ?_
    refine V.iload_n dL_law_27 rfl ?_
    obtain ⟨hb2, h⟩ := ck_s h
    refine V.aldS dL_law_28 (vp_of hb2) ?_
    refine V.bipush dL_law_29 bp_63 ?_
    refine V.iand dL_law_31 ?_
    by_cases hc3 : (X.2 (ix x3)) &&& 63 = 0
    · replace h := ite_t hc3 h
      refine V.tabAt (off := 180) (tgt := 212) dL_law_32 hc3 (by decide) (by decide) (by decide) (by decide) ?_
      refine V.aload_n dL_law_212 rfl ?_
      refine V.aload_n dL_law_213 rfl ?_
      refine V.iload_n dL_law_214 rfl ?_
      refine V.iconst dL_law_215 ic_1 ?_
      refine V.iadd dL_law_216 ?_
      obtain ⟨hb4, h⟩ := ck_s h
      refine V.aldS dL_law_217 (vp_of hb4) ?_
      refine V.i2l dL_law_218 ?_
      refine V.bipush dL_law_219 bp_32 ?_
      refine V.lshl dL_law_221 ?_
      refine V.aload_n dL_law_222 rfl ?_
      refine V.iload_n dL_law_223 rfl ?_
      refine V.iconst dL_law_224 ic_2 ?_
      refine V.iadd dL_law_225 ?_
      obtain ⟨hb5, h⟩ := ck_s h
      refine V.aldS dL_law_226 (vp_of hb5) ?_
      refine V.i2l dL_law_227 ?_
      refine V.ldc2 dL_law_228 rfl kc_RL_13 ?_
      refine V.land dL_law_231 ?_
      refine V.lor dL_law_232 ?_
      obtain ⟨v7, M8, hv6, h⟩ := bnd2_s h
      refine V.cVi dL_law_233 rfl mv_RL_15 (ok_Hal_feed hv6) rfl rfl s0_0 rfl (by decide) law_F (Nat.le_of_ble_eq_true rfl) law_sz ?_
      refine V.aload_n dL_law_236 rfl ?_
      refine V.aload_n dL_law_237 rfl ?_
      refine V.iload_n dL_law_238 rfl ?_
      refine V.iconst dL_law_239 ic_1 ?_
      refine V.iadd dL_law_240 ?_
      obtain ⟨hb9, h⟩ := ck_s h
      refine V.aldS dL_law_241 (vp_of hb9) ?_
      refine V.i2l dL_law_242 ?_
      refine V.bipush dL_law_243 bp_32 ?_
      refine V.lshl dL_law_245 ?_
      refine V.aload_n dL_law_246 rfl ?_
      refine V.iload_n dL_law_247 rfl ?_
      refine V.iconst dL_law_248 ic_2 ?_
      refine V.iadd dL_law_249 ?_
      obtain ⟨hb10, h⟩ := ck_s h
      refine V.aldS dL_law_250 (vp_of hb10) ?_
      refine V.i2l dL_law_251 ?_
      refine V.ldc2 dL_law_252 rfl kc_RL_13 ?_
      refine V.land dL_law_255 ?_
      refine V.lor dL_law_256 ?_
      obtain ⟨v12, M13, hv11, h⟩ := bnd2_s h
      refine V.cVi dL_law_257 rfl mv_RL_19 (ok_Mod_feed hv11) rfl rfl s0_103 rfl (by decide) law_F (Nat.le_of_ble_eq_true rfl) law_sz ?_
      refine V.icmp_eq (tgt := 1545) dL_law_260 (by decide) (fun hc14 => ?_) (fun hc14 => ?_)
      · replace h := ite_t hc14 h
        refine V.iinc dL_law_1545 rfl (iinc_c ic_5) (by decide) rfl ?_
        refine V.goto (tgt := 18) dL_law_1548 (by decide) ?_
        exact ih _ _ h
      replace h := ite_f hc14 h
      refine V.iconst dL_law_263 ic_0 ?_
      exact absurd h (by decide)
    replace h := ite_f hc3 h
    by_cases hc15 : (X.2 (ix x3)) &&& 63 = 1
    · replace h := ite_t hc15 h
      refine V.tabAt (off := 233) (tgt := 265) dL_law_32 hc15 (by decide) (by decide) (by decide) (by decide) ?_
      refine V.aload_n dL_law_265 rfl ?_
      refine V.aload_n dL_law_266 rfl ?_
      refine V.iload_n dL_law_267 rfl ?_
      refine V.iconst dL_law_268 ic_1 ?_
      refine V.iadd dL_law_269 ?_
      obtain ⟨hb16, h⟩ := ck_s h
      refine V.aldS dL_law_270 (vp_of hb16) ?_
      obtain ⟨v18, M19, hv17, h⟩ := bnd2_s h
      refine V.cVi dL_law_271 rfl mv_RL_20 (ok_Hal_end hv17) rfl rfl s0_0 rfl (by decide) law_F (Nat.le_of_ble_eq_true rfl) law_sz ?_
      refine V.aload_n dL_law_274 rfl ?_
      refine V.aload_n dL_law_275 rfl ?_
      refine V.iload_n dL_law_276 rfl ?_
      refine V.iconst dL_law_277 ic_1 ?_
      refine V.iadd dL_law_278 ?_
      obtain ⟨hb20, h⟩ := ck_s h
      refine V.aldS dL_law_279 (vp_of hb20) ?_
      obtain ⟨v22, M23, hv21, h⟩ := bnd2_s h
      refine V.cVi dL_law_280 rfl mv_RL_24 (ok_Mod_end hv21) rfl rfl s0_103 rfl (by decide) law_F (Nat.le_of_ble_eq_true rfl) law_sz ?_
      refine V.icmp_eq (tgt := 1545) dL_law_283 (by decide) (fun hc24 => ?_) (fun hc24 => ?_)
      · replace h := ite_t hc24 h
        refine V.iinc dL_law_1545 rfl (iinc_c ic_5) (by decide) rfl ?_
        refine V.goto (tgt := 18) dL_law_1548 (by decide) ?_
        exact ih _ _ h
      replace h := ite_f hc24 h
      refine V.iconst dL_law_286 ic_0 ?_
      exact absurd h (by decide)
    replace h := ite_f hc15 h
    by_cases hc25 : (X.2 (ix x3)) &&& 63 = 2
    · replace h := ite_t hc25 h
      refine V.tabAt (off := 256) (tgt := 288) dL_law_32 hc25 (by decide) (by decide) (by decide) (by decide) ?_
      refine V.aload_n dL_law_288 rfl ?_
      obtain ⟨v27, M28, hv26, h⟩ := bnd2_s h
      refine V.cVi dL_law_289 rfl mv_RL_25 (ok_Hal_text hv26) rfl rfl s0_0 rfl (by decide) law_F (Nat.le_of_ble_eq_true rfl) law_sz ?_
      refine V.aload_n dL_law_292 rfl ?_
      obtain ⟨v30, M31, hv29, h⟩ := bnd2_s h
      refine V.cVi dL_law_293 rfl mv_RL_29 (ok_Mod_text hv29) rfl rfl s0_103 rfl (by decide) law_F (Nat.le_of_ble_eq_true rfl) law_sz ?_
      refine V.icmp_eq (tgt := 1545) dL_law_296 (by decide) (fun hc32 => ?_) (fun hc32 => ?_)
      · replace h := ite_t hc32 h
        refine V.iinc dL_law_1545 rfl (iinc_c ic_5) (by decide) rfl ?_
        refine V.goto (tgt := 18) dL_law_1548 (by decide) ?_
        exact ih _ _ h
      replace h := ite_f hc32 h
      refine V.iconst dL_law_299 ic_0 ?_
      exact absurd h (by decide)
    replace h := ite_f hc25 h
    by_cases hc33 : (X.2 (ix x3)) &&& 63 = 3
    · replace h := ite_t hc33 h
      refine V.tabAt (off := 269) (tgt := 301) dL_law_32 hc33 (by decide) (by decide) (by decide) (by decide) ?_
      refine V.aload_n dL_law_301 rfl ?_
      obtain ⟨v35, hv34, h⟩ := bnd_s h
      refine V.cVi dL_law_302 rfl mv_RL_30 (ok_Hal_fault hv34) rfl rfl s0_0 rfl (by decide) law_F (Nat.le_of_ble_eq_true rfl) law_sz ?_
      refine V.aload_n dL_law_305 rfl ?_
      obtain ⟨v37, hv36, h⟩ := bnd_s h
      refine V.cVi dL_law_306 rfl mv_RL_33 (ok_Mod_fault hv36) rfl rfl s0_103 rfl (by decide) law_F (Nat.le_of_ble_eq_true rfl) law_sz ?_
      refine V.icmp_eq (tgt := 1545) dL_law_309 (by decide) (fun hc38 => ?_) (fun hc38 => ?_)
      · replace h := ite_t hc38 h
        refine V.iinc dL_law_1545 rfl (iinc_c ic_5) (by decide) rfl ?_
        refine V.goto (tgt := 18) dL_law_1548 (by decide) ?_
        exact ih _ _ h
      replace h := ite_f hc38 h
      refine V.iconst dL_law_312 ic_0 ?_
      exact absurd h (by decide)
    replace h := ite_f hc33 h
    by_cases hc39 : (X.2 (ix x3)) &&& 63 = 4
    · replace h := ite_t hc39 h
      refine V.tabAt (off := 282) (tgt := 314) dL_law_32 hc39 (by decide) (by decide) (by decide) (by decide) ?_
      refine V.aload_n dL_law_314 rfl ?_
      refine V.aload_n dL_law_315 rfl ?_
      refine V.iload_n dL_law_316 rfl ?_
      refine V.iconst dL_law_317 ic_1 ?_
      refine V.iadd dL_law_318 ?_
      obtain ⟨hb40, h⟩ := ck_s h
      refine V.aldS dL_law_319 (vp_of hb40) ?_
      obtain ⟨v42, hv41, h⟩ := bnd_s h
      refine V.cVi dL_law_320 rfl mv_RL_34 (ok_Hal_rule hv41) rfl rfl s0_0 rfl (by decide) law_F (Nat.le_of_ble_eq_true rfl) law_sz ?_
      refine V.aload_n dL_law_323 rfl ?_
      refine V.aload_n dL_law_324 rfl ?_
      refine V.iload_n dL_law_325 rfl ?_
      refine V.iconst dL_law_326 ic_1 ?_
      refine V.iadd dL_law_327 ?_
      obtain ⟨hb43, h⟩ := ck_s h
      refine V.aldS dL_law_328 (vp_of hb43) ?_
      obtain ⟨v45, hv44, h⟩ := bnd_s h
      refine V.cVi dL_law_329 rfl mv_RL_37 (ok_Mod_rule hv44) rfl rfl s0_103 rfl (by decide) law_F (Nat.le_of_ble_eq_true rfl) law_sz ?_
      refine V.icmp_eq (tgt := 1545) dL_law_332 (by decide) (fun hc46 => ?_) (fun hc46 => ?_)
      · replace h := ite_t hc46 h
        refine V.iinc dL_law_1545 rfl (iinc_c ic_5) (by decide) rfl ?_
        refine V.goto (tgt := 18) dL_law_1548 (by decide) ?_
        exact ih _ _ h
      replace h := ite_f hc46 h
      refine V.iconst dL_law_335 ic_0 ?_
      exact absurd h (by decide)
    replace h := ite_f hc39 h
    by_cases hc47 : (X.2 (ix x3)) &&& 63 = 5
    · replace h := ite_t hc47 h
      refine V.tabAt (off := 305) (tgt := 337) dL_law_32 hc47 (by decide) (by decide) (by decide) (by decide) ?_
      refine V.aload_n dL_law_337 rfl ?_
      refine V.aload_n dL_law_338 rfl ?_
      refine V.iload_n dL_law_339 rfl ?_
      refine V.iconst dL_law_340 ic_1 ?_
      refine V.iadd dL_law_341 ?_
      obtain ⟨hb48, h⟩ := ck_s h
      refine V.aldS dL_law_342 (vp_of hb48) ?_
      obtain ⟨v50, hv49, h⟩ := bnd_s h
      refine V.cVi dL_law_343 rfl mv_RL_38 (ok_Hal_cell hv49) rfl rfl s0_0 rfl (by decide) law_F (Nat.le_of_ble_eq_true rfl) law_sz ?_
      refine V.aload_n dL_law_346 rfl ?_
      refine V.aload_n dL_law_347 rfl ?_
      refine V.iload_n dL_law_348 rfl ?_
      refine V.iconst dL_law_349 ic_1 ?_
      refine V.iadd dL_law_350 ?_
      obtain ⟨hb51, h⟩ := ck_s h
      refine V.aldS dL_law_351 (vp_of hb51) ?_
      obtain ⟨v53, hv52, h⟩ := bnd_s h
      refine V.cVi dL_law_352 rfl mv_RL_41 (ok_Mod_cell hv52) rfl rfl s0_103 rfl (by decide) law_F (Nat.le_of_ble_eq_true rfl) law_sz ?_
      refine V.icmp_eq (tgt := 1545) dL_law_355 (by decide) (fun hc54 => ?_) (fun hc54 => ?_)
      · replace h := ite_t hc54 h
        refine V.iinc dL_law_1545 rfl (iinc_c ic_5) (by decide) rfl ?_
        refine V.goto (tgt := 18) dL_law_1548 (by decide) ?_
        exact ih _ _ h
      replace h := ite_f hc54 h
      refine V.iconst dL_law_358 ic_0 ?_
      exact absurd h (by decide)
    replace h := ite_f hc47 h
    by_cases hc55 : (X.2 (ix x3)) &&& 63 = 6
    · replace h := ite_t hc55 h
      refine V.tabAt (off := 328) (tgt := 360) dL_law_32 hc55 (by decide) (by decide) (by decide) (by decide) ?_
      refine V.aload_n dL_law_360 rfl ?_
      refine V.aload_n dL_law_361 rfl ?_
      refine V.iload_n dL_law_362 rfl ?_
      refine V.iconst dL_law_363 ic_1 ?_
      refine V.iadd dL_law_364 ?_
      obtain ⟨hb56, h⟩ := ck_s h
      refine V.aldS dL_law_365 (vp_of hb56) ?_
      refine V.aload_n dL_law_366 rfl ?_
      refine V.iload_n dL_law_367 rfl ?_
      refine V.iconst dL_law_368 ic_2 ?_
      refine V.iadd dL_law_369 ?_
      obtain ⟨hb57, h⟩ := ck_s h
      refine V.aldS dL_law_370 (vp_of hb57) ?_
      refine V.aload_n dL_law_371 rfl ?_
      refine V.iload_n dL_law_372 rfl ?_
      refine V.iconst dL_law_373 ic_3 ?_
      refine V.iadd dL_law_374 ?_
      obtain ⟨hb58, h⟩ := ck_s h
      refine V.aldS dL_law_375 (vp_of hb58) ?_
      obtain ⟨v60, hv59, h⟩ := bnd_s h
      refine V.cVi dL_law_376 rfl mv_RL_42 (ok_Hal_bench hv59) rfl rfl s0_0 rfl (by decide) law_F (Nat.le_of_ble_eq_true rfl) law_sz ?_
      refine V.aload_n dL_law_379 rfl ?_
      refine V.aload_n dL_law_380 rfl ?_
      refine V.iload_n dL_law_381 rfl ?_
      refine V.iconst dL_law_382 ic_1 ?_
      refine V.iadd dL_law_383 ?_
      obtain ⟨hb61, h⟩ := ck_s h
      refine V.aldS dL_law_384 (vp_of hb61) ?_
      refine V.aload_n dL_law_385 rfl ?_
      refine V.iload_n dL_law_386 rfl ?_
      refine V.iconst dL_law_387 ic_2 ?_
      refine V.iadd dL_law_388 ?_
      obtain ⟨hb62, h⟩ := ck_s h
      refine V.aldS dL_law_389 (vp_of hb62) ?_
      refine V.aload_n dL_law_390 rfl ?_
      refine V.iload_n dL_law_391 rfl ?_
      refine V.iconst dL_law_392 ic_3 ?_
      refine V.iadd dL_law_393 ?_
      obtain ⟨hb63, h⟩ := ck_s h
      refine V.aldS dL_law_394 (vp_of hb63) ?_
      obtain ⟨v65, hv64, h⟩ := bnd_s h
      refine V.cVi dL_law_395 rfl mv_RL_46 (ok_Mod_bench hv64) rfl rfl s0_103 rfl (by decide) law_F (Nat.le_of_ble_eq_true rfl) law_sz ?_
      refine V.icmp_eq (tgt := 1545) dL_law_398 (by decide) (fun hc66 => ?_) (fun hc66 => ?_)
      · replace h := ite_t hc66 h
        refine V.iinc dL_law_1545 rfl (iinc_c ic_5) (by decide) rfl ?_
        refine V.goto (tgt := 18) dL_law_1548 (by decide) ?_
        exact ih _ _ h
      replace h := ite_f hc66 h
      refine V.iconst dL_law_401 ic_0 ?_
      exact absurd h (by decide)
    replace h := ite_f hc55 h
    by_cases hc67 : (X.2 (ix x3)) &&& 63 = 7
    · replace h := ite_t hc67 h
      refine V.tabAt (off := 371) (tgt := 403) dL_law_32 hc67 (by decide) (by decide) (by decide) (by decide) ?_
      refine V.aload_n dL_law_403 rfl ?_
      refine V.aload_n dL_law_404 rfl ?_
      refine V.iload_n dL_law_405 rfl ?_
      refine V.iconst dL_law_406 ic_1 ?_
      refine V.iadd dL_law_407 ?_
      obtain ⟨hb68, h⟩ := ck_s h
      refine V.aldS dL_law_408 (vp_of hb68) ?_
      refine V.aload_n dL_law_409 rfl ?_
      refine V.iload_n dL_law_410 rfl ?_
      refine V.iconst dL_law_411 ic_2 ?_
      refine V.iadd dL_law_412 ?_
      obtain ⟨hb69, h⟩ := ck_s h
      refine V.aldS dL_law_413 (vp_of hb69) ?_
      obtain ⟨v71, hv70, h⟩ := bnd_s h
      refine V.cVi dL_law_414 rfl mv_RL_47 (ok_Hal_want hv70) rfl rfl s0_0 rfl (by decide) law_F (Nat.le_of_ble_eq_true rfl) law_sz ?_
      refine V.aload_n dL_law_417 rfl ?_
      refine V.aload_n dL_law_418 rfl ?_
      refine V.iload_n dL_law_419 rfl ?_
      refine V.iconst dL_law_420 ic_1 ?_
      refine V.iadd dL_law_421 ?_
      obtain ⟨hb72, h⟩ := ck_s h
      refine V.aldS dL_law_422 (vp_of hb72) ?_
      refine V.aload_n dL_law_423 rfl ?_
      refine V.iload_n dL_law_424 rfl ?_
      refine V.iconst dL_law_425 ic_2 ?_
      refine V.iadd dL_law_426 ?_
      obtain ⟨hb73, h⟩ := ck_s h
      refine V.aldS dL_law_427 (vp_of hb73) ?_
      obtain ⟨v75, hv74, h⟩ := bnd_s h
      refine V.cVi dL_law_428 rfl mv_RL_51 (ok_Mod_want hv74) rfl rfl s0_103 rfl (by decide) law_F (Nat.le_of_ble_eq_true rfl) law_sz ?_
      refine V.icmp_eq (tgt := 1545) dL_law_431 (by decide) (fun hc76 => ?_) (fun hc76 => ?_)
      · replace h := ite_t hc76 h
        refine V.iinc dL_law_1545 rfl (iinc_c ic_5) (by decide) rfl ?_
        refine V.goto (tgt := 18) dL_law_1548 (by decide) ?_
        exact ih _ _ h
      replace h := ite_f hc76 h
      refine V.iconst dL_law_434 ic_0 ?_
      exact absurd h (by decide)
    replace h := ite_f hc67 h
    by_cases hc77 : (X.2 (ix x3)) &&& 63 = 8
    · replace h := ite_t hc77 h
      refine V.tabAt (off := 404) (tgt := 436) dL_law_32 hc77 (by decide) (by decide) (by decide) (by decide) ?_
      refine V.aload_n dL_law_436 rfl ?_
      refine V.aload_n dL_law_437 rfl ?_
      refine V.iload_n dL_law_438 rfl ?_
      refine V.iconst dL_law_439 ic_1 ?_
      refine V.iadd dL_law_440 ?_
      obtain ⟨hb78, h⟩ := ck_s h
      refine V.aldS dL_law_441 (vp_of hb78) ?_
      refine V.aload_n dL_law_442 rfl ?_
      refine V.iload_n dL_law_443 rfl ?_
      refine V.iconst dL_law_444 ic_2 ?_
      refine V.iadd dL_law_445 ?_
      obtain ⟨hb79, h⟩ := ck_s h
      refine V.aldS dL_law_446 (vp_of hb79) ?_
      obtain ⟨v81, M82, hv80, h⟩ := bnd2_s h
      refine V.cVi dL_law_447 rfl mv_RL_52 (ok_Hal_hang hv80) rfl rfl s0_0 rfl (by decide) law_F (Nat.le_of_ble_eq_true rfl) law_sz ?_
      refine V.aload_n dL_law_450 rfl ?_
      refine V.aload_n dL_law_451 rfl ?_
      refine V.iload_n dL_law_452 rfl ?_
      refine V.iconst dL_law_453 ic_1 ?_
      refine V.iadd dL_law_454 ?_
      obtain ⟨hb83, h⟩ := ck_s h
      refine V.aldS dL_law_455 (vp_of hb83) ?_
      refine V.aload_n dL_law_456 rfl ?_
      refine V.iload_n dL_law_457 rfl ?_
      refine V.iconst dL_law_458 ic_2 ?_
      refine V.iadd dL_law_459 ?_
      obtain ⟨hb84, h⟩ := ck_s h
      refine V.aldS dL_law_460 (vp_of hb84) ?_
      obtain ⟨v86, M87, hv85, h⟩ := bnd2_s h
      refine V.cVi dL_law_461 rfl mv_RL_55 (ok_Mod_hang hv85) rfl rfl s0_103 rfl (by decide) law_F (Nat.le_of_ble_eq_true rfl) law_sz ?_
      refine V.icmp_eq (tgt := 1545) dL_law_464 (by decide) (fun hc88 => ?_) (fun hc88 => ?_)
      · replace h := ite_t hc88 h
        refine V.iinc dL_law_1545 rfl (iinc_c ic_5) (by decide) rfl ?_
        refine V.goto (tgt := 18) dL_law_1548 (by decide) ?_
        exact ih _ _ h
      replace h := ite_f hc88 h
      refine V.iconst dL_law_467 ic_0 ?_
      exact absurd h (by decide)
    replace h := ite_f hc77 h
    by_cases hc89 : (X.2 (ix x3)) &&& 63 = 9
    · replace h := ite_t hc89 h
      refine V.tabAt (off := 437) (tgt := 469) dL_law_32 hc89 (by decide) (by decide) (by decide) (by decide) ?_
      refine V.aload_n dL_law_469 rfl ?_
      refine V.aload_n dL_law_470 rfl ?_
      refine V.iload_n dL_law_471 rfl ?_
      refine V.iconst dL_law_472 ic_1 ?_
      refine V.iadd dL_law_473 ?_
      obtain ⟨hb90, h⟩ := ck_s h
      refine V.aldS dL_law_474 (vp_of hb90) ?_
      obtain ⟨v92, M93, hv91, h⟩ := bnd2_s h
      refine V.cVi dL_law_475 rfl mv_RL_56 (ok_Hal_warm hv91) rfl rfl s0_0 rfl (by decide) law_F (Nat.le_of_ble_eq_true rfl) law_sz ?_
      refine V.aload_n dL_law_478 rfl ?_
      refine V.aload_n dL_law_479 rfl ?_
      refine V.iload_n dL_law_480 rfl ?_
      refine V.iconst dL_law_481 ic_1 ?_
      refine V.iadd dL_law_482 ?_
      obtain ⟨hb94, h⟩ := ck_s h
      refine V.aldS dL_law_483 (vp_of hb94) ?_
      obtain ⟨v96, M97, hv95, h⟩ := bnd2_s h
      refine V.cVi dL_law_484 rfl mv_RL_59 (ok_Mod_warm hv95) rfl rfl s0_103 rfl (by decide) law_F (Nat.le_of_ble_eq_true rfl) law_sz ?_
      refine V.icmp_eq (tgt := 1545) dL_law_487 (by decide) (fun hc98 => ?_) (fun hc98 => ?_)
      · replace h := ite_t hc98 h
        refine V.iinc dL_law_1545 rfl (iinc_c ic_5) (by decide) rfl ?_
        refine V.goto (tgt := 18) dL_law_1548 (by decide) ?_
        exact ih _ _ h
      replace h := ite_f hc98 h
      refine V.iconst dL_law_490 ic_0 ?_
      exact absurd h (by decide)
    replace h := ite_f hc89 h
    by_cases hc99 : (X.2 (ix x3)) &&& 63 = 10
    · replace h := ite_t hc99 h
      refine V.tabAt (off := 460) (tgt := 492) dL_law_32 hc99 (by decide) (by decide) (by decide) (by decide) ?_
      refine V.aload_n dL_law_492 rfl ?_
      refine V.aload_n dL_law_493 rfl ?_
      refine V.iload_n dL_law_494 rfl ?_
      refine V.iconst dL_law_495 ic_1 ?_
      refine V.iadd dL_law_496 ?_
      obtain ⟨hb100, h⟩ := ck_s h
      refine V.aldS dL_law_497 (vp_of hb100) ?_
      refine V.aload_n dL_law_498 rfl ?_
      refine V.iload_n dL_law_499 rfl ?_
      refine V.iconst dL_law_500 ic_2 ?_
      refine V.iadd dL_law_501 ?_
      obtain ⟨hb101, h⟩ := ck_s h
      refine V.aldS dL_law_502 (vp_of hb101) ?_
      obtain ⟨v103, M104, hv102, h⟩ := bnd2_s h
      refine V.cVi dL_law_503 rfl mv_RL_60 (ok_Hal_sit hv102) rfl rfl s0_0 rfl (by decide) law_F (Nat.le_of_ble_eq_true rfl) law_sz ?_
      refine V.aload_n dL_law_506 rfl ?_
      refine V.aload_n dL_law_507 rfl ?_
      refine V.iload_n dL_law_508 rfl ?_
      refine V.iconst dL_law_509 ic_1 ?_
      refine V.iadd dL_law_510 ?_
      obtain ⟨hb105, h⟩ := ck_s h
      refine V.aldS dL_law_511 (vp_of hb105) ?_
      refine V.aload_n dL_law_512 rfl ?_
      refine V.iload_n dL_law_513 rfl ?_
      refine V.iconst dL_law_514 ic_2 ?_
      refine V.iadd dL_law_515 ?_
      obtain ⟨hb106, h⟩ := ck_s h
      refine V.aldS dL_law_516 (vp_of hb106) ?_
      obtain ⟨v108, M109, hv107, h⟩ := bnd2_s h
      refine V.cVi dL_law_517 rfl mv_RL_63 (ok_Mod_sit hv107) rfl rfl s0_103 rfl (by decide) law_F (Nat.le_of_ble_eq_true rfl) law_sz ?_
      refine V.icmp_eq (tgt := 1545) dL_law_520 (by decide) (fun hc110 => ?_) (fun hc110 => ?_)
      · replace h := ite_t hc110 h
        refine V.iinc dL_law_1545 rfl (iinc_c ic_5) (by decide) rfl ?_
        refine V.goto (tgt := 18) dL_law_1548 (by decide) ?_
        exact ih _ _ h
      replace h := ite_f hc110 h
      refine V.iconst dL_law_523 ic_0 ?_
      exact absurd h (by decide)
    replace h := ite_f hc99 h
    by_cases hc111 : (X.2 (ix x3)) &&& 63 = 11
    · replace h := ite_t hc111 h
      refine V.tabAt (off := 493) (tgt := 525) dL_law_32 hc111 (by decide) (by decide) (by decide) (by decide) ?_
      refine V.aload_n dL_law_525 rfl ?_
      refine V.aload_n dL_law_526 rfl ?_
      refine V.iload_n dL_law_527 rfl ?_
      refine V.iconst dL_law_528 ic_1 ?_
      refine V.iadd dL_law_529 ?_
      obtain ⟨hb112, h⟩ := ck_s h
      refine V.aldS dL_law_530 (vp_of hb112) ?_
      refine V.aload_n dL_law_531 rfl ?_
      refine V.iload_n dL_law_532 rfl ?_
      refine V.iconst dL_law_533 ic_2 ?_
      refine V.iadd dL_law_534 ?_
      obtain ⟨hb113, h⟩ := ck_s h
      refine V.aldS dL_law_535 (vp_of hb113) ?_
      refine V.aload_n dL_law_536 rfl ?_
      refine V.iload_n dL_law_537 rfl ?_
      refine V.iconst dL_law_538 ic_3 ?_
      refine V.iadd dL_law_539 ?_
      obtain ⟨hb114, h⟩ := ck_s h
      refine V.aldS dL_law_540 (vp_of hb114) ?_
      obtain ⟨v116, M117, hv115, h⟩ := bnd2_s h
      refine V.cVi dL_law_541 rfl mv_RL_64 (ok_Hal_way hv115) rfl rfl s0_0 rfl (by decide) law_F (Nat.le_of_ble_eq_true rfl) law_sz ?_
      refine V.aload_n dL_law_544 rfl ?_
      refine V.aload_n dL_law_545 rfl ?_
      refine V.iload_n dL_law_546 rfl ?_
      refine V.iconst dL_law_547 ic_1 ?_
      refine V.iadd dL_law_548 ?_
      obtain ⟨hb118, h⟩ := ck_s h
      refine V.aldS dL_law_549 (vp_of hb118) ?_
      refine V.aload_n dL_law_550 rfl ?_
      refine V.iload_n dL_law_551 rfl ?_
      refine V.iconst dL_law_552 ic_2 ?_
      refine V.iadd dL_law_553 ?_
      obtain ⟨hb119, h⟩ := ck_s h
      refine V.aldS dL_law_554 (vp_of hb119) ?_
      refine V.aload_n dL_law_555 rfl ?_
      refine V.iload_n dL_law_556 rfl ?_
      refine V.iconst dL_law_557 ic_3 ?_
      refine V.iadd dL_law_558 ?_
      obtain ⟨hb120, h⟩ := ck_s h
      refine V.aldS dL_law_559 (vp_of hb120) ?_
      obtain ⟨v122, M123, hv121, h⟩ := bnd2_s h
      refine V.cVi dL_law_560 rfl mv_RL_67 (ok_Mod_way hv121) rfl rfl s0_103 rfl (by decide) law_F (Nat.le_of_ble_eq_true rfl) law_sz ?_
      refine V.icmp_eq (tgt := 1545) dL_law_563 (by decide) (fun hc124 => ?_) (fun hc124 => ?_)
      · replace h := ite_t hc124 h
        refine V.iinc dL_law_1545 rfl (iinc_c ic_5) (by decide) rfl ?_
        refine V.goto (tgt := 18) dL_law_1548 (by decide) ?_
        exact ih _ _ h
      replace h := ite_f hc124 h
      refine V.iconst dL_law_566 ic_0 ?_
      exact absurd h (by decide)
    replace h := ite_f hc111 h
    by_cases hc125 : (X.2 (ix x3)) &&& 63 = 12
    · replace h := ite_t hc125 h
      refine V.tabAt (off := 536) (tgt := 568) dL_law_32 hc125 (by decide) (by decide) (by decide) (by decide) ?_
      refine V.aload_n dL_law_568 rfl ?_
      refine V.aload_n dL_law_569 rfl ?_
      refine V.iload_n dL_law_570 rfl ?_
      refine V.iconst dL_law_571 ic_1 ?_
      refine V.iadd dL_law_572 ?_
      obtain ⟨hb126, h⟩ := ck_s h
      refine V.aldS dL_law_573 (vp_of hb126) ?_
      refine V.aload_n dL_law_574 rfl ?_
      refine V.iload_n dL_law_575 rfl ?_
      refine V.iconst dL_law_576 ic_2 ?_
      refine V.iadd dL_law_577 ?_
      obtain ⟨hb127, h⟩ := ck_s h
      refine V.aldS dL_law_578 (vp_of hb127) ?_
      obtain ⟨v129, M130, hv128, h⟩ := bnd2_s h
      refine V.cVi dL_law_579 rfl mv_RL_68 (ok_Hal_steps hv128) rfl rfl s0_0 rfl (by decide) law_F (Nat.le_of_ble_eq_true rfl) law_sz ?_
      refine V.aload_n dL_law_582 rfl ?_
      refine V.aload_n dL_law_583 rfl ?_
      refine V.iload_n dL_law_584 rfl ?_
      refine V.iconst dL_law_585 ic_1 ?_
      refine V.iadd dL_law_586 ?_
      obtain ⟨hb131, h⟩ := ck_s h
      refine V.aldS dL_law_587 (vp_of hb131) ?_
      refine V.aload_n dL_law_588 rfl ?_
      refine V.iload_n dL_law_589 rfl ?_
      refine V.iconst dL_law_590 ic_2 ?_
      refine V.iadd dL_law_591 ?_
      obtain ⟨hb132, h⟩ := ck_s h
      refine V.aldS dL_law_592 (vp_of hb132) ?_
      obtain ⟨v134, M135, hv133, h⟩ := bnd2_s h
      refine V.cVi dL_law_593 rfl mv_RL_71 (ok_Mod_steps hv133) rfl rfl s0_103 rfl (by decide) law_F (Nat.le_of_ble_eq_true rfl) law_sz ?_
      refine V.icmp_eq (tgt := 1545) dL_law_596 (by decide) (fun hc136 => ?_) (fun hc136 => ?_)
      · replace h := ite_t hc136 h
        refine V.iinc dL_law_1545 rfl (iinc_c ic_5) (by decide) rfl ?_
        refine V.goto (tgt := 18) dL_law_1548 (by decide) ?_
        exact ih _ _ h
      replace h := ite_f hc136 h
      refine V.iconst dL_law_599 ic_0 ?_
      exact absurd h (by decide)
    replace h := ite_f hc125 h
    by_cases hc137 : (X.2 (ix x3)) &&& 63 = 13
    · replace h := ite_t hc137 h
      refine V.tabAt (off := 569) (tgt := 601) dL_law_32 hc137 (by decide) (by decide) (by decide) (by decide) ?_
      refine V.aload_n dL_law_601 rfl ?_
      refine V.aload_n dL_law_602 rfl ?_
      refine V.iload_n dL_law_603 rfl ?_
      refine V.iconst dL_law_604 ic_1 ?_
      refine V.iadd dL_law_605 ?_
      obtain ⟨hb138, h⟩ := ck_s h
      refine V.aldS dL_law_606 (vp_of hb138) ?_
      refine V.aload_n dL_law_607 rfl ?_
      refine V.iload_n dL_law_608 rfl ?_
      refine V.iconst dL_law_609 ic_2 ?_
      refine V.iadd dL_law_610 ?_
      obtain ⟨hb139, h⟩ := ck_s h
      refine V.aldS dL_law_611 (vp_of hb139) ?_
      refine V.aload_n dL_law_612 rfl ?_
      refine V.iload_n dL_law_613 rfl ?_
      refine V.iconst dL_law_614 ic_3 ?_
      refine V.iadd dL_law_615 ?_
      obtain ⟨hb140, h⟩ := ck_s h
      refine V.aldS dL_law_616 (vp_of hb140) ?_
      refine V.aload_n dL_law_617 rfl ?_
      refine V.iload_n dL_law_618 rfl ?_
      refine V.iconst dL_law_619 ic_4 ?_
      refine V.iadd dL_law_620 ?_
      obtain ⟨hb141, h⟩ := ck_s h
      refine V.aldS dL_law_621 (vp_of hb141) ?_
      obtain ⟨v143, M144, hv142, h⟩ := bnd2_s h
      refine V.cVi dL_law_622 rfl mv_RL_72 (ok_Hal_hears hv142) rfl rfl s0_0 rfl (by decide) law_F (Nat.le_of_ble_eq_true rfl) law_sz ?_
      refine V.aload_n dL_law_625 rfl ?_
      refine V.aload_n dL_law_626 rfl ?_
      refine V.iload_n dL_law_627 rfl ?_
      refine V.iconst dL_law_628 ic_1 ?_
      refine V.iadd dL_law_629 ?_
      obtain ⟨hb145, h⟩ := ck_s h
      refine V.aldS dL_law_630 (vp_of hb145) ?_
      refine V.aload_n dL_law_631 rfl ?_
      refine V.iload_n dL_law_632 rfl ?_
      refine V.iconst dL_law_633 ic_2 ?_
      refine V.iadd dL_law_634 ?_
      obtain ⟨hb146, h⟩ := ck_s h
      refine V.aldS dL_law_635 (vp_of hb146) ?_
      refine V.aload_n dL_law_636 rfl ?_
      refine V.iload_n dL_law_637 rfl ?_
      refine V.iconst dL_law_638 ic_3 ?_
      refine V.iadd dL_law_639 ?_
      obtain ⟨hb147, h⟩ := ck_s h
      refine V.aldS dL_law_640 (vp_of hb147) ?_
      refine V.aload_n dL_law_641 rfl ?_
      refine V.iload_n dL_law_642 rfl ?_
      refine V.iconst dL_law_643 ic_4 ?_
      refine V.iadd dL_law_644 ?_
      obtain ⟨hb148, h⟩ := ck_s h
      refine V.aldS dL_law_645 (vp_of hb148) ?_
      obtain ⟨v150, M151, hv149, h⟩ := bnd2_s h
      refine V.cVi dL_law_646 rfl mv_RL_76 (ok_Mod_hears hv149) rfl rfl s0_103 rfl (by decide) law_F (Nat.le_of_ble_eq_true rfl) law_sz ?_
      refine V.icmp_eq (tgt := 1545) dL_law_649 (by decide) (fun hc152 => ?_) (fun hc152 => ?_)
      · replace h := ite_t hc152 h
        refine V.iinc dL_law_1545 rfl (iinc_c ic_5) (by decide) rfl ?_
        refine V.goto (tgt := 18) dL_law_1548 (by decide) ?_
        exact ih _ _ h
      replace h := ite_f hc152 h
      refine V.iconst dL_law_652 ic_0 ?_
      exact absurd h (by decide)
    replace h := ite_f hc137 h
    by_cases hc153 : (X.2 (ix x3)) &&& 63 = 14
    · replace h := ite_t hc153 h
      refine V.tabAt (off := 622) (tgt := 654) dL_law_32 hc153 (by decide) (by decide) (by decide) (by decide) ?_
      refine V.aload_n dL_law_654 rfl ?_
      refine V.aload_n dL_law_655 rfl ?_
      refine V.iload_n dL_law_656 rfl ?_
      refine V.iconst dL_law_657 ic_1 ?_
      refine V.iadd dL_law_658 ?_
      obtain ⟨hb154, h⟩ := ck_s h
      refine V.aldS dL_law_659 (vp_of hb154) ?_
      refine V.aload_n dL_law_660 rfl ?_
      refine V.iload_n dL_law_661 rfl ?_
      refine V.iconst dL_law_662 ic_2 ?_
      refine V.iadd dL_law_663 ?_
      obtain ⟨hb155, h⟩ := ck_s h
      refine V.aldS dL_law_664 (vp_of hb155) ?_
      obtain ⟨v157, M158, hv156, h⟩ := bnd2_s h
      refine V.cVi dL_law_665 rfl mv_RL_77 (ok_Hal_heard hv156) rfl rfl s0_0 rfl (by decide) law_F (Nat.le_of_ble_eq_true rfl) law_sz ?_
      refine V.aload_n dL_law_668 rfl ?_
      refine V.aload_n dL_law_669 rfl ?_
      refine V.iload_n dL_law_670 rfl ?_
      refine V.iconst dL_law_671 ic_1 ?_
      refine V.iadd dL_law_672 ?_
      obtain ⟨hb159, h⟩ := ck_s h
      refine V.aldS dL_law_673 (vp_of hb159) ?_
      refine V.aload_n dL_law_674 rfl ?_
      refine V.iload_n dL_law_675 rfl ?_
      refine V.iconst dL_law_676 ic_2 ?_
      refine V.iadd dL_law_677 ?_
      obtain ⟨hb160, h⟩ := ck_s h
      refine V.aldS dL_law_678 (vp_of hb160) ?_
      obtain ⟨v162, M163, hv161, h⟩ := bnd2_s h
      refine V.cVi dL_law_679 rfl mv_RL_80 (ok_Mod_heard hv161) rfl rfl s0_103 rfl (by decide) law_F (Nat.le_of_ble_eq_true rfl) law_sz ?_
      refine V.icmp_eq (tgt := 1545) dL_law_682 (by decide) (fun hc164 => ?_) (fun hc164 => ?_)
      · replace h := ite_t hc164 h
        refine V.iinc dL_law_1545 rfl (iinc_c ic_5) (by decide) rfl ?_
        refine V.goto (tgt := 18) dL_law_1548 (by decide) ?_
        exact ih _ _ h
      replace h := ite_f hc164 h
      refine V.iconst dL_law_685 ic_0 ?_
      exact absurd h (by decide)
    replace h := ite_f hc153 h
    by_cases hc165 : (X.2 (ix x3)) &&& 63 = 15
    · replace h := ite_t hc165 h
      refine V.tabAt (off := 655) (tgt := 687) dL_law_32 hc165 (by decide) (by decide) (by decide) (by decide) ?_
      refine V.aload_n dL_law_687 rfl ?_
      refine V.aload_n dL_law_688 rfl ?_
      refine V.iload_n dL_law_689 rfl ?_
      refine V.iconst dL_law_690 ic_1 ?_
      refine V.iadd dL_law_691 ?_
      obtain ⟨hb166, h⟩ := ck_s h
      refine V.aldS dL_law_692 (vp_of hb166) ?_
      refine V.aload_n dL_law_693 rfl ?_
      refine V.iload_n dL_law_694 rfl ?_
      refine V.iconst dL_law_695 ic_2 ?_
      refine V.iadd dL_law_696 ?_
      obtain ⟨hb167, h⟩ := ck_s h
      refine V.aldS dL_law_697 (vp_of hb167) ?_
      obtain ⟨v169, M170, hv168, h⟩ := bnd2_s h
      refine V.cVi dL_law_698 rfl mv_RL_81 (ok_Hal_answer hv168) rfl rfl s0_0 rfl (by decide) law_F (Nat.le_of_ble_eq_true rfl) law_sz ?_
      refine V.aload_n dL_law_701 rfl ?_
      refine V.aload_n dL_law_702 rfl ?_
      refine V.iload_n dL_law_703 rfl ?_
      refine V.iconst dL_law_704 ic_1 ?_
      refine V.iadd dL_law_705 ?_
      obtain ⟨hb171, h⟩ := ck_s h
      refine V.aldS dL_law_706 (vp_of hb171) ?_
      refine V.aload_n dL_law_707 rfl ?_
      refine V.iload_n dL_law_708 rfl ?_
      refine V.iconst dL_law_709 ic_2 ?_
      refine V.iadd dL_law_710 ?_
      obtain ⟨hb172, h⟩ := ck_s h
      refine V.aldS dL_law_711 (vp_of hb172) ?_
      obtain ⟨v174, M175, hv173, h⟩ := bnd2_s h
      refine V.cVi dL_law_712 rfl mv_RL_84 (ok_Mod_answer hv173) rfl rfl s0_103 rfl (by decide) law_F (Nat.le_of_ble_eq_true rfl) law_sz ?_
      refine V.icmp_eq (tgt := 1545) dL_law_715 (by decide) (fun hc176 => ?_) (fun hc176 => ?_)
      · replace h := ite_t hc176 h
        refine V.iinc dL_law_1545 rfl (iinc_c ic_5) (by decide) rfl ?_
        refine V.goto (tgt := 18) dL_law_1548 (by decide) ?_
        exact ih _ _ h
      replace h := ite_f hc176 h
      refine V.iconst dL_law_718 ic_0 ?_
      exact absurd h (by decide)
    replace h := ite_f hc165 h
    by_cases hc177 : (X.2 (ix x3)) &&& 63 = 16
    · replace h := ite_t hc177 h
      refine V.tabAt (off := 688) (tgt := 720) dL_law_32 hc177 (by decide) (by decide) (by decide) (by decide) ?_
      refine V.aload_n dL_law_720 rfl ?_
      refine V.aload_n dL_law_721 rfl ?_
      refine V.iload_n dL_law_722 rfl ?_
      refine V.iconst dL_law_723 ic_1 ?_
      refine V.iadd dL_law_724 ?_
      obtain ⟨hb178, h⟩ := ck_s h
      refine V.aldS dL_law_725 (vp_of hb178) ?_
      refine V.aload_n dL_law_726 rfl ?_
      refine V.iload_n dL_law_727 rfl ?_
      refine V.iconst dL_law_728 ic_2 ?_
      refine V.iadd dL_law_729 ?_
      obtain ⟨hb179, h⟩ := ck_s h
      refine V.aldS dL_law_730 (vp_of hb179) ?_
      refine V.aload_n dL_law_731 rfl ?_
      refine V.iload_n dL_law_732 rfl ?_
      refine V.iconst dL_law_733 ic_3 ?_
      refine V.iadd dL_law_734 ?_
      obtain ⟨hb180, h⟩ := ck_s h
      refine V.aldS dL_law_735 (vp_of hb180) ?_
      obtain ⟨v182, M183, hv181, h⟩ := bnd2_s h
      refine V.cVi dL_law_736 rfl mv_RL_85 (ok_Hal_can hv181) rfl rfl s0_0 rfl (by decide) law_F (Nat.le_of_ble_eq_true rfl) law_sz ?_
      refine V.aload_n dL_law_739 rfl ?_
      refine V.aload_n dL_law_740 rfl ?_
      refine V.iload_n dL_law_741 rfl ?_
      refine V.iconst dL_law_742 ic_1 ?_
      refine V.iadd dL_law_743 ?_
      obtain ⟨hb184, h⟩ := ck_s h
      refine V.aldS dL_law_744 (vp_of hb184) ?_
      refine V.aload_n dL_law_745 rfl ?_
      refine V.iload_n dL_law_746 rfl ?_
      refine V.iconst dL_law_747 ic_2 ?_
      refine V.iadd dL_law_748 ?_
      obtain ⟨hb185, h⟩ := ck_s h
      refine V.aldS dL_law_749 (vp_of hb185) ?_
      refine V.aload_n dL_law_750 rfl ?_
      refine V.iload_n dL_law_751 rfl ?_
      refine V.iconst dL_law_752 ic_3 ?_
      refine V.iadd dL_law_753 ?_
      obtain ⟨hb186, h⟩ := ck_s h
      refine V.aldS dL_law_754 (vp_of hb186) ?_
      obtain ⟨v188, M189, hv187, h⟩ := bnd2_s h
      refine V.cVi dL_law_755 rfl mv_RL_88 (ok_Mod_can hv187) rfl rfl s0_103 rfl (by decide) law_F (Nat.le_of_ble_eq_true rfl) law_sz ?_
      refine V.icmp_eq (tgt := 1545) dL_law_758 (by decide) (fun hc190 => ?_) (fun hc190 => ?_)
      · replace h := ite_t hc190 h
        refine V.iinc dL_law_1545 rfl (iinc_c ic_5) (by decide) rfl ?_
        refine V.goto (tgt := 18) dL_law_1548 (by decide) ?_
        exact ih _ _ h
      replace h := ite_f hc190 h
      refine V.iconst dL_law_761 ic_0 ?_
      exact absurd h (by decide)
    replace h := ite_f hc177 h
    by_cases hc191 : (X.2 (ix x3)) &&& 63 = 17
    · replace h := ite_t hc191 h
      refine V.tabAt (off := 731) (tgt := 763) dL_law_32 hc191 (by decide) (by decide) (by decide) (by decide) ?_
      refine V.aload_n dL_law_763 rfl ?_
      refine V.aload_n dL_law_764 rfl ?_
      refine V.iload_n dL_law_765 rfl ?_
      refine V.iconst dL_law_766 ic_1 ?_
      refine V.iadd dL_law_767 ?_
      obtain ⟨hb192, h⟩ := ck_s h
      refine V.aldS dL_law_768 (vp_of hb192) ?_
      obtain ⟨v194, M195, hv193, h⟩ := bnd2_s h
      refine V.cVi dL_law_769 rfl mv_RL_89 (ok_Hal_broken hv193) rfl rfl s0_0 rfl (by decide) law_F (Nat.le_of_ble_eq_true rfl) law_sz ?_
      refine V.aload_n dL_law_772 rfl ?_
      refine V.aload_n dL_law_773 rfl ?_
      refine V.iload_n dL_law_774 rfl ?_
      refine V.iconst dL_law_775 ic_1 ?_
      refine V.iadd dL_law_776 ?_
      obtain ⟨hb196, h⟩ := ck_s h
      refine V.aldS dL_law_777 (vp_of hb196) ?_
      obtain ⟨v198, M199, hv197, h⟩ := bnd2_s h
      refine V.cVi dL_law_778 rfl mv_RL_92 (ok_Mod_broken hv197) rfl rfl s0_103 rfl (by decide) law_F (Nat.le_of_ble_eq_true rfl) law_sz ?_
      refine V.icmp_eq (tgt := 1545) dL_law_781 (by decide) (fun hc200 => ?_) (fun hc200 => ?_)
      · replace h := ite_t hc200 h
        refine V.iinc dL_law_1545 rfl (iinc_c ic_5) (by decide) rfl ?_
        refine V.goto (tgt := 18) dL_law_1548 (by decide) ?_
        exact ih _ _ h
      replace h := ite_f hc200 h
      refine V.iconst dL_law_784 ic_0 ?_
      exact absurd h (by decide)
    replace h := ite_f hc191 h
    by_cases hc201 : (X.2 (ix x3)) &&& 63 = 18
    · replace h := ite_t hc201 h
      refine V.tabAt (off := 754) (tgt := 786) dL_law_32 hc201 (by decide) (by decide) (by decide) (by decide) ?_
      refine V.aload_n dL_law_786 rfl ?_
      refine V.aload_n dL_law_787 rfl ?_
      refine V.iload_n dL_law_788 rfl ?_
      refine V.iconst dL_law_789 ic_1 ?_
      refine V.iadd dL_law_790 ?_
      obtain ⟨hb202, h⟩ := ck_s h
      refine V.aldS dL_law_791 (vp_of hb202) ?_
      refine V.aload_n dL_law_792 rfl ?_
      refine V.iload_n dL_law_793 rfl ?_
      refine V.iconst dL_law_794 ic_2 ?_
      refine V.iadd dL_law_795 ?_
      obtain ⟨hb203, h⟩ := ck_s h
      refine V.aldS dL_law_796 (vp_of hb203) ?_
      obtain ⟨v205, M206, hv204, h⟩ := bnd2_s h
      refine V.cVi dL_law_797 rfl mv_RL_93 (ok_Hal_seating hv204) rfl rfl s0_0 rfl (by decide) law_F (Nat.le_of_ble_eq_true rfl) law_sz ?_
      refine V.aload_n dL_law_800 rfl ?_
      refine V.aload_n dL_law_801 rfl ?_
      refine V.iload_n dL_law_802 rfl ?_
      refine V.iconst dL_law_803 ic_1 ?_
      refine V.iadd dL_law_804 ?_
      obtain ⟨hb207, h⟩ := ck_s h
      refine V.aldS dL_law_805 (vp_of hb207) ?_
      refine V.aload_n dL_law_806 rfl ?_
      refine V.iload_n dL_law_807 rfl ?_
      refine V.iconst dL_law_808 ic_2 ?_
      refine V.iadd dL_law_809 ?_
      obtain ⟨hb208, h⟩ := ck_s h
      refine V.aldS dL_law_810 (vp_of hb208) ?_
      obtain ⟨v210, M211, hv209, h⟩ := bnd2_s h
      refine V.cVi dL_law_811 rfl mv_RL_96 (ok_Mod_seating hv209) rfl rfl s0_103 rfl (by decide) law_F (Nat.le_of_ble_eq_true rfl) law_sz ?_
      refine V.icmp_eq (tgt := 1545) dL_law_814 (by decide) (fun hc212 => ?_) (fun hc212 => ?_)
      · replace h := ite_t hc212 h
        refine V.iinc dL_law_1545 rfl (iinc_c ic_5) (by decide) rfl ?_
        refine V.goto (tgt := 18) dL_law_1548 (by decide) ?_
        exact ih _ _ h
      replace h := ite_f hc212 h
      refine V.iconst dL_law_817 ic_0 ?_
      exact absurd h (by decide)
    replace h := ite_f hc201 h
    by_cases hc213 : (X.2 (ix x3)) &&& 63 = 19
    · replace h := ite_t hc213 h
      refine V.tabAt (off := 787) (tgt := 819) dL_law_32 hc213 (by decide) (by decide) (by decide) (by decide) ?_
      refine V.aload_n dL_law_819 rfl ?_
      refine V.aload_n dL_law_820 rfl ?_
      refine V.iload_n dL_law_821 rfl ?_
      refine V.iconst dL_law_822 ic_1 ?_
      refine V.iadd dL_law_823 ?_
      obtain ⟨hb214, h⟩ := ck_s h
      refine V.aldS dL_law_824 (vp_of hb214) ?_
      refine V.aload_n dL_law_825 rfl ?_
      refine V.iload_n dL_law_826 rfl ?_
      refine V.iconst dL_law_827 ic_2 ?_
      refine V.iadd dL_law_828 ?_
      obtain ⟨hb215, h⟩ := ck_s h
      refine V.aldS dL_law_829 (vp_of hb215) ?_
      obtain ⟨v217, M218, hv216, h⟩ := bnd2_s h
      refine V.cVi dL_law_830 rfl mv_RL_97 (ok_Hal_curtain hv216) rfl rfl s0_0 rfl (by decide) law_F (Nat.le_of_ble_eq_true rfl) law_sz ?_
      refine V.aload_n dL_law_833 rfl ?_
      refine V.aload_n dL_law_834 rfl ?_
      refine V.iload_n dL_law_835 rfl ?_
      refine V.iconst dL_law_836 ic_1 ?_
      refine V.iadd dL_law_837 ?_
      obtain ⟨hb219, h⟩ := ck_s h
      refine V.aldS dL_law_838 (vp_of hb219) ?_
      refine V.aload_n dL_law_839 rfl ?_
      refine V.iload_n dL_law_840 rfl ?_
      refine V.iconst dL_law_841 ic_2 ?_
      refine V.iadd dL_law_842 ?_
      obtain ⟨hb220, h⟩ := ck_s h
      refine V.aldS dL_law_843 (vp_of hb220) ?_
      obtain ⟨v222, M223, hv221, h⟩ := bnd2_s h
      refine V.cVi dL_law_844 rfl mv_RL_100 (ok_Mod_curtain hv221) rfl rfl s0_103 rfl (by decide) law_F (Nat.le_of_ble_eq_true rfl) law_sz ?_
      refine V.icmp_eq (tgt := 1545) dL_law_847 (by decide) (fun hc224 => ?_) (fun hc224 => ?_)
      · replace h := ite_t hc224 h
        refine V.iinc dL_law_1545 rfl (iinc_c ic_5) (by decide) rfl ?_
        refine V.goto (tgt := 18) dL_law_1548 (by decide) ?_
        exact ih _ _ h
      replace h := ite_f hc224 h
      refine V.iconst dL_law_850 ic_0 ?_
      exact absurd h (by decide)
    replace h := ite_f hc213 h
    by_cases hc225 : (X.2 (ix x3)) &&& 63 = 20
    · replace h := ite_t hc225 h
      refine V.tabAt (off := 820) (tgt := 852) dL_law_32 hc225 (by decide) (by decide) (by decide) (by decide) ?_
      refine V.aload_n dL_law_852 rfl ?_
      refine V.aload_n dL_law_853 rfl ?_
      refine V.iload_n dL_law_854 rfl ?_
      refine V.iconst dL_law_855 ic_1 ?_
      refine V.iadd dL_law_856 ?_
      obtain ⟨hb226, h⟩ := ck_s h
      refine V.aldS dL_law_857 (vp_of hb226) ?_
      refine V.aload_n dL_law_858 rfl ?_
      refine V.iload_n dL_law_859 rfl ?_
      refine V.iconst dL_law_860 ic_2 ?_
      refine V.iadd dL_law_861 ?_
      obtain ⟨hb227, h⟩ := ck_s h
      refine V.aldS dL_law_862 (vp_of hb227) ?_
      obtain ⟨v229, M230, hv228, h⟩ := bnd2_s h
      refine V.cVi dL_law_863 rfl mv_RL_101 (ok_Hal_clear hv228) rfl rfl s0_0 rfl (by decide) law_F (Nat.le_of_ble_eq_true rfl) law_sz ?_
      refine V.aload_n dL_law_866 rfl ?_
      refine V.aload_n dL_law_867 rfl ?_
      refine V.iload_n dL_law_868 rfl ?_
      refine V.iconst dL_law_869 ic_1 ?_
      refine V.iadd dL_law_870 ?_
      obtain ⟨hb231, h⟩ := ck_s h
      refine V.aldS dL_law_871 (vp_of hb231) ?_
      refine V.aload_n dL_law_872 rfl ?_
      refine V.iload_n dL_law_873 rfl ?_
      refine V.iconst dL_law_874 ic_2 ?_
      refine V.iadd dL_law_875 ?_
      obtain ⟨hb232, h⟩ := ck_s h
      refine V.aldS dL_law_876 (vp_of hb232) ?_
      obtain ⟨v234, M235, hv233, h⟩ := bnd2_s h
      refine V.cVi dL_law_877 rfl mv_RL_104 (ok_Mod_clear hv233) rfl rfl s0_103 rfl (by decide) law_F (Nat.le_of_ble_eq_true rfl) law_sz ?_
      refine V.icmp_eq (tgt := 1545) dL_law_880 (by decide) (fun hc236 => ?_) (fun hc236 => ?_)
      · replace h := ite_t hc236 h
        refine V.iinc dL_law_1545 rfl (iinc_c ic_5) (by decide) rfl ?_
        refine V.goto (tgt := 18) dL_law_1548 (by decide) ?_
        exact ih _ _ h
      replace h := ite_f hc236 h
      refine V.iconst dL_law_883 ic_0 ?_
      exact absurd h (by decide)
    replace h := ite_f hc225 h
    by_cases hc237 : (X.2 (ix x3)) &&& 63 = 21
    · replace h := ite_t hc237 h
      refine V.tabAt (off := 853) (tgt := 885) dL_law_32 hc237 (by decide) (by decide) (by decide) (by decide) ?_
      refine V.aload_n dL_law_885 rfl ?_
      obtain ⟨v239, M240, hv238, h⟩ := bnd2_s h
      refine V.cVi dL_law_886 rfl mv_RL_105 (ok_Hal_hours hv238) rfl rfl s0_0 rfl (by decide) law_F (Nat.le_of_ble_eq_true rfl) law_sz ?_
      refine V.aload_n dL_law_889 rfl ?_
      obtain ⟨v242, M243, hv241, h⟩ := bnd2_s h
      refine V.cVi dL_law_890 rfl mv_RL_108 (ok_Mod_hours hv241) rfl rfl s0_103 rfl (by decide) law_F (Nat.le_of_ble_eq_true rfl) law_sz ?_
      refine V.icmp_eq (tgt := 1545) dL_law_893 (by decide) (fun hc244 => ?_) (fun hc244 => ?_)
      · replace h := ite_t hc244 h
        refine V.iinc dL_law_1545 rfl (iinc_c ic_5) (by decide) rfl ?_
        refine V.goto (tgt := 18) dL_law_1548 (by decide) ?_
        exact ih _ _ h
      replace h := ite_f hc244 h
      refine V.iconst dL_law_896 ic_0 ?_
      exact absurd h (by decide)
    replace h := ite_f hc237 h
    by_cases hc245 : (X.2 (ix x3)) &&& 63 = 22
    · replace h := ite_t hc245 h
      refine V.tabAt (off := 866) (tgt := 898) dL_law_32 hc245 (by decide) (by decide) (by decide) (by decide) ?_
      refine V.aload_n dL_law_898 rfl ?_
      refine V.aload_n dL_law_899 rfl ?_
      refine V.iload_n dL_law_900 rfl ?_
      refine V.iconst dL_law_901 ic_1 ?_
      refine V.iadd dL_law_902 ?_
      obtain ⟨hb246, h⟩ := ck_s h
      refine V.aldS dL_law_903 (vp_of hb246) ?_
      refine V.aload_n dL_law_904 rfl ?_
      refine V.iload_n dL_law_905 rfl ?_
      refine V.iconst dL_law_906 ic_2 ?_
      refine V.iadd dL_law_907 ?_
      obtain ⟨hb247, h⟩ := ck_s h
      refine V.aldS dL_law_908 (vp_of hb247) ?_
      refine V.aload_n dL_law_909 rfl ?_
      refine V.iload_n dL_law_910 rfl ?_
      refine V.iconst dL_law_911 ic_3 ?_
      refine V.iadd dL_law_912 ?_
      obtain ⟨hb248, h⟩ := ck_s h
      refine V.aldS dL_law_913 (vp_of hb248) ?_
      obtain ⟨v250, M251, hv249, h⟩ := bnd2_s h
      refine V.cVi dL_law_914 rfl mv_RL_109 (ok_Hal_days hv249) rfl rfl s0_0 rfl (by decide) law_F (Nat.le_of_ble_eq_true rfl) law_sz ?_
      refine V.aload_n dL_law_917 rfl ?_
      refine V.aload_n dL_law_918 rfl ?_
      refine V.iload_n dL_law_919 rfl ?_
      refine V.iconst dL_law_920 ic_1 ?_
      refine V.iadd dL_law_921 ?_
      obtain ⟨hb252, h⟩ := ck_s h
      refine V.aldS dL_law_922 (vp_of hb252) ?_
      refine V.aload_n dL_law_923 rfl ?_
      refine V.iload_n dL_law_924 rfl ?_
      refine V.iconst dL_law_925 ic_2 ?_
      refine V.iadd dL_law_926 ?_
      obtain ⟨hb253, h⟩ := ck_s h
      refine V.aldS dL_law_927 (vp_of hb253) ?_
      refine V.aload_n dL_law_928 rfl ?_
      refine V.iload_n dL_law_929 rfl ?_
      refine V.iconst dL_law_930 ic_3 ?_
      refine V.iadd dL_law_931 ?_
      obtain ⟨hb254, h⟩ := ck_s h
      refine V.aldS dL_law_932 (vp_of hb254) ?_
      obtain ⟨v256, M257, hv255, h⟩ := bnd2_s h
      refine V.cVi dL_law_933 rfl mv_RL_112 (ok_Mod_days hv255) rfl rfl s0_103 rfl (by decide) law_F (Nat.le_of_ble_eq_true rfl) law_sz ?_
      refine V.icmp_eq (tgt := 1545) dL_law_936 (by decide) (fun hc258 => ?_) (fun hc258 => ?_)
      · replace h := ite_t hc258 h
        refine V.iinc dL_law_1545 rfl (iinc_c ic_5) (by decide) rfl ?_
        refine V.goto (tgt := 18) dL_law_1548 (by decide) ?_
        exact ih _ _ h
      replace h := ite_f hc258 h
      refine V.iconst dL_law_939 ic_0 ?_
      exact absurd h (by decide)
    replace h := ite_f hc245 h
    by_cases hc259 : (X.2 (ix x3)) &&& 63 = 23
    · replace h := ite_t hc259 h
      refine V.tabAt (off := 909) (tgt := 941) dL_law_32 hc259 (by decide) (by decide) (by decide) (by decide) ?_
      refine V.aload_n dL_law_941 rfl ?_
      refine V.aload_n dL_law_942 rfl ?_
      refine V.iload_n dL_law_943 rfl ?_
      refine V.iconst dL_law_944 ic_1 ?_
      refine V.iadd dL_law_945 ?_
      obtain ⟨hb260, h⟩ := ck_s h
      refine V.aldS dL_law_946 (vp_of hb260) ?_
      refine V.aload_n dL_law_947 rfl ?_
      refine V.iload_n dL_law_948 rfl ?_
      refine V.iconst dL_law_949 ic_2 ?_
      refine V.iadd dL_law_950 ?_
      obtain ⟨hb261, h⟩ := ck_s h
      refine V.aldS dL_law_951 (vp_of hb261) ?_
      obtain ⟨v263, M264, hv262, h⟩ := bnd2_s h
      refine V.cVi dL_law_952 rfl mv_RL_113 (ok_Hal_best hv262) rfl rfl s0_0 rfl (by decide) law_F (Nat.le_of_ble_eq_true rfl) law_sz ?_
      refine V.aload_n dL_law_955 rfl ?_
      refine V.aload_n dL_law_956 rfl ?_
      refine V.iload_n dL_law_957 rfl ?_
      refine V.iconst dL_law_958 ic_1 ?_
      refine V.iadd dL_law_959 ?_
      obtain ⟨hb265, h⟩ := ck_s h
      refine V.aldS dL_law_960 (vp_of hb265) ?_
      refine V.aload_n dL_law_961 rfl ?_
      refine V.iload_n dL_law_962 rfl ?_
      refine V.iconst dL_law_963 ic_2 ?_
      refine V.iadd dL_law_964 ?_
      obtain ⟨hb266, h⟩ := ck_s h
      refine V.aldS dL_law_965 (vp_of hb266) ?_
      obtain ⟨v268, M269, hv267, h⟩ := bnd2_s h
      refine V.cVi dL_law_966 rfl mv_RL_116 (ok_Mod_best hv267) rfl rfl s0_103 rfl (by decide) law_F (Nat.le_of_ble_eq_true rfl) law_sz ?_
      refine V.icmp_eq (tgt := 1545) dL_law_969 (by decide) (fun hc270 => ?_) (fun hc270 => ?_)
      · replace h := ite_t hc270 h
        refine V.iinc dL_law_1545 rfl (iinc_c ic_5) (by decide) rfl ?_
        refine V.goto (tgt := 18) dL_law_1548 (by decide) ?_
        exact ih _ _ h
      replace h := ite_f hc270 h
      refine V.iconst dL_law_972 ic_0 ?_
      exact absurd h (by decide)
    replace h := ite_f hc259 h
    by_cases hc271 : (X.2 (ix x3)) &&& 63 = 24
    · replace h := ite_t hc271 h
      refine V.tabAt (off := 942) (tgt := 974) dL_law_32 hc271 (by decide) (by decide) (by decide) (by decide) ?_
      refine V.aload_n dL_law_974 rfl ?_
      refine V.aload_n dL_law_975 rfl ?_
      refine V.iload_n dL_law_976 rfl ?_
      refine V.iconst dL_law_977 ic_1 ?_
      refine V.iadd dL_law_978 ?_
      obtain ⟨hb272, h⟩ := ck_s h
      refine V.aldS dL_law_979 (vp_of hb272) ?_
      refine V.aload_n dL_law_980 rfl ?_
      refine V.iload_n dL_law_981 rfl ?_
      refine V.iconst dL_law_982 ic_2 ?_
      refine V.iadd dL_law_983 ?_
      obtain ⟨hb273, h⟩ := ck_s h
      refine V.aldS dL_law_984 (vp_of hb273) ?_
      refine V.aload_n dL_law_985 rfl ?_
      refine V.iload_n dL_law_986 rfl ?_
      refine V.iconst dL_law_987 ic_3 ?_
      refine V.iadd dL_law_988 ?_
      obtain ⟨hb274, h⟩ := ck_s h
      refine V.aldS dL_law_989 (vp_of hb274) ?_
      obtain ⟨v276, M277, hv275, h⟩ := bnd2_s h
      refine V.cVi dL_law_990 rfl mv_RL_117 (ok_Hal_say hv275) rfl rfl s0_0 rfl (by decide) law_F (Nat.le_of_ble_eq_true rfl) law_sz ?_
      refine V.aload_n dL_law_993 rfl ?_
      refine V.aload_n dL_law_994 rfl ?_
      refine V.iload_n dL_law_995 rfl ?_
      refine V.iconst dL_law_996 ic_1 ?_
      refine V.iadd dL_law_997 ?_
      obtain ⟨hb278, h⟩ := ck_s h
      refine V.aldS dL_law_998 (vp_of hb278) ?_
      refine V.aload_n dL_law_999 rfl ?_
      refine V.iload_n dL_law_1000 rfl ?_
      refine V.iconst dL_law_1001 ic_2 ?_
      refine V.iadd dL_law_1002 ?_
      obtain ⟨hb279, h⟩ := ck_s h
      refine V.aldS dL_law_1003 (vp_of hb279) ?_
      refine V.aload_n dL_law_1004 rfl ?_
      refine V.iload_n dL_law_1005 rfl ?_
      refine V.iconst dL_law_1006 ic_3 ?_
      refine V.iadd dL_law_1007 ?_
      obtain ⟨hb280, h⟩ := ck_s h
      refine V.aldS dL_law_1008 (vp_of hb280) ?_
      obtain ⟨v282, M283, hv281, h⟩ := bnd2_s h
      refine V.cVi dL_law_1009 rfl mv_RL_120 (ok_Mod_say hv281) rfl rfl s0_103 rfl (by decide) law_F (Nat.le_of_ble_eq_true rfl) law_sz ?_
      refine V.icmp_eq (tgt := 1545) dL_law_1012 (by decide) (fun hc284 => ?_) (fun hc284 => ?_)
      · replace h := ite_t hc284 h
        refine V.iinc dL_law_1545 rfl (iinc_c ic_5) (by decide) rfl ?_
        refine V.goto (tgt := 18) dL_law_1548 (by decide) ?_
        exact ih _ _ h
      replace h := ite_f hc284 h
      refine V.iconst dL_law_1015 ic_0 ?_
      exact absurd h (by decide)
    replace h := ite_f hc271 h
    by_cases hc285 : (X.2 (ix x3)) &&& 63 = 25
    · replace h := ite_t hc285 h
      refine V.tabAt (off := 985) (tgt := 1017) dL_law_32 hc285 (by decide) (by decide) (by decide) (by decide) ?_
      refine V.aload_n dL_law_1017 rfl ?_
      refine V.aload_n dL_law_1018 rfl ?_
      refine V.iload_n dL_law_1019 rfl ?_
      refine V.iconst dL_law_1020 ic_1 ?_
      refine V.iadd dL_law_1021 ?_
      obtain ⟨hb286, h⟩ := ck_s h
      refine V.aldS dL_law_1022 (vp_of hb286) ?_
      obtain ⟨v288, M289, hv287, h⟩ := bnd2_s h
      refine V.cVi dL_law_1023 rfl mv_RL_121 (ok_Hal_unsay hv287) rfl rfl s0_0 rfl (by decide) law_F (Nat.le_of_ble_eq_true rfl) law_sz ?_
      refine V.aload_n dL_law_1026 rfl ?_
      refine V.aload_n dL_law_1027 rfl ?_
      refine V.iload_n dL_law_1028 rfl ?_
      refine V.iconst dL_law_1029 ic_1 ?_
      refine V.iadd dL_law_1030 ?_
      obtain ⟨hb290, h⟩ := ck_s h
      refine V.aldS dL_law_1031 (vp_of hb290) ?_
      obtain ⟨v292, M293, hv291, h⟩ := bnd2_s h
      refine V.cVi dL_law_1032 rfl mv_RL_124 (ok_Mod_unsay hv291) rfl rfl s0_103 rfl (by decide) law_F (Nat.le_of_ble_eq_true rfl) law_sz ?_
      refine V.icmp_eq (tgt := 1545) dL_law_1035 (by decide) (fun hc294 => ?_) (fun hc294 => ?_)
      · replace h := ite_t hc294 h
        refine V.iinc dL_law_1545 rfl (iinc_c ic_5) (by decide) rfl ?_
        refine V.goto (tgt := 18) dL_law_1548 (by decide) ?_
        exact ih _ _ h
      replace h := ite_f hc294 h
      refine V.iconst dL_law_1038 ic_0 ?_
      exact absurd h (by decide)
    replace h := ite_f hc285 h
    by_cases hc295 : (X.2 (ix x3)) &&& 63 = 26
    · replace h := ite_t hc295 h
      refine V.tabAt (off := 1008) (tgt := 1040) dL_law_32 hc295 (by decide) (by decide) (by decide) (by decide) ?_
      refine V.aload_n dL_law_1040 rfl ?_
      refine V.aload_n dL_law_1041 rfl ?_
      refine V.iload_n dL_law_1042 rfl ?_
      refine V.iconst dL_law_1043 ic_1 ?_
      refine V.iadd dL_law_1044 ?_
      obtain ⟨hb296, h⟩ := ck_s h
      refine V.aldS dL_law_1045 (vp_of hb296) ?_
      refine V.aload_n dL_law_1046 rfl ?_
      refine V.iload_n dL_law_1047 rfl ?_
      refine V.iconst dL_law_1048 ic_2 ?_
      refine V.iadd dL_law_1049 ?_
      obtain ⟨hb297, h⟩ := ck_s h
      refine V.aldS dL_law_1050 (vp_of hb297) ?_
      obtain ⟨v299, M300, hv298, h⟩ := bnd2_s h
      refine V.cVi dL_law_1051 rfl mv_RL_125 (ok_Hal_said hv298) rfl rfl s0_0 rfl (by decide) law_F (Nat.le_of_ble_eq_true rfl) law_sz ?_
      refine V.aload_n dL_law_1054 rfl ?_
      refine V.aload_n dL_law_1055 rfl ?_
      refine V.iload_n dL_law_1056 rfl ?_
      refine V.iconst dL_law_1057 ic_1 ?_
      refine V.iadd dL_law_1058 ?_
      obtain ⟨hb301, h⟩ := ck_s h
      refine V.aldS dL_law_1059 (vp_of hb301) ?_
      refine V.aload_n dL_law_1060 rfl ?_
      refine V.iload_n dL_law_1061 rfl ?_
      refine V.iconst dL_law_1062 ic_2 ?_
      refine V.iadd dL_law_1063 ?_
      obtain ⟨hb302, h⟩ := ck_s h
      refine V.aldS dL_law_1064 (vp_of hb302) ?_
      obtain ⟨v304, M305, hv303, h⟩ := bnd2_s h
      refine V.cVi dL_law_1065 rfl mv_RL_128 (ok_Mod_said hv303) rfl rfl s0_103 rfl (by decide) law_F (Nat.le_of_ble_eq_true rfl) law_sz ?_
      refine V.icmp_eq (tgt := 1545) dL_law_1068 (by decide) (fun hc306 => ?_) (fun hc306 => ?_)
      · replace h := ite_t hc306 h
        refine V.iinc dL_law_1545 rfl (iinc_c ic_5) (by decide) rfl ?_
        refine V.goto (tgt := 18) dL_law_1548 (by decide) ?_
        exact ih _ _ h
      replace h := ite_f hc306 h
      refine V.iconst dL_law_1071 ic_0 ?_
      exact absurd h (by decide)
    replace h := ite_f hc295 h
    by_cases hc307 : (X.2 (ix x3)) &&& 63 = 27
    · replace h := ite_t hc307 h
      refine V.tabAt (off := 1041) (tgt := 1073) dL_law_32 hc307 (by decide) (by decide) (by decide) (by decide) ?_
      refine V.aload_n dL_law_1073 rfl ?_
      refine V.aload_n dL_law_1074 rfl ?_
      refine V.iload_n dL_law_1075 rfl ?_
      refine V.iconst dL_law_1076 ic_1 ?_
      refine V.iadd dL_law_1077 ?_
      obtain ⟨hb308, h⟩ := ck_s h
      refine V.aldS dL_law_1078 (vp_of hb308) ?_
      refine V.aload_n dL_law_1079 rfl ?_
      refine V.iload_n dL_law_1080 rfl ?_
      refine V.iconst dL_law_1081 ic_2 ?_
      refine V.iadd dL_law_1082 ?_
      obtain ⟨hb309, h⟩ := ck_s h
      refine V.aldS dL_law_1083 (vp_of hb309) ?_
      obtain ⟨v311, M312, hv310, h⟩ := bnd2_s h
      refine V.cVi dL_law_1084 rfl mv_RL_129 (ok_Hal_knows hv310) rfl rfl s0_0 rfl (by decide) law_F (Nat.le_of_ble_eq_true rfl) law_sz ?_
      refine V.aload_n dL_law_1087 rfl ?_
      refine V.aload_n dL_law_1088 rfl ?_
      refine V.iload_n dL_law_1089 rfl ?_
      refine V.iconst dL_law_1090 ic_1 ?_
      refine V.iadd dL_law_1091 ?_
      obtain ⟨hb313, h⟩ := ck_s h
      refine V.aldS dL_law_1092 (vp_of hb313) ?_
      refine V.aload_n dL_law_1093 rfl ?_
      refine V.iload_n dL_law_1094 rfl ?_
      refine V.iconst dL_law_1095 ic_2 ?_
      refine V.iadd dL_law_1096 ?_
      obtain ⟨hb314, h⟩ := ck_s h
      refine V.aldS dL_law_1097 (vp_of hb314) ?_
      obtain ⟨v316, M317, hv315, h⟩ := bnd2_s h
      refine V.cVi dL_law_1098 rfl mv_RL_132 (ok_Mod_knows hv315) rfl rfl s0_103 rfl (by decide) law_F (Nat.le_of_ble_eq_true rfl) law_sz ?_
      refine V.icmp_eq (tgt := 1545) dL_law_1101 (by decide) (fun hc318 => ?_) (fun hc318 => ?_)
      · replace h := ite_t hc318 h
        refine V.iinc dL_law_1545 rfl (iinc_c ic_5) (by decide) rfl ?_
        refine V.goto (tgt := 18) dL_law_1548 (by decide) ?_
        exact ih _ _ h
      replace h := ite_f hc318 h
      refine V.iconst dL_law_1104 ic_0 ?_
      exact absurd h (by decide)
    replace h := ite_f hc307 h
    by_cases hc319 : (X.2 (ix x3)) &&& 63 = 28
    · replace h := ite_t hc319 h
      refine V.tabAt (off := 1074) (tgt := 1106) dL_law_32 hc319 (by decide) (by decide) (by decide) (by decide) ?_
      refine V.aload_n dL_law_1106 rfl ?_
      refine V.aload_n dL_law_1107 rfl ?_
      refine V.iload_n dL_law_1108 rfl ?_
      refine V.iconst dL_law_1109 ic_1 ?_
      refine V.iadd dL_law_1110 ?_
      obtain ⟨hb320, h⟩ := ck_s h
      refine V.aldS dL_law_1111 (vp_of hb320) ?_
      refine V.aload_n dL_law_1112 rfl ?_
      refine V.iload_n dL_law_1113 rfl ?_
      refine V.iconst dL_law_1114 ic_2 ?_
      refine V.iadd dL_law_1115 ?_
      obtain ⟨hb321, h⟩ := ck_s h
      refine V.aldS dL_law_1116 (vp_of hb321) ?_
      obtain ⟨v323, M324, hv322, h⟩ := bnd2_s h
      refine V.cVi dL_law_1117 rfl mv_RL_133 (ok_Hal_since hv322) rfl rfl s0_0 rfl (by decide) law_F (Nat.le_of_ble_eq_true rfl) law_sz ?_
      refine V.aload_n dL_law_1120 rfl ?_
      refine V.aload_n dL_law_1121 rfl ?_
      refine V.iload_n dL_law_1122 rfl ?_
      refine V.iconst dL_law_1123 ic_1 ?_
      refine V.iadd dL_law_1124 ?_
      obtain ⟨hb325, h⟩ := ck_s h
      refine V.aldS dL_law_1125 (vp_of hb325) ?_
      refine V.aload_n dL_law_1126 rfl ?_
      refine V.iload_n dL_law_1127 rfl ?_
      refine V.iconst dL_law_1128 ic_2 ?_
      refine V.iadd dL_law_1129 ?_
      obtain ⟨hb326, h⟩ := ck_s h
      refine V.aldS dL_law_1130 (vp_of hb326) ?_
      obtain ⟨v328, M329, hv327, h⟩ := bnd2_s h
      refine V.cVi dL_law_1131 rfl mv_RL_136 (ok_Mod_since hv327) rfl rfl s0_103 rfl (by decide) law_F (Nat.le_of_ble_eq_true rfl) law_sz ?_
      refine V.icmp_eq (tgt := 1545) dL_law_1134 (by decide) (fun hc330 => ?_) (fun hc330 => ?_)
      · replace h := ite_t hc330 h
        refine V.iinc dL_law_1545 rfl (iinc_c ic_5) (by decide) rfl ?_
        refine V.goto (tgt := 18) dL_law_1548 (by decide) ?_
        exact ih _ _ h
      replace h := ite_f hc330 h
      refine V.iconst dL_law_1137 ic_0 ?_
      exact absurd h (by decide)
    replace h := ite_f hc319 h
    by_cases hc331 : (X.2 (ix x3)) &&& 63 = 29
    · replace h := ite_t hc331 h
      refine V.tabAt (off := 1107) (tgt := 1139) dL_law_32 hc331 (by decide) (by decide) (by decide) (by decide) ?_
      refine V.aload_n dL_law_1139 rfl ?_
      refine V.aload_n dL_law_1140 rfl ?_
      refine V.iload_n dL_law_1141 rfl ?_
      refine V.iconst dL_law_1142 ic_1 ?_
      refine V.iadd dL_law_1143 ?_
      obtain ⟨hb332, h⟩ := ck_s h
      refine V.aldS dL_law_1144 (vp_of hb332) ?_
      refine V.aload_n dL_law_1145 rfl ?_
      refine V.iload_n dL_law_1146 rfl ?_
      refine V.iconst dL_law_1147 ic_2 ?_
      refine V.iadd dL_law_1148 ?_
      obtain ⟨hb333, h⟩ := ck_s h
      refine V.aldS dL_law_1149 (vp_of hb333) ?_
      refine V.aload_n dL_law_1150 rfl ?_
      refine V.iload_n dL_law_1151 rfl ?_
      refine V.iconst dL_law_1152 ic_3 ?_
      refine V.iadd dL_law_1153 ?_
      obtain ⟨hb334, h⟩ := ck_s h
      refine V.aldS dL_law_1154 (vp_of hb334) ?_
      obtain ⟨v336, M337, hv335, h⟩ := bnd2_s h
      refine V.cVi dL_law_1155 rfl mv_RL_137 (ok_Hal_leak hv335) rfl rfl s0_0 rfl (by decide) law_F (Nat.le_of_ble_eq_true rfl) law_sz ?_
      refine V.aload_n dL_law_1158 rfl ?_
      refine V.aload_n dL_law_1159 rfl ?_
      refine V.iload_n dL_law_1160 rfl ?_
      refine V.iconst dL_law_1161 ic_1 ?_
      refine V.iadd dL_law_1162 ?_
      obtain ⟨hb338, h⟩ := ck_s h
      refine V.aldS dL_law_1163 (vp_of hb338) ?_
      refine V.aload_n dL_law_1164 rfl ?_
      refine V.iload_n dL_law_1165 rfl ?_
      refine V.iconst dL_law_1166 ic_2 ?_
      refine V.iadd dL_law_1167 ?_
      obtain ⟨hb339, h⟩ := ck_s h
      refine V.aldS dL_law_1168 (vp_of hb339) ?_
      refine V.aload_n dL_law_1169 rfl ?_
      refine V.iload_n dL_law_1170 rfl ?_
      refine V.iconst dL_law_1171 ic_3 ?_
      refine V.iadd dL_law_1172 ?_
      obtain ⟨hb340, h⟩ := ck_s h
      refine V.aldS dL_law_1173 (vp_of hb340) ?_
      obtain ⟨v342, M343, hv341, h⟩ := bnd2_s h
      refine V.cVi dL_law_1174 rfl mv_RL_140 (ok_Mod_leak hv341) rfl rfl s0_103 rfl (by decide) law_F (Nat.le_of_ble_eq_true rfl) law_sz ?_
      refine V.icmp_eq (tgt := 1545) dL_law_1177 (by decide) (fun hc344 => ?_) (fun hc344 => ?_)
      · replace h := ite_t hc344 h
        refine V.iinc dL_law_1545 rfl (iinc_c ic_5) (by decide) rfl ?_
        refine V.goto (tgt := 18) dL_law_1548 (by decide) ?_
        exact ih _ _ h
      replace h := ite_f hc344 h
      refine V.iconst dL_law_1180 ic_0 ?_
      exact absurd h (by decide)
    replace h := ite_f hc331 h
    by_cases hc345 : (X.2 (ix x3)) &&& 63 = 30
    · replace h := ite_t hc345 h
      refine V.tabAt (off := 1150) (tgt := 1182) dL_law_32 hc345 (by decide) (by decide) (by decide) (by decide) ?_
      refine V.aload_n dL_law_1182 rfl ?_
      refine V.aload_n dL_law_1183 rfl ?_
      refine V.iload_n dL_law_1184 rfl ?_
      refine V.iconst dL_law_1185 ic_1 ?_
      refine V.iadd dL_law_1186 ?_
      obtain ⟨hb346, h⟩ := ck_s h
      refine V.aldS dL_law_1187 (vp_of hb346) ?_
      obtain ⟨v348, M349, hv347, h⟩ := bnd2_s h
      refine V.cVi dL_law_1188 rfl mv_RL_141 (ok_Hal_without hv347) rfl rfl s0_0 rfl (by decide) law_F (Nat.le_of_ble_eq_true rfl) law_sz ?_
      refine V.aload_n dL_law_1191 rfl ?_
      refine V.aload_n dL_law_1192 rfl ?_
      refine V.iload_n dL_law_1193 rfl ?_
      refine V.iconst dL_law_1194 ic_1 ?_
      refine V.iadd dL_law_1195 ?_
      obtain ⟨hb350, h⟩ := ck_s h
      refine V.aldS dL_law_1196 (vp_of hb350) ?_
      obtain ⟨v352, M353, hv351, h⟩ := bnd2_s h
      refine V.cVi dL_law_1197 rfl mv_RL_144 (ok_Mod_without hv351) rfl rfl s0_103 rfl (by decide) law_F (Nat.le_of_ble_eq_true rfl) law_sz ?_
      refine V.icmp_eq (tgt := 1545) dL_law_1200 (by decide) (fun hc354 => ?_) (fun hc354 => ?_)
      · replace h := ite_t hc354 h
        refine V.iinc dL_law_1545 rfl (iinc_c ic_5) (by decide) rfl ?_
        refine V.goto (tgt := 18) dL_law_1548 (by decide) ?_
        exact ih _ _ h
      replace h := ite_f hc354 h
      refine V.iconst dL_law_1203 ic_0 ?_
      exact absurd h (by decide)
    replace h := ite_f hc345 h
    by_cases hc355 : (X.2 (ix x3)) &&& 63 = 31
    · replace h := ite_t hc355 h
      refine V.tabAt (off := 1173) (tgt := 1205) dL_law_32 hc355 (by decide) (by decide) (by decide) (by decide) ?_
      refine V.aload_n dL_law_1205 rfl ?_
      refine V.aload_n dL_law_1206 rfl ?_
      refine V.iload_n dL_law_1207 rfl ?_
      refine V.iconst dL_law_1208 ic_1 ?_
      refine V.iadd dL_law_1209 ?_
      obtain ⟨hb356, h⟩ := ck_s h
      refine V.aldS dL_law_1210 (vp_of hb356) ?_
      refine V.aload_n dL_law_1211 rfl ?_
      refine V.iload_n dL_law_1212 rfl ?_
      refine V.iconst dL_law_1213 ic_2 ?_
      refine V.iadd dL_law_1214 ?_
      obtain ⟨hb357, h⟩ := ck_s h
      refine V.aldS dL_law_1215 (vp_of hb357) ?_
      refine V.aload_n dL_law_1216 rfl ?_
      refine V.iload_n dL_law_1217 rfl ?_
      refine V.iconst dL_law_1218 ic_3 ?_
      refine V.iadd dL_law_1219 ?_
      obtain ⟨hb358, h⟩ := ck_s h
      refine V.aldS dL_law_1220 (vp_of hb358) ?_
      obtain ⟨v360, M361, hv359, h⟩ := bnd2_s h
      refine V.cVi dL_law_1221 rfl mv_RL_145 (ok_Hal_murmur hv359) rfl rfl s0_0 rfl (by decide) law_F (Nat.le_of_ble_eq_true rfl) law_sz ?_
      refine V.aload_n dL_law_1224 rfl ?_
      refine V.aload_n dL_law_1225 rfl ?_
      refine V.iload_n dL_law_1226 rfl ?_
      refine V.iconst dL_law_1227 ic_1 ?_
      refine V.iadd dL_law_1228 ?_
      obtain ⟨hb362, h⟩ := ck_s h
      refine V.aldS dL_law_1229 (vp_of hb362) ?_
      refine V.aload_n dL_law_1230 rfl ?_
      refine V.iload_n dL_law_1231 rfl ?_
      refine V.iconst dL_law_1232 ic_2 ?_
      refine V.iadd dL_law_1233 ?_
      obtain ⟨hb363, h⟩ := ck_s h
      refine V.aldS dL_law_1234 (vp_of hb363) ?_
      refine V.aload_n dL_law_1235 rfl ?_
      refine V.iload_n dL_law_1236 rfl ?_
      refine V.iconst dL_law_1237 ic_3 ?_
      refine V.iadd dL_law_1238 ?_
      obtain ⟨hb364, h⟩ := ck_s h
      refine V.aldS dL_law_1239 (vp_of hb364) ?_
      obtain ⟨v366, M367, hv365, h⟩ := bnd2_s h
      refine V.cVi dL_law_1240 rfl mv_RL_148 (ok_Mod_murmur hv365) rfl rfl s0_103 rfl (by decide) law_F (Nat.le_of_ble_eq_true rfl) law_sz ?_
      refine V.icmp_eq (tgt := 1545) dL_law_1243 (by decide) (fun hc368 => ?_) (fun hc368 => ?_)
      · replace h := ite_t hc368 h
        refine V.iinc dL_law_1545 rfl (iinc_c ic_5) (by decide) rfl ?_
        refine V.goto (tgt := 18) dL_law_1548 (by decide) ?_
        exact ih _ _ h
      replace h := ite_f hc368 h
      refine V.iconst dL_law_1246 ic_0 ?_
      exact absurd h (by decide)
    replace h := ite_f hc355 h
    by_cases hc369 : (X.2 (ix x3)) &&& 63 = 32
    · replace h := ite_t hc369 h
      refine V.tabAt (off := 1216) (tgt := 1248) dL_law_32 hc369 (by decide) (by decide) (by decide) (by decide) ?_
      refine V.aload_n dL_law_1248 rfl ?_
      refine V.aload_n dL_law_1249 rfl ?_
      refine V.iload_n dL_law_1250 rfl ?_
      refine V.iconst dL_law_1251 ic_1 ?_
      refine V.iadd dL_law_1252 ?_
      obtain ⟨hb370, h⟩ := ck_s h
      refine V.aldS dL_law_1253 (vp_of hb370) ?_
      refine V.aload_n dL_law_1254 rfl ?_
      refine V.iload_n dL_law_1255 rfl ?_
      refine V.iconst dL_law_1256 ic_2 ?_
      refine V.iadd dL_law_1257 ?_
      obtain ⟨hb371, h⟩ := ck_s h
      refine V.aldS dL_law_1258 (vp_of hb371) ?_
      obtain ⟨v373, M374, hv372, h⟩ := bnd2_s h
      refine V.cVi dL_law_1259 rfl mv_RL_149 (ok_Hal_from hv372) rfl rfl s0_0 rfl (by decide) law_F (Nat.le_of_ble_eq_true rfl) law_sz ?_
      refine V.aload_n dL_law_1262 rfl ?_
      refine V.aload_n dL_law_1263 rfl ?_
      refine V.iload_n dL_law_1264 rfl ?_
      refine V.iconst dL_law_1265 ic_1 ?_
      refine V.iadd dL_law_1266 ?_
      obtain ⟨hb375, h⟩ := ck_s h
      refine V.aldS dL_law_1267 (vp_of hb375) ?_
      refine V.aload_n dL_law_1268 rfl ?_
      refine V.iload_n dL_law_1269 rfl ?_
      refine V.iconst dL_law_1270 ic_2 ?_
      refine V.iadd dL_law_1271 ?_
      obtain ⟨hb376, h⟩ := ck_s h
      refine V.aldS dL_law_1272 (vp_of hb376) ?_
      obtain ⟨v378, M379, hv377, h⟩ := bnd2_s h
      refine V.cVi dL_law_1273 rfl mv_RL_152 (ok_Mod_from hv377) rfl rfl s0_103 rfl (by decide) law_F (Nat.le_of_ble_eq_true rfl) law_sz ?_
      refine V.icmp_eq (tgt := 1545) dL_law_1276 (by decide) (fun hc380 => ?_) (fun hc380 => ?_)
      · replace h := ite_t hc380 h
        refine V.iinc dL_law_1545 rfl (iinc_c ic_5) (by decide) rfl ?_
        refine V.goto (tgt := 18) dL_law_1548 (by decide) ?_
        exact ih _ _ h
      replace h := ite_f hc380 h
      refine V.iconst dL_law_1279 ic_0 ?_
      exact absurd h (by decide)
    replace h := ite_f hc369 h
    by_cases hc381 : (X.2 (ix x3)) &&& 63 = 33
    · replace h := ite_t hc381 h
      refine V.tabAt (off := 1249) (tgt := 1281) dL_law_32 hc381 (by decide) (by decide) (by decide) (by decide) ?_
      refine V.aload_n dL_law_1281 rfl ?_
      refine V.aload_n dL_law_1282 rfl ?_
      refine V.iload_n dL_law_1283 rfl ?_
      refine V.iconst dL_law_1284 ic_1 ?_
      refine V.iadd dL_law_1285 ?_
      obtain ⟨hb382, h⟩ := ck_s h
      refine V.aldS dL_law_1286 (vp_of hb382) ?_
      refine V.aload_n dL_law_1287 rfl ?_
      refine V.iload_n dL_law_1288 rfl ?_
      refine V.iconst dL_law_1289 ic_2 ?_
      refine V.iadd dL_law_1290 ?_
      obtain ⟨hb383, h⟩ := ck_s h
      refine V.aldS dL_law_1291 (vp_of hb383) ?_
      refine V.aload_n dL_law_1292 rfl ?_
      refine V.iload_n dL_law_1293 rfl ?_
      refine V.iconst dL_law_1294 ic_3 ?_
      refine V.iadd dL_law_1295 ?_
      obtain ⟨hb384, h⟩ := ck_s h
      refine V.aldS dL_law_1296 (vp_of hb384) ?_
      obtain ⟨v386, M387, hv385, h⟩ := bnd2_s h
      refine V.cVi dL_law_1297 rfl mv_RL_153 (ok_Hal_where hv385) rfl rfl s0_0 rfl (by decide) law_F (Nat.le_of_ble_eq_true rfl) law_sz ?_
      refine V.aload_n dL_law_1300 rfl ?_
      refine V.aload_n dL_law_1301 rfl ?_
      refine V.iload_n dL_law_1302 rfl ?_
      refine V.iconst dL_law_1303 ic_1 ?_
      refine V.iadd dL_law_1304 ?_
      obtain ⟨hb388, h⟩ := ck_s h
      refine V.aldS dL_law_1305 (vp_of hb388) ?_
      refine V.aload_n dL_law_1306 rfl ?_
      refine V.iload_n dL_law_1307 rfl ?_
      refine V.iconst dL_law_1308 ic_2 ?_
      refine V.iadd dL_law_1309 ?_
      obtain ⟨hb389, h⟩ := ck_s h
      refine V.aldS dL_law_1310 (vp_of hb389) ?_
      refine V.aload_n dL_law_1311 rfl ?_
      refine V.iload_n dL_law_1312 rfl ?_
      refine V.iconst dL_law_1313 ic_3 ?_
      refine V.iadd dL_law_1314 ?_
      obtain ⟨hb390, h⟩ := ck_s h
      refine V.aldS dL_law_1315 (vp_of hb390) ?_
      obtain ⟨v392, M393, hv391, h⟩ := bnd2_s h
      refine V.cVi dL_law_1316 rfl mv_RL_156 (ok_Mod_where hv391) rfl rfl s0_103 rfl (by decide) law_F (Nat.le_of_ble_eq_true rfl) law_sz ?_
      refine V.icmp_eq (tgt := 1545) dL_law_1319 (by decide) (fun hc394 => ?_) (fun hc394 => ?_)
      · replace h := ite_t hc394 h
        refine V.iinc dL_law_1545 rfl (iinc_c ic_5) (by decide) rfl ?_
        refine V.goto (tgt := 18) dL_law_1548 (by decide) ?_
        exact ih _ _ h
      replace h := ite_f hc394 h
      refine V.iconst dL_law_1322 ic_0 ?_
      exact absurd h (by decide)
    replace h := ite_f hc381 h
    by_cases hc395 : (X.2 (ix x3)) &&& 63 = 34
    · replace h := ite_t hc395 h
      refine V.tabAt (off := 1292) (tgt := 1324) dL_law_32 hc395 (by decide) (by decide) (by decide) (by decide) ?_
      refine V.aload_n dL_law_1324 rfl ?_
      refine V.aload_n dL_law_1325 rfl ?_
      refine V.iload_n dL_law_1326 rfl ?_
      refine V.iconst dL_law_1327 ic_1 ?_
      refine V.iadd dL_law_1328 ?_
      obtain ⟨hb396, h⟩ := ck_s h
      refine V.aldS dL_law_1329 (vp_of hb396) ?_
      obtain ⟨v398, M399, hv397, h⟩ := bnd2_s h
      refine V.cVi dL_law_1330 rfl mv_RL_157 (ok_Hal_keep hv397) rfl rfl s0_0 rfl (by decide) law_F (Nat.le_of_ble_eq_true rfl) law_sz ?_
      refine V.aload_n dL_law_1333 rfl ?_
      refine V.aload_n dL_law_1334 rfl ?_
      refine V.iload_n dL_law_1335 rfl ?_
      refine V.iconst dL_law_1336 ic_1 ?_
      refine V.iadd dL_law_1337 ?_
      obtain ⟨hb400, h⟩ := ck_s h
      refine V.aldS dL_law_1338 (vp_of hb400) ?_
      obtain ⟨v402, M403, hv401, h⟩ := bnd2_s h
      refine V.cVi dL_law_1339 rfl mv_RL_160 (ok_Mod_keep hv401) rfl rfl s0_103 rfl (by decide) law_F (Nat.le_of_ble_eq_true rfl) law_sz ?_
      refine V.icmp_eq (tgt := 1545) dL_law_1342 (by decide) (fun hc404 => ?_) (fun hc404 => ?_)
      · replace h := ite_t hc404 h
        refine V.iinc dL_law_1545 rfl (iinc_c ic_5) (by decide) rfl ?_
        refine V.goto (tgt := 18) dL_law_1548 (by decide) ?_
        exact ih _ _ h
      replace h := ite_f hc404 h
      refine V.iconst dL_law_1345 ic_0 ?_
      exact absurd h (by decide)
    replace h := ite_f hc395 h
    by_cases hc405 : (X.2 (ix x3)) &&& 63 = 35
    · replace h := ite_t hc405 h
      refine V.tabAt (off := 1315) (tgt := 1347) dL_law_32 hc405 (by decide) (by decide) (by decide) (by decide) ?_
      refine V.aload_n dL_law_1347 rfl ?_
      refine V.aload_n dL_law_1348 rfl ?_
      refine V.iload_n dL_law_1349 rfl ?_
      refine V.iconst dL_law_1350 ic_1 ?_
      refine V.iadd dL_law_1351 ?_
      obtain ⟨hb406, h⟩ := ck_s h
      refine V.aldS dL_law_1352 (vp_of hb406) ?_
      obtain ⟨v408, M409, hv407, h⟩ := bnd2_s h
      refine V.cVi dL_law_1353 rfl mv_RL_161 (ok_Hal_back hv407) rfl rfl s0_0 rfl (by decide) law_F (Nat.le_of_ble_eq_true rfl) law_sz ?_
      refine V.aload_n dL_law_1356 rfl ?_
      refine V.aload_n dL_law_1357 rfl ?_
      refine V.iload_n dL_law_1358 rfl ?_
      refine V.iconst dL_law_1359 ic_1 ?_
      refine V.iadd dL_law_1360 ?_
      obtain ⟨hb410, h⟩ := ck_s h
      refine V.aldS dL_law_1361 (vp_of hb410) ?_
      obtain ⟨v412, M413, hv411, h⟩ := bnd2_s h
      refine V.cVi dL_law_1362 rfl mv_RL_164 (ok_Mod_back hv411) rfl rfl s0_103 rfl (by decide) law_F (Nat.le_of_ble_eq_true rfl) law_sz ?_
      refine V.icmp_eq (tgt := 1545) dL_law_1365 (by decide) (fun hc414 => ?_) (fun hc414 => ?_)
      · replace h := ite_t hc414 h
        refine V.iinc dL_law_1545 rfl (iinc_c ic_5) (by decide) rfl ?_
        refine V.goto (tgt := 18) dL_law_1548 (by decide) ?_
        exact ih _ _ h
      replace h := ite_f hc414 h
      refine V.iconst dL_law_1368 ic_0 ?_
      exact absurd h (by decide)
    replace h := ite_f hc405 h
    by_cases hc415 : (X.2 (ix x3)) &&& 63 = 36
    · replace h := ite_t hc415 h
      refine V.tabAt (off := 1338) (tgt := 1370) dL_law_32 hc415 (by decide) (by decide) (by decide) (by decide) ?_
      refine V.aload_n dL_law_1370 rfl ?_
      refine V.aload_n dL_law_1371 rfl ?_
      refine V.iload_n dL_law_1372 rfl ?_
      refine V.iconst dL_law_1373 ic_1 ?_
      refine V.iadd dL_law_1374 ?_
      obtain ⟨hb416, h⟩ := ck_s h
      refine V.aldS dL_law_1375 (vp_of hb416) ?_
      refine V.aload_n dL_law_1376 rfl ?_
      refine V.iload_n dL_law_1377 rfl ?_
      refine V.iconst dL_law_1378 ic_2 ?_
      refine V.iadd dL_law_1379 ?_
      obtain ⟨hb417, h⟩ := ck_s h
      refine V.aldS dL_law_1380 (vp_of hb417) ?_
      refine V.aload_n dL_law_1381 rfl ?_
      refine V.iload_n dL_law_1382 rfl ?_
      refine V.iconst dL_law_1383 ic_3 ?_
      refine V.iadd dL_law_1384 ?_
      obtain ⟨hb418, h⟩ := ck_s h
      refine V.aldS dL_law_1385 (vp_of hb418) ?_
      obtain ⟨v420, M421, hv419, h⟩ := bnd2_s h
      refine V.cVi dL_law_1386 rfl mv_RL_165 (ok_Hal_sheet hv419) rfl rfl s0_0 rfl (by decide) law_F (Nat.le_of_ble_eq_true rfl) law_sz ?_
      refine V.aload_n dL_law_1389 rfl ?_
      refine V.aload_n dL_law_1390 rfl ?_
      refine V.iload_n dL_law_1391 rfl ?_
      refine V.iconst dL_law_1392 ic_1 ?_
      refine V.iadd dL_law_1393 ?_
      obtain ⟨hb422, h⟩ := ck_s h
      refine V.aldS dL_law_1394 (vp_of hb422) ?_
      refine V.aload_n dL_law_1395 rfl ?_
      refine V.iload_n dL_law_1396 rfl ?_
      refine V.iconst dL_law_1397 ic_2 ?_
      refine V.iadd dL_law_1398 ?_
      obtain ⟨hb423, h⟩ := ck_s h
      refine V.aldS dL_law_1399 (vp_of hb423) ?_
      refine V.aload_n dL_law_1400 rfl ?_
      refine V.iload_n dL_law_1401 rfl ?_
      refine V.iconst dL_law_1402 ic_3 ?_
      refine V.iadd dL_law_1403 ?_
      obtain ⟨hb424, h⟩ := ck_s h
      refine V.aldS dL_law_1404 (vp_of hb424) ?_
      obtain ⟨v426, M427, hv425, h⟩ := bnd2_s h
      refine V.cVi dL_law_1405 rfl mv_RL_168 (ok_Mod_sheet hv425) rfl rfl s0_103 rfl (by decide) law_F (Nat.le_of_ble_eq_true rfl) law_sz ?_
      refine V.icmp_eq (tgt := 1545) dL_law_1408 (by decide) (fun hc428 => ?_) (fun hc428 => ?_)
      · replace h := ite_t hc428 h
        refine V.iinc dL_law_1545 rfl (iinc_c ic_5) (by decide) rfl ?_
        refine V.goto (tgt := 18) dL_law_1548 (by decide) ?_
        exact ih _ _ h
      replace h := ite_f hc428 h
      refine V.iconst dL_law_1411 ic_0 ?_
      exact absurd h (by decide)
    replace h := ite_f hc415 h
    by_cases hc429 : (X.2 (ix x3)) &&& 63 = 37
    · replace h := ite_t hc429 h
      refine V.tabAt (off := 1381) (tgt := 1413) dL_law_32 hc429 (by decide) (by decide) (by decide) (by decide) ?_
      refine V.aload_n dL_law_1413 rfl ?_
      refine V.aload_n dL_law_1414 rfl ?_
      refine V.iload_n dL_law_1415 rfl ?_
      refine V.iconst dL_law_1416 ic_1 ?_
      refine V.iadd dL_law_1417 ?_
      obtain ⟨hb430, h⟩ := ck_s h
      refine V.aldS dL_law_1418 (vp_of hb430) ?_
      refine V.aload_n dL_law_1419 rfl ?_
      refine V.iload_n dL_law_1420 rfl ?_
      refine V.iconst dL_law_1421 ic_2 ?_
      refine V.iadd dL_law_1422 ?_
      obtain ⟨hb431, h⟩ := ck_s h
      refine V.aldS dL_law_1423 (vp_of hb431) ?_
      refine V.aload_n dL_law_1424 rfl ?_
      refine V.iload_n dL_law_1425 rfl ?_
      refine V.iconst dL_law_1426 ic_3 ?_
      refine V.iadd dL_law_1427 ?_
      obtain ⟨hb432, h⟩ := ck_s h
      refine V.aldS dL_law_1428 (vp_of hb432) ?_
      obtain ⟨v434, M435, hv433, h⟩ := bnd2_s h
      refine V.cVi dL_law_1429 rfl mv_RL_169 (ok_Hal_lay hv433) rfl rfl s0_0 rfl (by decide) law_F (Nat.le_of_ble_eq_true rfl) law_sz ?_
      refine V.aload_n dL_law_1432 rfl ?_
      refine V.aload_n dL_law_1433 rfl ?_
      refine V.iload_n dL_law_1434 rfl ?_
      refine V.iconst dL_law_1435 ic_1 ?_
      refine V.iadd dL_law_1436 ?_
      obtain ⟨hb436, h⟩ := ck_s h
      refine V.aldS dL_law_1437 (vp_of hb436) ?_
      refine V.aload_n dL_law_1438 rfl ?_
      refine V.iload_n dL_law_1439 rfl ?_
      refine V.iconst dL_law_1440 ic_2 ?_
      refine V.iadd dL_law_1441 ?_
      obtain ⟨hb437, h⟩ := ck_s h
      refine V.aldS dL_law_1442 (vp_of hb437) ?_
      refine V.aload_n dL_law_1443 rfl ?_
      refine V.iload_n dL_law_1444 rfl ?_
      refine V.iconst dL_law_1445 ic_3 ?_
      refine V.iadd dL_law_1446 ?_
      obtain ⟨hb438, h⟩ := ck_s h
      refine V.aldS dL_law_1447 (vp_of hb438) ?_
      obtain ⟨v440, M441, hv439, h⟩ := bnd2_s h
      refine V.cVi dL_law_1448 rfl mv_RL_172 (ok_Mod_lay hv439) rfl rfl s0_103 rfl (by decide) law_F (Nat.le_of_ble_eq_true rfl) law_sz ?_
      refine V.icmp_eq (tgt := 1545) dL_law_1451 (by decide) (fun hc442 => ?_) (fun hc442 => ?_)
      · replace h := ite_t hc442 h
        refine V.iinc dL_law_1545 rfl (iinc_c ic_5) (by decide) rfl ?_
        refine V.goto (tgt := 18) dL_law_1548 (by decide) ?_
        exact ih _ _ h
      replace h := ite_f hc442 h
      refine V.iconst dL_law_1454 ic_0 ?_
      exact absurd h (by decide)
    replace h := ite_f hc429 h
    by_cases hc443 : (X.2 (ix x3)) &&& 63 = 38
    · replace h := ite_t hc443 h
      refine V.tabAt (off := 1424) (tgt := 1456) dL_law_32 hc443 (by decide) (by decide) (by decide) (by decide) ?_
      refine V.aload_n dL_law_1456 rfl ?_
      refine V.aload_n dL_law_1457 rfl ?_
      refine V.iload_n dL_law_1458 rfl ?_
      refine V.iconst dL_law_1459 ic_1 ?_
      refine V.iadd dL_law_1460 ?_
      obtain ⟨hb444, h⟩ := ck_s h
      refine V.aldS dL_law_1461 (vp_of hb444) ?_
      refine V.aload_n dL_law_1462 rfl ?_
      refine V.iload_n dL_law_1463 rfl ?_
      refine V.iconst dL_law_1464 ic_2 ?_
      refine V.iadd dL_law_1465 ?_
      obtain ⟨hb445, h⟩ := ck_s h
      refine V.aldS dL_law_1466 (vp_of hb445) ?_
      refine V.aload_n dL_law_1467 rfl ?_
      refine V.iload_n dL_law_1468 rfl ?_
      refine V.iconst dL_law_1469 ic_3 ?_
      refine V.iadd dL_law_1470 ?_
      obtain ⟨hb446, h⟩ := ck_s h
      refine V.aldS dL_law_1471 (vp_of hb446) ?_
      refine V.aload_n dL_law_1472 rfl ?_
      refine V.iload_n dL_law_1473 rfl ?_
      refine V.iconst dL_law_1474 ic_4 ?_
      refine V.iadd dL_law_1475 ?_
      obtain ⟨hb447, h⟩ := ck_s h
      refine V.aldS dL_law_1476 (vp_of hb447) ?_
      obtain ⟨v449, M450, hv448, h⟩ := bnd2_s h
      refine V.cVi dL_law_1477 rfl mv_RL_173 (ok_Hal_read hv448) rfl rfl s0_0 rfl (by decide) law_F (Nat.le_of_ble_eq_true rfl) law_sz ?_
      refine V.aload_n dL_law_1480 rfl ?_
      refine V.aload_n dL_law_1481 rfl ?_
      refine V.iload_n dL_law_1482 rfl ?_
      refine V.iconst dL_law_1483 ic_1 ?_
      refine V.iadd dL_law_1484 ?_
      obtain ⟨hb451, h⟩ := ck_s h
      refine V.aldS dL_law_1485 (vp_of hb451) ?_
      refine V.aload_n dL_law_1486 rfl ?_
      refine V.iload_n dL_law_1487 rfl ?_
      refine V.iconst dL_law_1488 ic_2 ?_
      refine V.iadd dL_law_1489 ?_
      obtain ⟨hb452, h⟩ := ck_s h
      refine V.aldS dL_law_1490 (vp_of hb452) ?_
      refine V.aload_n dL_law_1491 rfl ?_
      refine V.iload_n dL_law_1492 rfl ?_
      refine V.iconst dL_law_1493 ic_3 ?_
      refine V.iadd dL_law_1494 ?_
      obtain ⟨hb453, h⟩ := ck_s h
      refine V.aldS dL_law_1495 (vp_of hb453) ?_
      refine V.aload_n dL_law_1496 rfl ?_
      refine V.iload_n dL_law_1497 rfl ?_
      refine V.iconst dL_law_1498 ic_4 ?_
      refine V.iadd dL_law_1499 ?_
      obtain ⟨hb454, h⟩ := ck_s h
      refine V.aldS dL_law_1500 (vp_of hb454) ?_
      obtain ⟨v456, M457, hv455, h⟩ := bnd2_s h
      refine V.cVi dL_law_1501 rfl mv_RL_176 (ok_Mod_read hv455) rfl rfl s0_103 rfl (by decide) law_F (Nat.le_of_ble_eq_true rfl) law_sz ?_
      refine V.icmp_eq (tgt := 1545) dL_law_1504 (by decide) (fun hc458 => ?_) (fun hc458 => ?_)
      · replace h := ite_t hc458 h
        refine V.iinc dL_law_1545 rfl (iinc_c ic_5) (by decide) rfl ?_
        refine V.goto (tgt := 18) dL_law_1548 (by decide) ?_
        exact ih _ _ h
      replace h := ite_f hc458 h
      refine V.iconst dL_law_1507 ic_0 ?_
      exact absurd h (by decide)
    replace h := ite_f hc443 h
    by_cases hc459 : (X.2 (ix x3)) &&& 63 = 39
    · replace h := ite_t hc459 h
      refine V.tabAt (off := 1477) (tgt := 1509) dL_law_32 hc459 (by decide) (by decide) (by decide) (by decide) ?_
      refine V.aload_n dL_law_1509 rfl ?_
      obtain ⟨v461, hv460, h⟩ := bnd_s h
      refine V.cVi dL_law_1510 rfl mv_RL_177 (ok_Hal_torn hv460) rfl rfl s0_0 rfl (by decide) law_F (Nat.le_of_ble_eq_true rfl) law_sz ?_
      refine V.aload_n dL_law_1513 rfl ?_
      obtain ⟨v463, hv462, h⟩ := bnd_s h
      refine V.cVi dL_law_1514 rfl mv_RL_180 (ok_Mod_torn hv462) rfl rfl s0_103 rfl (by decide) law_F (Nat.le_of_ble_eq_true rfl) law_sz ?_
      refine V.icmp_eq (tgt := 1545) dL_law_1517 (by decide) (fun hc464 => ?_) (fun hc464 => ?_)
      · replace h := ite_t hc464 h
        refine V.iinc dL_law_1545 rfl (iinc_c ic_5) (by decide) rfl ?_
        refine V.goto (tgt := 18) dL_law_1548 (by decide) ?_
        exact ih _ _ h
      replace h := ite_f hc464 h
      refine V.iconst dL_law_1520 ic_0 ?_
      exact absurd h (by decide)
    replace h := ite_f hc459 h
    by_cases hc465 : (X.2 (ix x3)) &&& 63 = 40
    · replace h := ite_t hc465 h
      refine V.tabAt (off := 1490) (tgt := 1522) dL_law_32 hc465 (by decide) (by decide) (by decide) (by decide) ?_
      refine V.aload_n dL_law_1522 rfl ?_
      refine V.aload_n dL_law_1523 rfl ?_
      refine V.iload_n dL_law_1524 rfl ?_
      refine V.iconst dL_law_1525 ic_1 ?_
      refine V.iadd dL_law_1526 ?_
      obtain ⟨hb466, h⟩ := ck_s h
      refine V.aldS dL_law_1527 (vp_of hb466) ?_
      obtain ⟨v468, hv467, h⟩ := bnd_s h
      refine V.cVi dL_law_1528 rfl mv_RL_181 (ok_Hal_count hv467) rfl rfl s0_0 rfl (by decide) law_F (Nat.le_of_ble_eq_true rfl) law_sz ?_
      refine V.aload_n dL_law_1531 rfl ?_
      refine V.aload_n dL_law_1532 rfl ?_
      refine V.iload_n dL_law_1533 rfl ?_
      refine V.iconst dL_law_1534 ic_1 ?_
      refine V.iadd dL_law_1535 ?_
      obtain ⟨hb469, h⟩ := ck_s h
      refine V.aldS dL_law_1536 (vp_of hb469) ?_
      obtain ⟨v471, hv470, h⟩ := bnd_s h
      refine V.cVi dL_law_1537 rfl mv_RL_184 (ok_Mod_count hv470) rfl rfl s0_103 rfl (by decide) law_F (Nat.le_of_ble_eq_true rfl) law_sz ?_
      refine V.icmp_eq (tgt := 1545) dL_law_1540 (by decide) (fun hc472 => ?_) (fun hc472 => ?_)
      · replace h := ite_t hc472 h
        refine V.iinc dL_law_1545 rfl (iinc_c ic_5) (by decide) rfl ?_
        refine V.goto (tgt := 18) dL_law_1548 (by decide) ?_
        exact ih _ _ h
      replace h := ite_f hc472 h
      refine V.iconst dL_law_1543 ic_0 ?_
      exact absurd h (by decide)
    replace h := ite_f hc465 h
    refine V.tabOut (tgt := 1545) dL_law_32 (by have ez : (X.2 x3.toNatClampNeg &&& 63).toInt = (X.2 (ix x3) &&& 63).toInt := rfl; have e0 := i32_lit (k := 0) hc3 (by decide); have e1 := i32_lit (k := 1) hc15 (by decide); have e2 := i32_lit (k := 2) hc25 (by decide); have e3 := i32_lit (k := 3) hc33 (by decide); have e4 := i32_lit (k := 4) hc39 (by decide); have e5 := i32_lit (k := 5) hc47 (by decide); have e6 := i32_lit (k := 6) hc55 (by decide); have e7 := i32_lit (k := 7) hc67 (by decide); have e8 := i32_lit (k := 8) hc77 (by decide); have e9 := i32_lit (k := 9) hc89 (by decide); have e10 := i32_lit (k := 10) hc99 (by decide); have e11 := i32_lit (k := 11) hc111 (by decide); have e12 := i32_lit (k := 12) hc125 (by decide); have e13 := i32_lit (k := 13) hc137 (by decide); have e14 := i32_lit (k := 14) hc153 (by decide); have e15 := i32_lit (k := 15) hc165 (by decide); have e16 := i32_lit (k := 16) hc177 (by decide); have e17 := i32_lit (k := 17) hc191 (by decide); have e18 := i32_lit (k := 18) hc201 (by decide); have e19 := i32_lit (k := 19) hc213 (by decide); have e20 := i32_lit (k := 20) hc225 (by decide); have e21 := i32_lit (k := 21) hc237 (by decide); have e22 := i32_lit (k := 22) hc245 (by decide); have e23 := i32_lit (k := 23) hc259 (by decide); have e24 := i32_lit (k := 24) hc271 (by decide); have e25 := i32_lit (k := 25) hc285 (by decide); have e26 := i32_lit (k := 26) hc295 (by decide); have e27 := i32_lit (k := 27) hc307 (by decide); have e28 := i32_lit (k := 28) hc319 (by decide); have e29 := i32_lit (k := 29) hc331 (by decide); have e30 := i32_lit (k := 30) hc345 (by decide); have e31 := i32_lit (k := 31) hc355 (by decide); have e32 := i32_lit (k := 32) hc369 (by decide); have e33 := i32_lit (k := 33) hc381 (by decide); have e34 := i32_lit (k := 34) hc395 (by decide); have e35 := i32_lit (k := 35) hc405 (by decide); have e36 := i32_lit (k := 36) hc415 (by decide); have e37 := i32_lit (k := 37) hc429 (by decide); have e38 := i32_lit (k := 38) hc443 (by decide); have e39 := i32_lit (k := 39) hc459 (by decide); have e40 := i32_lit (k := 40) hc465 (by decide); omega) (by decide) ?_
    refine V.iinc dL_law_1545 rfl (iinc_c ic_5) (by decide) rfl ?_
    refine V.goto (tgt := 18) dL_law_1548 (by decide) ?_
    exact ih _ _ h
theorem ok_Law_law {X : Sc} {l : Launch} {M : Mem} (h : f_Law_law X M = some 1) : V X yL_law cL_law 4 ret room_1 l FLaw 16 [some (.ref 1000), some (.ref 0), some (.ref 103), none] [] S0 M 122 slLaw := by
  unfold f_Law_law at h
  refine V.iconst dL_law_16 ic_0 ?_
  refine V.istore_n dL_law_17 (by decide) rfl ?_
  exact okc_Law_law_18 _ _ _ h
set_option maxRecDepth 10000 in
theorem ok_Law0 {X : Sc} {l : Launch} {M0 : Mem} (h : c_Law = some (S0, M0)) (hf : f_Law_law X M0 = some 1) : V X yL_law cL_law 4 ret room_1 l FLaw 0 [some (.ref 1000), none, none, none] [] [] (fun _ _ => 0) 0 0 := by
  unfold c_Law at h
  obtain ⟨⟨hl1, hc1⟩, h⟩ := mkO_s h
  refine V.new (fs := [some none, some none, some none, none, some none, some none, some none, some none, some none, none]) dL_law_0 (show vwCl[10]? = some (RX10, TX10, 10) from rfl) nw_RL_7 clin_10 tyX10_ok rfl dvX10 (fun _ _ h9 => hb9 hc1 h9) ⟨by decide, by decide⟩ hl1 (fun M1 hM1 => ?_)
  obtain ⟨sh1, hs1⟩ : ∃ z, z = ([] : List Shp) ++ [(10, 10, [some none, some none, some none, none, some none, some none, some none, some none, some none, none])] := ⟨_, rfl⟩
  rw [← hs1]
  replace h := h _ _ hs1 hM1
  have hn1 : sh1.length = 1 := by rw [hs1]; rfl
  show V X yL_law cL_law 4 ret room_1 l FLaw 3 [some (.ref 1000), none, none, none] [.ref 0] sh1 M1 1 10
  refine V.dup dL_law_3 rfl ?_
  obtain ⟨sh2, M2, ho2, hl2, hc2, h⟩ := caO_s h
  refine V.invI (mc := 102) (ms := 1841) dL_law_4 rfl iw_RL_9 rfl (okc_Hal ho2) (av := []) rfl rfl (by decide) ⟨by decide, by decide⟩ (Nat.le_of_ble_eq_true rfl) hl2 (fun _ _ h9 => hb9 hc2 h9) ?_
  have hn2 : sh2.length = 103 := by rw [hl2.1, hn1]
  show V X yL_law cL_law 4 ret room_1 l FLaw 7 [some (.ref 1000), none, none, none] [.ref 0] sh2 M2 103 1851
  refine V.astore_n dL_law_7 (by decide) rfl ?_
  obtain ⟨⟨hl3, hc3⟩, h⟩ := mkO_s h
  refine V.new (fs := [some none, some none, none, none, none, none, none, none, none, some none, some none, some none, some none, some none, some none, none, none, none, none, none, none, some none, none, none, none, none, none, none, none, some none, some none, none, some none, some none, some none, none, none, none, none, some none, some none, some none, some none, none]) dL_law_8 (show vwCl[11]? = some (RX11, TX11, 44) from rfl) nw_RL_10 clin_11 tyX11_ok rfl dvX11 (fun _ _ h9 => hb9 hc3 h9) ⟨by decide, by decide⟩ hl3 (fun M3 hM3 => ?_)
  obtain ⟨sh3, hs3⟩ : ∃ z, z = sh2 ++ [(11, 44, [some none, some none, none, none, none, none, none, none, none, some none, some none, some none, some none, some none, some none, none, none, none, none, none, none, some none, none, none, none, none, none, none, none, some none, some none, none, some none, some none, some none, none, none, none, none, some none, some none, some none, some none, none])] := ⟨_, rfl⟩
  rw [← hs3]
  replace h := h _ _ hs3 hM3
  rw [hn2]
  show V X yL_law cL_law 4 ret room_1 l FLaw 11 [some (.ref 1000), some (.ref 0), none, none] [.ref 103] sh3 M3 104 1895
  refine V.dup dL_law_11 rfl ?_
  obtain ⟨sh4, M4, ho4, hl4, hc4, h⟩ := caO_s h
  refine V.invI (mc := 18) (ms := 1217) dL_law_12 rfl iw_RL_12 rfl (okc_Mod ho4) (av := []) rfl rfl (by decide) ⟨by decide, by decide⟩ (Nat.le_of_ble_eq_true rfl) hl4 (fun _ _ h9 => hb9 hc4 h9) ?_
  obtain ⟨rfl, rfl⟩ := inj2 h
  show V X yL_law cL_law 4 ret room_1 l FLaw 15 [some (.ref 1000), some (.ref 0), none, none] [.ref 103] S0 M0 122 3112
  refine V.astore_n dL_law_15 (by decide) rfl ?_
  exact ok_Law_law hf
