/-! the start: what lies outside, out of the premises -/
def FLs : List Cond := flatC (Jvm.Cond.and given_1 narrow_1)
def ws_tm (i : Nat) : Term := .string RX7 ((strP.getD i (0, "")).1)
def ws_fv (i : Nat) : Term := .field (ws_tm i) "java/lang/String" "value" "[B"
def plE : List Nat := [31, 39, 48, 60, 71, 85, 99, 115, 133, 149, 165, 186, 206, 228, 251, 275]
def plC : List Nat := [32, 40, 49, 61, 72, 86, 100, 116, 134, 150, 166, 187, 207, 229, 252, 276]
def plA : List Nat := [33, 41, 50, 62, 73, 87, 101, 117, 135, 151, 167, 188, 208, 230, 253, 277]
def plN : List Nat := [34, 42, 51, 63, 74, 88, 102, 118, 136, 152, 168, 189, 209, 231, 254, 278]
def plL : List Nat := [35, 43, 52, 64, 75, 89, 103, 119, 137, 153, 169, 190, 210, 232, 255, 279]
def plD : List (List Nat) := [[0, 47, 58, 68, 81, 94, 109, 126, 141, 156, 176, 195, 216, 238, 261, 288], [0, 0, 59, 69, 82, 95, 110, 127, 142, 157, 177, 196, 217, 239, 262, 289], [0, 0, 0, 70, 83, 96, 111, 128, 143, 158, 178, 197, 218, 240, 263, 290], [0, 0, 0, 0, 84, 97, 112, 129, 144, 159, 179, 198, 219, 241, 264, 291], [0, 0, 0, 0, 0, 98, 113, 130, 145, 160, 180, 199, 220, 242, 265, 292], [0, 0, 0, 0, 0, 0, 114, 131, 146, 161, 181, 200, 221, 243, 266, 293], [0, 0, 0, 0, 0, 0, 0, 132, 147, 162, 182, 201, 222, 244, 267, 294], [0, 0, 0, 0, 0, 0, 0, 0, 148, 163, 183, 202, 223, 245, 268, 295], [0, 0, 0, 0, 0, 0, 0, 0, 0, 164, 184, 203, 224, 246, 269, 296], [0, 0, 0, 0, 0, 0, 0, 0, 0, 0, 185, 204, 225, 247, 270, 297], [0, 0, 0, 0, 0, 0, 0, 0, 0, 0, 0, 205, 226, 248, 271, 298], [0, 0, 0, 0, 0, 0, 0, 0, 0, 0, 0, 0, 227, 249, 272, 299], [0, 0, 0, 0, 0, 0, 0, 0, 0, 0, 0, 0, 0, 250, 273, 300], [0, 0, 0, 0, 0, 0, 0, 0, 0, 0, 0, 0, 0, 0, 274, 301], [0, 0, 0, 0, 0, 0, 0, 0, 0, 0, 0, 0, 0, 0, 0, 302], [0, 0, 0, 0, 0, 0, 0, 0, 0, 0, 0, 0, 0, 0, 0, 0]]
theorem fl_ex : ∀ i, i < 16 → FLs[plE.getD i 0]? = some (Cond.exactly (ws_tm i) "java/lang/String") := by decide +kernel
theorem fl_co : ∀ i, i < 16 → FLs[plC.getD i 0]? = some (Cond.eq (.field (ws_tm i) "java/lang/String" "coder" "B") (.int 0)) := by decide +kernel
theorem fl_ar : ∀ i, i < 16 → FLs[plA.getD i 0]? = some (Cond.arrayOf (ws_fv i) .byte) := by decide +kernel
theorem fl_le : ∀ i, i < 16 → FLs[plN.getD i 0]? = some (Cond.eq (.length (ws_fv i)) (.int (Int32.ofNat (strL.getD i 0)))) := by decide +kernel
theorem fl_el : ∀ i, i < 16 → ∀ j, j < strL.getD i 0 → FLs[plL.getD i 0 + j]? = some (Cond.eq (.elem (ws_fv i) (.int (Int32.ofNat j))) (.int ((strB.getD i []).getD j 0))) := by decide +kernel
theorem fl_ne : ∀ i, i < 16 → ∀ j, j < 16 → i < j → FLs[(plD.getD i []).getD j 0]? = some (Cond.not (Cond.eq (ws_tm i) (ws_tm j))) := by decide +kernel
def ws_X : Term := .static RX1 "CHANGE_OF_X" "[I"
theorem fl_aX : FLs[10]? = some (Cond.arrayOf ws_X .int) := by decide +kernel
theorem fl_lX : FLs[11]? = some (Cond.eq (.length ws_X) (.int (Int32.ofNat 8))) := by decide +kernel
theorem fl_eX : ∀ j, j < 8 → FLs[12 + j]? = some (Cond.eq (.elem ws_X (.int (Int32.ofNat j))) (.int (chX j))) := by decide +kernel
def ws_Y : Term := .static RX1 "CHANGE_OF_Y" "[I"
theorem fl_aY : FLs[21]? = some (Cond.arrayOf ws_Y .int) := by decide +kernel
theorem fl_lY : FLs[22]? = some (Cond.eq (.length ws_Y) (.int (Int32.ofNat 8))) := by decide +kernel
theorem fl_eY : ∀ j, j < 8 → FLs[23 + j]? = some (Cond.eq (.elem ws_Y (.int (Int32.ofNat j))) (.int (chY j))) := by decide +kernel
theorem fl_cs : FLs[4]? = some (Cond.eq (.static RJ0 "COMPACT_STRINGS" "Z") (.int 1)) := by decide +kernel
theorem fl_si : FLs[5]? = some (Cond.isRef (.static RJ3 "SIOOBE_FORMATTER" "Ljava/util/function/BiFunction;")) := by decide +kernel
theorem wt_sx : Cond.laysStatic RX1 "CHANGE_OF_X" "[I" ∈ lw_tbl := List.mem_of_getElem? (i := 774) (by decide +kernel)
theorem wt_sy : Cond.laysStatic RX1 "CHANGE_OF_Y" "[I" ∈ lw_tbl := List.mem_of_getElem? (i := 776) (by decide +kernel)
theorem wt_sc : Cond.laysStatic RJ0 "COMPACT_STRINGS" "Z" ∈ lw_tbl := List.mem_of_getElem? (i := 506) (by decide +kernel)
theorem wt_si : Cond.laysStatic RJ3 "SIOOBE_FORMATTER" "Ljava/util/function/BiFunction;" ∈ lw_tbl := List.mem_of_getElem? (i := 522) (by decide +kernel)
theorem wt_inRX1 : Cond.initialized RX1 ∈ lw_tbl := List.mem_of_getElem? (i := 93) (by decide +kernel)
theorem wt_inRJ0 : Cond.initialized RJ0 ∈ lw_tbl := List.mem_of_getElem? (i := 98) (by decide +kernel)
theorem wt_inRJ3 : Cond.initialized RJ3 ∈ lw_tbl := List.mem_of_getElem? (i := 100) (by decide +kernel)
theorem wt_ai : Cond.arrayClass .int ∈ lw_tbl := List.mem_of_getElem? (i := 149) (by decide +kernel)
theorem wt_ab : Cond.arrayClass .byte ∈ lw_tbl := List.mem_of_getElem? (i := 295) (by decide +kernel)
theorem wt_az : Cond.arrayClass .boolean ∈ lw_tbl := List.mem_of_getElem? (i := 1267) (by decide +kernel)
theorem wt_ao : Cond.arrayOver (.array .int) ∈ lw_tbl := List.mem_of_getElem? (i := 393) (by decide +kernel)
def plS : List Nat := [482, 483, 484, 485, 486, 487, 488, 489, 490, 491, 492, 585, 586, 587, 588, 589]
theorem wt_str : ∀ i, i < 16 → lw_tbl[plS.getD i 0]? = some (Cond.stringRef RX7 ((strP.getD i (0, "")).1) ((strP.getD i (0, "")).2)) := by decide +kernel
theorem wt_k0 : Cond.instantiable RX0 6 ∈ lw_tbl := List.mem_of_getElem? (i := 120) (by decide +kernel)
theorem wt_k1 : Cond.instantiable RX1 4 ∈ lw_tbl := List.mem_of_getElem? (i := 318) (by decide +kernel)
theorem wt_k2 : Cond.instantiable RX2 2 ∈ lw_tbl := List.mem_of_getElem? (i := 346) (by decide +kernel)
theorem wt_k3 : Cond.instantiable RX3 2 ∈ lw_tbl := List.mem_of_getElem? (i := 312) (by decide +kernel)
theorem wt_k4 : Cond.instantiable RX4 5 ∈ lw_tbl := List.mem_of_getElem? (i := 361) (by decide +kernel)
theorem wt_k5 : Cond.instantiable RX5 3 ∈ lw_tbl := List.mem_of_getElem? (i := 387) (by decide +kernel)
theorem wt_k6 : Cond.instantiable RX6 8 ∈ lw_tbl := List.mem_of_getElem? (i := 257) (by decide +kernel)
theorem wt_k7 : Cond.instantiable RX7 4 ∈ lw_tbl := List.mem_of_getElem? (i := 249) (by decide +kernel)
theorem wt_k8 : Cond.instantiable RX8 11 ∈ lw_tbl := List.mem_of_getElem? (i := 114) (by decide +kernel)
theorem wt_k9 : Cond.instantiable RX9 4 ∈ lw_tbl := List.mem_of_getElem? (i := 151) (by decide +kernel)
theorem wt_k10 : Cond.instantiable RX10 10 ∈ lw_tbl := List.mem_of_getElem? (i := 106) (by decide +kernel)
theorem wt_k11 : Cond.instantiable RX11 44 ∈ lw_tbl := List.mem_of_getElem? (i := 1117) (by decide +kernel)
theorem ws_oA {args : Array Value} {s : State} (h : (Cond.arrayOver (.array .int)).before args s = true) : ∃ comp c k, s.vm.classes[c]? = some k ∧ k.kind = .array comp (.array .int) ∧ s.vm.findClass ("[" ++ (FieldType.array .int).toString) = some c := by
  have h : (Cond.arrayOver (.array .int)).holds args s none s [] = true := h
  simp only [Cond.holds, Cond.value, beq_iff_eq] at h
  cases hc : s.vm.findClass (FieldType.array .int).toString with
  | none => simp [hc] at h
  | some comp =>
    simp only [hc, Option.bind_some, Option.bind_eq_some_iff, Option.map_eq_some_iff] at h
    obtain ⟨c, hi, k, hk, hb⟩ := h
    obtain ⟨hlt, hp, -⟩ := Array.findIdx?_eq_some_iff_getElem.mp hi
    have hkk : s.vm.classes[c] = k := (Array.getElem?_eq_some_iff.mp hk).2
    rw [hkk] at hp
    cases hkind : k.kind with
    | array component ty =>
      rw [hkind] at hb hp
      simp at hb hp
      exact ⟨comp, c, k, hk, by rw [hkind, hp, hb.1], hb.2⟩
    | _ => rw [hkind] at hb; simp at hb
theorem fi_start {s : State} {b L : Nat} {xs : Nat → Int32} (hts : ∀ w ∈ lw_tbl, w.before #[Value.ref b] s = true) (hX : va_X b L xs s s.heap) (hbl : b < s.heap.size) (hgv : (Jvm.Cond.and given_1 narrow_1).before #[Value.ref b] s = true) : ∃ Φ : Fi, fi_b Φ = s.heap.size ∧ fi_x Φ 1000 = b ∧ fi_E (L, xs) Φ s := by
  have hfl := flat_of_before _ hgv
  have hs : ∀ (i : Nat) (w : Cond), FLs[i]? = some w → w.before #[Value.ref b] s = true := fun i w h => hfl w (List.mem_of_getElem? h)
  have hA : ∀ a : Nat, a < s.heap.size → ¬ (fun q : Nat => s.heap.size ≤ q) a := fun a h => Nat.not_le.mpr h
  obtain ⟨adK, adV, hS, hSt⟩ := vk_Sof (args := #[Value.ref b]) (s := s) (N := 16) (tm := ws_tm) (len := strL) (byt := strB) str_len (fun i hi => hs _ _ (fl_ex i hi)) (fun i hi => hs _ _ (fl_co i hi)) (fun i hi => hs _ _ (fl_ar i hi)) (fun i hi => hs _ _ (fl_le i hi)) (fun i hi j hj => hs _ _ (fl_el i hi j hj))
    (fun i j hi hj hij => (Nat.lt_or_gt_of_ne hij).elim (fun h => Or.inl (hs _ _ (fl_ne i hi j hj h))) (fun h => Or.inr (hs _ _ (fl_ne j hj i hi h)))) hA
  obtain ⟨tX, hX1, hX2⟩ := va_Tof (args := #[Value.ref b]) (s := s) (tm := ws_X) (ty := .int) (N := 8) (f := fun j => .int (chX j)) (by decide) (hs _ _ fl_aX) (va_eqt (hs _ _ fl_lX)) (fun j hj => va_eqt (hs _ _ (fl_eX j hj))) hA
  obtain ⟨tY, hY1, hY2⟩ := va_Tof (args := #[Value.ref b]) (s := s) (tm := ws_Y) (ty := .int) (N := 8) (f := fun j => .int (chY j)) (by decide) (hs _ _ fl_aY) (va_eqt (hs _ _ fl_lY)) (fun j hj => va_eqt (hs _ _ (fl_eY j hj))) hA
  have hZX := va_Zref (hts _ wt_sx) (hts _ wt_inRX1) hX1 hA
  have hZY := va_Zref (hts _ wt_sy) (hts _ wt_inRX1) hY1 hA
  have hZC := va_Zof (hts _ wt_sc) (hts _ wt_inRJ0) (va_eqt (hs _ _ fl_cs)) hA
  obtain ⟨z, hz, hZS⟩ : ∃ z : Value, (z = .null ∨ ∃ a, z = .ref a) ∧ va_Z RJ3 "SIOOBE_FORMATTER" "Ljava/util/function/BiFunction;" z (fun q : Nat => s.heap.size ≤ q) s s.heap := by
    rcases va_Zqof (hts _ wt_si) (hts _ wt_inRJ3) (hs _ _ fl_si) hA with h | ⟨t, h⟩
    · exact ⟨_, Or.inl rfl, h⟩
    · exact ⟨_, Or.inr ⟨t, rfl⟩, h⟩
  obtain ⟨cI, kI, pI, i1, i2, i3⟩ := Cond.arrayClass_spec (hts _ wt_ai)
  obtain ⟨cB, kB, pB, b1, b2, b3⟩ := Cond.arrayClass_spec (hts _ wt_ab)
  obtain ⟨cZ, kZ, pZ, z1, z2, z3⟩ := Cond.arrayClass_spec (hts _ wt_az)
  obtain ⟨pO, cO, kO, o2, o3, o1⟩ := ws_oA (hts _ wt_ao)
  obtain ⟨c0, iS0, hK0⟩ := u_known (C := RX0) (T := TX0) (N := 6) hts (fun w h => gw_tbl (clin_0 w h)) (hts _ wt_k0)
  obtain ⟨c1, iS1, hK1⟩ := u_known (C := RX1) (T := TX1) (N := 4) hts (fun w h => gw_tbl (clin_1 w h)) (hts _ wt_k1)
  obtain ⟨c2, iS2, hK2⟩ := u_known (C := RX2) (T := TX2) (N := 2) hts (fun w h => gw_tbl (clin_2 w h)) (hts _ wt_k2)
  obtain ⟨c3, iS3, hK3⟩ := u_known (C := RX3) (T := TX3) (N := 2) hts (fun w h => gw_tbl (clin_3 w h)) (hts _ wt_k3)
  obtain ⟨c4, iS4, hK4⟩ := u_known (C := RX4) (T := TX4) (N := 5) hts (fun w h => gw_tbl (clin_4 w h)) (hts _ wt_k4)
  obtain ⟨c5, iS5, hK5⟩ := u_known (C := RX5) (T := TX5) (N := 3) hts (fun w h => gw_tbl (clin_5 w h)) (hts _ wt_k5)
  obtain ⟨c6, iS6, hK6⟩ := u_known (C := RX6) (T := TX6) (N := 8) hts (fun w h => gw_tbl (clin_6 w h)) (hts _ wt_k6)
  obtain ⟨c7, iS7, hK7⟩ := u_known (C := RX7) (T := TX7) (N := 4) hts (fun w h => gw_tbl (clin_7 w h)) (hts _ wt_k7)
  obtain ⟨c8, iS8, hK8⟩ := u_known (C := RX8) (T := TX8) (N := 11) hts (fun w h => gw_tbl (clin_8 w h)) (hts _ wt_k8)
  obtain ⟨c9, iS9, hK9⟩ := u_known (C := RX9) (T := TX9) (N := 4) hts (fun w h => gw_tbl (clin_9 w h)) (hts _ wt_k9)
  obtain ⟨c10, iS10, hK10⟩ := u_known (C := RX10) (T := TX10) (N := 10) hts (fun w h => gw_tbl (clin_10 w h)) (hts _ wt_k10)
  obtain ⟨c11, iS11, hK11⟩ := u_known (C := RX11) (T := TX11) (N := 44) hts (fun w h => gw_tbl (clin_11 w h)) (hts _ wt_k11)
  obtain ⟨dC, dI, hKc⟩ : ∃ (dC : Nat → ClassId) (dI : Nat → Nat → Nat), ∀ (k : Nat) (q : vw_C), vwCl[k]? = some q → u_Kn s q.1 q.2.1 q.2.2 (dC k) (dI k) := by
    refine ⟨fun k => ([c0, c1, c2, c3, c4, c5, c6, c7, c8, c9, c10, c11] : List ClassId).getD k c0, fun k => ([iS0, iS1, iS2, iS3, iS4, iS5, iS6, iS7, iS8, iS9, iS10, iS11] : List (Nat → Nat)).getD k iS0, ?_⟩
    intro k q hq
    match k, hq with
    | 0, hq => cases hq; exact hK0
    | 1, hq => cases hq; exact hK1
    | 2, hq => cases hq; exact hK2
    | 3, hq => cases hq; exact hK3
    | 4, hq => cases hq; exact hK4
    | 5, hq => cases hq; exact hK5
    | 6, hq => cases hq; exact hK6
    | 7, hq => cases hq; exact hK7
    | 8, hq => cases hq; exact hK8
    | 9, hq => cases hq; exact hK9
    | 10, hq => cases hq; exact hK10
    | 11, hq => cases hq; exact hK11
    | k + 12, hq => simp [vwCl] at hq
  refine ⟨(s.heap.size, fun k => if k = 1000 then b else if k = 1001 then tX else if k = 1002 then tY else if k < 1026 then adK (k - 1010) else adV (k - 1030), (dC, dI), fun k => if k = 20 then cI else if k = 21 then cB else if k = 22 then cZ else cO, z), rfl, rfl, ⟨hKc, ?_⟩, ?_, hz, ?_⟩
  · intro k q hq
    match k, hq with
    | 0, hq => cases hq; exact ⟨fun n z => ⟨(fun k h => by cases h), kI, i2, pI, i3⟩, i1⟩
    | 1, hq => cases hq; exact ⟨fun n z => ⟨(fun k h => by cases h), kB, b2, pB, b3⟩, b1⟩
    | 2, hq => cases hq; exact ⟨fun n z => ⟨(fun k h => by cases h), kZ, z2, pZ, z3⟩, z1⟩
    | 3, hq => cases hq; exact ⟨fun n z => ⟨(fun k h => by cases h), kO, o2, pO, o3⟩, o1⟩
    | k + 4, hq => simp [fi_tys] at hq
  · intro w hw
    have hn := (List.mem_filter.mp hw).2
    have h0 := hts w (nw_tbl hw)
    cases w <;> first | (simp [isNestW] at hn; done) | exact va_Nw.of rfl h0 | exact h0
  · refine ⟨?_, ?_, ?_, hZX, hX2, hZY, hY2, hZC, hZS⟩
    · obtain ⟨scr, q1, q2, q3, q4, q5⟩ := hX
      exact ⟨scr, q1, q2, q3, by omega, by rw [q4], q5, Nat.not_le.mpr hbl⟩
    · intro i q hq
      have hi : i < 16 := (List.getElem?_eq_some_iff.mp hq).1
      have hq2 : strP.getD i (0, "") = q := by rw [List.getD_eq_getElem?_getD, hq]; rfl
      have hw := hts _ (List.mem_of_getElem? (wt_str i hi))
      rw [hq2] at hw
      have ht := hSt i hi
      simp only [ws_tm, hq2] at ht
      have e : (if 1010 + i = 1000 then b else if 1010 + i = 1001 then tX else if 1010 + i = 1002 then tY else if 1010 + i < 1026 then adK (1010 + i - 1010) else adV (1010 + i - 1030)) = adK i := by
        rw [if_neg (by omega), if_neg (by omega), if_neg (by omega), if_pos (by omega)]
        exact congrArg adK (by omega)
      show vk_R RX7 q.1 q.2 (if 1010 + i = 1000 then b else if 1010 + i = 1001 then tX else if 1010 + i = 1002 then tY else if 1010 + i < 1026 then adK (1010 + i - 1010) else adV (1010 + i - 1030)) s
      rw [e]
      exact vk_R.of hw ht
    · have e1 : ∀ i, i < 16 → (if 1010 + i = 1000 then b else if 1010 + i = 1001 then tX else if 1010 + i = 1002 then tY else if 1010 + i < 1026 then adK (1010 + i - 1010) else adV (1010 + i - 1030)) = adK i := fun i hi => by
        rw [if_neg (by omega), if_neg (by omega), if_neg (by omega), if_pos (by omega)]
        exact congrArg adK (by omega)
      have e2 : ∀ i, i < 16 → (if 1030 + i = 1000 then b else if 1030 + i = 1001 then tX else if 1030 + i = 1002 then tY else if 1030 + i < 1026 then adK (1030 + i - 1010) else adV (1030 + i - 1030)) = adV i := fun i hi => by
        rw [if_neg (by omega), if_neg (by omega), if_neg (by omega), if_neg (by omega)]
        exact congrArg adV (by omega)
      refine ⟨fun i hi => ?_, fun i j hi hj e => ?_⟩
      · have h4 := hS.1 i hi
        rw [← e1 i hi, ← e2 i hi] at h4
        exact h4
      · refine hS.2 i j hi hj ?_
        rw [← e1 i hi, ← e1 j hj]
        exact e
/-- the law's walk, from its entry -/
theorem whole_start {p : Program} {e : Env} {s : State} {m : MethodId} {below : List Frame} {meth : Method} {c : Code} (l : Launch) {b L : Nat} {xs : Nat → Int32} (hL : L ≤ 2560) (hnm : meth.name = "law") (hgo : ∀ X : Sc, X.1 ≤ 2560 → ∃ M0 : Mem, c_Law = some (S0, M0) ∧ f_Law_law X M0 = some 1) (C0 : lw_At p s m meth c b L xs) : W p l e room_1 s m #[Value.ref b] below meth c s.heap [] 0 0 (lw_Z below #[Value.ref b] s) (entryFrame m ([Value.ref b] : List Value).toArray 4) := by
  obtain ⟨hx, hb, hr, hml, hown, hts, hX, hbl, hlocks, hgv⟩ := C0
  obtain ⟨Φ, hΦb, hΦx, hE⟩ := fi_start hts hX hbl hgv
  obtain ⟨M0, hc, hf⟩ := hgo (L, xs) hL
  have hle := lv_entry ([Value.ref b]) (n := 4) (Nat.le_of_ble_eq_true rfl)
  rw [lg_entry_eq]
  have hav : ([Value.ref 1000] : List Value).map (fi_v Φ) = [Value.ref b] := by
    show [Value.ref (fi_ad Φ 1000)] = [Value.ref b]
    rw [fi_adx (by omega), hΦx]
  rw [← hav] at hle
  have hLc := fi_L.entry (av := [.ref 1000]) hE.2.2.1 hle
  have K := ok_Law0 (l := l) hc hf Φ p e s m #[Value.ref b] below meth c s.heap [] _ ⟨hx, hb, hml, hr, hlocks, hnm, hown, fun w hw => hts w (gw_tbl hw), hE⟩ (by rw [hΦb]; rfl) (Nat.zero_le _) (fun k q h => by simp [fi_ws] at h) va_S.rf hLc
  rw [hav] at K
  exact K
set_option maxHeartbeats 4000000 in
theorem lw_walk (hgo : ∀ X : Sc, X.1 ≤ 2560 → ∃ M0 : Mem, c_Law = some (S0, M0) ∧ f_Law_law X M0 = some 1) (l : Launch) (hflags : l.flags = flags0) (b : Addr) (xs : List Int32) : MetFree l x (headSpec (Jvm.Cond.code x code maxLocals ret :: tables_1) room_1) (lw_P b xs) (fun _ _ _ _ _ => True) lw_Q := by
  refine MetFree.of_bodyS (code := code) (maxLocals := maxLocals) (ret := ret) (by decide) ?_ ?_
  · intro args s m h hn
    obtain ⟨meth, c, h1, h2, h3, h4, h5, h6, -, -⟩ := Cond.code_spec hn (atoms_spec (ws := Jvm.Cond.code x code maxLocals ret :: tables_1) h _ List.mem_cons_self)
    exact ⟨meth, c, h1, h2, h3, h4, h5, h6⟩
  · intro p e s m args below meth c s₁ B hml0 hP _
    obtain ⟨rfl, hx, hbd, hgv⟩ := hP
    obtain ⟨scr, harrAt, hlist, hof, hsmall⟩ := hx
    obtain ⟨hcb, hkn, -, -⟩ := State.arrayAt?_spec harrAt
    have hown : s.vm.findClass R_law = some m.cls := findClass_of_methodNamed B.named
    have hts0 : ∀ c ∈ (Jvm.Cond.code x code maxLocals ret :: tables_1), c.before #[Value.ref b] s = true := atoms_spec (ws := Jvm.Cond.code x code maxLocals ret :: tables_1) B.pre
    have hts : ∀ w ∈ lw_tbl, w.before #[Value.ref b] s = true := k2_hts_sels lw_privs (fun w hw => hts0 w (List.mem_cons_of_mem _ hw)) lw_privs_ok
    have hml : c.maxLocals = 4 := B.maxLocals_eq (hts0 _ List.mem_cons_self)
    have X₀ : Stand p l e room_1 s m #[Value.ref b] below meth c s₁ [] 0 0 := Stand.of_body B
    have hh0 : s₁.heap = s.heap := by rw [B.state]; rfl
    have hsz : scr.slots.size = xs.length := by rw [← Array.length_toList, hlist, List.length_map]
    have hval : ∀ j : Nat, j < xs.length → scr.slots[j]? = some (.int (xs.getD j 0)) := fun j hj => by
      rw [← Array.getElem?_toList, hlist]
      simp [hj]
    have hbl : b < s.heap.size := (Array.getElem?_eq_some_iff.mp hcb).1
    have hX : va_X b xs.length (fun j => xs.getD j 0) s s.heap := ⟨scr, hcb, hof, hkn, hsz, hval⟩
    have K : W p l e room_1 s m #[Value.ref b] below meth c s₁.heap [] 0 0 (lw_Z below #[Value.ref b] s) (entryFrame m ([Value.ref b] : List Value).toArray 4) := by
      rw [hh0]
      exact whole_start l hbd (name_of_methodNamed B.named B.method).1 hgo ⟨B.exec, B.bytes, B.returns, hml, hown, hts, hX, hbl, B.notSynchronized, hgv⟩
    obtain ⟨t, a1, o, b1, b2, b3⟩ := K s₁ rfl X₀
    exact ⟨t, o, a1, b1, b2, b3⟩
theorem lw_pre_spec {args : Array Value} {s : State} (h : (Jvm.Cond.and given_1 narrow_1).before args s = true) (hr : rest_1_c.before args s = true) : ∃ (b : Addr) (xs : List Int32), lw_P b xs args s := by
  have hs := flat_of_before _ h
  have hq := flat_of_before _ hr
  have hc : (Cond.count 1).before args s = true := hs _ (by decide +kernel)
  have harr : (Cond.arrayOf (.arg 0) .int).before args s = true := hs _ (by decide +kernel)
  have hle : (Cond.le (.length (.arg 0)) (.int 2560)).before args s = true := hs _ (by decide +kernel)
  have hlen : (Cond.isInt (.length (.arg 0))).before args s = true := hq _ (by decide +kernel)
  have hall : (Cond.all (.arg 0) (.isInt (.elem (.arg 0) (.index 0)))).before args s = true := hq _ (by decide +kernel)
  obtain ⟨b, xs, hb, hx⟩ := State.ints_of_pre rfl harr hlen hall
  have hsm : xs.length < 2 ^ 31 := hx.choose_spec.2.2.2
  have hev : (Term.length (.arg 0)).eval args s none [] s = some (.int xs.length.toInt32) := hx.length_eval hb
  have hv := Cond.le_ints hev (show (Term.int 2560).eval args s none [] s = some (.int 2560) from rfl)
  have hd : xs.length.toInt32 ≤ 2560 := by
    simpa [Cond.before, Cond.holds, hv] using hle
  have hN : xs.length ≤ 2560 := (Int32.ofNat_le_ofNat hsm (by decide)).mp (show Int32.ofNat xs.length ≤ Int32.ofNat 2560 from hd)
  exact ⟨b, xs, Cond.one_arg hc (show args[0]? = some (.ref b) from hb), hx, hN, h⟩
theorem lw_comes (hgo : ∀ X : Sc, X.1 ≤ 2560 → ∃ M0 : Mem, c_Law = some (S0, M0) ∧ f_Law_law X M0 = some 1) (l : Launch) (hflags : l.flags = flags0) : Comes l x (Jvm.Cond.code x code maxLocals ret :: tables_1) room_1 (fun tb e args s => Calls_1 tb e args s ∧ rest_1 tb e args s ∧ Pre_1 tb e args s)
    (fun _ _ args s o t => lw_Q args s o t) := by
  intro p e ha hc hk s m args below hf hfit hheap happ hpre
  obtain ⟨b, xs, hP⟩ := lw_pre_spec hpre.2.2 hpre.2.1
  obtain ⟨k, o, h1, h2, h3, hQ⟩ := lw_walk hgo l hflags b xs p e ha hc hk s m args below hf ((Spec.applies_iff_loose hf).mp happ).1 hP trivial
  exact ⟨k, o, h1, h2, h3, hQ⟩
theorem lw_frame {s t : State} {o : Outcome} {args : Array Value} (h : Framed s o t [] 600000 7302250) :
    Framed s o t (fieldLocs frame_1_writes args s ++ arrayLocs frame_1_arrays args s ++ staticLocs frame_1_statics s) 600000 7302250 := h
theorem lw_limb (hgo : ∀ X : Sc, X.1 ≤ 2560 → ∃ M0 : Mem, c_Law = some (S0, M0) ∧ f_Law_law X M0 = some 1) (L : Cond) (hL : ∀ (args : Array Value) (s t : State), L.after args s (.returned (some (.int 1))) t = true) :
    ArmFor flags0 classFile x code maxLocals ret World_1 tables_1 room_1 Calls_1 rest_1 Pre_1
      (fun tb e a s o t => postC L tb e a s o t ∧ Framed s o t (fieldLocs frame_1_writes a s ++ arrayLocs frame_1_arrays a s ++ staticLocs frame_1_statics s) 600000 7302250) := by
  intro l hflags _ _ p e ha hc hk s m args below hf hfit hheap happ hpre
  obtain ⟨k, o, h1, h2, h3, rfl, hF⟩ := lw_comes hgo l hflags p e ha hc hk s m args below hf hfit hheap happ hpre
  exact ⟨k, _, h1, h2, h3, hL args s _, lw_frame hF⟩
