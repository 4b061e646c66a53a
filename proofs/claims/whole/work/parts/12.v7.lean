/-! the JDK's own methods of the text constants -/
theorem sp_255 : (Int16.ofInt 255).toInt32 = 255 := by decide +kernel
theorem ok_coder {X : Sc} {l : Launch} {sh : List Shp} {M : Mem} {i : Nat} (hi : i < 16) : Mt X l yJ0_coder_7d493 cJ0_coder_7d493 1 (some .byte) 0 0 0 [.ref (1010 + i)] sh M (some (.int 0)) sh M := by
  refine Mt.ofV (by decide) (Nat.le_of_ble_eq_true rfl) ?_
  show V X yJ0_coder_7d493 cJ0_coder_7d493 1 (some .byte) (rmD 0 0 0) l (FM (some (.int 0)) sh M 0 0) 0 [some (.ref (1010 + i))] [] sh M 0 0
  refine V.getCS dJ0_coder_7d493_0 rfl wf_RJ0_38 ?_
  refine V.if_eq (tgt := 13) dJ0_coder_7d493_3 (by decide) (fun h => absurd h (by decide)) (fun _ => ?_)
  refine V.aload_n dJ0_coder_7d493_6 rfl ?_
  refine V.getSC dJ0_coder_7d493_7 rfl wf_RJ0_15 hi ?_
  refine V.goto (tgt := 14) dJ0_coder_7d493_10 (by decide) ?_
  exact V.iret dJ0_coder_7d493_14 rfl rfl
theorem ok_isLatin {X : Sc} {l : Launch} {sh : List Shp} {M : Mem} {i : Nat} (hi : i < 16) : Mt X l yJ0_isLatin1_aae02 cJ0_isLatin1_aae02 1 (some .boolean) 0 0 0 [.ref (1010 + i)] sh M (some (.int 1)) sh M := by
  refine Mt.ofV (by decide) (Nat.le_of_ble_eq_true rfl) ?_
  show V X yJ0_isLatin1_aae02 cJ0_isLatin1_aae02 1 (some .boolean) (rmD 0 0 0) l (FM (some (.int 1)) sh M 0 0) 0 [some (.ref (1010 + i))] [] sh M 0 0
  refine V.getCS dJ0_isLatin1_aae02_0 rfl wf_RJ0_38 ?_
  refine V.if_eq (tgt := 17) dJ0_isLatin1_aae02_3 (by decide) (fun h => absurd h (by decide)) (fun _ => ?_)
  refine V.aload_n dJ0_isLatin1_aae02_6 rfl ?_
  refine V.getSC dJ0_isLatin1_aae02_7 rfl wf_RJ0_15 hi ?_
  refine V.if_ne (tgt := 17) dJ0_isLatin1_aae02_10 (by decide) (fun h => absurd rfl h) (fun _ => ?_)
  refine V.iconst dJ0_isLatin1_aae02_13 ic_1 ?_
  refine V.goto (tgt := 18) dJ0_isLatin1_aae02_14 (by decide) ?_
  exact V.iret dJ0_isLatin1_aae02_18 rfl rfl
theorem ok_pchk {X : Sc} {l : Launch} {sh : List Shp} {M : Mem} {x : Int32} {n : Nat} (hn : n < 2 ^ 31) (hx : vp_in x n) : Mt X l yJ3_checkIndex_8e157 cJ3_checkIndex_8e157 3 (some .int) 0 0 0 [.int x, .int (nI n), .retAddr 0] sh M (some (.int x)) sh M := by
  refine Mt.ofV (by decide) (Nat.le_of_ble_eq_true rfl) ?_
  show V X yJ3_checkIndex_8e157 cJ3_checkIndex_8e157 3 (some .int) (rmD 0 0 0) l (FM (some (.int x)) sh M 0 0) 0 [some (.int x), some (.int (nI n)), some (.retAddr 0)] [] sh M 0 0
  obtain ⟨j, hj, rfl⟩ := vp_in_of hx hn
  refine V.iload_n dJ3_checkIndex_8e157_0 rfl ?_
  refine V.if_lt (tgt := 9) dJ3_checkIndex_8e157_1 (by decide) (fun h => absurd h (nI_pos (by omega))) (fun _ => ?_)
  refine V.iload_n dJ3_checkIndex_8e157_4 rfl ?_
  refine V.iload_n dJ3_checkIndex_8e157_5 rfl ?_
  refine V.icmp_lt (tgt := 16) dJ3_checkIndex_8e157_6 (by decide) (fun _ => ?_) (fun h => absurd (nI_lt hj hn) h)
  refine V.iload_n dJ3_checkIndex_8e157_16 rfl ?_
  exact V.iret dJ3_checkIndex_8e157_17 rfl rfl
theorem ok_schk {X : Sc} {l : Launch} {sh : List Shp} {M : Mem} {x : Int32} {n : Nat} (hn : n < 2 ^ 31) (hx : vp_in x n) : Mt X l yJ0_checkIndex_df160 cJ0_checkIndex_df160 2 none 1 0 0 [.int x, .int (nI n)] sh M none sh M := by
  refine Mt.ofV (by decide) (Nat.le_of_ble_eq_true rfl) ?_
  show V X yJ0_checkIndex_df160 cJ0_checkIndex_df160 2 none (rmD 1 0 0) l (FM none sh M 0 0) 0 [some (.int x), some (.int (nI n))] [] sh M 0 0
  refine V.iload_n dJ0_checkIndex_df160_0 rfl ?_
  refine V.iload_n dJ0_checkIndex_df160_1 rfl ?_
  refine V.getSI dJ0_checkIndex_df160_2 rfl wf_RJ0_1053 ?_
  refine V.cSi dJ0_checkIndex_df160_5 rfl mv_RJ0_1059 (ok_pchk hn hx) rfl rfl (by decide) ⟨Nat.zero_le _, Nat.zero_le _⟩ (Nat.le_of_ble_eq_true rfl) (Nat.zero_le _) ?_
  refine V.pop dJ0_checkIndex_df160_8 rfl ?_
  exact V.vret dJ0_checkIndex_df160_9 rfl
theorem ok_lchar {X : Sc} {l : Launch} {sh : List Shp} {M : Mem} {x : Int32} {i : Nat} (hi : i < 16) (hx : vp_in x (strL.getD i 0)) : Mt X l yJ1_charAt_3b067 cJ1_charAt_3b067 2 (some .char) 2 0 0 [.ref (1030 + i), .int x] sh M (some (.int ((strB.getD i []).getD x.toNatClampNeg 0))) sh M := by
  refine Mt.ofV (by decide) (Nat.le_of_ble_eq_true rfl) ?_
  show V X yJ1_charAt_3b067 cJ1_charAt_3b067 2 (some .char) (rmD 2 0 0) l (FM (some (.int ((strB.getD i []).getD x.toNatClampNeg 0))) sh M 0 0) 0 [some (.ref (1030 + i)), some (.int x)] [] sh M 0 0
  have hk := str_all i hi x.toNatClampNeg (Nat.not_le.mp fun q => hx (Or.inr q))
  refine V.iload_n dJ1_charAt_3b067_0 rfl ?_
  refine V.aload_n dJ1_charAt_3b067_1 rfl ?_
  refine V.lenSB dJ1_charAt_3b067_2 hi ?_
  refine V.cSv dJ1_charAt_3b067_3 rfl mv_RJ1_9 (ok_schk (str_len i hi) hx) rfl rfl (by decide) ⟨Nat.zero_le _, Nat.zero_le _⟩ (Nat.le_of_ble_eq_true rfl) (Nat.zero_le _) ?_
  refine V.aload_n dJ1_charAt_3b067_6 rfl ?_
  refine V.iload_n dJ1_charAt_3b067_7 rfl ?_
  refine V.aldSB dJ1_charAt_3b067_8 hi hx ?_
  refine V.sipush dJ1_charAt_3b067_9 sp_255 ?_
  refine V.iand dJ1_charAt_3b067_12 ?_
  refine V.i2c dJ1_charAt_3b067_13 ?_
  rw [hk.1]
  exact V.iret dJ1_charAt_3b067_14 rfl hk.2
theorem ok_slen {X : Sc} {l : Launch} {sh : List Shp} {M : Mem} {i : Nat} (hi : i < 16) : Mt X l yJ0_length_8abf5 cJ0_length_8abf5 1 (some .int) 1 0 0 [.ref (1010 + i)] sh M (some (.int (nI (strL.getD i 0)))) sh M := by
  refine Mt.ofV (by decide) (Nat.le_of_ble_eq_true rfl) ?_
  show V X yJ0_length_8abf5 cJ0_length_8abf5 1 (some .int) (rmD 1 0 0) l (FM (some (.int (nI (strL.getD i 0)))) sh M 0 0) 0 [some (.ref (1010 + i))] [] sh M 0 0
  refine V.aload_n dJ0_length_8abf5_0 rfl ?_
  refine V.getSV dJ0_length_8abf5_1 rfl wf_RJ0_9 hi ?_
  refine V.lenSB dJ0_length_8abf5_4 hi ?_
  refine V.aload_n dJ0_length_8abf5_5 rfl ?_
  refine V.cVX dJ0_length_8abf5_6 rfl mv_RJ0_335 (ok_coder hi) rfl rfl hi rfl (by decide) ⟨Nat.zero_le _, Nat.zero_le _⟩ (Nat.le_of_ble_eq_true rfl) (Nat.zero_le _) ?_
  refine V.ishr dJ0_length_8abf5_9 ?_
  rw [jshr_0]
  exact V.iret dJ0_length_8abf5_10 rfl rfl
theorem ok_schar {X : Sc} {l : Launch} {sh : List Shp} {M : Mem} {x : Int32} {i : Nat} (hi : i < 16) (hx : vp_in x (strL.getD i 0)) : Mt X l yJ0_charAt_5068e cJ0_charAt_5068e 2 (some .char) 3 0 0 [.ref (1010 + i), .int x] sh M (some (.int ((strB.getD i []).getD x.toNatClampNeg 0))) sh M := by
  refine Mt.ofV (by decide) (Nat.le_of_ble_eq_true rfl) ?_
  show V X yJ0_charAt_5068e cJ0_charAt_5068e 2 (some .char) (rmD 3 0 0) l (FM (some (.int ((strB.getD i []).getD x.toNatClampNeg 0))) sh M 0 0) 0 [some (.ref (1010 + i)), some (.int x)] [] sh M 0 0
  have hk := str_all i hi x.toNatClampNeg (Nat.not_le.mp fun q => hx (Or.inr q))
  refine V.aload_n dJ0_charAt_5068e_0 rfl ?_
  refine V.cVX dJ0_charAt_5068e_1 rfl mv_RJ0_492 (ok_isLatin hi) rfl rfl hi rfl (by decide) ⟨Nat.zero_le _, Nat.zero_le _⟩ (Nat.le_of_ble_eq_true rfl) (Nat.zero_le _) ?_
  refine V.if_eq (tgt := 16) dJ0_charAt_5068e_4 (by decide) (fun h => absurd h (by decide)) (fun _ => ?_)
  refine V.aload_n dJ0_charAt_5068e_7 rfl ?_
  refine V.getSV dJ0_charAt_5068e_8 rfl wf_RJ0_9 hi ?_
  refine V.iload_n dJ0_charAt_5068e_11 rfl ?_
  refine V.cSi dJ0_charAt_5068e_12 rfl mv_RJ0_495 (ok_lchar hi hx) rfl rfl (by decide) ⟨Nat.zero_le _, Nat.zero_le _⟩ (Nat.le_of_ble_eq_true rfl) (Nat.zero_le _) ?_
  exact V.iret dJ0_charAt_5068e_15 rfl hk.2
section VR7
variable {X : Sc} {y : MethodName} {b : ByteArray} {nL : Nat} {ret : Option FieldType} {R : Room} {l : Launch} {F : Fi → List Frame → Array Value → State → State → Prop}
variable {pc : Nat} {ls : List (Option Value)} {st : List Value} {sh : List Shp} {M : Mem} {idx s : Nat} {own : String}
theorem V.strLen (hd : decode b pc = .ok (.invokevirtual idx, 3)) (ho : own = y.cls) (hw : Cond.methodLink own idx yJ0_length_8abf5 ∈ GW ∧ Cond.instanceMethod yJ0_length_8abf5 ∈ GW ∧ Cond.selects yJ0_length_8abf5.cls yJ0_length_8abf5 yJ0_length_8abf5 ∈ GW ∧ Cond.initialized yJ0_length_8abf5.cls ∈ GW ∧ Cond.code yJ0_length_8abf5 cJ0_length_8abf5 1 (some .int) ∈ GW ∧ MX yJ0_length_8abf5 0) (hs : isStr s = true) (hR : 4 ≤ R.frames ∧ 400 ≤ R.locals) (hs8 : (st.map fun v => v.category).sum ≤ 8) (kk : V X y b nL ret R l F (pc + 3) ls (.int (nI (slen s)) :: st) sh M 0 0) : V X y b nL ret R l F pc ls (.ref s :: st) sh M 0 0 := by
  obtain ⟨i, hi, rfl⟩ := isStr_of hs
  refine V.cVX hd ho hw (ok_slen hi) (st := st) rfl rfl hi rfl (by omega) ⟨Nat.zero_le _, Nat.zero_le _⟩ hs8 (Nat.zero_le _) ?_
  rw [slen, show 1010 + i - 1010 = i by omega] at kk
  exact kk
theorem V.strChar {x : Int32} (hd : decode b pc = .ok (.invokevirtual idx, 3)) (ho : own = y.cls) (hw : Cond.methodLink own idx yJ0_charAt_5068e ∈ GW ∧ Cond.instanceMethod yJ0_charAt_5068e ∈ GW ∧ Cond.selects yJ0_charAt_5068e.cls yJ0_charAt_5068e yJ0_charAt_5068e ∈ GW ∧ Cond.initialized yJ0_charAt_5068e.cls ∈ GW ∧ Cond.code yJ0_charAt_5068e cJ0_charAt_5068e 2 (some .char) ∈ GW ∧ MX yJ0_charAt_5068e 1) (hs : isStr s = true) (hx : inb x (slen s) = true) (hR : 4 ≤ R.frames ∧ 400 ≤ R.locals) (hs8 : (st.map fun v => v.category).sum ≤ 8) (kk : V X y b nL ret R l F (pc + 3) ls (.int (sch s (ix x)) :: st) sh M 0 0) : V X y b nL ret R l F pc ls (.int x :: .ref s :: st) sh M 0 0 := by
  obtain ⟨i, hi, rfl⟩ := isStr_of hs
  have hx2 := vp_of hx
  rw [slen, show 1010 + i - 1010 = i by omega] at hx2
  refine V.cVX hd ho hw (ok_schar (x := x) hi hx2) (st := st) rfl rfl hi rfl (by omega) ⟨Nat.zero_le _, Nat.zero_le _⟩ hs8 (Nat.zero_le _) ?_
  rw [sch, show 1010 + i - 1010 = i by omega] at kk
  exact kk
theorem V.mmax {x z : Int32} (hd : decode b pc = .ok (.invokestatic idx, 3)) (ho : own = y.cls) (hw : Cond.methodLink own idx yJ9_max_7cf53 ∈ GW ∧ Cond.static yJ9_max_7cf53 ∈ GW ∧ Cond.initialized yJ9_max_7cf53.cls ∈ GW ∧ Cond.code yJ9_max_7cf53 cJ9_max_7cf53 2 (some .int) ∈ GW ∧ MX yJ9_max_7cf53 2) (hR : 1 ≤ R.frames ∧ 40 ≤ R.locals) (hs8 : (st.map fun v => v.category).sum ≤ 8) (kk : V X y b nL ret R l F (pc + 3) ls (.int (jmax x z) :: st) sh M 0 0) : V X y b nL ret R l F pc ls (.int z :: .int x :: st) sh M 0 0 := by
  intro Φ p e s m args below meth c H locs lsA hC hN hH hW hS hL
  subst ho
  have hts := hC.2.2.2.2.2.2.2.1
  have hcat : ((st.map (fi_v Φ)).map fun v => v.category).sum = (st.map fun v => v.category).sum := by
    rw [List.map_map]
    exact congrArg List.sum (List.map_congr_left fun v _ => fi_cat hC.2.2.2.2.2.2.2.2.2.2.1 v)
  exact va_mmax hC.1 hC.2.1 (hC.2.2.1.trans hL.1.symm) hC.2.2.2.2.2.2.1 (hts _ hw.1) (hts _ hw.2.1) (hts _ hw.2.2.1) (hts _ hw.2.2.2.1) hR.1 (by rw [hcat]; omega) (Nat.zero_le _) (Nat.zero_le _) hd (kk Φ p e s m args below meth c H locs lsA hC hN hH hW hS hL)
theorem V.mmin {x z : Int32} (hd : decode b pc = .ok (.invokestatic idx, 3)) (ho : own = y.cls) (hw : Cond.methodLink own idx yJ9_min_7cf53 ∈ GW ∧ Cond.static yJ9_min_7cf53 ∈ GW ∧ Cond.initialized yJ9_min_7cf53.cls ∈ GW ∧ Cond.code yJ9_min_7cf53 cJ9_min_7cf53 2 (some .int) ∈ GW ∧ MX yJ9_min_7cf53 2) (hR : 1 ≤ R.frames ∧ 40 ≤ R.locals) (hs8 : (st.map fun v => v.category).sum ≤ 8) (kk : V X y b nL ret R l F (pc + 3) ls (.int (jmin x z) :: st) sh M 0 0) : V X y b nL ret R l F pc ls (.int z :: .int x :: st) sh M 0 0 := by
  intro Φ p e s m args below meth c H locs lsA hC hN hH hW hS hL
  subst ho
  have hts := hC.2.2.2.2.2.2.2.1
  have hcat : ((st.map (fi_v Φ)).map fun v => v.category).sum = (st.map fun v => v.category).sum := by
    rw [List.map_map]
    exact congrArg List.sum (List.map_congr_left fun v _ => fi_cat hC.2.2.2.2.2.2.2.2.2.2.1 v)
  exact va_mmin hC.1 hC.2.1 (hC.2.2.1.trans hL.1.symm) hC.2.2.2.2.2.2.1 (hts _ hw.1) (hts _ hw.2.1) (hts _ hw.2.2.1) (hts _ hw.2.2.2.1) hR.1 (by rw [hcat]; omega) (Nat.zero_le _) (Nat.zero_le _) hd (kk Φ p e s m args below meth c H locs lsA hC hN hH hW hS hL)
end VR7
