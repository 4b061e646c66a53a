/-! more rules -/
theorem ck_s {α : Type} {c : Bool} {a : Option α} {r : α} (h : ck c a = some r) : c = true ∧ a = some r := ite_n h
theorem inj1 {α : Type} {x r : α} (h : some x = some r) : r = x := (Option.some.inj h).symm
theorem inj2 {α β : Type} {x r : α} {m m' : β} (h : some (x, m) = some (r, m')) : r = x ∧ m' = m := by
  cases h
  exact ⟨rfl, rfl⟩
theorem isB_n {x : Int32} (h : isB x = true) : narrow .boolean (.int x) = .int x := by
  simp only [isB, Bool.or_eq_true, beq_iff_eq] at h
  rcases h with rfl | rfl <;> rfl
theorem iinc_c {x c : Int32} {n : Int} (h : Int32.ofInt n = c) : x + Int32.ofInt n = x + c := by rw [h]
theorem rec_R {D d d' n' : Nat} (h : d' + 1 ≤ D ∧ 8 + (n' + 11) + 64 * d' ≤ 64 * D) : d' + 1 ≤ (rmD (D + (d + 1)) 0 0).frames ∧ 8 + (n' + 11) + 64 * d' ≤ (rmD (D + (d + 1)) 0 0).locals := by
  show d' + 1 ≤ D + (d + 1) ∧ 8 + (n' + 11) + 64 * d' ≤ 64 * (D + (d + 1))
  omega
theorem rec_S {D d n' : Nat} (h : n' ≤ 40) : (D + d) + 1 ≤ (rmD (D + (d + 1)) 0 0).frames ∧ 8 + (n' + 11) + 64 * (D + d) ≤ (rmD (D + (d + 1)) 0 0).locals := by
  show (D + d) + 1 ≤ D + (d + 1) ∧ 8 + (n' + 11) + 64 * (D + d) ≤ 64 * (D + (d + 1))
  omega
theorem str_all : ∀ i, i < 16 → ∀ k, k < strL.getD i 0 → (((strB.getD i []).getD k 0 &&& 255).toUInt32 % 65536).toInt32 = (strB.getD i []).getD k 0 ∧ narrow .char (.int ((strB.getD i []).getD k 0)) = .int ((strB.getD i []).getD k 0) := by decide +kernel
theorem str_len : ∀ i, i < 16 → strL.getD i 0 < 2 ^ 31 := by decide +kernel
theorem isStr_of {s : Nat} (h : isStr s = true) : ∃ i, i < 16 ∧ s = 1010 + i := by
  simp only [isStr, Bool.and_eq_true, decide_eq_true_eq] at h
  exact ⟨s - 1010, by omega, by omega⟩
theorem jshr_0 (x : Int32) : jshr x 0 = x := by
  show x >>> ((0 : Int32) &&& 31) = x
  rw [show ((0 : Int32) &&& 31) = 0 by decide]
  simp
section VR6
variable {X : Sc} {y : MethodName} {b : ByteArray} {nL : Nat} {ret : Option FieldType} {R : Room} {l : Launch} {F : Fi → List Frame → Array Value → State → State → Prop}
variable {pc : Nat} {ls : List (Option Value)} {st : List Value} {sh : List Shp} {M M' : Mem} {cl sl : Nat} {y' : MethodName} {b' : ByteArray} {n' np idx d' i : Nat} {ret' : Option FieldType} {av stk : List Value} {own : String} {r : Option Value}
theorem V.tabAt {dflt lo hi : Int} {offs : Array Int} {len : Nat} {x c : Int32} {off : Int} {tgt : Nat} (hd : decode b pc = .ok (.tableswitch dflt lo hi offs, len)) (hx : x = c) (h1 : ¬ c.toInt < lo) (h2 : ¬ hi < c.toInt) (ho : offs[(c.toInt - lo).toNat]? = some off) (ht : (pc : Int) + off = (tgt : Int)) (k : V X y b nL ret R l F tgt ls st sh M cl sl) : V X y b nL ret R l F pc ls (.int x :: st) sh M cl sl := by
  subst hx
  exact V.tabIn hd h1 h2 ho ht k
theorem fi_adx {Φ : Fi} {k : Nat} (h : 1000 ≤ k) : fi_ad Φ k = fi_x Φ k := if_neg (by omega)
theorem V.getSV (hd : decode b pc = .ok (.getfield 9, 3)) (hy : y.cls = RJ0) (hw : Cond.fieldLink RJ0 9 RJ0 "value" "[B" ∈ GW) (hi : i < 16) (kk : V X y b nL ret R l F (pc + 3) ls (.ref (1030 + i) :: st) sh M cl sl) : V X y b nL ret R l F pc ls (.ref (1010 + i) :: st) sh M cl sl := by
  intro Φ p e s m args below meth c H locs lsA hC hN hH hW hS hL
  obtain ⟨-, -, h1, -⟩ := hC.2.2.2.2.2.2.2.2.2.2.2
  have h2 := (h1.1 i hi).2.2.1
  dsimp only at h2
  rw [← fi_adx (Φ := Φ) (k := 1010 + i) (by omega), ← fi_adx (Φ := Φ) (k := 1030 + i) (by omega)] at h2
  exact vk_getf hC.1 hC.2.1 h2 hS (hy ▸ hC.2.2.2.2.2.2.1) (hC.2.2.2.2.2.2.2.1 _ hw) (fun _ h => h) hd (kk Φ p e s m args below meth c H locs lsA hC hN hH hW hS hL)
theorem V.getSC (hd : decode b pc = .ok (.getfield 15, 3)) (hy : y.cls = RJ0) (hw : Cond.fieldLink RJ0 15 RJ0 "coder" "B" ∈ GW) (hi : i < 16) (kk : V X y b nL ret R l F (pc + 3) ls (.int 0 :: st) sh M cl sl) : V X y b nL ret R l F pc ls (.ref (1010 + i) :: st) sh M cl sl := by
  intro Φ p e s m args below meth c H locs lsA hC hN hH hW hS hL
  obtain ⟨-, -, h1, -⟩ := hC.2.2.2.2.2.2.2.2.2.2.2
  have h2 := (h1.1 i hi).2.1
  dsimp only at h2
  rw [← fi_adx (Φ := Φ) (k := 1010 + i) (by omega)] at h2
  exact vk_getf hC.1 hC.2.1 h2 hS (hy ▸ hC.2.2.2.2.2.2.1) (hC.2.2.2.2.2.2.2.1 _ hw) (fun _ h => h) hd (kk Φ p e s m args below meth c H locs lsA hC hN hH hW hS hL)
theorem V.lenSB (hd : decode b pc = .ok (.arraylength, 1)) (hi : i < 16) (kk : V X y b nL ret R l F (pc + 1) ls (.int (nI (strL.getD i 0)) :: st) sh M cl sl) : V X y b nL ret R l F pc ls (.ref (1030 + i) :: st) sh M cl sl := by
  intro Φ p e s m args below meth c H locs lsA hC hN hH hW hS hL
  obtain ⟨-, -, h1, -⟩ := hC.2.2.2.2.2.2.2.2.2.2.2
  have h2 := (h1.1 i hi).2.2.2
  dsimp only at h2
  rw [← fi_adx (Φ := Φ) (k := 1030 + i) (by omega)] at h2
  exact va_tlen hC.1 hC.2.1 h2 hS rfl hd (kk Φ p e s m args below meth c H locs lsA hC hN hH hW hS hL)
theorem V.aldSB {x : Int32} (hd : decode b pc = .ok (.baload, 1)) (hi : i < 16) (hx : vp_in x (strL.getD i 0)) (kk : V X y b nL ret R l F (pc + 1) ls (.int ((strB.getD i []).getD x.toNatClampNeg 0) :: st) sh M cl sl) : V X y b nL ret R l F pc ls (.int x :: .ref (1030 + i) :: st) sh M cl sl := by
  intro Φ p e s m args below meth c H locs lsA hC hN hH hW hS hL
  obtain ⟨-, -, h1, -⟩ := hC.2.2.2.2.2.2.2.2.2.2.2
  have h2 := (h1.1 i hi).2.2.2
  dsimp only at h2
  rw [← fi_adx (Φ := Φ) (k := 1030 + i) (by omega)] at h2
  exact va_tb hC.1 hC.2.1 h2 hS hx rfl hd (kk Φ p e s m args below meth c H locs lsA hC hN hH hW hS hL)
theorem V.getCS (hd : decode b pc = .ok (.getstatic 38, 3)) (hy : y.cls = RJ0) (hw : Cond.fieldLink RJ0 38 RJ0 "COMPACT_STRINGS" "Z" ∈ GW) (kk : V X y b nL ret R l F (pc + 3) ls (.int 1 :: st) sh M cl sl) : V X y b nL ret R l F pc ls st sh M cl sl := by
  intro Φ p e s m args below meth c H locs lsA hC hN hH hW hS hL
  obtain ⟨-, -, -, -, -, -, -, h1, -⟩ := hC.2.2.2.2.2.2.2.2.2.2.2
  exact va_gets hC.1 hC.2.1 h1 hS (hy ▸ hC.2.2.2.2.2.2.1) (hC.2.2.2.2.2.2.2.1 _ hw) (fun _ h => h) hd (kk Φ p e s m args below meth c H locs lsA hC hN hH hW hS hL)
theorem V.getSI (hd : decode b pc = .ok (.getstatic 1053, 3)) (hy : y.cls = RJ0) (hw : Cond.fieldLink RJ0 1053 RJ3 "SIOOBE_FORMATTER" "Ljava/util/function/BiFunction;" ∈ GW) (kk : V X y b nL ret R l F (pc + 3) ls (.retAddr 0 :: st) sh M cl sl) : V X y b nL ret R l F pc ls st sh M cl sl := by
  intro Φ p e s m args below meth c H locs lsA hC hN hH hW hS hL
  obtain ⟨-, -, -, -, -, -, -, -, h1⟩ := hC.2.2.2.2.2.2.2.2.2.2.2
  exact va_gets hC.1 hC.2.1 h1 hS (hy ▸ hC.2.2.2.2.2.2.1) (hC.2.2.2.2.2.2.2.1 _ hw) (fun _ h => h) hd (kk Φ p e s m args below meth c H locs lsA hC hN hH hW hS hL)
theorem V.cVX (hd : decode b pc = .ok (.invokevirtual idx, 3)) (ho : own = y.cls) (hw : Cond.methodLink own idx y' ∈ GW ∧ Cond.instanceMethod y' ∈ GW ∧ Cond.selects y'.cls y' y' ∈ GW ∧ Cond.initialized y'.cls ∈ GW ∧ Cond.code y' b' n' ret' ∈ GW ∧ MX y' np)
    (hM : Mt X l y' b' n' ret' d' 0 0 (.ref (1010 + i) :: av) sh M r sh M') (hst : stk = av.reverse ++ .ref (1010 + i) :: st) (hn : av.length = np) (hi : i < 16) (hcl : y'.cls = RJ0) (hR : d' + 1 ≤ R.frames ∧ 8 + (n' + 11) + 64 * d' ≤ R.locals) (hf : cl ≤ R.cells ∧ sl ≤ R.slots) (hs8 : (st.map fun v => v.category).sum ≤ 8) (hcl9 : cl ≤ sh.length)
    (kk : V X y b nL ret R l F (pc + 3) ls (r.toList ++ st) sh M' cl sl) : V X y b nL ret R l F pc ls stk sh M cl sl := by
  intro Φ p e s m args below meth c H locs lsA hC hN hH hW hS hL
  subst ho
  subst hst
  have hts := hC.2.2.2.2.2.2.2.1
  have hE := hC.2.2.2.2.2.2.2.2
  refine fi_sized hN hW (by omega) hS (fun hsz => ?_)
  have hrecv : ∃ cell : Cell, H[fi_ad Φ (1010 + i)]? = some cell ∧ cell.vm.isStatics = false ∧ s.vm.findClass y'.cls = some cell.cls := by
    rw [fi_adx (by omega), hcl]
    obtain ⟨-, -, h1, -⟩ := hE.2.2.2
    have h3 := vk_recv (i := i) h1 hi hS
    exact h3
  have hmap : (av.reverse ++ .ref (1010 + i) :: st).map (fi_v Φ) = (av.map (fi_v Φ)).reverse ++ .ref (fi_ad Φ (1010 + i)) :: st.map (fi_v Φ) := by simp [List.map_reverse, fi_v]
  rw [hmap]
  refine fi_after (av := (Value.ref (fi_ad Φ (1010 + i)) :: av.map (fi_v Φ)).toArray) (rest := st.map (fi_v Φ)) (va_runV (own := y.cls) (C := y'.cls) (y := y') (As := av.map (fi_v Φ)) (b := fi_ad Φ (1010 + i)) (n := np) ⟨hC.1, hC.2.1, hC.2.2.1, hC.2.2.2.2.2.2.1, hts⟩ (hM Φ) ⟨callB_of np hts (fi_good hw.2.2.2.2.1) rfl rfl rfl (hts _ hw.2.2.2.1) (hts _ hw.1) hw.2.2.2.2.2 hR, hts _ hw.2.1, hts _ hw.2.2.1⟩ ⟨fi_blind, hrecv, fun U hU hwU => fi_pre hE hS hsz hH hW hU hwU⟩ rfl (by rw [List.length_map]; exact hn) hL.1 rfl (fi_hw hC hs8) hd hf) hS (fun H1 locs1 hW1 hS1 => ?_)
  have := kk Φ p e s m args below meth c H1 locs1 lsA hC hN hH hW1 hS1 hL
  cases r <;> exact this
end VR6
