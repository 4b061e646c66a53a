/-! the layer V: fields, arrays, calls, the whole method -/
def FL (own : String) (idx ci k : Nat) : Prop := ∃ (C : String) (T : u_T) (N : Nat), vwCl[ci]? = some (C, T, N) ∧ k < N ∧ Cond.fieldLink own idx (T k).1 (T k).2.1 (T k).2.2.1 ∈ GW ∧ (∀ w ∈ u_ws C T N, w ∈ GW)
def FP (own : String) (idx ci k : Nat) (ty : FieldType) (fin : Bool) : Prop := ∃ (C : String) (T : u_T) (N : Nat) (ty0 : Nat → FieldType), vwCl[ci]? = some (C, T, N) ∧ k < N ∧ Cond.fieldLink own idx (T k).1 (T k).2.1 (T k).2.2.1 ∈ GW ∧ (∀ w ∈ u_ws C T N, w ∈ GW) ∧
  (∀ k, k < N → parseFieldDescriptor (T k).2.2.1 = some (ty0 k)) ∧ (∀ a, a < N → ∀ b, b < N → a ≠ b → (T a).2.1 ≠ (T b).2.1) ∧ (T k).2.2.2 = fin ∧ parseFieldDescriptor (T k).2.2.1 = some ty ∧ (fin = true → (T k).1 = own)
theorem cl_lt {ci : Nat} {x : vw_C} (h : vwCl[ci]? = some x) : ci < 20 := by
  have := (List.getElem?_eq_some_iff.mp h).1
  have h2 : vwCl.length = 12 := rfl
  omega
theorem sh_lt {sh : List Shp} {a : Nat} {q : Shp} (h : sh[a]? = some q) : a < sh.length := (List.getElem?_eq_some_iff.mp h).1
theorem set_same {α : Type} {l : List α} {a : Nat} {q : α} (h : l[a]? = some q) : l.set a q = l := by
  apply List.ext_getElem?
  intro j
  have hl : a < l.length := (List.getElem?_eq_some_iff.mp h).1
  by_cases hj : j = a
  · subst hj
    rw [List.getElem?_set_self hl, h]
  · rw [List.getElem?_set_ne (fun e => hj e.symm)]
theorem fi_tys_0 (Φ : Fi) : (fi_tys Φ)[0]? = some (fi_c Φ 20, .int) := rfl
theorem fi_tys_1 (Φ : Fi) : (fi_tys Φ)[1]? = some (fi_c Φ 21, .byte) := rfl
theorem fi_tys_2 (Φ : Fi) : (fi_tys Φ)[2]? = some (fi_c Φ 22, .boolean) := rfl
theorem fi_tys_3 (Φ : Fi) : (fi_tys Φ)[3]? = some (fi_c Φ 23, .array .int) := rfl
theorem va_Ao {ty : FieldType} {s U : State} (hW : s.WarmedH U.vm) (hZ : va_Nw (.arrayOver ty) s) : va_Nw (.arrayOver ty) U := by
  have h := Cond.arrayOver_setVmC (args := #[]) hW.alike ty
  have h2 : (Cond.arrayOver ty).before #[] (s.setVm U.vm) = true := h.trans hZ
  exact h2
theorem fi_E.to {X : Sc} {Φ : Fi} {s U : State} {locs : List Loc} (h : fi_E X Φ s) (hw : s.WarmedH U.vm) (hS : va_S (fi_A Φ) s.heap U.heap locs) : fi_E X Φ U := by
  obtain ⟨h1, h2, h3, h4, h5, h6, h7, h8, h9, h10, h11, h12⟩ := h
  have hv := hw.alike
  refine ⟨va_K.moved hv h1, fun w hw9 => ?_, h3, (h4.moved hv).kept hS.2.1, fun i q hq => vk_R.warm hw (h5 i q hq), (h6.moved hv).kept hS.2.1, (h7.moved hv).kept hS.2.1, (h8.moved hv).kept hS.2.1, (h9.moved hv).kept hS.2.1, (h10.moved hv).kept hS.2.1, (h11.moved hv).kept hS.2.1, (h12.moved hv).kept hS.2.1⟩
  have hn := (List.mem_filter.mp hw9).2
  have h0 := h2 w hw9
  cases w <;> first | (simp [isNestW] at hn; done) | exact va_Nw.warmM hw h0 | exact va_Ao hw h0
theorem fi_E.blind {X : Sc} {Φ : Fi} {u U : State} (h : fi_E X Φ u) (hv : u.vm = U.vm) (hh : U.heap = u.heap) : fi_E X Φ U := by
  have hw : u.WarmedH U.vm := by rw [← hv]; exact State.WarmedH.refl u
  refine fi_E.to (locs := []) h hw ?_
  rw [hh]
  exact va_S.rf
section VR3
variable {X : Sc} {y : MethodName} {b : ByteArray} {nL : Nat} {ret : Option FieldType} {R : Room} {l : Launch} {F : Fi → List Frame → Array Value → State → State → Prop}
variable {pc : Nat} {ls : List (Option Value)} {st : List Value} {sh : List Shp} {M : Mem} {cl sl : Nat}
theorem V.getI {a idx ci k : Nat} {q : Shp} (hd : decode b pc = .ok (.getfield idx, 3)) (hf : FL y.cls idx ci k) (hq : sh[a]? = some q) (hc : q.1 = ci) (hk : q.2.2[k]? = some none) (kk : V X y b nL ret R l F (pc + 3) ls (.int (M a k) :: st) sh M cl sl) : V X y b nL ret R l F pc ls (.ref a :: st) sh M cl sl := by
  intro Φ p e s m args below meth c H locs lsA hC hN hH hW hS hL
  obtain ⟨C, T, N, h1, h2, h3, h4⟩ := hf
  have had : fi_ad Φ a = fi_b Φ + a := fi_ad_lt (by have := sh_lt hq; omega)
  have he := fi_ws_at (Φ := Φ) (M := M) hq
  rw [fi_ent_obj (by rw [hc]; exact cl_lt h1), hc] at he
  show W p l e R s m args below meth c H locs cl sl (F Φ below args s) (F0 m pc lsA (.ref (fi_ad Φ a) :: st.map (fi_v Φ)))
  rw [had]
  exact va_get hC.1 hC.2.1 hC.2.2.2.2.2.2.2.1 h4 hC.2.2.2.2.2.2.1 hC.2.2.2.2.2.2.2.2.1 hW a he h1 k h2 (hC.2.2.2.2.2.2.2.1 _ h3) (fun _ h => h) (fi_flds_at hk) hd (kk Φ p e s m args below meth c H locs lsA hC hN hH hW hS hL)
theorem V.getR {a idx ci k r : Nat} {q : Shp} (hd : decode b pc = .ok (.getfield idx, 3)) (hf : FL y.cls idx ci k) (hq : sh[a]? = some q) (hc : q.1 = ci) (hk : q.2.2[k]? = some (some (some r))) (kk : V X y b nL ret R l F (pc + 3) ls (.ref r :: st) sh M cl sl) : V X y b nL ret R l F pc ls (.ref a :: st) sh M cl sl := by
  intro Φ p e s m args below meth c H locs lsA hC hN hH hW hS hL
  obtain ⟨C, T, N, h1, h2, h3, h4⟩ := hf
  have had : fi_ad Φ a = fi_b Φ + a := fi_ad_lt (by have := sh_lt hq; omega)
  have he := fi_ws_at (Φ := Φ) (M := M) hq
  rw [fi_ent_obj (by rw [hc]; exact cl_lt h1), hc] at he
  show W p l e R s m args below meth c H locs cl sl (F Φ below args s) (F0 m pc lsA (.ref (fi_ad Φ a) :: st.map (fi_v Φ)))
  rw [had]
  exact va_get hC.1 hC.2.1 hC.2.2.2.2.2.2.2.1 h4 hC.2.2.2.2.2.2.1 hC.2.2.2.2.2.2.2.2.1 hW a he h1 k h2 (hC.2.2.2.2.2.2.2.1 _ h3) (fun _ h => h) (fi_flds_at hk) hd (kk Φ p e s m args below meth c H locs lsA hC hN hH hW hS hL)
theorem V.putI {a idx ci k : Nat} {x : Int32} {q : Shp} (hd : decode b pc = .ok (.putfield idx, 3)) (hf : FP y.cls idx ci k .int false) (hq : sh[a]? = some q) (hc : q.1 = ci) (hk : q.2.2[k]? = some none) (kk : ∀ M1 : Mem, M1 = upd2 M a k x → V X y b nL ret R l F (pc + 3) ls st sh M1 cl sl) : V X y b nL ret R l F pc ls (.int x :: .ref a :: st) sh M cl sl := by
  intro Φ p e s m args below meth c H locs lsA hC hN hH hW hS hL
  obtain ⟨C, T, N, ty0, h1, h2, h3, h4, h5, h6, h7, h8, -⟩ := hf
  have had : fi_ad Φ a = fi_b Φ + a := fi_ad_lt (by have := sh_lt hq; omega)
  have he := fi_ws_at (Φ := Φ) (M := M) hq
  rw [fi_ent_obj (by rw [hc]; exact cl_lt h1), hc] at he
  show W p l e R s m args below meth c H locs cl sl (F Φ below args s) (F0 m pc lsA (.int x :: .ref (fi_ad Φ a) :: st.map (fi_v Φ)))
  rw [had]
  refine va_put hC.1 hC.2.1 hC.2.2.2.2.2.2.2.1 h4 ty0 h5 h6 hC.2.2.2.2.2.2.1 hC.2.2.2.2.2.2.2.2.1 hW (fi_Dd Φ sh M) hS a he h1 k h2 (hC.2.2.2.2.2.2.2.1 _ h3) (fun _ h => h) h7 h8 rfl rfl (by rw [fi_flds_len]; exact (List.getElem?_eq_some_iff.mp hk).1) hd (fun H1 locs1 hP1 _ hS1 => ?_)
  refine kk _ rfl Φ p e s m args below meth c H1 locs1 lsA hC hN hH ?_ hS1 hL
  rw [fi_ws_set (q' := q) (m' := upd2 M a k x) hq (fun j hj => upd2_ne M k x hj) (by rw [fi_ent_obj (by rw [hc]; exact cl_lt h1), upd2_at, ← fi_flds_set hk, hc])] at hP1
  rw [set_same hq] at hP1
  exact hP1
theorem V.putR {a idx ci k r : Nat} {q : Shp} {ty : FieldType} (hd : decode b pc = .ok (.putfield idx, 3)) (hf : FP y.cls idx ci k ty true) (hty : (∃ n, ty = .object n) ∨ ∃ t, ty = .array t) (hy : y.name = "<init>") (hq : sh[a]? = some q) (hc : q.1 = ci) (hk : k < q.2.2.length) (kk : V X y b nL ret R l F (pc + 3) ls st (sh.set a (q.1, q.2.1, q.2.2.set k (some (some r)))) M cl sl) : V X y b nL ret R l F pc ls (.ref r :: .ref a :: st) sh M cl sl := by
  intro Φ p e s m args below meth c H locs lsA hC hN hH hW hS hL
  obtain ⟨C, T, N, ty0, h1, h2, h3, h4, h5, h6, h7, h8, h9⟩ := hf
  have had : fi_ad Φ a = fi_b Φ + a := fi_ad_lt (by have := sh_lt hq; omega)
  have he := fi_ws_at (Φ := Φ) (M := M) hq
  rw [fi_ent_obj (by rw [hc]; exact cl_lt h1), hc] at he
  show W p l e R s m args below meth c H locs cl sl (F Φ below args s) (F0 m pc lsA (.ref (fi_ad Φ r) :: .ref (fi_ad Φ a) :: st.map (fi_v Φ)))
  rw [had]
  refine va_putF (ty := ty) hC.1 hC.2.1 hC.2.2.2.2.2.2.2.1 h4 ty0 h5 h6 hC.2.2.2.2.2.2.1 hC.2.2.2.2.2.2.2.2.1 hW (fi_Dd Φ sh M) hS a he h1 k h2 (hC.2.2.2.2.2.2.2.1 _ h3) (fun _ h => h) h7 (hC.2.2.2.2.2.1.trans hy) (h9 rfl) h8 (by rcases hty with ⟨n, rfl⟩ | ⟨t, rfl⟩ <;> rfl) (by rcases hty with ⟨n, rfl⟩ | ⟨t, rfl⟩ <;> rfl) (by rw [fi_flds_len]; exact hk) hd (fun H1 locs1 hP1 _ hS1 => ?_)
  refine kk Φ p e s m args below meth c H1 locs1 lsA hC (by rw [List.length_set]; exact hN) (by rw [List.length_set]; exact hH) ?_ hS1 hL
  rw [fi_ws_set (q' := (q.1, q.2.1, q.2.2.set k (some (some r)))) (m' := M) hq (fun j hj => rfl) (by rw [fi_ent_obj (by rw [hc]; exact cl_lt h1), ← fi_flds_setR hk, hc])] at hP1
  exact hP1
theorem V.iald {a : Nat} {i : Int32} {q : Shp} (hd : decode b pc = .ok (.iaload, 1)) (hq : sh[a]? = some q) (hc : q.1 = 20) (hi : vp_in i q.2.1) (kk : V X y b nL ret R l F (pc + 1) ls (.int (M a i.toNatClampNeg) :: st) sh M cl sl) : V X y b nL ret R l F pc ls (.int i :: .ref a :: st) sh M cl sl := by
  intro Φ p e s m args below meth c H locs lsA hC hN hH hW hS hL
  have had : fi_ad Φ a = fi_b Φ + a := fi_ad_lt (by have := sh_lt hq; omega)
  have he := fi_ws_at (Φ := Φ) (M := M) hq
  rw [fi_ent_arr (by omega) (by omega), hc] at he
  show W p l e R s m args below meth c H locs cl sl (F Φ below args s) (F0 m pc lsA (.int i :: .ref (fi_ad Φ a) :: st.map (fi_v Φ)))
  rw [had]
  exact va_iald hC.1 hC.2.1 hC.2.2.2.2.2.2.2.2.1 hW a 0 he (fi_tys_0 Φ) hi hd (kk Φ p e s m args below meth c H locs lsA hC hN hH hW hS hL)
theorem V.bald {a : Nat} {i : Int32} {q : Shp} (hd : decode b pc = .ok (.baload, 1)) (hq : sh[a]? = some q) (hc : q.1 = 21) (hi : vp_in i q.2.1) (kk : V X y b nL ret R l F (pc + 1) ls (.int (M a i.toNatClampNeg) :: st) sh M cl sl) : V X y b nL ret R l F pc ls (.int i :: .ref a :: st) sh M cl sl := by
  intro Φ p e s m args below meth c H locs lsA hC hN hH hW hS hL
  have had : fi_ad Φ a = fi_b Φ + a := fi_ad_lt (by have := sh_lt hq; omega)
  have he := fi_ws_at (Φ := Φ) (M := M) hq
  rw [fi_ent_arr (by omega) (by omega), hc] at he
  show W p l e R s m args below meth c H locs cl sl (F Φ below args s) (F0 m pc lsA (.int i :: .ref (fi_ad Φ a) :: st.map (fi_v Φ)))
  rw [had]
  exact va_bald hC.1 hC.2.1 hC.2.2.2.2.2.2.2.2.1 hW a 1 he (fi_tys_1 Φ) hi hd (kk Φ p e s m args below meth c H locs lsA hC hN hH hW hS hL)
theorem V.zald {a : Nat} {i : Int32} {q : Shp} (hd : decode b pc = .ok (.baload, 1)) (hq : sh[a]? = some q) (hc : q.1 = 22) (hi : vp_in i q.2.1) (kk : V X y b nL ret R l F (pc + 1) ls (.int (M a i.toNatClampNeg) :: st) sh M cl sl) : V X y b nL ret R l F pc ls (.int i :: .ref a :: st) sh M cl sl := by
  intro Φ p e s m args below meth c H locs lsA hC hN hH hW hS hL
  have had : fi_ad Φ a = fi_b Φ + a := fi_ad_lt (by have := sh_lt hq; omega)
  have he := fi_ws_at (Φ := Φ) (M := M) hq
  rw [fi_ent_arr (by omega) (by omega), hc] at he
  show W p l e R s m args below meth c H locs cl sl (F Φ below args s) (F0 m pc lsA (.int i :: .ref (fi_ad Φ a) :: st.map (fi_v Φ)))
  rw [had]
  exact va_zald hC.1 hC.2.1 hC.2.2.2.2.2.2.2.2.1 hW a 2 he (fi_tys_2 Φ) hi hd (kk Φ p e s m args below meth c H locs lsA hC hN hH hW hS hL)
theorem V.iast {a : Nat} {i x : Int32} {q : Shp} (hd : decode b pc = .ok (.iastore, 1)) (hq : sh[a]? = some q) (hc : q.1 = 20) (hi : vp_in i q.2.1) (kk : ∀ M1 : Mem, M1 = upd2 M a i.toNatClampNeg x → V X y b nL ret R l F (pc + 1) ls st sh M1 cl sl) : V X y b nL ret R l F pc ls (.int x :: .int i :: .ref a :: st) sh M cl sl := by
  intro Φ p e s m args below meth c H locs lsA hC hN hH hW hS hL
  have had : fi_ad Φ a = fi_b Φ + a := fi_ad_lt (by have := sh_lt hq; omega)
  have he := fi_ws_at (Φ := Φ) (M := M) hq
  rw [fi_ent_arr (by omega) (by omega), hc] at he
  show W p l e R s m args below meth c H locs cl sl (F Φ below args s) (F0 m pc lsA (.int x :: .int i :: .ref (fi_ad Φ a) :: st.map (fi_v Φ)))
  rw [had]
  refine va_iast hC.1 hC.2.1 hC.2.2.2.2.2.2.2.2.1 hW (fi_Dd Φ sh M) hS a 0 he (fi_tys_0 Φ) hi hd (fun H1 locs1 hP1 _ hS1 => ?_)
  refine kk _ rfl Φ p e s m args below meth c H1 locs1 lsA hC hN hH ?_ hS1 hL
  rw [fi_ws_set (q' := q) (m' := upd2 M a i.toNatClampNeg x) hq (fun j hj => upd2_ne M _ x hj) (by rw [fi_ent_arr (by omega) (by omega), upd2_at, hc])] at hP1
  rw [set_same hq] at hP1
  exact hP1
theorem V.bast {a : Nat} {i x : Int32} {q : Shp} (hd : decode b pc = .ok (.bastore, 1)) (hq : sh[a]? = some q) (hc : q.1 = 21) (hi : vp_in i q.2.1) (kk : ∀ M1 : Mem, M1 = upd2 M a i.toNatClampNeg x.toInt8.toInt32 → V X y b nL ret R l F (pc + 1) ls st sh M1 cl sl) : V X y b nL ret R l F pc ls (.int x :: .int i :: .ref a :: st) sh M cl sl := by
  intro Φ p e s m args below meth c H locs lsA hC hN hH hW hS hL
  have had : fi_ad Φ a = fi_b Φ + a := fi_ad_lt (by have := sh_lt hq; omega)
  have he := fi_ws_at (Φ := Φ) (M := M) hq
  rw [fi_ent_arr (by omega) (by omega), hc] at he
  show W p l e R s m args below meth c H locs cl sl (F Φ below args s) (F0 m pc lsA (.int x :: .int i :: .ref (fi_ad Φ a) :: st.map (fi_v Φ)))
  rw [had]
  refine va_bast hC.1 hC.2.1 hC.2.2.2.2.2.2.2.2.1 hW (fi_Dd Φ sh M) hS a 1 he (fi_tys_1 Φ) hi hd (fun H1 locs1 hP1 _ hS1 => ?_)
  rw [vp_nar_byte] at hP1
  refine kk _ rfl Φ p e s m args below meth c H1 locs1 lsA hC hN hH ?_ hS1 hL
  rw [fi_ws_set (q' := q) (m' := upd2 M a i.toNatClampNeg x.toInt8.toInt32) hq (fun j hj => upd2_ne M _ _ hj) (by rw [fi_ent_arr (by omega) (by omega), upd2_at, hc])] at hP1
  rw [set_same hq] at hP1
  exact hP1
theorem V.zast {a : Nat} {i x : Int32} {q : Shp} (hd : decode b pc = .ok (.bastore, 1)) (hq : sh[a]? = some q) (hc : q.1 = 22) (hi : vp_in i q.2.1) (hx : vp_nar .boolean x = x) (kk : ∀ M1 : Mem, M1 = upd2 M a i.toNatClampNeg x → V X y b nL ret R l F (pc + 1) ls st sh M1 cl sl) : V X y b nL ret R l F pc ls (.int x :: .int i :: .ref a :: st) sh M cl sl := by
  intro Φ p e s m args below meth c H locs lsA hC hN hH hW hS hL
  have had : fi_ad Φ a = fi_b Φ + a := fi_ad_lt (by have := sh_lt hq; omega)
  have he := fi_ws_at (Φ := Φ) (M := M) hq
  rw [fi_ent_arr (by omega) (by omega), hc] at he
  show W p l e R s m args below meth c H locs cl sl (F Φ below args s) (F0 m pc lsA (.int x :: .int i :: .ref (fi_ad Φ a) :: st.map (fi_v Φ)))
  rw [had]
  refine va_zast hC.1 hC.2.1 hC.2.2.2.2.2.2.2.2.1 hW (fi_Dd Φ sh M) hS a 2 he (fi_tys_2 Φ) hi hd (fun H1 locs1 hP1 _ hS1 => ?_)
  rw [hx] at hP1
  refine kk _ rfl Φ p e s m args below meth c H1 locs1 lsA hC hN hH ?_ hS1 hL
  rw [fi_ws_set (q' := q) (m' := upd2 M a i.toNatClampNeg x) hq (fun j hj => upd2_ne M _ _ hj) (by rw [fi_ent_arr (by omega) (by omega), upd2_at, hc])] at hP1
  rw [set_same hq] at hP1
  exact hP1
theorem V.aald {a r : Nat} {i : Int32} {q : Shp} (hd : decode b pc = .ok (.aaload, 1)) (hq : sh[a]? = some q) (hc : q.1 = 23) (hi : vp_in i q.2.1) (hr : q.2.2[i.toNatClampNeg]? = some (some (some r))) (kk : V X y b nL ret R l F (pc + 1) ls (.ref r :: st) sh M cl sl) : V X y b nL ret R l F pc ls (.int i :: .ref a :: st) sh M cl sl := by
  intro Φ p e s m args below meth c H locs lsA hC hN hH hW hS hL
  have had : fi_ad Φ a = fi_b Φ + a := fi_ad_lt (by have := sh_lt hq; omega)
  have he := fi_ws_at (Φ := Φ) (M := M) hq
  rw [fi_ent_arq (by omega), hc] at he
  show W p l e R s m args below meth c H locs cl sl (F Φ below args s) (F0 m pc lsA (.int i :: .ref (fi_ad Φ a) :: st.map (fi_v Φ)))
  rw [had]
  have hlt : i.toNatClampNeg < q.2.1 := Nat.not_le.mp fun z => hi (Or.inr z)
  refine W.aald (v := .ref (fi_ad Φ r)) (ty := .array .int) hC.1 hC.2.1 (hW a _ he) ((hC.2.2.2.2.2.2.2.2.1.2 3 _ (fi_tys_3 Φ)).1 q.2.1 (fun j => va_rf ((((q.2.2[j]?).join.join).map (fi_ad Φ))))) rfl (fun z => by cases z) (by show ¬ (i < 0 ∨ (arrV _ _ _).slots.size ≤ _); rw [arrV_size]; exact hi) ?_ rfl rfl hd (kk Φ p e s m args below meth c H locs lsA hC hN hH hW hS hL)
  show (arrV _ _ _).slots[_]? = _
  rw [arrV_read _ _ hlt]
  show some (va_rf ((((q.2.2[i.toNatClampNeg]?).join.join).map (fi_ad Φ)))) = _
  rw [hr]
  rfl
theorem V.alen {a : Nat} {q : Shp} (hd : decode b pc = .ok (.arraylength, 1)) (hq : sh[a]? = some q) (hc : q.1 = 20) (kk : V X y b nL ret R l F (pc + 1) ls (.int (nI q.2.1) :: st) sh M cl sl) : V X y b nL ret R l F pc ls (.ref a :: st) sh M cl sl := by
  intro Φ p e s m args below meth c H locs lsA hC hN hH hW hS hL
  have had : fi_ad Φ a = fi_b Φ + a := fi_ad_lt (by have := sh_lt hq; omega)
  have he := fi_ws_at (Φ := Φ) (M := M) hq
  rw [fi_ent_arr (by omega) (by omega), hc] at he
  show W p l e R s m args below meth c H locs cl sl (F Φ below args s) (F0 m pc lsA (.ref (fi_ad Φ a) :: st.map (fi_v Φ)))
  rw [had]
  exact va_alen hC.1 hC.2.1 hC.2.2.2.2.2.2.2.2.1 hW a 0 he (fi_tys_0 Φ) rfl hd (kk Φ p e s m args below meth c H locs lsA hC hN hH hW hS hL)
theorem V.copyi {a0 a1 idx : Nat} {own : String} {sp dp n : Int32} {q0 q1 : Shp} (hd : decode b pc = .ok (.invokestatic idx, 3)) (ho : own = y.cls) (hw : Cond.methodLink own idx arraycopyName ∈ GW) (hnat : Cond.native arraycopyName ∈ GW) (hsta : Cond.static arraycopyName ∈ GW) (hini : Cond.initialized "java/lang/System" ∈ GW)
    (hq0 : sh[a0]? = some q0) (hq1 : sh[a1]? = some q1) (hc0 : q0.1 = 20) (hc1 : q1.1 = 20) (h1 : ¬ sp < 0) (h2 : ¬ dp < 0) (h3 : ¬ n < 0) (h4 : sp.toNatClampNeg + n.toNatClampNeg ≤ q0.2.1) (h5 : dp.toNatClampNeg + n.toNatClampNeg ≤ q1.2.1) (hR : 1 ≤ R.frames ∧ 40 ≤ R.locals) (hst : (st.map fun v => v.category).sum ≤ 8)
    (kk : ∀ M1 : Mem, M1 = cpy2 M a0 sp.toNatClampNeg a1 dp.toNatClampNeg n.toNatClampNeg → V X y b nL ret R l F (pc + 3) ls st sh M1 cl sl) : V X y b nL ret R l F pc ls (.int n :: .int dp :: .ref a1 :: .int sp :: .ref a0 :: st) sh M cl sl := by
  intro Φ p e s m args below meth c H locs lsA hC hN hH hW hS hL
  subst ho
  have had0 : fi_ad Φ a0 = fi_b Φ + a0 := fi_ad_lt (by have := sh_lt hq0; omega)
  have had1 : fi_ad Φ a1 = fi_b Φ + a1 := fi_ad_lt (by have := sh_lt hq1; omega)
  have he0 := fi_ws_at (Φ := Φ) (M := M) hq0
  have he1 := fi_ws_at (Φ := Φ) (M := M) hq1
  rw [fi_ent_arr (by omega) (by omega), hc0] at he0
  rw [fi_ent_arr (by omega) (by omega), hc1] at he1
  show W p l e R s m args below meth c H locs cl sl (F Φ below args s) (F0 m pc lsA (.int n :: .int dp :: .ref (fi_ad Φ a1) :: .int sp :: .ref (fi_ad Φ a0) :: st.map (fi_v Φ)))
  rw [had0, had1]
  have hts := hC.2.2.2.2.2.2.2.1
  have hcat : ((st.map (fi_v Φ)).map fun v => v.category).sum = (st.map fun v => v.category).sum := by
    rw [List.map_map]
    exact congrArg List.sum (List.map_congr_left fun v _ => fi_cat hC.2.2.2.2.2.2.2.2.2.2.1 v)
  refine va_copyi hC.1 hC.2.1 (hC.2.2.1.trans hL.1.symm) hC.2.2.2.2.2.2.1 (hts _ hw) (hts _ hnat) (hts _ hsta) (hts _ hini) hC.2.2.2.2.2.2.2.2.1 hW (fi_Dd Φ sh M) hS a0 a1 0 0 he0 he1 (fi_tys_0 Φ) (fi_tys_0 Φ) rfl h1 h2 h3 h4 h5 (fun _ _ => rfl) hR.1 (by rw [hcat]; exact Nat.le_trans (Nat.add_le_add hst (show nativeFrameWords "java/lang/System" "arraycopy" 5 + 11 ≤ 32 by decide +kernel)) hR.2) hd (fun H1 locs1 hP1 _ hS1 => ?_)
  refine kk _ rfl Φ p e s m args below meth c H1 locs1 lsA hC hN hH ?_ hS1 hL
  rw [fi_ws_set (q' := q1) (m' := cpy2 M a0 sp.toNatClampNeg a1 dp.toNatClampNeg n.toNatClampNeg) hq1 (fun j hj => cpy2_ne M a0 _ _ _ hj) (by rw [fi_ent_arr (by omega) (by omega), cpy2_at, hc1])] at hP1
  rw [set_same hq1] at hP1
  exact hP1
/-! outside -/
theorem V.getX (hd : decode b pc = .ok (.getstatic 35, 3)) (hy : y.cls = RX1) (hw : Cond.fieldLink RX1 35 RX1 "CHANGE_OF_X" "[I" ∈ GW) (kk : V X y b nL ret R l F (pc + 3) ls (.ref 1001 :: st) sh M cl sl) : V X y b nL ret R l F pc ls st sh M cl sl := by
  intro Φ p e s m args below meth c H locs lsA hC hN hH hW hS hL
  obtain ⟨-, -, -, h1, -⟩ := hC.2.2.2.2.2.2.2.2.2.2.2
  exact va_gets hC.1 hC.2.1 h1 hS (hy ▸ hC.2.2.2.2.2.2.1) (hC.2.2.2.2.2.2.2.1 _ hw) (fun _ h => h) hd (kk Φ p e s m args below meth c H locs lsA hC hN hH hW hS hL)
theorem V.getY (hd : decode b pc = .ok (.getstatic 38, 3)) (hy : y.cls = RX1) (hw : Cond.fieldLink RX1 38 RX1 "CHANGE_OF_Y" "[I" ∈ GW) (kk : V X y b nL ret R l F (pc + 3) ls (.ref 1002 :: st) sh M cl sl) : V X y b nL ret R l F pc ls st sh M cl sl := by
  intro Φ p e s m args below meth c H locs lsA hC hN hH hW hS hL
  obtain ⟨-, -, -, -, -, h1, -⟩ := hC.2.2.2.2.2.2.2.2.2.2.2
  exact va_gets hC.1 hC.2.1 h1 hS (hy ▸ hC.2.2.2.2.2.2.1) (hC.2.2.2.2.2.2.2.1 _ hw) (fun _ h => h) hd (kk Φ p e s m args below meth c H locs lsA hC hN hH hW hS hL)
theorem V.aldX {i : Int32} (hd : decode b pc = .ok (.iaload, 1)) (hi : vp_in i 8) (kk : V X y b nL ret R l F (pc + 1) ls (.int (chX i.toNatClampNeg) :: st) sh M cl sl) : V X y b nL ret R l F pc ls (.int i :: .ref 1001 :: st) sh M cl sl := by
  intro Φ p e s m args below meth c H locs lsA hC hN hH hW hS hL
  obtain ⟨-, -, -, -, h1, -⟩ := hC.2.2.2.2.2.2.2.2.2.2.2
  exact va_ti hC.1 hC.2.1 h1 hS hi rfl hd (kk Φ p e s m args below meth c H locs lsA hC hN hH hW hS hL)
theorem V.aldY {i : Int32} (hd : decode b pc = .ok (.iaload, 1)) (hi : vp_in i 8) (kk : V X y b nL ret R l F (pc + 1) ls (.int (chY i.toNatClampNeg) :: st) sh M cl sl) : V X y b nL ret R l F pc ls (.int i :: .ref 1002 :: st) sh M cl sl := by
  intro Φ p e s m args below meth c H locs lsA hC hN hH hW hS hL
  obtain ⟨-, -, -, -, -, -, h1, -⟩ := hC.2.2.2.2.2.2.2.2.2.2.2
  exact va_ti hC.1 hC.2.1 h1 hS hi rfl hd (kk Φ p e s m args below meth c H locs lsA hC hN hH hW hS hL)
theorem V.aldS {i : Int32} (hd : decode b pc = .ok (.iaload, 1)) (hi : vp_in i X.1) (kk : V X y b nL ret R l F (pc + 1) ls (.int (X.2 i.toNatClampNeg) :: st) sh M cl sl) : V X y b nL ret R l F pc ls (.int i :: .ref 1000 :: st) sh M cl sl := by
  intro Φ p e s m args below meth c H locs lsA hC hN hH hW hS hL
  obtain ⟨h1, -⟩ := hC.2.2.2.2.2.2.2.2.2.2.2
  exact va_ti hC.1 hC.2.1 h1 hS hi rfl hd (kk Φ p e s m args below meth c H locs lsA hC hN hH hW hS hL)
theorem V.lenS (hd : decode b pc = .ok (.arraylength, 1)) (kk : V X y b nL ret R l F (pc + 1) ls (.int (nI X.1) :: st) sh M cl sl) : V X y b nL ret R l F pc ls (.ref 1000 :: st) sh M cl sl := by
  intro Φ p e s m args below meth c H locs lsA hC hN hH hW hS hL
  obtain ⟨h1, -⟩ := hC.2.2.2.2.2.2.2.2.2.2.2
  exact va_tlen hC.1 hC.2.1 h1 hS rfl hd (kk Φ p e s m args below meth c H locs lsA hC hN hH hW hS hL)
theorem V.ldcS {i idx : Nat} {tx : String} (hd : decode b pc = .ok (.ldc idx, 2)) (hy : y.cls = RX7) (hi : strP[i]? = some (idx, tx)) (kk : V X y b nL ret R l F (pc + 2) ls (.ref (1010 + i) :: st) sh M cl sl) : V X y b nL ret R l F pc ls st sh M cl sl := by
  intro Φ p e s m args below meth c H locs lsA hC hN hH hW hS hL
  obtain ⟨-, h1, -⟩ := hC.2.2.2.2.2.2.2.2.2.2.2
  have h2 := h1 i _ hi
  have had : fi_ad Φ (1010 + i) = fi_x Φ (1010 + i) := if_neg (by omega)
  rw [← had] at h2
  exact va_ldcS hC.1 hC.2.1 (hy ▸ hC.2.2.2.2.2.2.1) h2 hd (kk Φ p e s m args below meth c H locs lsA hC hN hH hW hS hL)
end VR3
