/-! the layer V: making objects, calls, the whole method -/
section VR4
variable {X : Sc} {y : MethodName} {b : ByteArray} {nL : Nat} {ret : Option FieldType} {R : Room} {l : Launch} {F : Fi → List Frame → Array Value → State → State → Prop}
variable {pc : Nat} {ls : List (Option Value)} {st : List Value} {sh : List Shp} {M : Mem} {cl sl : Nat}
theorem fi_size {Φ : Fi} {p : Program} {e : Env} {s T : State} {m : MethodId} {args : Array Value} {below : List Frame} {meth : Method} {c : Code} {locs : List Loc} (hN : s.heap.size + cl = fi_b Φ + sh.length) (hW : fi_W Φ sh M T.heap) (Xs : Stand p l e R s m args below meth c T locs cl sl) (hb : fi_b Φ ≤ s.heap.size) (hs : s.heap.size ≤ T.heap.size) : T.heap.size = fi_b Φ + sh.length := by
  have h1 := Xs.heapSize
  have h2 : fi_b Φ + sh.length ≤ T.heap.size := by
    cases hn : sh.length with
    | zero => omega
    | succ n =>
      have := hW.lt (a := n) (by omega)
      omega
  omega
theorem fi_sized {Φ : Fi} {p : Program} {e : Env} {s : State} {m : MethodId} {args : Array Value} {below : List Frame} {meth : Method} {c : Code} {H : Heap} {locs : List Loc} {Q : State → Prop} {g : JFrame} (hN : s.heap.size + cl = fi_b Φ + sh.length) (hW : fi_W Φ sh M H) (hb : fi_b Φ ≤ s.heap.size) (hS : va_S (fi_A Φ) s.heap H locs) (k : H.size = fi_b Φ + sh.length → W p l e R s m args below meth c H locs cl sl Q g) : W p l e R s m args below meth c H locs cl sl Q g := fun T hT Xs => k (by rw [← hT]; exact fi_size hN (by rw [hT]; exact hW) Xs hb (by rw [hT]; exact hS.1)) T hT Xs
def NWk (own : String) (idx ci : Nat) : Prop := ∃ (C : String) (T : u_T) (N : Nat), vwCl[ci]? = some (C, T, N) ∧ Cond.classLink own idx C ∈ GW ∧ Cond.instantiable C N ∈ GW ∧ Cond.initialized C ∈ GW ∧ (∀ w ∈ u_ws C T N, w ∈ GW)
/-- the shape of a new object of class ci: its types tell which fields are ints -/
def blankF (ty : Nat → FieldType) (N : Nat) : List (Option (Option Nat)) := (List.range N).map (fun k => match ty k with
  | .int => none
  | _ => some none)
theorem V.new {idx ci N : Nat} {C : String} {T : u_T} {ty : Nat → FieldType} {fs : List (Option (Option Nat))} (hd : decode b pc = .ok (.new idx, 3)) (hc : vwCl[ci]? = some (C, T, N)) (hw : Cond.classLink y.cls idx C ∈ GW ∧ Cond.instantiable C N ∈ GW ∧ Cond.initialized C ∈ GW) (hin : ∀ w ∈ u_ws C T N, w ∈ GW) (hty : ∀ k, k < N → parseFieldDescriptor (T k).2.2.1 = some (ty k)) (hf : blankF ty N = fs) (hdv : ∀ k, k < N → ty k = .int ∨ defaultValue (ty k) = .null ∧ ty k ≠ .int)
    (hb0 : ∀ Φ : Fi, ∀ s : State, s.heap.size + cl = fi_b Φ + sh.length → fi_b Φ ≤ s.heap.size) (hR : cl + 1 ≤ R.cells ∧ sl + N ≤ R.slots) (hl : sh.length + 1 ≤ 1000)
    (kk : ∀ M1 : Mem, M1 = zero2 M sh.length → V X y b nL ret R l F (pc + 3) ls (.ref sh.length :: st) (sh ++ [(ci, N, fs)]) M1 (cl + 1) (sl + N)) : V X y b nL ret R l F pc ls st sh M cl sl := by
  intro Φ p e s m args below meth c H locs lsA hC hN hH hW hS hL
  have hts := hC.2.2.2.2.2.2.2.1
  have hK := hC.2.2.2.2.2.2.2.2.1
  refine fi_sized hN hW (hb0 Φ s hN) hS (fun hsz => ?_)
  have hKn := hK.1 ci _ hc
  have hA : ∀ q : Nat, s.heap.size ≤ q → fi_A Φ q := fun q hq => Nat.le_trans (hb0 Φ s hN) hq
  refine W.newcK hC.1 hC.2.1 hC.2.2.2.2.2.2.1 (hts _ hw.1) (hts _ hw.2.1) (hts _ hw.2.2) rfl hd hR.1 hR.2 hKn.2.1 hsz (fun H1 kC hkC e1 z1 o1 => ?_)
  have had : fi_ad Φ sh.length = fi_b Φ + sh.length := fi_ad_lt (by omega)
  show W p l e R s m args below meth c H1 locs (cl + 1) (sl + N) (F Φ below args s) (F0 m (pc + 3) lsA (.ref (fi_b Φ + sh.length) :: st.map (fi_v Φ)))
  rw [← had]
  refine kk _ rfl Φ p e s m args below meth c H1 locs lsA hC (by simp only [List.length_append, List.length_cons, List.length_nil]; omega) (by simp only [List.length_append, List.length_cons, List.length_nil]; omega) ?_ ⟨Nat.le_trans hS.1 (by omega), fun x h1 h2 => (o1 x (by have := hS.1; omega)).trans (hS.2.1 x h1 h2), hS.2.2⟩ hL
  have hk : ∀ (k : Nat) (x : Nat × va_E), (fi_ws Φ sh M)[k]? = some x → H1[x.1]? = H[x.1]? := fun k x hx => o1 x.1 (by rw [← hsz]; exact va_at.lt (hW k x hx))
  show va_P _ _ (fi_ws Φ (sh ++ [(ci, N, fs)]) (zero2 M sh.length)) H1
  rw [← fi_ws_push (Φ := Φ) (sh := sh) (M := M) (q := (ci, N, fs)) (fun j hj => zero2_ne M hj) rfl, zero2_at, fi_ent_obj (show ci < 20 from cl_lt hc)]
  refine (va_P.kept hW hk).app (fun k x hx => ?_)
  have hz : k < 1 := (List.getElem?_eq_some_iff.mp hx).1
  rw [show k = 0 by omega] at hx
  cases hx
  refine ⟨_, hc, (u_born ty hts hin hKn hkC e1 hty).to (fun j hj => ?_)⟩
  subst hf
  show defaultValue (ty j) = vp_V (fi_flds Φ (blankF ty N) (fun _ => 0)) j
  have e9 : (blankF ty N)[j]? = some (match ty j with
    | .int => none
    | _ => some none) := by simp [blankF, hj]
  rw [show vp_V (fi_flds Φ (blankF ty N) (fun _ => 0)) j = fi_fld Φ 0 _ by unfold vp_V; rw [List.getD_eq_getElem?_getD, fi_flds_at e9]; rfl]
  rcases hdv j hj with h | ⟨h, h2⟩
  · rw [h]; rfl
  · rw [h]
    cases hty9 : ty j <;> first | rfl | exact absurd hty9 h2
theorem V.newarr {at_ : ArrayType} {kd : Nat} {n : Int32} {N : Nat} (hd : decode b pc = .ok (.newarray at_, 2)) (hk : at_ = .int ∧ kd = 20 ∨ at_ = .byte ∧ kd = 21 ∨ at_ = .boolean ∧ kd = 22) (hw : Cond.arrayClass (newarray.typeOf at_) ∈ GW) (hn : ¬ n < 0) (hn2 : n.toNatClampNeg = N) (hN1 : N ≤ 1000)
    (hb0 : ∀ Φ : Fi, ∀ s : State, s.heap.size + cl = fi_b Φ + sh.length → fi_b Φ ≤ s.heap.size) (hR : cl + 1 ≤ R.cells ∧ sl + N ≤ R.slots) (hl : sh.length + 1 ≤ 1000)
    (kk : ∀ M1 : Mem, M1 = zero2 M sh.length → V X y b nL ret R l F (pc + 2) ls (.ref sh.length :: st) (sh ++ [(kd, N, [])]) M1 (cl + 1) (sl + N)) : V X y b nL ret R l F pc ls (.int n :: st) sh M cl sl := by
  intro Φ p e s m args below meth c H locs lsA hC hN hH hW hS hL
  have hts := hC.2.2.2.2.2.2.2.1
  have hK := hC.2.2.2.2.2.2.2.2.1
  refine fi_sized hN hW (hb0 Φ s hN) hS (fun hsz => ?_)
  refine va_newaK hC.1 hC.2.1 (hts _ hw) rfl hd rfl hn hn2 (by rcases hk with ⟨rfl, -⟩ | ⟨rfl, -⟩ | ⟨rfl, -⟩ <;> (simp [newarray.typeOf, componentBytes]; omega)) hR.1 hR.2 hsz (fun H1 cA e1 z1 o1 hAr hNm => ?_)
  have had : fi_ad Φ sh.length = fi_b Φ + sh.length := fi_ad_lt (by omega)
  show W p l e R s m args below meth c H1 locs (cl + 1) (sl + N) (F Φ below args s) (F0 m (pc + 2) lsA (.ref (fi_b Φ + sh.length) :: st.map (fi_v Φ)))
  rw [← had]
  refine kk _ rfl Φ p e s m args below meth c H1 locs lsA hC (by simp only [List.length_append, List.length_cons, List.length_nil]; omega) (by simp only [List.length_append, List.length_cons, List.length_nil]; omega) ?_ ⟨Nat.le_trans hS.1 (by omega), fun x h1 h2 => (o1 x (by have := hS.1; omega)).trans (hS.2.1 x h1 h2), hS.2.2⟩ hL
  have hkp : ∀ (k : Nat) (x : Nat × va_E), (fi_ws Φ sh M)[k]? = some x → H1[x.1]? = H[x.1]? := fun k x hx => o1 x.1 (by rw [← hsz]; exact va_at.lt (hW k x hx))
  have hkd : 20 ≤ kd ∧ kd < 23 := by omega
  show va_P _ _ (fi_ws Φ (sh ++ [(kd, N, [])]) (zero2 M sh.length)) H1
  rw [← fi_ws_push (Φ := Φ) (sh := sh) (M := M) (q := (kd, N, [])) (fun j hj => zero2_ne M hj) rfl, zero2_at, fi_ent_arr hkd.1 hkd.2]
  refine (va_P.kept hW hkp).app (fun k x hx => ?_)
  have hz : k < 1 := (List.getElem?_eq_some_iff.mp hx).1
  rw [show k = 0 by omega] at hx
  cases hx
  show H1[fi_b Φ + sh.length]? = some (vp_cell (fi_c Φ kd) (N, .inl (fun _ => 0)))
  rw [e1, vp_cell_i]
  rcases hk with ⟨rfl, rfl⟩ | ⟨rfl, rfl⟩ | ⟨rfl, rfl⟩
  · have h0 : s.vm.findClass _ = some (fi_c Φ 20) := (hK.2 0 _ (fi_tys_0 Φ)).2
    rw [Option.some.inj (hNm.symm.trans h0)]
    rfl
  · have h0 : s.vm.findClass _ = some (fi_c Φ 21) := (hK.2 1 _ (fi_tys_1 Φ)).2
    rw [Option.some.inj (hNm.symm.trans h0)]
    rfl
  · have h0 : s.vm.findClass _ = some (fi_c Φ 22) := (hK.2 2 _ (fi_tys_2 Φ)).2
    rw [Option.some.inj (hNm.symm.trans h0)]
    rfl
theorem V.objI {a idx : Nat} {own : String} (hd : decode b pc = .ok (.invokespecial idx, 3)) (ho : own = y.cls) (hw : Cond.methodLink own idx objectInit ∈ GW) (hi : Cond.instanceMethod objectInit ∈ GW) (hco : Cond.code objectInit ⟨#[0xb1]⟩ 1 none ∈ GW) (hR : 1 ≤ R.frames ∧ 20 ≤ R.locals) (hst : (st.map fun v => v.category).sum ≤ 8) (kk : V X y b nL ret R l F (pc + 3) ls st sh M cl sl) : V X y b nL ret R l F pc ls (.ref a :: st) sh M cl sl := by
  intro Φ p e s m args below meth c H locs lsA hC hN hH hW hS hL
  subst ho
  have hts := hC.2.2.2.2.2.2.2.1
  have hcat : ((st.map (fi_v Φ)).map fun v => v.category).sum = (st.map fun v => v.category).sum := by
    rw [List.map_map]
    exact congrArg List.sum (List.map_congr_left fun v _ => fi_cat hC.2.2.2.2.2.2.2.2.2.2.1 v)
  exact W.objInit hC.1 hC.2.1 hC.2.2.2.2.2.2.1 (hts _ hw) (hts _ hi) (hts _ hco) rfl (by show lsA.size = _; rw [hL.1, hC.2.2.1]) rfl hd hR.1 (by rw [hcat]; show 2 * 0 + _ + 12 ≤ _; omega) (kk Φ p e s m args below meth c H locs lsA hC hN hH hW hS hL)
/-! calls -/
theorem fi_after {Φ : Fi} {p : Program} {e : Env} {s : State} {m : MethodId} {args : Array Value} {below : List Frame} {meth : Method} {c : Code} {H : Heap} {locs : List Loc} {lsA : Array Slot} {mc ms : Nat} {st0 rest : List Value} {av : Array Value} {r : Option Value} {sh' : List Shp} {M' : Mem} {Q : State → Prop}
    (hr : va_Run p l e R s m args below meth c H locs cl sl mc ms (F0 m pc lsA st0) rest (QM Φ r sh' M' av) (fi_A Φ)) (hS : va_S (fi_A Φ) s.heap H locs)
    (kk : ∀ (H1 : Heap) (locs1 : List Loc), fi_W Φ sh' M' H1 → va_S (fi_A Φ) s.heap H1 locs1 → W p l e R s m args below meth c H1 locs1 (cl + mc) (sl + ms) Q (F0 m (pc + 3) lsA ((r.map (fi_v Φ)).toList ++ rest))) : W p l e R s m args below meth c H locs cl sl Q (F0 m pc lsA st0) := by
  intro T hT Xs
  obtain ⟨v, st₀, t, T', L, h0, X', hL, e1, e2, ⟨hv, hw, hz, hk⟩, sg⟩ := hr T hT Xs
  have hv2 : v = r.map (fi_v Φ) := by injection hv
  subst hv2
  rw [h0] at hz hk
  obtain ⟨t2, a1, b1⟩ := kk T'.heap (locs ++ L) (by rw [e1]; exact hw) ⟨Nat.le_trans hS.1 (by rw [e1]; exact hz), fun q h1 h2 => by rw [e1, hk q (Nat.lt_of_lt_of_le h1 hS.1) h2]; exact hS.2.1 q h1 h2, fun q hq => by
      rcases List.mem_append.mp hq with h | h
      · exact hS.2.2 q h
      · exact hL q h⟩ T' rfl X'
  exact ⟨t2, sg t2 a1, b1⟩
theorem fi_blind {Φ : Fi} {av : List Value} : FrameBlind (va_Pc av (fun U => fi_E X Φ U ∧ U.heap.size = fi_b Φ + sh.length ∧ sh.length ≤ 1000 ∧ fi_W Φ sh M U.heap)) := by
  intro a U g mk h
  exact ⟨h.1, fi_E.blind h.2.1 rfl rfl, h.2.2⟩
theorem fi_pre {Φ : Fi} {s U : State} {H : Heap} {locs : List Loc} {av : List Value} (hE : fi_E X Φ s) (hS : va_S (fi_A Φ) s.heap H locs) (hsz : H.size = fi_b Φ + sh.length) (hH : sh.length ≤ 1000) (hW : fi_W Φ sh M H) (hU : U.heap = H) (hw : s.WarmedH U.vm) : va_Pc av (fun U => fi_E X Φ U ∧ U.heap.size = fi_b Φ + sh.length ∧ sh.length ≤ 1000 ∧ fi_W Φ sh M U.heap) av.toArray U :=
  ⟨rfl, hE.to hw (by rw [hU]; exact hS), by rw [hU]; exact hsz, hH, by rw [hU]; exact hW⟩
def MX (y' : MethodName) (np : Nat) : Prop := y'.cls ≠ "java/lang/invoke/MethodHandle" ∧ y'.cls ≠ "java/lang/invoke/VarHandle" ∧ (parseMethodDescriptor y'.desc).map (fun d => d.parameters.length) = some np
variable {y' : MethodName} {b' : ByteArray} {n' np idx d' mc ms : Nat} {ret' : Option FieldType} {av stk : List Value} {r : Option Value} {sh' : List Shp} {M' : Mem}
theorem fi_good (hco : Cond.code y' b' n' ret' ∈ GW) : GoodIn GW (Cond.code y' b' n' ret' :: GW) := fun w h => by
  rcases List.mem_cons.mp h with rfl | h
  · exact gw_good _ hco
  · exact gw_good _ h
theorem fi_hw {Φ : Fi} {p : Program} {s : State} {m : MethodId} {args : Array Value} {meth : Method} {c : Code} (hC : fi_C X y b nL ret Φ p s m args meth c) {lsA : Array Slot} {stx : List Value} (h : (st.map fun v => v.category).sum ≤ 8) : 2 * (F0 m pc lsA stx).monitorRoom + ((st.map (fi_v Φ)).map fun v => v.category).sum ≤ 8 := by
  have hcat : ((st.map (fi_v Φ)).map fun v => v.category).sum = (st.map fun v => v.category).sum := by
    rw [List.map_map]
    exact congrArg List.sum (List.map_congr_left fun v _ => fi_cat hC.2.2.2.2.2.2.2.2.2.2.1 v)
  rw [hcat]
  show 2 * 0 + _ ≤ _
  omega
theorem V.invV {own : String} {a : Nat} {q : Shp} (hd : decode b pc = .ok (.invokevirtual idx, 3)) (ho : own = y.cls) (hw : Cond.methodLink own idx y' ∈ GW ∧ Cond.instanceMethod y' ∈ GW ∧ Cond.selects y'.cls y' y' ∈ GW ∧ Cond.initialized y'.cls ∈ GW ∧ Cond.code y' b' n' ret' ∈ GW ∧ MX y' np)
    (hM : Mt X l y' b' n' ret' d' mc ms (.ref a :: av) sh M r sh' M') (hst : stk = av.reverse ++ .ref a :: st) (hn : av.length = np) (hq : sh[a]? = some q) (hcl : (vwCl[q.1]?).map (·.1) = some y'.cls) (hR : d' + 1 ≤ R.frames ∧ 8 + (n' + 11) + 64 * d' ≤ R.locals) (hf : cl + mc ≤ R.cells ∧ sl + ms ≤ R.slots) (hs8 : (st.map fun v => v.category).sum ≤ 8) (hlen : sh'.length = sh.length + mc ∧ sh'.length ≤ 1000) (hb0 : ∀ Φ : Fi, ∀ s : State, s.heap.size + cl = fi_b Φ + sh.length → fi_b Φ ≤ s.heap.size)
    (kk : V X y b nL ret R l F (pc + 3) ls (r.toList ++ st) sh' M' (cl + mc) (sl + ms)) : V X y b nL ret R l F pc ls stk sh M cl sl := by
  intro Φ p e s m args below meth c H locs lsA hC hN hH hW hS hL
  subst ho
  subst hst
  have hts := hC.2.2.2.2.2.2.2.1
  have hE := hC.2.2.2.2.2.2.2.2
  refine fi_sized hN hW (hb0 Φ s hN) hS (fun hsz => ?_)
  have had : fi_ad Φ a = fi_b Φ + a := fi_ad_lt (by have := sh_lt hq; omega)
  have hrecv : ∃ cell : Cell, H[fi_ad Φ a]? = some cell ∧ cell.vm.isStatics = false ∧ s.vm.findClass y'.cls = some cell.cls := by
    rw [had]
    obtain ⟨⟨C, T, N⟩, hq1, hq2⟩ := Option.map_eq_some_iff.mp hcl
    have he := fi_ws_at (Φ := Φ) (M := M) hq
    rw [fi_ent_obj (cl_lt hq1)] at he
    have := va_recv hE.1 hW hq1 he
    rw [← hq2]
    exact this
  have hmap : (av.reverse ++ .ref a :: st).map (fi_v Φ) = (av.map (fi_v Φ)).reverse ++ .ref (fi_ad Φ a) :: st.map (fi_v Φ) := by simp [List.map_reverse, fi_v]
  rw [hmap] 
  refine fi_after (av := (Value.ref (fi_ad Φ a) :: av.map (fi_v Φ)).toArray) (rest := st.map (fi_v Φ)) (va_runV (own := y.cls) (C := y'.cls) (y := y') (As := av.map (fi_v Φ)) (b := fi_ad Φ a) (n := np) ⟨hC.1, hC.2.1, hC.2.2.1, hC.2.2.2.2.2.2.1, hts⟩ (hM Φ) ⟨callB_of np hts (fi_good hw.2.2.2.2.1) rfl rfl rfl (hts _ hw.2.2.2.1) (hts _ hw.1) hw.2.2.2.2.2 hR, hts _ hw.2.1, hts _ hw.2.2.1⟩ ⟨fi_blind, hrecv, fun U hU hwU => fi_pre hE hS hsz hH hW hU hwU⟩ rfl (by rw [List.length_map]; exact hn) hL.1 rfl (fi_hw hC hs8) hd hf) hS (fun H1 locs1 hW1 hS1 => ?_)
  have := kk Φ p e s m args below meth c H1 locs1 lsA hC (by omega) hlen.2 hW1 hS1 hL
  cases r <;> exact this
theorem V.invVN {own host : String} {a : Nat} {q : Shp} (hd : decode b pc = .ok (.invokevirtual idx, 3)) (ho : own = y.cls) (hnw : Cond.methodLinkNest own idx y' host ∈ NW) (hw : Cond.instanceMethod y' ∈ GW ∧ Cond.selects y'.cls y' y' ∈ GW ∧ Cond.initialized y'.cls ∈ GW ∧ Cond.code y' b' n' ret' ∈ GW ∧ MX y' np)
    (hM : Mt X l y' b' n' ret' d' mc ms (.ref a :: av) sh M r sh' M') (hst : stk = av.reverse ++ .ref a :: st) (hn : av.length = np) (hq : sh[a]? = some q) (hcl : (vwCl[q.1]?).map (·.1) = some y'.cls) (hR : d' + 1 ≤ R.frames ∧ 8 + (n' + 11) + 64 * d' ≤ R.locals) (hf : cl + mc ≤ R.cells ∧ sl + ms ≤ R.slots) (hs8 : (st.map fun v => v.category).sum ≤ 8) (hlen : sh'.length = sh.length + mc ∧ sh'.length ≤ 1000) (hb0 : ∀ Φ : Fi, ∀ s : State, s.heap.size + cl = fi_b Φ + sh.length → fi_b Φ ≤ s.heap.size)
    (kk : V X y b nL ret R l F (pc + 3) ls (r.toList ++ st) sh' M' (cl + mc) (sl + ms)) : V X y b nL ret R l F pc ls stk sh M cl sl := by
  intro Φ p e s m args below meth c H locs lsA hC hN hH hW hS hL
  subst ho
  subst hst
  have hts := hC.2.2.2.2.2.2.2.1
  have hE := hC.2.2.2.2.2.2.2.2
  refine fi_sized hN hW (hb0 Φ s hN) hS (fun hsz => ?_)
  have had : fi_ad Φ a = fi_b Φ + a := fi_ad_lt (by have := sh_lt hq; omega)
  have hrecv : ∃ cell : Cell, H[fi_ad Φ a]? = some cell ∧ cell.vm.isStatics = false ∧ s.vm.findClass y'.cls = some cell.cls := by
    rw [had]
    obtain ⟨⟨C, T, N⟩, hq1, hq2⟩ := Option.map_eq_some_iff.mp hcl
    have he := fi_ws_at (Φ := Φ) (M := M) hq
    rw [fi_ent_obj (cl_lt hq1)] at he
    have := va_recv hE.1 hW hq1 he
    rw [← hq2]
    exact this
  have hmap : (av.reverse ++ .ref a :: st).map (fi_v Φ) = (av.map (fi_v Φ)).reverse ++ .ref (fi_ad Φ a) :: st.map (fi_v Φ) := by simp [List.map_reverse, fi_v]
  rw [hmap] 
  refine fi_after (av := (Value.ref (fi_ad Φ a) :: av.map (fi_v Φ)).toArray) (rest := st.map (fi_v Φ)) (va_runVN (own := y.cls) (C := y'.cls) (y := y') (As := av.map (fi_v Φ)) (b := fi_ad Φ a) (n := np) ⟨hC.1, hC.2.1, hC.2.2.1, hC.2.2.2.2.2.2.1, hts⟩ (hM Φ) ⟨va_cnB np hts (fi_good hw.2.2.2.1) rfl rfl rfl (hE.2.1 _ hnw) (hts _ hw.2.2.1) hw.2.2.2.2 hR, hts _ hw.1, hts _ hw.2.1⟩ ⟨fi_blind, hrecv, fun U hU hwU => fi_pre hE hS hsz hH hW hU hwU⟩ rfl (by rw [List.length_map]; exact hn) hL.1 rfl (fi_hw hC hs8) hd hf) hS (fun H1 locs1 hW1 hS1 => ?_)
  have := kk Φ p e s m args below meth c H1 locs1 lsA hC (by omega) hlen.2 hW1 hS1 hL
  cases r <;> exact this
theorem V.invS {own : String} (hd : decode b pc = .ok (.invokestatic idx, 3)) (ho : own = y.cls) (hw : Cond.methodLink own idx y' ∈ GW ∧ Cond.static y' ∈ GW ∧ Cond.initialized y'.cls ∈ GW ∧ Cond.code y' b' n' ret' ∈ GW ∧ MX y' np)
    (hM : Mt X l y' b' n' ret' d' mc ms av sh M r sh' M') (hst : stk = av.reverse ++ st) (hn : av.length = np) (hR : d' + 1 ≤ R.frames ∧ 8 + (n' + 11) + 64 * d' ≤ R.locals) (hf : cl + mc ≤ R.cells ∧ sl + ms ≤ R.slots) (hs8 : (st.map fun v => v.category).sum ≤ 8) (hlen : sh'.length = sh.length + mc ∧ sh'.length ≤ 1000) (hb0 : ∀ Φ : Fi, ∀ s : State, s.heap.size + cl = fi_b Φ + sh.length → fi_b Φ ≤ s.heap.size)
    (kk : V X y b nL ret R l F (pc + 3) ls (r.toList ++ st) sh' M' (cl + mc) (sl + ms)) : V X y b nL ret R l F pc ls stk sh M cl sl := by
  intro Φ p e s m args below meth c H locs lsA hC hN hH hW hS hL
  subst ho
  subst hst
  have hts := hC.2.2.2.2.2.2.2.1
  have hE := hC.2.2.2.2.2.2.2.2
  refine fi_sized hN hW (hb0 Φ s hN) hS (fun hsz => ?_)
  have hmap : (av.reverse ++ st).map (fi_v Φ) = (av.map (fi_v Φ)).reverse ++ st.map (fi_v Φ) := by simp [List.map_reverse]
  rw [hmap]
  refine fi_after (av := (av.map (fi_v Φ)).toArray) (rest := st.map (fi_v Φ)) (va_runS (own := y.cls) (y := y') (As := av.map (fi_v Φ)) (n := np) ⟨hC.1, hC.2.1, hC.2.2.1, hC.2.2.2.2.2.2.1, hts⟩ (hM Φ) ⟨callB_of np hts (fi_good hw.2.2.2.1) rfl rfl rfl (hts _ hw.2.2.1) (hts _ hw.1) hw.2.2.2.2 hR, hts _ hw.2.1⟩ ⟨fi_blind, fun U hU hwU => fi_pre hE hS hsz hH hW hU hwU⟩ rfl (by rw [List.length_map]; exact hn) hL.1 rfl (fi_hw hC hs8) hd hf) hS (fun H1 locs1 hW1 hS1 => ?_)
  have := kk Φ p e s m args below meth c H1 locs1 lsA hC (by omega) hlen.2 hW1 hS1 hL
  cases r <;> exact this
theorem V.invSN {own host : String} (hd : decode b pc = .ok (.invokestatic idx, 3)) (ho : own = y.cls) (hnw : Cond.methodLinkNest own idx y' host ∈ NW) (hw : Cond.static y' ∈ GW ∧ Cond.initialized y'.cls ∈ GW ∧ Cond.code y' b' n' ret' ∈ GW ∧ MX y' np)
    (hM : Mt X l y' b' n' ret' d' mc ms av sh M r sh' M') (hst : stk = av.reverse ++ st) (hn : av.length = np) (hR : d' + 1 ≤ R.frames ∧ 8 + (n' + 11) + 64 * d' ≤ R.locals) (hf : cl + mc ≤ R.cells ∧ sl + ms ≤ R.slots) (hs8 : (st.map fun v => v.category).sum ≤ 8) (hlen : sh'.length = sh.length + mc ∧ sh'.length ≤ 1000) (hb0 : ∀ Φ : Fi, ∀ s : State, s.heap.size + cl = fi_b Φ + sh.length → fi_b Φ ≤ s.heap.size)
    (kk : V X y b nL ret R l F (pc + 3) ls (r.toList ++ st) sh' M' (cl + mc) (sl + ms)) : V X y b nL ret R l F pc ls stk sh M cl sl := by
  intro Φ p e s m args below meth c H locs lsA hC hN hH hW hS hL
  subst ho
  subst hst
  have hts := hC.2.2.2.2.2.2.2.1
  have hE := hC.2.2.2.2.2.2.2.2
  refine fi_sized hN hW (hb0 Φ s hN) hS (fun hsz => ?_)
  have hmap : (av.reverse ++ st).map (fi_v Φ) = (av.map (fi_v Φ)).reverse ++ st.map (fi_v Φ) := by simp [List.map_reverse]
  rw [hmap]
  refine fi_after (av := (av.map (fi_v Φ)).toArray) (rest := st.map (fi_v Φ)) (va_runSN (own := y.cls) (y := y') (As := av.map (fi_v Φ)) (n := np) ⟨hC.1, hC.2.1, hC.2.2.1, hC.2.2.2.2.2.2.1, hts⟩ (hM Φ) ⟨va_cnB np hts (fi_good hw.2.2.1) rfl rfl rfl (hE.2.1 _ hnw) (hts _ hw.2.1) hw.2.2.2 hR, hts _ hw.1, trivial⟩ ⟨fi_blind, fun U hU hwU => fi_pre hE hS hsz hH hW hU hwU⟩ rfl (by rw [List.length_map]; exact hn) hL.1 rfl (fi_hw hC hs8) hd hf) hS (fun H1 locs1 hW1 hS1 => ?_)
  have := kk Φ p e s m args below meth c H1 locs1 lsA hC (by omega) hlen.2 hW1 hS1 hL
  cases r <;> exact this
theorem V.invI {own : String} {a : Nat} (hd : decode b pc = .ok (.invokespecial idx, 3)) (ho : own = y.cls) (hw : Cond.methodLink own idx y' ∈ GW ∧ Cond.instanceMethod y' ∈ GW ∧ Cond.initialized y'.cls ∈ GW ∧ Cond.code y' b' n' none ∈ GW ∧ MX y' np) (hin : y'.name = "<init>")
    (hM : Mt X l y' b' n' none d' mc ms (.ref a :: av) sh M r sh' M') (hst : stk = av.reverse ++ .ref a :: st) (hn : av.length = np) (hR : d' + 1 ≤ R.frames ∧ 8 + (n' + 11) + 64 * d' ≤ R.locals) (hf : cl + mc ≤ R.cells ∧ sl + ms ≤ R.slots) (hs8 : (st.map fun v => v.category).sum ≤ 8) (hlen : sh'.length = sh.length + mc ∧ sh'.length ≤ 1000) (hb0 : ∀ Φ : Fi, ∀ s : State, s.heap.size + cl = fi_b Φ + sh.length → fi_b Φ ≤ s.heap.size)
    (kk : V X y b nL ret R l F (pc + 3) ls (r.toList ++ st) sh' M' (cl + mc) (sl + ms)) : V X y b nL ret R l F pc ls stk sh M cl sl := by
  intro Φ p e s m args below meth c H locs lsA hC hN hH hW hS hL
  subst ho
  subst hst
  have hts := hC.2.2.2.2.2.2.2.1
  have hE := hC.2.2.2.2.2.2.2.2
  refine fi_sized hN hW (hb0 Φ s hN) hS (fun hsz => ?_)
  have hmap : (av.reverse ++ .ref a :: st).map (fi_v Φ) = (av.map (fi_v Φ)).reverse ++ .ref (fi_ad Φ a) :: st.map (fi_v Φ) := by simp [List.map_reverse, fi_v]
  rw [hmap]
  refine fi_after (av := (Value.ref (fi_ad Φ a) :: av.map (fi_v Φ)).toArray) (rest := st.map (fi_v Φ)) (va_runI (own := y.cls) (y := y') (As := av.map (fi_v Φ)) (b := fi_ad Φ a) (n := np) ⟨hC.1, hC.2.1, hC.2.2.1, hC.2.2.2.2.2.2.1, hts⟩ (hM Φ) (cwI np hts (fi_good hw.2.2.2.1) rfl rfl rfl (hts _ hw.2.2.1) (hts _ hw.1) (hts _ hw.2.1) hin hw.2.2.2.2 hR) ⟨fi_blind, fun U hU hwU => fi_pre hE hS hsz hH hW hU hwU⟩ rfl (by rw [List.length_map]; exact hn) hL.1 rfl (fi_hw hC hs8) hd hf) hS (fun H1 locs1 hW1 hS1 => ?_)
  have := kk Φ p e s m args below meth c H1 locs1 lsA hC (by omega) hlen.2 hW1 hS1 hL
  cases r <;> exact this
theorem V.invIN {own host : String} {a : Nat} (hd : decode b pc = .ok (.invokespecial idx, 3)) (ho : own = y.cls) (hnw : Cond.methodLinkNest own idx y' host ∈ NW) (hw : Cond.instanceMethod y' ∈ GW ∧ Cond.initialized y'.cls ∈ GW ∧ Cond.code y' b' n' none ∈ GW ∧ MX y' np) (hin : y'.name = "<init>")
    (hM : Mt X l y' b' n' none d' mc ms (.ref a :: av) sh M r sh' M') (hst : stk = av.reverse ++ .ref a :: st) (hn : av.length = np) (hR : d' + 1 ≤ R.frames ∧ 8 + (n' + 11) + 64 * d' ≤ R.locals) (hf : cl + mc ≤ R.cells ∧ sl + ms ≤ R.slots) (hs8 : (st.map fun v => v.category).sum ≤ 8) (hlen : sh'.length = sh.length + mc ∧ sh'.length ≤ 1000) (hb0 : ∀ Φ : Fi, ∀ s : State, s.heap.size + cl = fi_b Φ + sh.length → fi_b Φ ≤ s.heap.size)
    (kk : V X y b nL ret R l F (pc + 3) ls (r.toList ++ st) sh' M' (cl + mc) (sl + ms)) : V X y b nL ret R l F pc ls stk sh M cl sl := by
  intro Φ p e s m args below meth c H locs lsA hC hN hH hW hS hL
  subst ho
  subst hst
  have hts := hC.2.2.2.2.2.2.2.1
  have hE := hC.2.2.2.2.2.2.2.2
  refine fi_sized hN hW (hb0 Φ s hN) hS (fun hsz => ?_)
  have hmap : (av.reverse ++ .ref a :: st).map (fi_v Φ) = (av.map (fi_v Φ)).reverse ++ .ref (fi_ad Φ a) :: st.map (fi_v Φ) := by simp [List.map_reverse, fi_v]
  rw [hmap]
  refine fi_after (av := (Value.ref (fi_ad Φ a) :: av.map (fi_v Φ)).toArray) (rest := st.map (fi_v Φ)) (va_runIN (own := y.cls) (y := y') (As := av.map (fi_v Φ)) (b := fi_ad Φ a) (n := np) ⟨hC.1, hC.2.1, hC.2.2.1, hC.2.2.2.2.2.2.1, hts⟩ (hM Φ) ⟨va_cnB np hts (fi_good hw.2.2.1) rfl rfl rfl (hE.2.1 _ hnw) (hts _ hw.2.1) hw.2.2.2 hR, hin, hts _ hw.1⟩ ⟨fi_blind, fun U hU hwU => fi_pre hE hS hsz hH hW hU hwU⟩ rfl (by rw [List.length_map]; exact hn) hL.1 rfl (fi_hw hC hs8) hd hf) hS (fun H1 locs1 hW1 hS1 => ?_)
  have := kk Φ p e s m args below meth c H1 locs1 lsA hC (by omega) hlen.2 hW1 hS1 hL
  cases r <;> exact this
/-! a method's end, its whole -/
theorem V.iret {x : Int32} {rt : FieldType} (hd : decode b pc = .ok (.ireturn, 1)) (hr : ret = some rt) (hx : narrow rt (.int x) = .int x) : V X y b nL ret R l (FM (some (.int x)) sh M cl sl) pc ls [.int x] sh M cl sl := by
  intro Φ p e s m args below meth c H locs lsA hC hN hH hW hS hL
  exact W.zret hC.1 hC.2.1 (hC.2.2.2.1.trans hr) hx (fun t ht hWt => ⟨rfl, by rw [ht]; exact hW, hS.F ht⟩) hS.2.2 hd hC.2.2.2.2.1
theorem V.vret (hd : decode b pc = .ok (.return_, 1)) (hr : ret = none) : V X y b nL ret R l (FM none sh M cl sl) pc ls [] sh M cl sl := by
  intro Φ p e s m args below meth c H locs lsA hC hN hH hW hS hL
  exact W.vret hC.1 hC.2.1 (hC.2.2.2.1.trans hr) (fun t ht hWt => ⟨rfl, by rw [ht]; exact hW, hS.F ht⟩) hS.2.2 hd hC.2.2.2.2.1
theorem V.aret {a : Nat} {rt : FieldType} (hd : decode b pc = .ok (.areturn, 1)) (hr : ret = some rt) (hrt : (∃ n, rt = .object n) ∨ ∃ t, rt = .array t) : V X y b nL ret R l (FM (some (.ref a)) sh M cl sl) pc ls [.ref a] sh M cl sl := by
  intro Φ p e s m args below meth c H locs lsA hC hN hH hW hS hL
  exact W.aret (v := .ref (fi_ad Φ a)) hC.1 hC.2.1 (hC.2.2.2.1.trans hr) hrt (Or.inr ⟨_, rfl⟩) (fun t ht hWt => ⟨rfl, by rw [ht]; exact hW, hS.F ht⟩) hS.2.2 hd hC.2.2.2.2.1
theorem Mt.ofV {d : Nat} (hy : plainName y.cls = true) (hl : (lg_sl av).length ≤ nL) (h : V X y b nL ret (rmD d mc ms) l (FM r sh' M' mc ms) 0 (fi_args nL av) [] sh M 0 0) : Mt X l y b nL ret d mc ms av sh M r sh' M' := by
  intro Φ
  refine Met.ofW (cc := b) (maxL := nL) (ret := ret) hy rfl ?_
  intro p e s m args below meth c s₁ B hml hv
  obtain ⟨rfl, hE, hsz, hH, hW⟩ := hv
  have hts := atoms_spec (ws := Cond.code y b nL ret :: GW) B.pre
  have hS : va_S (fi_A Φ) s.heap s.heap [] := va_S.rf
  have hle := lv_entry (av.map (fi_v Φ)) (n := nL) (by rw [fi_sl_len hE.2.2.1]; exact hl)
  rw [lg_entry_eq]
  exact h Φ p e s m _ below meth c s.heap [] _ ⟨B.exec, B.bytes, hml, B.returns, B.notSynchronized, (name_of_methodNamed B.named B.method).1, findClass_of_methodNamed B.named, fun w hw => hts w (List.mem_cons_of_mem _ hw), hE⟩ hsz hH hW hS (fi_L.entry hE.2.2.1 hle)
theorem Mt.cast {d : Nat} {r2 : Option Value} {sh2 : List Shp} {M2 : Mem} (h : Mt X l y b nL ret d mc ms av sh M r sh' M') (h1 : r = r2) (h2 : sh' = sh2) (h3 : M' = M2) : Mt X l y b nL ret d mc ms av sh M r2 sh2 M2 := by subst h1; subst h2; subst h3; exact h
end VR4
