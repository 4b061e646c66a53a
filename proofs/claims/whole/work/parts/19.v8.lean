/-! rows of rows -/
def zeroN (M : Mem) (a n : Nat) : Mem := fun a' k' => if a ≤ a' ∧ a' < a + n then 0 else M a' k'
def mnaS (L N K : Nat) : List Shp := (23, N, (List.range N).map (fun j => some (some (L + 1 + j)))) :: List.replicate N (20, K, [])
theorem mna_outer (c : ClassId) (N h0 : Nat) : ∀ i : Nat, Jvm.Free.Multi.outerC c N h0 i = arrV c N (fun j => va_rf (if j < i then some (h0 + 1 + j) else none))
  | 0 => by
    show ({ cls := c, slots := Array.replicate N .null, vm := .none } : Cell) = _
    rw [arrV_new]
    refine congrArg (arrV c N) (funext fun j => ?_)
    simp [va_rf]
  | i + 1 => by
    show (Jvm.Free.Multi.outerC c N h0 i).setSlot i (.ref (h0 + 1 + i)) = _
    rw [mna_outer c N h0 i, arrV_store]
    refine congrArg (arrV c N) (funext fun j => ?_)
    by_cases e : j = i
    · subst e
      simp [updV, va_rf]
    · by_cases h : j < i
      · simp [updV, e, h, Nat.lt_succ_of_lt h]
      · simp [updV, e, h, show ¬ j < i + 1 by omega]
section VR8
variable {X : Sc} {y : MethodName} {b : ByteArray} {nL : Nat} {ret : Option FieldType} {R : Room} {l : Launch} {F : Fi → List Frame → Array Value → State → State → Prop}
variable {pc : Nat} {ls : List (Option Value)} {st : List Value} {sh : List Shp} {M : Mem} {cl sl : Nat}
theorem V.mna {idx N K : Nat} {n k : Int32} (hd : decode b pc = .ok (.multianewarray idx 2, 4)) (hw : Cond.classLink y.cls idx "[[I" ∈ GW) (hov : Cond.arrayOver (.array .int) ∈ NW) (hac : Cond.arrayClass .int ∈ GW) (hn : ¬ n < 0) (hk : ¬ k < 0) (hN1 : n.toNatClampNeg = N) (hK1 : k.toNatClampNeg = K) (hb : N ≤ 1000 ∧ K ≤ 1000)
    (hb0 : ∀ Φ : Fi, ∀ s : State, s.heap.size + cl = fi_b Φ + sh.length → fi_b Φ ≤ s.heap.size) (hR : cl + (1 + N) ≤ R.cells ∧ sl + (N + N * K) ≤ R.slots) (hl : sh.length + 1 + N ≤ 1000)
    (kk : ∀ M1 : Mem, M1 = zeroN M sh.length (N + 1) → V X y b nL ret R l F (pc + 4) ls (.ref sh.length :: st) (sh ++ mnaS sh.length N K) M1 (cl + 1 + N) (sl + N + N * K)) : V X y b nL ret R l F pc ls (.int k :: .int n :: st) sh M cl sl := by
  intro Φ p e s m args below meth c H locs lsA hC hN hH hW hS hL
  have hts := hC.2.2.2.2.2.2.2.1
  have hE := hC.2.2.2.2.2.2.2.2
  have hK := hE.1
  subst hN1
  subst hK1
  refine fi_sized hN hW (hb0 Φ s hN) hS (fun hsz => ?_)
  intro T hT Xs
  have hover : (Cond.arrayOver (.array .int)).before args s = true := hE.2.1 _ hov
  obtain ⟨vm₁, cA, comp, -, fA, fC, -, -, X', step⟩ := Xs.multianewarray2F hC.1 hC.2.2.2.2.2.2.1 (ty := .int) (hts _ hw) hover (hts _ hac) (g := F0 m pc lsA (.int k :: .int n :: st.map (fi_v Φ))) rfl (by rw [hC.2.1]; exact hd) rfl hn hk (by omega) (by show _ * 4 ≤ _; omega) (by omega) rfl rfl hR.1 hR.2
  have ec : comp = fi_c Φ 20 := Option.some.inj (fC.symm.trans (hK.2 0 _ (fi_tys_0 Φ)).2)
  have eA : cA = fi_c Φ 23 := Option.some.inj (fA.symm.trans (hK.2 3 _ (fi_tys_3 Φ)).2)
  subst ec
  subst eA
  generalize hF : Jvm.Free.Multi.fill (T.setVm vm₁) (fi_c Φ 23) (fi_c Φ 20) n.toNatClampNeg k.toNatClampNeg (defaultValue .int) n.toNatClampNeg = FS at X' step
  have hTh : (T.setVm vm₁).heap = H := hT
  obtain ⟨f1, f2, -, -⟩ := Jvm.Free.Multi.fill_facts (T.setVm vm₁) (fi_c Φ 23) (fi_c Φ 20) n.toNatClampNeg k.toNatClampNeg (defaultValue .int) n.toNatClampNeg
  rw [hF, hTh] at f1 f2
  have hold : ∀ x : Nat, x < H.size → FS.heap[x]? = H[x]? := fun x hx => by
    have := Jvm.Free.Multi.fill_old (T.setVm vm₁) (fi_c Φ 23) (fi_c Φ 20) n.toNatClampNeg k.toNatClampNeg (defaultValue .int) (a := x) (by rw [hTh]; exact hx) n.toNatClampNeg
    rw [hF, hTh] at this
    exact this
  have hrow : ∀ j : Nat, j < n.toNatClampNeg → FS.heap[H.size + 1 + j]? = some (Jvm.Free.Multi.innerC (fi_c Φ 20) k.toNatClampNeg (defaultValue .int)) := fun j hj => by
    have := Jvm.Free.Multi.fill_inner (T.setVm vm₁) (fi_c Φ 23) (fi_c Φ 20) n.toNatClampNeg k.toNatClampNeg (defaultValue .int) n.toNatClampNeg j hj
    rw [hF, hTh] at this
    exact this
  rw [mna_outer] at f2
  have had : fi_ad Φ sh.length = fi_b Φ + sh.length := fi_ad_lt (by omega)
  have hlen : (sh ++ mnaS sh.length n.toNatClampNeg k.toNatClampNeg).length = sh.length + 1 + n.toNatClampNeg := by
    simp [mnaS]
    omega
  have hW1 : fi_W Φ (sh ++ mnaS sh.length n.toNatClampNeg k.toNatClampNeg) (zeroN M sh.length (n.toNatClampNeg + 1)) FS.heap := by
    intro j x hx
    obtain ⟨q, hq, rfl⟩ := fi_ws_inv hx
    by_cases h1 : j < sh.length
    · rw [List.getElem?_append_left h1] at hq
      have hm : zeroN M sh.length (n.toNatClampNeg + 1) j = M j := by
        funext i
        simp [zeroN, show ¬ sh.length ≤ j by omega]
      rw [hm]
      exact (hW j _ (fi_ws_at hq)).kept (hold _ (by rw [hsz]; show fi_b Φ + j < _; omega))
    · rw [List.getElem?_append_right (by omega)] at hq
      have hj : j < sh.length + 1 + n.toNatClampNeg := by
        have h2 := (List.getElem?_eq_some_iff.mp hq).1
        simp [mnaS] at h2
        omega
      have hm : zeroN M sh.length (n.toNatClampNeg + 1) j = fun _ => 0 := by
        funext i
        simp [zeroN, show sh.length ≤ j by omega, show j < sh.length + (n.toNatClampNeg + 1) by omega]
      rw [hm]
      by_cases h2 : j = sh.length
      · subst h2
        rw [Nat.sub_self] at hq
        have hq2 : q = (23, n.toNatClampNeg, (List.range n.toNatClampNeg).map (fun j => some (some (sh.length + 1 + j)))) := by
          simpa [mnaS] using hq.symm
        subst hq2
        rw [fi_ent_arq (Nat.le_of_ble_eq_true rfl)]
        show FS.heap[fi_b Φ + sh.length]? = some (vp_cell (fi_c Φ 23) (n.toNatClampNeg, _))
        rw [vp_cell_q, ← hsz, f2]
        refine congrArg some (congrArg (arrV _ _) (funext fun i => congrArg va_rf ?_))
        by_cases hi : i < n.toNatClampNeg
        · rw [if_pos hi]
          show some (H.size + 1 + i) = (((((List.range n.toNatClampNeg).map (fun j => some (some (sh.length + 1 + j))))[i]?).join).join).map (fi_ad Φ)
          rw [List.getElem?_map, List.getElem?_range hi]
          show some (H.size + 1 + i) = some (fi_ad Φ (sh.length + 1 + i))
          rw [fi_ad_lt (by omega), hsz]
          congr 1
          omega
        · rw [if_neg hi]
          show none = (((((List.range n.toNatClampNeg).map (fun j => some (some (sh.length + 1 + j))))[i]?).join).join).map (fi_ad Φ)
          rw [List.getElem?_map, List.getElem?_eq_none (by simp; omega)]
          rfl
      · obtain ⟨i, rfl⟩ : ∃ i, j = sh.length + 1 + i := ⟨j - sh.length - 1, by omega⟩
        have hi : i < n.toNatClampNeg := by omega
        rw [show sh.length + 1 + i - sh.length = i + 1 by omega] at hq
        have hq2 : q = (20, k.toNatClampNeg, []) := by
          simp [mnaS, hi] at hq
          exact hq.symm
        subst hq2
        rw [fi_ent_arr (Nat.le_of_ble_eq_true rfl) (Nat.le_of_ble_eq_true rfl)]
        show FS.heap[fi_b Φ + (sh.length + 1 + i)]? = some (vp_cell (fi_c Φ 20) (k.toNatClampNeg, .inl (fun _ => 0)))
        rw [vp_cell_i, show fi_b Φ + (sh.length + 1 + i) = H.size + 1 + i by omega, hrow i hi]
        show some ({ cls := fi_c Φ 20, slots := Array.replicate k.toNatClampNeg (.int 0), vm := .none } : Cell) = _
        rw [arrV_new]
  have hk2 := kk _ rfl Φ p e s m args below meth c FS.heap locs lsA hC (by rw [hlen]; omega) (by rw [hlen]; omega) hW1 ⟨by rw [f1]; have := hS.1; omega, fun x h1 h2 => (hold x (Nat.lt_of_lt_of_le h1 hS.1)).trans (hS.2.1 x h1 h2), hS.2.2⟩ hL
  obtain ⟨t, a1, b1⟩ := hk2 FS rfl X'
  refine ⟨t, step t ?_, b1⟩
  have e9 : T.heap.size = fi_b Φ + sh.length := by rw [hT]; exact hsz
  rw [e9]
  have a2 : Steps p.tables e below (FS.setTop (F0 m (pc + 4) lsA (.ref (fi_ad Φ sh.length) :: st.map (fi_v Φ)))) t := a1
  rw [had] at a2
  exact a2
end VR8
