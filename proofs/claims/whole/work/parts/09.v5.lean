/-! how the methods are told as functions: None is where a row would be left, or a bound be passed -/
theorem setM_at {α : Type} {M : Mem} {a k : Nat} {x : Int32} {g : Mem → Option α} {r : α} (h : setM M a k x g = some r) (M1 : Mem) (h1 : M1 = upd2 M a k x) : g M1 = some r := by subst h1; exact h
theorem cpyM_at {α : Type} {M : Mem} {a sp d dp n : Nat} {g : Mem → Option α} {r : α} (h : cpyM M a sp d dp n g = some r) (M1 : Mem) (h1 : M1 = cpy2 M a sp d dp n) : g M1 = some r := by subst h1; exact h
theorem nmI_at {α : Type} {x : Int32} {g : Int32 → Option α} {r : α} (h : nmI x g = some r) (x1 : Int32) (h1 : x1 = x) : g x1 = some r := by subst h1; exact h
theorem nmL_at {α : Type} {x : Int64} {g : Int64 → Option α} {r : α} (h : nmL x g = some r) (x1 : Int64) (h1 : x1 = x) : g x1 = some r := by subst h1; exact h
theorem bnd_s {α β : Type} {o : Option β} {g : β → Option α} {r : α} (h : bnd o g = some r) : ∃ v, o = some v ∧ g v = some r := by
  cases o with
  | none => cases h
  | some v => exact ⟨v, rfl, h⟩
theorem bnd2_s {α β : Type} {o : Option (β × Mem)} {g : β → Mem → Option α} {r : α} (h : bnd2 o g = some r) : ∃ v M1, o = some (v, M1) ∧ g v M1 = some r := by
  cases o with
  | none => cases h
  | some v => exact ⟨v.1, v.2, rfl, h⟩
theorem ite_t {α : Type} {c : Prop} [Decidable c] {a b : Option α} {r : α} (hc : c) (h : (if c then a else b) = some r) : a = some r := by rw [if_pos hc] at h; exact h
theorem ite_f {α : Type} {c : Prop} [Decidable c] {a b : Option α} {r : α} (hc : ¬ c) (h : (if c then a else b) = some r) : b = some r := by rw [if_neg hc] at h; exact h
theorem ite_n {α : Type} {c : Prop} [Decidable c] {a : Option α} {r : α} (h : (if c then a else none) = some r) : c ∧ a = some r := by
  by_cases hc : c
  · rw [if_pos hc] at h; exact ⟨hc, h⟩
  · rw [if_neg hc] at h; cases h
theorem ite_z {α : Type} {c : Prop} [Decidable c] {a : Option α} {r : α} (h : (if c then none else a) = some r) : ¬ c ∧ a = some r := by
  by_cases hc : c
  · rw [if_pos hc] at h; cases h
  · rw [if_neg hc] at h; exact ⟨hc, h⟩
theorem vp_of {i : Int32} {n : Nat} (h : inb i n = true) : vp_in i n := by
  simp only [inb, Bool.and_eq_true, decide_eq_true_eq] at h
  exact vp_in_iff.mpr h
theorem i32_lit {x c : Int32} {k : Int} (h : ¬ x = c) (hk : c.toInt = k) : ¬ x.toInt = k := lv_neT h hk
section VR5
variable {X : Sc} {y : MethodName} {b : ByteArray} {nL : Nat} {ret : Option FieldType} {R : Room} {l : Launch} {F : Fi → List Frame → Array Value → State → State → Prop}
variable {pc : Nat} {ls : List (Option Value)} {st : List Value} {sh : List Shp} {M M' : Mem} {y' : MethodName} {b' : ByteArray} {n' np idx d' : Nat} {ret' : Option FieldType} {av stk : List Value} {own host : String} {a : Nat} {q : Shp} {cl sl : Nat}
theorem hb_0 {Φ : Fi} {s : State} (h : s.heap.size + 0 = fi_b Φ + sh.length) : fi_b Φ ≤ s.heap.size := by omega
theorem V.cVi {v : Int32} (hd : decode b pc = .ok (.invokevirtual idx, 3)) (ho : own = y.cls) (hw : Cond.methodLink own idx y' ∈ GW ∧ Cond.instanceMethod y' ∈ GW ∧ Cond.selects y'.cls y' y' ∈ GW ∧ Cond.initialized y'.cls ∈ GW ∧ Cond.code y' b' n' ret' ∈ GW ∧ MX y' np) (hM : Mt X l y' b' n' ret' d' 0 0 (.ref a :: av) sh M (some (.int v)) sh M') (hst : stk = av.reverse ++ .ref a :: st) (hn : av.length = np) (hq : sh[a]? = some q) (hcl : (vwCl[q.1]?).map (·.1) = some y'.cls) (hR : d' + 1 ≤ R.frames ∧ 8 + (n' + 11) + 64 * d' ≤ R.locals) (hf : cl ≤ R.cells ∧ sl ≤ R.slots) (hs8 : (st.map fun v => v.category).sum ≤ 8) (hcl9 : cl ≤ sh.length)
    (kk : V X y b nL ret R l F (pc + 3) ls (.int v :: st) sh M' cl sl) : V X y b nL ret R l F pc ls stk sh M cl sl := by
  intro Φ p e s m args below meth c H locs lsA hC hN hH hW hS hL
  exact V.invV hd ho hw hM hst hn hq hcl hR hf hs8 ⟨rfl, hH⟩ (fun Φ s h => by have := hcl9; omega) kk Φ p e s m args below meth c H locs lsA hC hN hH hW hS hL
theorem V.cVv (hd : decode b pc = .ok (.invokevirtual idx, 3)) (ho : own = y.cls) (hw : Cond.methodLink own idx y' ∈ GW ∧ Cond.instanceMethod y' ∈ GW ∧ Cond.selects y'.cls y' y' ∈ GW ∧ Cond.initialized y'.cls ∈ GW ∧ Cond.code y' b' n' ret' ∈ GW ∧ MX y' np) (hM : Mt X l y' b' n' ret' d' 0 0 (.ref a :: av) sh M none sh M') (hst : stk = av.reverse ++ .ref a :: st) (hn : av.length = np) (hq : sh[a]? = some q) (hcl : (vwCl[q.1]?).map (·.1) = some y'.cls) (hR : d' + 1 ≤ R.frames ∧ 8 + (n' + 11) + 64 * d' ≤ R.locals) (hf : cl ≤ R.cells ∧ sl ≤ R.slots) (hs8 : (st.map fun v => v.category).sum ≤ 8) (hcl9 : cl ≤ sh.length)
    (kk : V X y b nL ret R l F (pc + 3) ls st sh M' cl sl) : V X y b nL ret R l F pc ls stk sh M cl sl := by
  intro Φ p e s m args below meth c H locs lsA hC hN hH hW hS hL
  exact V.invV hd ho hw hM hst hn hq hcl hR hf hs8 ⟨rfl, hH⟩ (fun Φ s h => by have := hcl9; omega) kk Φ p e s m args below meth c H locs lsA hC hN hH hW hS hL
theorem V.cVr {v : Nat} (hd : decode b pc = .ok (.invokevirtual idx, 3)) (ho : own = y.cls) (hw : Cond.methodLink own idx y' ∈ GW ∧ Cond.instanceMethod y' ∈ GW ∧ Cond.selects y'.cls y' y' ∈ GW ∧ Cond.initialized y'.cls ∈ GW ∧ Cond.code y' b' n' ret' ∈ GW ∧ MX y' np) (hM : Mt X l y' b' n' ret' d' 0 0 (.ref a :: av) sh M (some (.ref v)) sh M') (hst : stk = av.reverse ++ .ref a :: st) (hn : av.length = np) (hq : sh[a]? = some q) (hcl : (vwCl[q.1]?).map (·.1) = some y'.cls) (hR : d' + 1 ≤ R.frames ∧ 8 + (n' + 11) + 64 * d' ≤ R.locals) (hf : cl ≤ R.cells ∧ sl ≤ R.slots) (hs8 : (st.map fun v => v.category).sum ≤ 8) (hcl9 : cl ≤ sh.length)
    (kk : V X y b nL ret R l F (pc + 3) ls (.ref v :: st) sh M' cl sl) : V X y b nL ret R l F pc ls stk sh M cl sl := by
  intro Φ p e s m args below meth c H locs lsA hC hN hH hW hS hL
  exact V.invV hd ho hw hM hst hn hq hcl hR hf hs8 ⟨rfl, hH⟩ (fun Φ s h => by have := hcl9; omega) kk Φ p e s m args below meth c H locs lsA hC hN hH hW hS hL
theorem V.cVNi {v : Int32} (hd : decode b pc = .ok (.invokevirtual idx, 3)) (ho : own = y.cls) (hnw : Cond.methodLinkNest own idx y' host ∈ NW) (hw : Cond.instanceMethod y' ∈ GW ∧ Cond.selects y'.cls y' y' ∈ GW ∧ Cond.initialized y'.cls ∈ GW ∧ Cond.code y' b' n' ret' ∈ GW ∧ MX y' np) (hM : Mt X l y' b' n' ret' d' 0 0 (.ref a :: av) sh M (some (.int v)) sh M') (hst : stk = av.reverse ++ .ref a :: st) (hn : av.length = np) (hq : sh[a]? = some q) (hcl : (vwCl[q.1]?).map (·.1) = some y'.cls) (hR : d' + 1 ≤ R.frames ∧ 8 + (n' + 11) + 64 * d' ≤ R.locals) (hf : cl ≤ R.cells ∧ sl ≤ R.slots) (hs8 : (st.map fun v => v.category).sum ≤ 8) (hcl9 : cl ≤ sh.length)
    (kk : V X y b nL ret R l F (pc + 3) ls (.int v :: st) sh M' cl sl) : V X y b nL ret R l F pc ls stk sh M cl sl := by
  intro Φ p e s m args below meth c H locs lsA hC hN hH hW hS hL
  exact V.invVN hd ho hnw hw hM hst hn hq hcl hR hf hs8 ⟨rfl, hH⟩ (fun Φ s h => by have := hcl9; omega) kk Φ p e s m args below meth c H locs lsA hC hN hH hW hS hL
theorem V.cVNv (hd : decode b pc = .ok (.invokevirtual idx, 3)) (ho : own = y.cls) (hnw : Cond.methodLinkNest own idx y' host ∈ NW) (hw : Cond.instanceMethod y' ∈ GW ∧ Cond.selects y'.cls y' y' ∈ GW ∧ Cond.initialized y'.cls ∈ GW ∧ Cond.code y' b' n' ret' ∈ GW ∧ MX y' np) (hM : Mt X l y' b' n' ret' d' 0 0 (.ref a :: av) sh M none sh M') (hst : stk = av.reverse ++ .ref a :: st) (hn : av.length = np) (hq : sh[a]? = some q) (hcl : (vwCl[q.1]?).map (·.1) = some y'.cls) (hR : d' + 1 ≤ R.frames ∧ 8 + (n' + 11) + 64 * d' ≤ R.locals) (hf : cl ≤ R.cells ∧ sl ≤ R.slots) (hs8 : (st.map fun v => v.category).sum ≤ 8) (hcl9 : cl ≤ sh.length)
    (kk : V X y b nL ret R l F (pc + 3) ls st sh M' cl sl) : V X y b nL ret R l F pc ls stk sh M cl sl := by
  intro Φ p e s m args below meth c H locs lsA hC hN hH hW hS hL
  exact V.invVN hd ho hnw hw hM hst hn hq hcl hR hf hs8 ⟨rfl, hH⟩ (fun Φ s h => by have := hcl9; omega) kk Φ p e s m args below meth c H locs lsA hC hN hH hW hS hL
theorem V.cVNr {v : Nat} (hd : decode b pc = .ok (.invokevirtual idx, 3)) (ho : own = y.cls) (hnw : Cond.methodLinkNest own idx y' host ∈ NW) (hw : Cond.instanceMethod y' ∈ GW ∧ Cond.selects y'.cls y' y' ∈ GW ∧ Cond.initialized y'.cls ∈ GW ∧ Cond.code y' b' n' ret' ∈ GW ∧ MX y' np) (hM : Mt X l y' b' n' ret' d' 0 0 (.ref a :: av) sh M (some (.ref v)) sh M') (hst : stk = av.reverse ++ .ref a :: st) (hn : av.length = np) (hq : sh[a]? = some q) (hcl : (vwCl[q.1]?).map (·.1) = some y'.cls) (hR : d' + 1 ≤ R.frames ∧ 8 + (n' + 11) + 64 * d' ≤ R.locals) (hf : cl ≤ R.cells ∧ sl ≤ R.slots) (hs8 : (st.map fun v => v.category).sum ≤ 8) (hcl9 : cl ≤ sh.length)
    (kk : V X y b nL ret R l F (pc + 3) ls (.ref v :: st) sh M' cl sl) : V X y b nL ret R l F pc ls stk sh M cl sl := by
  intro Φ p e s m args below meth c H locs lsA hC hN hH hW hS hL
  exact V.invVN hd ho hnw hw hM hst hn hq hcl hR hf hs8 ⟨rfl, hH⟩ (fun Φ s h => by have := hcl9; omega) kk Φ p e s m args below meth c H locs lsA hC hN hH hW hS hL
theorem V.cSi {v : Int32} (hd : decode b pc = .ok (.invokestatic idx, 3)) (ho : own = y.cls) (hw : Cond.methodLink own idx y' ∈ GW ∧ Cond.static y' ∈ GW ∧ Cond.initialized y'.cls ∈ GW ∧ Cond.code y' b' n' ret' ∈ GW ∧ MX y' np) (hM : Mt X l y' b' n' ret' d' 0 0 av sh M (some (.int v)) sh M') (hst : stk = av.reverse ++ st) (hn : av.length = np) (hR : d' + 1 ≤ R.frames ∧ 8 + (n' + 11) + 64 * d' ≤ R.locals) (hf : cl ≤ R.cells ∧ sl ≤ R.slots) (hs8 : (st.map fun v => v.category).sum ≤ 8) (hcl9 : cl ≤ sh.length)
    (kk : V X y b nL ret R l F (pc + 3) ls (.int v :: st) sh M' cl sl) : V X y b nL ret R l F pc ls stk sh M cl sl := by
  intro Φ p e s m args below meth c H locs lsA hC hN hH hW hS hL
  exact V.invS hd ho hw hM hst hn hR hf hs8 ⟨rfl, hH⟩ (fun Φ s h => by have := hcl9; omega) kk Φ p e s m args below meth c H locs lsA hC hN hH hW hS hL
theorem V.cSv (hd : decode b pc = .ok (.invokestatic idx, 3)) (ho : own = y.cls) (hw : Cond.methodLink own idx y' ∈ GW ∧ Cond.static y' ∈ GW ∧ Cond.initialized y'.cls ∈ GW ∧ Cond.code y' b' n' ret' ∈ GW ∧ MX y' np) (hM : Mt X l y' b' n' ret' d' 0 0 av sh M none sh M') (hst : stk = av.reverse ++ st) (hn : av.length = np) (hR : d' + 1 ≤ R.frames ∧ 8 + (n' + 11) + 64 * d' ≤ R.locals) (hf : cl ≤ R.cells ∧ sl ≤ R.slots) (hs8 : (st.map fun v => v.category).sum ≤ 8) (hcl9 : cl ≤ sh.length)
    (kk : V X y b nL ret R l F (pc + 3) ls st sh M' cl sl) : V X y b nL ret R l F pc ls stk sh M cl sl := by
  intro Φ p e s m args below meth c H locs lsA hC hN hH hW hS hL
  exact V.invS hd ho hw hM hst hn hR hf hs8 ⟨rfl, hH⟩ (fun Φ s h => by have := hcl9; omega) kk Φ p e s m args below meth c H locs lsA hC hN hH hW hS hL
theorem V.cSr {v : Nat} (hd : decode b pc = .ok (.invokestatic idx, 3)) (ho : own = y.cls) (hw : Cond.methodLink own idx y' ∈ GW ∧ Cond.static y' ∈ GW ∧ Cond.initialized y'.cls ∈ GW ∧ Cond.code y' b' n' ret' ∈ GW ∧ MX y' np) (hM : Mt X l y' b' n' ret' d' 0 0 av sh M (some (.ref v)) sh M') (hst : stk = av.reverse ++ st) (hn : av.length = np) (hR : d' + 1 ≤ R.frames ∧ 8 + (n' + 11) + 64 * d' ≤ R.locals) (hf : cl ≤ R.cells ∧ sl ≤ R.slots) (hs8 : (st.map fun v => v.category).sum ≤ 8) (hcl9 : cl ≤ sh.length)
    (kk : V X y b nL ret R l F (pc + 3) ls (.ref v :: st) sh M' cl sl) : V X y b nL ret R l F pc ls stk sh M cl sl := by
  intro Φ p e s m args below meth c H locs lsA hC hN hH hW hS hL
  exact V.invS hd ho hw hM hst hn hR hf hs8 ⟨rfl, hH⟩ (fun Φ s h => by have := hcl9; omega) kk Φ p e s m args below meth c H locs lsA hC hN hH hW hS hL
theorem V.cSNi {v : Int32} (hd : decode b pc = .ok (.invokestatic idx, 3)) (ho : own = y.cls) (hnw : Cond.methodLinkNest own idx y' host ∈ NW) (hw : Cond.static y' ∈ GW ∧ Cond.initialized y'.cls ∈ GW ∧ Cond.code y' b' n' ret' ∈ GW ∧ MX y' np) (hM : Mt X l y' b' n' ret' d' 0 0 av sh M (some (.int v)) sh M') (hst : stk = av.reverse ++ st) (hn : av.length = np) (hR : d' + 1 ≤ R.frames ∧ 8 + (n' + 11) + 64 * d' ≤ R.locals) (hf : cl ≤ R.cells ∧ sl ≤ R.slots) (hs8 : (st.map fun v => v.category).sum ≤ 8) (hcl9 : cl ≤ sh.length)
    (kk : V X y b nL ret R l F (pc + 3) ls (.int v :: st) sh M' cl sl) : V X y b nL ret R l F pc ls stk sh M cl sl := by
  intro Φ p e s m args below meth c H locs lsA hC hN hH hW hS hL
  exact V.invSN hd ho hnw hw hM hst hn hR hf hs8 ⟨rfl, hH⟩ (fun Φ s h => by have := hcl9; omega) kk Φ p e s m args below meth c H locs lsA hC hN hH hW hS hL
theorem V.cSNv (hd : decode b pc = .ok (.invokestatic idx, 3)) (ho : own = y.cls) (hnw : Cond.methodLinkNest own idx y' host ∈ NW) (hw : Cond.static y' ∈ GW ∧ Cond.initialized y'.cls ∈ GW ∧ Cond.code y' b' n' ret' ∈ GW ∧ MX y' np) (hM : Mt X l y' b' n' ret' d' 0 0 av sh M none sh M') (hst : stk = av.reverse ++ st) (hn : av.length = np) (hR : d' + 1 ≤ R.frames ∧ 8 + (n' + 11) + 64 * d' ≤ R.locals) (hf : cl ≤ R.cells ∧ sl ≤ R.slots) (hs8 : (st.map fun v => v.category).sum ≤ 8) (hcl9 : cl ≤ sh.length)
    (kk : V X y b nL ret R l F (pc + 3) ls st sh M' cl sl) : V X y b nL ret R l F pc ls stk sh M cl sl := by
  intro Φ p e s m args below meth c H locs lsA hC hN hH hW hS hL
  exact V.invSN hd ho hnw hw hM hst hn hR hf hs8 ⟨rfl, hH⟩ (fun Φ s h => by have := hcl9; omega) kk Φ p e s m args below meth c H locs lsA hC hN hH hW hS hL
theorem V.cSNr {v : Nat} (hd : decode b pc = .ok (.invokestatic idx, 3)) (ho : own = y.cls) (hnw : Cond.methodLinkNest own idx y' host ∈ NW) (hw : Cond.static y' ∈ GW ∧ Cond.initialized y'.cls ∈ GW ∧ Cond.code y' b' n' ret' ∈ GW ∧ MX y' np) (hM : Mt X l y' b' n' ret' d' 0 0 av sh M (some (.ref v)) sh M') (hst : stk = av.reverse ++ st) (hn : av.length = np) (hR : d' + 1 ≤ R.frames ∧ 8 + (n' + 11) + 64 * d' ≤ R.locals) (hf : cl ≤ R.cells ∧ sl ≤ R.slots) (hs8 : (st.map fun v => v.category).sum ≤ 8) (hcl9 : cl ≤ sh.length)
    (kk : V X y b nL ret R l F (pc + 3) ls (.ref v :: st) sh M' cl sl) : V X y b nL ret R l F pc ls stk sh M cl sl := by
  intro Φ p e s m args below meth c H locs lsA hC hN hH hW hS hL
  exact V.invSN hd ho hnw hw hM hst hn hR hf hs8 ⟨rfl, hH⟩ (fun Φ s h => by have := hcl9; omega) kk Φ p e s m args below meth c H locs lsA hC hN hH hW hS hL
theorem V.nmI {x : Int32} (kk : ∀ x1 : Int32, x1 = x → V X y b nL ret R l F pc ls (.int x1 :: st) sh M cl sl) : V X y b nL ret R l F pc ls (.int x :: st) sh M cl sl := kk x rfl
theorem V.nmL {x : Int64} (kk : ∀ x1 : Int64, x1 = x → V X y b nL ret R l F pc ls (.long x1 :: st) sh M cl sl) : V X y b nL ret R l F pc ls (.long x :: st) sh M cl sl := kk x rfl
end VR5
def LBen (sh : List Shp) (a : Nat) : Prop := sh[a]? = some (0, 6, [none, some (some (a + 1)), some (some (a + 2)), some (some (a + 3)), some (some (a + 4)), some (some (a + 5))]) ∧ sh[a + 1]? = some (20, 8, []) ∧ sh[a + 2]? = some (20, 8, []) ∧ sh[a + 3]? = some (20, 8, []) ∧ sh[a + 4]? = some (20, 8, []) ∧ sh[a + 5]? = some (20, 8, [])
theorem LBen.f0 {sh : List Shp} {a : Nat} (h : LBen sh a) : sh[a]? = some (0, 6, [none, some (some (a + 1)), some (some (a + 2)), some (some (a + 3)), some (some (a + 4)), some (some (a + 5))]) := h.1
theorem LBen.f1 {sh : List Shp} {a : Nat} (h : LBen sh a) : sh[a + 1]? = some (20, 8, []) := h.2.1
theorem LBen.f2 {sh : List Shp} {a : Nat} (h : LBen sh a) : sh[a + 2]? = some (20, 8, []) := h.2.2.1
theorem LBen.f3 {sh : List Shp} {a : Nat} (h : LBen sh a) : sh[a + 3]? = some (20, 8, []) := h.2.2.2.1
theorem LBen.f4 {sh : List Shp} {a : Nat} (h : LBen sh a) : sh[a + 4]? = some (20, 8, []) := h.2.2.2.2.1
theorem LBen.f5 {sh : List Shp} {a : Nat} (h : LBen sh a) : sh[a + 5]? = some (20, 8, []) := h.2.2.2.2.2
def LTri (sh : List Shp) (a : Nat) : Prop := sh[a]? = some (9, 4, [none, some (some (a + 1)), some (some (a + 2)), some (some (a + 3))]) ∧ sh[a + 1]? = some (20, 12, []) ∧ sh[a + 2]? = some (20, 12, []) ∧ sh[a + 3]? = some (20, 12, [])
theorem LTri.f0 {sh : List Shp} {a : Nat} (h : LTri sh a) : sh[a]? = some (9, 4, [none, some (some (a + 1)), some (some (a + 2)), some (some (a + 3))]) := h.1
theorem LTri.f1 {sh : List Shp} {a : Nat} (h : LTri sh a) : sh[a + 1]? = some (20, 12, []) := h.2.1
theorem LTri.f2 {sh : List Shp} {a : Nat} (h : LTri sh a) : sh[a + 2]? = some (20, 12, []) := h.2.2.1
theorem LTri.f3 {sh : List Shp} {a : Nat} (h : LTri sh a) : sh[a + 3]? = some (20, 12, []) := h.2.2.2
def LTol (sh : List Shp) (a : Nat) : Prop := sh[a]? = some (8, 11, [none, none, none, none, none, none, some (some (a + 1)), some (some (a + 2)), some (some (a + 3)), some (some (a + 9)), some (some (a + 13))]) ∧ sh[a + 1]? = some (20, 81, []) ∧ sh[a + 2]? = some (20, 6, []) ∧ sh[a + 3]? = some (0, 6, [none, some (some (a + 4)), some (some (a + 5)), some (some (a + 6)), some (some (a + 7)), some (some (a + 8))]) ∧ sh[a + 4]? = some (20, 8, []) ∧ sh[a + 5]? = some (20, 8, []) ∧ sh[a + 6]? = some (20, 8, []) ∧ sh[a + 7]? = some (20, 8, []) ∧ sh[a + 8]? = some (20, 8, []) ∧ sh[a + 9]? = some (9, 4, [none, some (some (a + 10)), some (some (a + 11)), some (some (a + 12))]) ∧ sh[a + 10]? = some (20, 12, []) ∧ sh[a + 11]? = some (20, 12, []) ∧ sh[a + 12]? = some (20, 12, []) ∧ sh[a + 13]? = some (9, 4, [none, some (some (a + 14)), some (some (a + 15)), some (some (a + 16))]) ∧ sh[a + 14]? = some (20, 12, []) ∧ sh[a + 15]? = some (20, 12, []) ∧ sh[a + 16]? = some (20, 12, [])
theorem LTol.f0 {sh : List Shp} {a : Nat} (h : LTol sh a) : sh[a]? = some (8, 11, [none, none, none, none, none, none, some (some (a + 1)), some (some (a + 2)), some (some (a + 3)), some (some (a + 9)), some (some (a + 13))]) := h.1
theorem LTol.f1 {sh : List Shp} {a : Nat} (h : LTol sh a) : sh[a + 1]? = some (20, 81, []) := h.2.1
theorem LTol.f2 {sh : List Shp} {a : Nat} (h : LTol sh a) : sh[a + 2]? = some (20, 6, []) := h.2.2.1
theorem LTol.f3 {sh : List Shp} {a : Nat} (h : LTol sh a) : sh[a + 3]? = some (0, 6, [none, some (some (a + 4)), some (some (a + 5)), some (some (a + 6)), some (some (a + 7)), some (some (a + 8))]) := h.2.2.2.1
theorem LTol.f4 {sh : List Shp} {a : Nat} (h : LTol sh a) : sh[a + 4]? = some (20, 8, []) := h.2.2.2.2.1
theorem LTol.f5 {sh : List Shp} {a : Nat} (h : LTol sh a) : sh[a + 5]? = some (20, 8, []) := h.2.2.2.2.2.1
theorem LTol.f6 {sh : List Shp} {a : Nat} (h : LTol sh a) : sh[a + 6]? = some (20, 8, []) := h.2.2.2.2.2.2.1
theorem LTol.f7 {sh : List Shp} {a : Nat} (h : LTol sh a) : sh[a + 7]? = some (20, 8, []) := h.2.2.2.2.2.2.2.1
theorem LTol.f8 {sh : List Shp} {a : Nat} (h : LTol sh a) : sh[a + 8]? = some (20, 8, []) := h.2.2.2.2.2.2.2.2.1
theorem LTol.f9 {sh : List Shp} {a : Nat} (h : LTol sh a) : sh[a + 9]? = some (9, 4, [none, some (some (a + 10)), some (some (a + 11)), some (some (a + 12))]) := h.2.2.2.2.2.2.2.2.2.1
theorem LTol.f10 {sh : List Shp} {a : Nat} (h : LTol sh a) : sh[a + 10]? = some (20, 12, []) := h.2.2.2.2.2.2.2.2.2.2.1
theorem LTol.f11 {sh : List Shp} {a : Nat} (h : LTol sh a) : sh[a + 11]? = some (20, 12, []) := h.2.2.2.2.2.2.2.2.2.2.2.1
theorem LTol.f12 {sh : List Shp} {a : Nat} (h : LTol sh a) : sh[a + 12]? = some (20, 12, []) := h.2.2.2.2.2.2.2.2.2.2.2.2.1
theorem LTol.f13 {sh : List Shp} {a : Nat} (h : LTol sh a) : sh[a + 13]? = some (9, 4, [none, some (some (a + 14)), some (some (a + 15)), some (some (a + 16))]) := h.2.2.2.2.2.2.2.2.2.2.2.2.2.1
theorem LTol.f14 {sh : List Shp} {a : Nat} (h : LTol sh a) : sh[a + 14]? = some (20, 12, []) := h.2.2.2.2.2.2.2.2.2.2.2.2.2.2.1
theorem LTol.f15 {sh : List Shp} {a : Nat} (h : LTol sh a) : sh[a + 15]? = some (20, 12, []) := h.2.2.2.2.2.2.2.2.2.2.2.2.2.2.2.1
theorem LTol.f16 {sh : List Shp} {a : Nat} (h : LTol sh a) : sh[a + 16]? = some (20, 12, []) := h.2.2.2.2.2.2.2.2.2.2.2.2.2.2.2.2
def LCou (sh : List Shp) (a : Nat) : Prop := sh[a]? = some (1, 4, [none, some (some (a + 1)), some (some (a + 2)), some (some (a + 3))]) ∧ sh[a + 1]? = some (20, 41, []) ∧ sh[a + 2]? = some (20, 41, []) ∧ sh[a + 3]? = some (20, 41, [])
theorem LCou.f0 {sh : List Shp} {a : Nat} (h : LCou sh a) : sh[a]? = some (1, 4, [none, some (some (a + 1)), some (some (a + 2)), some (some (a + 3))]) := h.1
theorem LCou.f1 {sh : List Shp} {a : Nat} (h : LCou sh a) : sh[a + 1]? = some (20, 41, []) := h.2.1
theorem LCou.f2 {sh : List Shp} {a : Nat} (h : LCou sh a) : sh[a + 2]? = some (20, 41, []) := h.2.2.1
theorem LCou.f3 {sh : List Shp} {a : Nat} (h : LCou sh a) : sh[a + 3]? = some (20, 41, []) := h.2.2.2
def LHea (sh : List Shp) (a : Nat) : Prop := sh[a]? = some (3, 2, [some (some (a + 1)), some (some (a + 5))]) ∧ sh[a + 1]? = some (1, 4, [none, some (some (a + 2)), some (some (a + 3)), some (some (a + 4))]) ∧ sh[a + 2]? = some (20, 41, []) ∧ sh[a + 3]? = some (20, 41, []) ∧ sh[a + 4]? = some (20, 41, []) ∧ sh[a + 5]? = some (20, 8, [])
theorem LHea.f0 {sh : List Shp} {a : Nat} (h : LHea sh a) : sh[a]? = some (3, 2, [some (some (a + 1)), some (some (a + 5))]) := h.1
theorem LHea.f1 {sh : List Shp} {a : Nat} (h : LHea sh a) : sh[a + 1]? = some (1, 4, [none, some (some (a + 2)), some (some (a + 3)), some (some (a + 4))]) := h.2.1
theorem LHea.f2 {sh : List Shp} {a : Nat} (h : LHea sh a) : sh[a + 2]? = some (20, 41, []) := h.2.2.1
theorem LHea.f3 {sh : List Shp} {a : Nat} (h : LHea sh a) : sh[a + 3]? = some (20, 41, []) := h.2.2.2.1
theorem LHea.f4 {sh : List Shp} {a : Nat} (h : LHea sh a) : sh[a + 4]? = some (20, 41, []) := h.2.2.2.2.1
theorem LHea.f5 {sh : List Shp} {a : Nat} (h : LHea sh a) : sh[a + 5]? = some (20, 8, []) := h.2.2.2.2.2
theorem LTol.s3 {sh : List Shp} {a : Nat} (h : LTol sh a) : LBen sh (a + 3) := ⟨h.f3, h.f4, h.f5, h.f6, h.f7, h.f8⟩
theorem LTol.s9 {sh : List Shp} {a : Nat} (h : LTol sh a) : LTri sh (a + 9) := ⟨h.f9, h.f10, h.f11, h.f12⟩
theorem LTol.s13 {sh : List Shp} {a : Nat} (h : LTol sh a) : LTri sh (a + 13) := ⟨h.f13, h.f14, h.f15, h.f16⟩
theorem LHea.s1 {sh : List Shp} {a : Nat} (h : LHea sh a) : LCou sh (a + 1) := ⟨h.f1, h.f2, h.f3, h.f4⟩
def S0 : List Shp := [(10, 10, [some (some 1), some (some 18), some (some 35), none, some (some 52), some (some 72), some (some 78), some (some 86), some (some 95), none]), (8, 11, [none, none, none, none, none, none, some (some 2), some (some 3), some (some 4), some (some 10), some (some 14)]), (20, 81, []), (20, 6, []), (0, 6, [none, some (some 5), some (some 6), some (some 7), some (some 8), some (some 9)]), (20, 8, []), (20, 8, []), (20, 8, []), (20, 8, []), (20, 8, []), (9, 4, [none, some (some 11), some (some 12), some (some 13)]), (20, 12, []), (20, 12, []), (20, 12, []), (9, 4, [none, some (some 15), some (some 16), some (some 17)]), (20, 12, []), (20, 12, []), (20, 12, []), (8, 11, [none, none, none, none, none, none, some (some 19), some (some 20), some (some 21), some (some 27), some (some 31)]), (20, 81, []), (20, 6, []), (0, 6, [none, some (some 22), some (some 23), some (some 24), some (some 25), some (some 26)]), (20, 8, []), (20, 8, []), (20, 8, []), (20, 8, []), (20, 8, []), (9, 4, [none, some (some 28), some (some 29), some (some 30)]), (20, 12, []), (20, 12, []), (20, 12, []), (9, 4, [none, some (some 32), some (some 33), some (some 34)]), (20, 12, []), (20, 12, []), (20, 12, []), (8, 11, [none, none, none, none, none, none, some (some 36), some (some 37), some (some 38), some (some 44), some (some 48)]), (20, 81, []), (20, 6, []), (0, 6, [none, some (some 39), some (some 40), some (some 41), some (some 42), some (some 43)]), (20, 8, []), (20, 8, []), (20, 8, []), (20, 8, []), (20, 8, []), (9, 4, [none, some (some 45), some (some 46), some (some 47)]), (20, 12, []), (20, 12, []), (20, 12, []), (9, 4, [none, some (some 49), some (some 50), some (some 51)]), (20, 12, []), (20, 12, []), (20, 12, []), (7, 4, [some (some 53), some (some 70), none, none]), (8, 11, [none, none, none, none, none, none, some (some 54), some (some 55), some (some 56), some (some 62), some (some 66)]), (20, 81, []), (20, 6, []), (0, 6, [none, some (some 57), some (some 58), some (some 59), some (some 60), some (some 61)]), (20, 8, []), (20, 8, []), (20, 8, []), (20, 8, []), (20, 8, []), (9, 4, [none, some (some 63), some (some 64), some (some 65)]), (20, 12, []), (20, 12, []), (20, 12, []), (9, 4, [none, some (some 67), some (some 68), some (some 69)]), (20, 12, []), (20, 12, []), (20, 12, []), (6, 8, [none, none, none, none, none, none, none, some (some 71)]), (21, 320, []), (3, 2, [some (some 73), some (some 77)]), (1, 4, [none, some (some 74), some (some 75), some (some 76)]), (20, 41, []), (20, 41, []), (20, 41, []), (20, 8, []), (2, 2, [some (some 79), some (some 85)]), (3, 2, [some (some 80), some (some 84)]), (1, 4, [none, some (some 81), some (some 82), some (some 83)]), (20, 41, []), (20, 41, []), (20, 41, []), (20, 8, []), (20, 8, []), (4, 5, [none, none, some (some 87), some (some 93), some (some 94)]), (3, 2, [some (some 88), some (some 92)]), (1, 4, [none, some (some 89), some (some 90), some (some 91)]), (20, 41, []), (20, 41, []), (20, 41, []), (20, 8, []), (20, 6, []), (20, 6, []), (5, 3, [some (some 96), some (some 101), some (some 102)]), (23, 4, [some (some 97), some (some 98), some (some 99), some (some 100)]), (20, 40, []), (20, 40, []), (20, 40, []), (20, 40, []), (20, 4, []), (20, 4, []), (11, 44, [some (some 104), some (some 105), none, none, none, none, none, none, none, some (some 106), some (some 107), some (some 108), some (some 109), some (some 110), some (some 111), none, none, none, none, none, none, some (some 112), none, none, none, none, none, none, none, some (some 113), some (some 114), none, some (some 115), some (some 116), some (some 117), none, none, none, none, some (some 118), some (some 119), some (some 120), some (some 121), none]), (20, 375, []), (22, 2, []), (20, 32, []), (20, 24, []), (20, 125, []), (20, 32, []), (20, 24, []), (20, 5, []), (20, 320, []), (20, 41, []), (20, 41, []), (20, 8, []), (20, 6, []), (20, 6, []), (20, 8, []), (20, 4, []), (20, 4, []), (20, 160, [])]
theorem s0_0 : S0[0]? = some (10, 10, [some (some 1), some (some 18), some (some 35), none, some (some 52), some (some 72), some (some 78), some (some 86), some (some 95), none]) := rfl
theorem s0_1 : S0[1]? = some (8, 11, [none, none, none, none, none, none, some (some 2), some (some 3), some (some 4), some (some 10), some (some 14)]) := rfl
theorem s0_2 : S0[2]? = some (20, 81, []) := rfl
theorem s0_3 : S0[3]? = some (20, 6, []) := rfl
theorem s0_4 : S0[4]? = some (0, 6, [none, some (some 5), some (some 6), some (some 7), some (some 8), some (some 9)]) := rfl
theorem s0_5 : S0[5]? = some (20, 8, []) := rfl
theorem s0_6 : S0[6]? = some (20, 8, []) := rfl
theorem s0_7 : S0[7]? = some (20, 8, []) := rfl
theorem s0_8 : S0[8]? = some (20, 8, []) := rfl
theorem s0_9 : S0[9]? = some (20, 8, []) := rfl
theorem s0_10 : S0[10]? = some (9, 4, [none, some (some 11), some (some 12), some (some 13)]) := rfl
theorem s0_11 : S0[11]? = some (20, 12, []) := rfl
theorem s0_12 : S0[12]? = some (20, 12, []) := rfl
theorem s0_13 : S0[13]? = some (20, 12, []) := rfl
theorem s0_14 : S0[14]? = some (9, 4, [none, some (some 15), some (some 16), some (some 17)]) := rfl
theorem s0_15 : S0[15]? = some (20, 12, []) := rfl
theorem s0_16 : S0[16]? = some (20, 12, []) := rfl
theorem s0_17 : S0[17]? = some (20, 12, []) := rfl
theorem s0_18 : S0[18]? = some (8, 11, [none, none, none, none, none, none, some (some 19), some (some 20), some (some 21), some (some 27), some (some 31)]) := rfl
theorem s0_19 : S0[19]? = some (20, 81, []) := rfl
theorem s0_20 : S0[20]? = some (20, 6, []) := rfl
theorem s0_21 : S0[21]? = some (0, 6, [none, some (some 22), some (some 23), some (some 24), some (some 25), some (some 26)]) := rfl
theorem s0_22 : S0[22]? = some (20, 8, []) := rfl
theorem s0_23 : S0[23]? = some (20, 8, []) := rfl
theorem s0_24 : S0[24]? = some (20, 8, []) := rfl
theorem s0_25 : S0[25]? = some (20, 8, []) := rfl
theorem s0_26 : S0[26]? = some (20, 8, []) := rfl
theorem s0_27 : S0[27]? = some (9, 4, [none, some (some 28), some (some 29), some (some 30)]) := rfl
theorem s0_28 : S0[28]? = some (20, 12, []) := rfl
theorem s0_29 : S0[29]? = some (20, 12, []) := rfl
theorem s0_30 : S0[30]? = some (20, 12, []) := rfl
theorem s0_31 : S0[31]? = some (9, 4, [none, some (some 32), some (some 33), some (some 34)]) := rfl
theorem s0_32 : S0[32]? = some (20, 12, []) := rfl
theorem s0_33 : S0[33]? = some (20, 12, []) := rfl
theorem s0_34 : S0[34]? = some (20, 12, []) := rfl
theorem s0_35 : S0[35]? = some (8, 11, [none, none, none, none, none, none, some (some 36), some (some 37), some (some 38), some (some 44), some (some 48)]) := rfl
theorem s0_36 : S0[36]? = some (20, 81, []) := rfl
theorem s0_37 : S0[37]? = some (20, 6, []) := rfl
theorem s0_38 : S0[38]? = some (0, 6, [none, some (some 39), some (some 40), some (some 41), some (some 42), some (some 43)]) := rfl
theorem s0_39 : S0[39]? = some (20, 8, []) := rfl
theorem s0_40 : S0[40]? = some (20, 8, []) := rfl
theorem s0_41 : S0[41]? = some (20, 8, []) := rfl
theorem s0_42 : S0[42]? = some (20, 8, []) := rfl
theorem s0_43 : S0[43]? = some (20, 8, []) := rfl
theorem s0_44 : S0[44]? = some (9, 4, [none, some (some 45), some (some 46), some (some 47)]) := rfl
theorem s0_45 : S0[45]? = some (20, 12, []) := rfl
theorem s0_46 : S0[46]? = some (20, 12, []) := rfl
theorem s0_47 : S0[47]? = some (20, 12, []) := rfl
theorem s0_48 : S0[48]? = some (9, 4, [none, some (some 49), some (some 50), some (some 51)]) := rfl
theorem s0_49 : S0[49]? = some (20, 12, []) := rfl
theorem s0_50 : S0[50]? = some (20, 12, []) := rfl
theorem s0_51 : S0[51]? = some (20, 12, []) := rfl
theorem s0_52 : S0[52]? = some (7, 4, [some (some 53), some (some 70), none, none]) := rfl
theorem s0_53 : S0[53]? = some (8, 11, [none, none, none, none, none, none, some (some 54), some (some 55), some (some 56), some (some 62), some (some 66)]) := rfl
theorem s0_54 : S0[54]? = some (20, 81, []) := rfl
theorem s0_55 : S0[55]? = some (20, 6, []) := rfl
theorem s0_56 : S0[56]? = some (0, 6, [none, some (some 57), some (some 58), some (some 59), some (some 60), some (some 61)]) := rfl
theorem s0_57 : S0[57]? = some (20, 8, []) := rfl
theorem s0_58 : S0[58]? = some (20, 8, []) := rfl
theorem s0_59 : S0[59]? = some (20, 8, []) := rfl
theorem s0_60 : S0[60]? = some (20, 8, []) := rfl
theorem s0_61 : S0[61]? = some (20, 8, []) := rfl
theorem s0_62 : S0[62]? = some (9, 4, [none, some (some 63), some (some 64), some (some 65)]) := rfl
theorem s0_63 : S0[63]? = some (20, 12, []) := rfl
theorem s0_64 : S0[64]? = some (20, 12, []) := rfl
theorem s0_65 : S0[65]? = some (20, 12, []) := rfl
theorem s0_66 : S0[66]? = some (9, 4, [none, some (some 67), some (some 68), some (some 69)]) := rfl
theorem s0_67 : S0[67]? = some (20, 12, []) := rfl
theorem s0_68 : S0[68]? = some (20, 12, []) := rfl
theorem s0_69 : S0[69]? = some (20, 12, []) := rfl
theorem s0_70 : S0[70]? = some (6, 8, [none, none, none, none, none, none, none, some (some 71)]) := rfl
theorem s0_71 : S0[71]? = some (21, 320, []) := rfl
theorem s0_72 : S0[72]? = some (3, 2, [some (some 73), some (some 77)]) := rfl
theorem s0_73 : S0[73]? = some (1, 4, [none, some (some 74), some (some 75), some (some 76)]) := rfl
theorem s0_74 : S0[74]? = some (20, 41, []) := rfl
theorem s0_75 : S0[75]? = some (20, 41, []) := rfl
theorem s0_76 : S0[76]? = some (20, 41, []) := rfl
theorem s0_77 : S0[77]? = some (20, 8, []) := rfl
theorem s0_78 : S0[78]? = some (2, 2, [some (some 79), some (some 85)]) := rfl
theorem s0_79 : S0[79]? = some (3, 2, [some (some 80), some (some 84)]) := rfl
theorem s0_80 : S0[80]? = some (1, 4, [none, some (some 81), some (some 82), some (some 83)]) := rfl
theorem s0_81 : S0[81]? = some (20, 41, []) := rfl
theorem s0_82 : S0[82]? = some (20, 41, []) := rfl
theorem s0_83 : S0[83]? = some (20, 41, []) := rfl
theorem s0_84 : S0[84]? = some (20, 8, []) := rfl
theorem s0_85 : S0[85]? = some (20, 8, []) := rfl
theorem s0_86 : S0[86]? = some (4, 5, [none, none, some (some 87), some (some 93), some (some 94)]) := rfl
theorem s0_87 : S0[87]? = some (3, 2, [some (some 88), some (some 92)]) := rfl
theorem s0_88 : S0[88]? = some (1, 4, [none, some (some 89), some (some 90), some (some 91)]) := rfl
theorem s0_89 : S0[89]? = some (20, 41, []) := rfl
theorem s0_90 : S0[90]? = some (20, 41, []) := rfl
theorem s0_91 : S0[91]? = some (20, 41, []) := rfl
theorem s0_92 : S0[92]? = some (20, 8, []) := rfl
theorem s0_93 : S0[93]? = some (20, 6, []) := rfl
theorem s0_94 : S0[94]? = some (20, 6, []) := rfl
theorem s0_95 : S0[95]? = some (5, 3, [some (some 96), some (some 101), some (some 102)]) := rfl
theorem s0_96 : S0[96]? = some (23, 4, [some (some 97), some (some 98), some (some 99), some (some 100)]) := rfl
theorem s0_97 : S0[97]? = some (20, 40, []) := rfl
theorem s0_98 : S0[98]? = some (20, 40, []) := rfl
theorem s0_99 : S0[99]? = some (20, 40, []) := rfl
theorem s0_100 : S0[100]? = some (20, 40, []) := rfl
theorem s0_101 : S0[101]? = some (20, 4, []) := rfl
theorem s0_102 : S0[102]? = some (20, 4, []) := rfl
theorem s0_103 : S0[103]? = some (11, 44, [some (some 104), some (some 105), none, none, none, none, none, none, none, some (some 106), some (some 107), some (some 108), some (some 109), some (some 110), some (some 111), none, none, none, none, none, none, some (some 112), none, none, none, none, none, none, none, some (some 113), some (some 114), none, some (some 115), some (some 116), some (some 117), none, none, none, none, some (some 118), some (some 119), some (some 120), some (some 121), none]) := rfl
theorem s0_104 : S0[104]? = some (20, 375, []) := rfl
theorem s0_105 : S0[105]? = some (22, 2, []) := rfl
theorem s0_106 : S0[106]? = some (20, 32, []) := rfl
theorem s0_107 : S0[107]? = some (20, 24, []) := rfl
theorem s0_108 : S0[108]? = some (20, 125, []) := rfl
theorem s0_109 : S0[109]? = some (20, 32, []) := rfl
theorem s0_110 : S0[110]? = some (20, 24, []) := rfl
theorem s0_111 : S0[111]? = some (20, 5, []) := rfl
theorem s0_112 : S0[112]? = some (20, 320, []) := rfl
theorem s0_113 : S0[113]? = some (20, 41, []) := rfl
theorem s0_114 : S0[114]? = some (20, 41, []) := rfl
theorem s0_115 : S0[115]? = some (20, 8, []) := rfl
theorem s0_116 : S0[116]? = some (20, 6, []) := rfl
theorem s0_117 : S0[117]? = some (20, 6, []) := rfl
theorem s0_118 : S0[118]? = some (20, 8, []) := rfl
theorem s0_119 : S0[119]? = some (20, 4, []) := rfl
theorem s0_120 : S0[120]? = some (20, 4, []) := rfl
theorem s0_121 : S0[121]? = some (20, 160, []) := rfl
theorem s0_Tol1 : LTol S0 1 := ⟨s0_1, s0_2, s0_3, s0_4, s0_5, s0_6, s0_7, s0_8, s0_9, s0_10, s0_11, s0_12, s0_13, s0_14, s0_15, s0_16, s0_17⟩
theorem s0_Tol18 : LTol S0 18 := ⟨s0_18, s0_19, s0_20, s0_21, s0_22, s0_23, s0_24, s0_25, s0_26, s0_27, s0_28, s0_29, s0_30, s0_31, s0_32, s0_33, s0_34⟩
theorem s0_Tol35 : LTol S0 35 := ⟨s0_35, s0_36, s0_37, s0_38, s0_39, s0_40, s0_41, s0_42, s0_43, s0_44, s0_45, s0_46, s0_47, s0_48, s0_49, s0_50, s0_51⟩
theorem s0_Tol53 : LTol S0 53 := ⟨s0_53, s0_54, s0_55, s0_56, s0_57, s0_58, s0_59, s0_60, s0_61, s0_62, s0_63, s0_64, s0_65, s0_66, s0_67, s0_68, s0_69⟩
theorem s0_Hea72 : LHea S0 72 := ⟨s0_72, s0_73, s0_74, s0_75, s0_76, s0_77⟩
theorem s0_Hea79 : LHea S0 79 := ⟨s0_79, s0_80, s0_81, s0_82, s0_83, s0_84⟩
theorem s0_Hea87 : LHea S0 87 := ⟨s0_87, s0_88, s0_89, s0_90, s0_91, s0_92⟩
theorem s0_row {j : Nat} (h : j < 4) : S0[97 + j]? = some (20, 40, []) := by
  rcases (show j = 0 ∨ j = 1 ∨ j = 2 ∨ j = 3 by omega) with rfl | rfl | rfl | rfl <;> rfl
theorem s0_rowR {j : Nat} (h : j < 4) : ([some (some 97), some (some 98), some (some 99), some (some 100)] : List (Option (Option Nat)))[j]? = some (some (some (97 + j))) := by
  rcases (show j = 0 ∨ j = 1 ∨ j = 2 ∨ j = 3 by omega) with rfl | rfl | rfl | rfl <;> rfl
theorem inb_lt {i : Int32} {n : Nat} (h : inb i n = true) : ix i < n := by
  have := vp_of h
  exact Nat.not_le.mp fun q => this (Or.inr q)
theorem isImg_ok {r : Nat} (h : isImg r = true) : LTol S0 r := by
  simp only [isImg, Bool.or_eq_true, beq_iff_eq] at h
  rcases h with rfl | rfl
  · exact s0_Tol18
  · exact s0_Tol35
