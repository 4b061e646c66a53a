/-! the layer V: a method's code as a walk over a small picture: locals, operand stack, a list of shapes, a memory of ints -/
def isNestW : Cond → Bool
  | .methodLinkNest .. => true
  | .arrayOver _ => true
  | _ => false
def GW : List Cond := lw_tbl.filter goodWord
def NW : List Cond := lw_tbl.filter isNestW
theorem gw_good : GoodIn GW GW := fun w h => ⟨h, good_of_word (List.mem_filter.mp h).2⟩
theorem gw_tbl {w : Cond} (h : w ∈ GW) : w ∈ lw_tbl := (List.mem_filter.mp h).1
theorem nw_tbl {w : Cond} (h : w ∈ NW) : w ∈ lw_tbl := (List.mem_filter.mp h).1
/-- a word of lw_tbl by its place -/
theorem gw_at {w : Cond} (i : Nat) (h : lw_tbl[i]? = some w) (hg : goodWord w = true) : w ∈ GW := List.mem_filter.mpr ⟨List.mem_of_getElem? h, hg⟩
theorem nw_at {w : Cond} (i : Nat) (h : lw_tbl[i]? = some w) (hg : isNestW w = true) : w ∈ NW := List.mem_filter.mpr ⟨List.mem_of_getElem? h, hg⟩
/-- a shape: kind (below 20 an object of that class; 20 int[], 21 byte[], 22 boolean[], 23 int[][]), length, and what its reference fields or places hold (none: an int is there) -/
abbrev Shp : Type := Nat × Nat × List (Option (Option Nat))
/-- base, the addresses of what lies outside, classes and slots, array classes by kind, one value that nobody looks at -/
abbrev Fi : Type := Nat × (Nat → Nat) × va_G × (Nat → ClassId) × Value
abbrev fi_b (Φ : Fi) : Nat := Φ.1
abbrev fi_x (Φ : Fi) : Nat → Nat := Φ.2.1
abbrev fi_D (Φ : Fi) : va_G := Φ.2.2.1
abbrev fi_c (Φ : Fi) : Nat → ClassId := Φ.2.2.2.1
abbrev fi_z (Φ : Fi) : Value := Φ.2.2.2.2
def fi_ad (Φ : Fi) (k : Nat) : Nat := if k < 1000 then fi_b Φ + k else fi_x Φ k
def fi_v (Φ : Fi) : Value → Value
  | .ref k => .ref (fi_ad Φ k)
  | .retAddr _ => fi_z Φ
  | v => v
def fi_fld (Φ : Fi) (x : Int32) : Option (Option Nat) → Value
  | none => .int x
  | some none => .null
  | some (some r) => .ref (fi_ad Φ r)
def fi_flds (Φ : Fi) (fs : List (Option (Option Nat))) (m : Nat → Int32) : List Value := fs.mapIdx (fun j f => fi_fld Φ (m j) f)
def fi_ent (Φ : Fi) (q : Shp) (m : Nat → Int32) : va_E :=
  if q.1 < 20 then .inr (q.1, fi_flds Φ q.2.2 m)
  else if q.1 < 23 then .inl (fi_c Φ q.1, q.2.1, .inl m)
  else .inl (fi_c Φ q.1, q.2.1, .inr (.inr (.inr (.inr (fun j => ((q.2.2[j]?).join.join).map (fi_ad Φ))))))
def fi_ws (Φ : Fi) (sh : List Shp) (M : Mem) : va_W := sh.mapIdx (fun k q => (fi_b Φ + k, fi_ent Φ q (M k)))
def fi_A (Φ : Fi) : Nat → Prop := fun q => fi_b Φ ≤ q
def fi_tys (Φ : Fi) : List (ClassId × FieldType) := [(fi_c Φ 20, .int), (fi_c Φ 21, .byte), (fi_c Φ 22, .boolean), (fi_c Φ 23, .array .int)]
abbrev vwCl : List vw_C := [(RX0, TX0, 6), (RX1, TX1, 4), (RX2, TX2, 2), (RX3, TX3, 2), (RX4, TX4, 5), (RX5, TX5, 3), (RX6, TX6, 8), (RX7, TX7, 4), (RX8, TX8, 11), (RX9, TX9, 4), (RX10, TX10, 10), (RX11, TX11, 44)]
/-- the String constants of the reader: their places in its pool, their texts, their bytes -/
def strP : List (Nat × String) := [(76, "hall"), (78, "fade"), (80, "bounce"), (82, "warm"), (84, "people"), (85, "bench"), (87, "pillar"), (89, "curtain"), (91, "join"), (93, "bar"), (95, "whisper"), (97, "plain"), (99, "turned"), (101, "moving"), (103, "raised"), (105, "listening")]
/-- what lies outside: two tables, the String constants, two statics of the JDK's -/
def fi_X (X : Sc) (Φ : Fi) (U : State) : Prop :=
  va_T .int (fi_x Φ 1000) X.1 (fun j => .int (X.2 j)) (fi_A Φ) U U.heap ∧
  (∀ (i : Nat) (q : Nat × String), strP[i]? = some q → vk_R RX7 q.1 q.2 (fi_x Φ (1010 + i)) U) ∧
  vk_S 16 strL strB (fun i => fi_x Φ (1010 + i)) (fun i => fi_x Φ (1030 + i)) (fi_A Φ) U U.heap ∧
  va_Z RX1 "CHANGE_OF_X" "[I" (.ref (fi_x Φ 1001)) (fi_A Φ) U U.heap ∧ va_T .int (fi_x Φ 1001) 8 (fun j => .int (chX j)) (fi_A Φ) U U.heap ∧
  va_Z RX1 "CHANGE_OF_Y" "[I" (.ref (fi_x Φ 1002)) (fi_A Φ) U U.heap ∧ va_T .int (fi_x Φ 1002) 8 (fun j => .int (chY j)) (fi_A Φ) U U.heap ∧
  va_Z RJ0 "COMPACT_STRINGS" "Z" (.int 1) (fi_A Φ) U U.heap ∧
  va_Z RJ3 "SIOOBE_FORMATTER" "Ljava/util/function/BiFunction;" (fi_z Φ) (fi_A Φ) U U.heap
def fi_E (X : Sc) (Φ : Fi) (U : State) : Prop := va_K (fi_D Φ) vwCl (fi_tys Φ) U ∧ (∀ w ∈ NW, va_Nw w U) ∧ (fi_z Φ = .null ∨ ∃ a, fi_z Φ = .ref a) ∧ fi_X X Φ U
def fi_W (Φ : Fi) (sh : List Shp) (M : Mem) (H : Heap) : Prop := va_P (fi_D Φ) vwCl (fi_ws Φ sh M) H
def fi_L (Φ : Fi) (lsA : Array Slot) (nL : Nat) (ls : List (Option Value)) : Prop := lsA.size = nL ∧ lv_wf lsA ∧ ∀ (i : Nat) (v : Value), ls[i]? = some (some v) → lsA[i]? = some (.val (fi_v Φ v))
def fi_C (X : Sc) (y : MethodName) (b : ByteArray) (nL : Nat) (ret : Option FieldType) (Φ : Fi) (p : Program) (s : State) (m : MethodId) (args : Array Value) (meth : Method) (c : Code) : Prop :=
  p.tables.exec = Jvm.exec ∧ c.code = b ∧ c.maxLocals = nL ∧ meth.sig.returnType = ret ∧ meth.locks = false ∧ meth.name = y.name ∧ s.vm.findClass y.cls = some m.cls ∧ (∀ w ∈ GW, w.before args s = true) ∧ fi_E X Φ s
/-- from this point of the method the machine comes to what F says -/
def V (X : Sc) (y : MethodName) (b : ByteArray) (nL : Nat) (ret : Option FieldType) (R : Room) (l : Launch) (F : Fi → List Frame → Array Value → State → State → Prop)
    (pc : Nat) (ls : List (Option Value)) (st : List Value) (sh : List Shp) (M : Mem) (cl sl : Nat) : Prop :=
  ∀ (Φ : Fi) (p : Program) (e : Env) (s : State) (m : MethodId) (args : Array Value) (below : List Frame) (meth : Method) (c : Code) (H : Heap) (locs : List Loc) (lsA : Array Slot),
    fi_C X y b nL ret Φ p s m args meth c → s.heap.size + cl = fi_b Φ + sh.length → sh.length ≤ 1000 → fi_W Φ sh M H → va_S (fi_A Φ) s.heap H locs → fi_L Φ lsA nL ls →
    W p l e R s m args below meth c H locs cl sl (F Φ below args s) (F0 m pc lsA (st.map (fi_v Φ)))
def rmD (d mc ms : Nat) : Room := { frames := d, cells := mc, slots := ms, locals := 64 * d }
def QM (Φ : Fi) (r : Option Value) (sh' : List Shp) (M' : Mem) : Array Value → State → Outcome → State → Prop := fun _ st oc t => oc = .returned (r.map (fi_v Φ)) ∧ fi_W Φ sh' M' t.heap ∧ va_F (fi_A Φ) st t
def FM (r : Option Value) (sh' : List Shp) (M' : Mem) (mc ms : Nat) : Fi → List Frame → Array Value → State → State → Prop := fun Φ below args s => MQ below (QM Φ r sh' M') args s mc ms (fi_A Φ)
/-- the contract of a method at these arguments, these shapes, this memory -/
def Mt (X : Sc) (l : Launch) (y : MethodName) (b : ByteArray) (nL : Nat) (ret : Option FieldType) (d mc ms : Nat) (av : List Value) (sh : List Shp) (M : Mem) (r : Option Value) (sh' : List Shp) (M' : Mem) : Prop :=
  ∀ Φ : Fi, Met l y (Cond.code y b nL ret :: GW) (rmD d mc ms) (va_Pc (av.map (fi_v Φ)) (fun U => fi_E X Φ U ∧ U.heap.size = fi_b Φ + sh.length ∧ sh.length ≤ 1000 ∧ fi_W Φ sh M U.heap)) (QM Φ r sh' M') mc ms (fi_A Φ)
def fi_al : List Value → List (Option Value)
  | [] => []
  | v :: vs => if v.category = 2 then some v :: none :: fi_al vs else some v :: fi_al vs
def fi_args (nL : Nat) (av : List Value) : List (Option Value) := fi_al av ++ List.replicate (nL - (fi_al av).length) none
/-! memory -/
theorem upd2_at (M : Mem) (a k : Nat) (x : Int32) : (upd2 M a k x) a = upd (M a) k x := by
  funext j
  simp [upd2, upd]
theorem upd2_ne (M : Mem) {a a' : Nat} (k : Nat) (x : Int32) (h : a' ≠ a) : (upd2 M a k x) a' = M a' := by
  funext j
  simp [upd2, h]
theorem zero2_at (M : Mem) (n : Nat) : (zero2 M n) n = fun _ => 0 := by
  funext j
  simp [zero2]
theorem zero2_ne (M : Mem) {n a : Nat} (h : a ≠ n) : (zero2 M n) a = M a := by
  funext j
  simp [zero2, h]
theorem cpy2_ne (M : Mem) (a sp : Nat) {d a' : Nat} (dp n : Nat) (h : a' ≠ d) : (cpy2 M a sp d dp n) a' = M a' := by
  funext j
  simp [cpy2, h]
theorem cpy2_at (M : Mem) (a sp d dp n : Nat) : (cpy2 M a sp d dp n) d = va_cpy (M a) (M d) sp dp n := by
  funext j
  simp [cpy2, va_cpy]
/-! the picture -/
theorem fi_ad_lt {Φ : Fi} {k : Nat} (h : k < 1000) : fi_ad Φ k = fi_b Φ + k := if_pos h
theorem fi_ws_at {Φ : Fi} {sh : List Shp} {M : Mem} {a : Nat} {q : Shp} (h : sh[a]? = some q) : (fi_ws Φ sh M)[a]? = some (fi_b Φ + a, fi_ent Φ q (M a)) := by
  simp [fi_ws, List.getElem?_mapIdx, h]
theorem fi_ws_inv {Φ : Fi} {sh : List Shp} {M : Mem} {a : Nat} {w : Nat × va_E} (h : (fi_ws Φ sh M)[a]? = some w) : ∃ q, sh[a]? = some q ∧ w = (fi_b Φ + a, fi_ent Φ q (M a)) := by
  simp only [fi_ws, List.getElem?_mapIdx, Option.map_eq_some_iff] at h
  obtain ⟨q, h1, h2⟩ := h
  exact ⟨q, h1, h2.symm⟩
theorem fi_Dd (Φ : Fi) (sh : List Shp) (M : Mem) : va_D (fi_A Φ) (fi_ws Φ sh M) := by
  refine ⟨fun i j p q hi hj h => ?_, fun k q hk => ?_⟩
  · obtain ⟨_, _, rfl⟩ := fi_ws_inv hi
    obtain ⟨_, _, rfl⟩ := fi_ws_inv hj
    have h : fi_b Φ + i = fi_b Φ + j := h
    omega
  · obtain ⟨_, _, rfl⟩ := fi_ws_inv hk
    exact Nat.le_add_right _ _
theorem fi_ent_obj {Φ : Fi} {q : Shp} {m : Nat → Int32} (h : q.1 < 20) : fi_ent Φ q m = .inr (q.1, fi_flds Φ q.2.2 m) := if_pos h
theorem fi_ent_arr {Φ : Fi} {q : Shp} {m : Nat → Int32} (h : 20 ≤ q.1) (h2 : q.1 < 23) : fi_ent Φ q m = .inl (fi_c Φ q.1, q.2.1, .inl m) := by
  unfold fi_ent
  rw [if_neg (by omega), if_pos h2]
theorem fi_ent_arq {Φ : Fi} {q : Shp} {m : Nat → Int32} (h2 : 23 ≤ q.1) : fi_ent Φ q m = .inl (fi_c Φ q.1, q.2.1, .inr (.inr (.inr (.inr (fun j => ((q.2.2[j]?).join.join).map (fi_ad Φ)))))) := by
  unfold fi_ent
  rw [if_neg (by omega), if_neg (by omega)]
theorem fi_ws_set {Φ : Fi} {sh : List Shp} {M : Mem} {a : Nat} {q q' : Shp} {m' : Mem} (h : sh[a]? = some q) (hm : ∀ j, j ≠ a → m' j = M j) {e : va_E} (he : e = fi_ent Φ q' (m' a)) : (fi_ws Φ sh M).set a (fi_b Φ + a, e) = fi_ws Φ (sh.set a q') m' := by
  subst he
  apply List.ext_getElem?
  intro j
  have hl : a < sh.length := (List.getElem?_eq_some_iff.mp h).1
  by_cases hj : j = a
  · subst hj
    rw [List.getElem?_set_self (by simp [fi_ws]; exact hl), fi_ws_at (q := q') (by rw [List.getElem?_set_self hl])]
  · rw [List.getElem?_set_ne (fun e => hj e.symm)]
    simp only [fi_ws, List.getElem?_mapIdx]
    rw [List.getElem?_set_ne (fun e => hj e.symm)]
    rw [hm j hj]
theorem fi_ws_push {Φ : Fi} {sh : List Shp} {M : Mem} {q : Shp} {m' : Mem} (hm : ∀ j, j ≠ sh.length → m' j = M j) {e : va_E} (he : e = fi_ent Φ q (m' sh.length)) : fi_ws Φ sh M ++ [(fi_b Φ + sh.length, e)] = fi_ws Φ (sh ++ [q]) m' := by
  subst he
  apply List.ext_getElem?
  intro j
  simp only [fi_ws, List.getElem?_mapIdx]
  by_cases hj : j < sh.length
  · rw [List.getElem?_append_left (by simp; exact hj), List.getElem?_append_left hj, List.getElem?_mapIdx, hm j (by omega)]
  · rw [List.getElem?_append_right (by simp; omega), List.getElem?_append_right (by omega)]
    by_cases hk : j = sh.length
    · subst hk
      simp
    · have h1 : 1 ≤ j - sh.length := by omega
      rw [List.getElem?_eq_none (by simp; omega), List.getElem?_eq_none (by simp; omega)]
      rfl
theorem fi_flds_set {Φ : Fi} {fs : List (Option (Option Nat))} {m : Nat → Int32} {k : Nat} {x : Int32} (h : fs[k]? = some none) : (fi_flds Φ fs m).set k (.int x) = fi_flds Φ fs (upd m k x) := by
  apply List.ext_getElem?
  intro j
  have hl : k < fs.length := (List.getElem?_eq_some_iff.mp h).1
  by_cases hj : j = k
  · subst hj
    rw [List.getElem?_set_self (by simp [fi_flds]; exact hl)]
    simp [fi_flds, List.getElem?_mapIdx, h, fi_fld, upd]
  · rw [List.getElem?_set_ne (fun e => hj e.symm)]
    simp only [fi_flds, List.getElem?_mapIdx]
    simp [upd, hj]
theorem fi_flds_setR {Φ : Fi} {fs : List (Option (Option Nat))} {m : Nat → Int32} {k r : Nat} (hl : k < fs.length) : (fi_flds Φ fs m).set k (.ref (fi_ad Φ r)) = fi_flds Φ (fs.set k (some (some r))) m := by
  apply List.ext_getElem?
  intro j
  by_cases hj : j = k
  · subst hj
    rw [List.getElem?_set_self (by simp [fi_flds]; exact hl)]
    simp [fi_flds, List.getElem?_mapIdx, fi_fld, hl]
  · rw [List.getElem?_set_ne (fun e => hj e.symm)]
    simp only [fi_flds, List.getElem?_mapIdx]
    rw [List.getElem?_set_ne (fun e => hj e.symm)]
theorem fi_flds_at {Φ : Fi} {fs : List (Option (Option Nat))} {m : Nat → Int32} {k : Nat} {f : Option (Option Nat)} (h : fs[k]? = some f) : (fi_flds Φ fs m)[k]? = some (fi_fld Φ (m k) f) := by
  simp [fi_flds, List.getElem?_mapIdx, h]
theorem fi_flds_len {Φ : Fi} {fs : List (Option (Option Nat))} {m : Nat → Int32} : (fi_flds Φ fs m).length = fs.length := by simp [fi_flds]
theorem fi_W.lt {Φ : Fi} {sh : List Shp} {M : Mem} {H : Heap} (h : fi_W Φ sh M H) {a : Nat} (ha : a < sh.length) : fi_b Φ + a < H.size := by
  have h1 : sh[a]? = some sh[a] := List.getElem?_eq_getElem ha
  exact va_at.lt (h a _ (fi_ws_at h1))
theorem fi_cat {Φ : Fi} (hz : fi_z Φ = .null ∨ ∃ a, fi_z Φ = .ref a) (v : Value) : (fi_v Φ v).category = v.category := by
  cases v <;> try rfl
  show (fi_z Φ).category = 1
  rcases hz with h | ⟨a, h⟩ <;> rw [h] <;> rfl
/-! locals -/
def fi_lst (Φ : Fi) (ls : List (Option Value)) : List (Nat × Value) := (List.range ls.length).filterMap (fun i => ((ls[i]?).join).map (fun v => (i, fi_v Φ v)))
theorem fi_lst_mem {Φ : Fi} {ls : List (Option Value)} {q : Nat × Value} : q ∈ fi_lst Φ ls ↔ ∃ v, ls[q.1]? = some (some v) ∧ q.2 = fi_v Φ v := by
  simp only [fi_lst, List.mem_filterMap, List.mem_range, Option.map_eq_some_iff]
  constructor
  · rintro ⟨i, hi, v, hv, rfl⟩
    refine ⟨v, ?_, rfl⟩
    have h1 : ls[i]? = some ls[i] := List.getElem?_eq_getElem hi
    rw [h1] at hv ⊢
    exact congrArg some hv
  · rintro ⟨v, hv, h2⟩
    refine ⟨q.1, (List.getElem?_eq_some_iff.mp hv).1, v, by rw [hv]; rfl, ?_⟩
    rw [← h2]
theorem fi_L.has {Φ : Fi} {lsA : Array Slot} {nL : Nat} {ls : List (Option Value)} (h : fi_L Φ lsA nL ls) : lv_has lsA nL (fi_lst Φ ls) := by
  refine ⟨h.1, h.2.1, fun q hq => ?_⟩
  obtain ⟨v, h1, h2⟩ := fi_lst_mem.mp hq
  rw [h2]
  exact h.2.2 _ _ h1
/-- no long stands just ahead of place i -/
def noL (ls : List (Option Value)) : Nat → Bool
  | 0 => true
  | i + 1 => match ls[i]? with
    | some (some v) => v.category == 1
    | _ => true
theorem fi_L.store {Φ : Fi} (hz : fi_z Φ = .null ∨ ∃ a, fi_z Φ = .ref a) {lsA' : Array Slot} {nL i : Nat} {ls : List (Option Value)} {v : Value} (hi : noL ls i = true)
    (h : lv_has lsA' nL ((i, fi_v Φ v) :: (fi_lst Φ ls).filter (fun q => !(q.1 == i) && !(q.1 + 1 == i && q.2.category == 2)))) : fi_L Φ lsA' nL (ls.set i (some v)) := by
  refine ⟨h.1, h.2.1, fun j w hj => ?_⟩
  by_cases e : j = i
  · subst e
    have hl : j < ls.length := by
      have := (List.getElem?_eq_some_iff.mp hj).1
      simpa using this
    rw [List.getElem?_set_self hl] at hj
    cases hj
    exact h.2.2 (j, fi_v Φ v) List.mem_cons_self
  · rw [List.getElem?_set_ne (fun q => e q.symm)] at hj
    refine h.2.2 (j, fi_v Φ w) (List.mem_cons_of_mem _ (List.mem_filter.mpr ⟨fi_lst_mem.mpr ⟨w, hj, rfl⟩, ?_⟩))
    simp only [Bool.and_eq_true, Bool.not_eq_true', beq_eq_false_iff_ne, ne_eq, Bool.and_eq_false_iff]
    refine ⟨e, ?_⟩
    by_cases e2 : j + 1 = i
    · right
      subst e2
      rw [fi_cat hz]
      simp only [noL, hj] at hi
      intro q
      have := beq_iff_eq.mp hi
      omega
    · exact Or.inl e2
theorem fi_L.store2 {Φ : Fi} (hz : fi_z Φ = .null ∨ ∃ a, fi_z Φ = .ref a) {lsA' : Array Slot} {nL i : Nat} {ls : List (Option Value)} {v : Value} (hi : noL ls i = true)
    (h : lv_has lsA' nL ((i, fi_v Φ v) :: (fi_lst Φ ls).filter (fun q => !(q.1 == i) && (!(q.1 == i + 1) && !(q.1 + 1 == i && q.2.category == 2))))) : fi_L Φ lsA' nL ((ls.set i (some v)).set (i + 1) none) := by
  refine ⟨h.1, h.2.1, fun j w hj => ?_⟩
  by_cases e1 : j = i + 1
  · subst e1
    by_cases hl : i + 1 < ls.length
    · rw [List.getElem?_set_self (by simpa using hl)] at hj
      cases hj
    · rw [List.getElem?_eq_none (by simp; omega)] at hj
      cases hj
  rw [List.getElem?_set_ne (fun q => e1 q.symm)] at hj
  by_cases e : j = i
  · subst e
    have hl : j < ls.length := by
      have := (List.getElem?_eq_some_iff.mp hj).1
      simpa using this
    rw [List.getElem?_set_self hl] at hj
    cases hj
    exact h.2.2 (j, fi_v Φ v) List.mem_cons_self
  · rw [List.getElem?_set_ne (fun q => e q.symm)] at hj
    refine h.2.2 (j, fi_v Φ w) (List.mem_cons_of_mem _ (List.mem_filter.mpr ⟨fi_lst_mem.mpr ⟨w, hj, rfl⟩, ?_⟩))
    simp only [Bool.and_eq_true, Bool.not_eq_true', beq_eq_false_iff_ne, ne_eq, Bool.and_eq_false_iff]
    refine ⟨e, e1, ?_⟩
    by_cases e2 : j + 1 = i
    · right
      subst e2
      rw [fi_cat hz]
      simp only [noL, hj] at hi
      intro q
      have := beq_iff_eq.mp hi
      omega
    · exact Or.inl e2
theorem fi_al_in {Φ : Fi} (hz : fi_z Φ = .null ∨ ∃ a, fi_z Φ = .ref a) : ∀ (av : List Value) (k j : Nat) (v : Value), (fi_al av)[j]? = some (some v) → (k + j, fi_v Φ v) ∈ lv_args k (av.map (fi_v Φ))
  | [], k, j, v, h => by simp [fi_al] at h
  | w :: vs, k, j, v, h => by
    show _ ∈ (k, fi_v Φ w) :: lv_args _ (vs.map (fi_v Φ))
    rw [fi_cat hz]
    unfold fi_al at h
    by_cases hc : w.category = 2
    · rw [if_pos hc] at h ⊢
      match j, h with
      | 0, h => simp at h; subst h; exact List.mem_cons_self
      | 1, h => simp at h
      | j + 2, h =>
        have h2 : (fi_al vs)[j]? = some (some v) := by simpa using h
        have := fi_al_in hz vs (k + 2) j v h2
        rw [show k + 2 + j = k + (j + 2) by omega] at this
        exact List.mem_cons_of_mem _ this
    · rw [if_neg hc] at h ⊢
      match j, h with
      | 0, h => simp at h; subst h; exact List.mem_cons_self
      | j + 1, h =>
        have h2 : (fi_al vs)[j]? = some (some v) := by simpa using h
        have := fi_al_in hz vs (k + 1) j v h2
        rw [show k + 1 + j = k + (j + 1) by omega] at this
        exact List.mem_cons_of_mem _ this
theorem fi_L.entry {Φ : Fi} (hz : fi_z Φ = .null ∨ ∃ a, fi_z Φ = .ref a) {lsA : Array Slot} {nL : Nat} {av : List Value} (h : lv_has lsA nL (lv_args 0 (av.map (fi_v Φ)))) : fi_L Φ lsA nL (fi_args nL av) := by
  refine ⟨h.1, h.2.1, fun j v hj => ?_⟩
  unfold fi_args at hj
  by_cases hl : j < (fi_al av).length
  · rw [List.getElem?_append_left hl] at hj
    have := fi_al_in hz av 0 j v hj
    rw [Nat.zero_add] at this
    exact h.2.2 _ this
  · rw [List.getElem?_append_right (by omega)] at hj
    obtain ⟨h1, h2⟩ := List.getElem?_eq_some_iff.mp hj
    simp at h2
theorem fi_sl_len {Φ : Fi} (hz : fi_z Φ = .null ∨ ∃ a, fi_z Φ = .ref a) (av : List Value) : (lg_sl (av.map (fi_v Φ))).length = (lg_sl av).length := by
  induction av with
  | nil => rfl
  | cons v vs ih =>
    simp only [lg_sl, List.map_cons, List.flatMap_cons, List.length_append] at ih ⊢
    rw [ih, fi_cat hz]
    by_cases hc : v.category = 2 <;> simp [hc]
