/-! constructors, told as functions over the shapes too -/
abbrev CR : Type := Option (List Shp × Mem)
def mkO (cl : Nat) (q : Shp) (sh : List Shp) (M : Mem) (g : List Shp → Mem → CR) : CR := if sh.length + 1 ≤ 1000 ∧ cl ≤ sh.length then g (sh ++ [q]) (zero2 M sh.length) else none
def mnO (cl N K : Nat) (sh : List Shp) (M : Mem) (g : List Shp → Mem → CR) : CR := if sh.length + 1 + N ≤ 1000 ∧ cl ≤ sh.length then g (sh ++ mnaS sh.length N K) (zeroN M sh.length (N + 1)) else none
def stO (ci a k : Nat) (x : Int32) (sh : List Shp) (M : Mem) (g : Mem → CR) : CR := match sh[a]? with
  | some q => if q.1 = ci ∧ q.2.2[k]? = some none then g (upd2 M a k x) else none
  | none => none
def rfO (ci a k r : Nat) (sh : List Shp) (g : List Shp → CR) : CR := match sh[a]? with
  | some q => if q.1 = ci ∧ k < q.2.2.length then g (sh.set a (q.1, q.2.1, q.2.2.set k (some (some r)))) else none
  | none => none
def gtO (ci a k : Nat) (sh : List Shp) (g : Nat → CR) : CR := match sh[a]? with
  | some q => if q.1 = ci then (match q.2.2[k]? with
    | some (some (some r)) => g r
    | _ => none) else none
  | none => none
def caO (cl mc : Nat) (o : CR) (sh : List Shp) (g : List Shp → Mem → CR) : CR := match o with
  | some p => if (p.1.length = sh.length + mc ∧ p.1.length ≤ 1000) ∧ cl ≤ sh.length then g p.1 p.2 else none
  | none => none
def thO (c : Bool) (g : CR) : CR := if c = true then g else none
def thB (o : Option Mem) (g : Mem → CR) : CR := o.bind g
def thM (M : Mem) (a k : Nat) (x : Int32) (g : Mem → CR) : CR := g (upd2 M a k x)
def cl9 (cl : Nat) (sh : List Shp) : Bool := decide (cl ≤ sh.length)
theorem hb9 {cl a b : Nat} {sh : List Shp} (hc : cl ≤ sh.length) (h : a + cl = b + sh.length) : b ≤ a := by omega
theorem cl9_ok {cl : Nat} {sh : List Shp} (h : cl9 cl sh = true) : cl ≤ sh.length := of_decide_eq_true h
theorem and_s {a b : Bool} (h : (a && b) = true) : a = true ∧ b = true := Bool.and_eq_true_iff.mp h
theorem mkO_s {cl : Nat} {q : Shp} {sh : List Shp} {M : Mem} {g : List Shp → Mem → CR} {r : List Shp × Mem} (h : mkO cl q sh M g = some r) : (sh.length + 1 ≤ 1000 ∧ cl ≤ sh.length) ∧ ∀ sh1 M1, sh1 = sh ++ [q] → M1 = zero2 M sh.length → g sh1 M1 = some r := by
  obtain ⟨h1, h2⟩ := ite_n h
  exact ⟨h1, fun sh1 M1 e1 e2 => by subst e1; subst e2; exact h2⟩
theorem mnO_s {cl N K : Nat} {sh : List Shp} {M : Mem} {g : List Shp → Mem → CR} {r : List Shp × Mem} (h : mnO cl N K sh M g = some r) : (sh.length + 1 + N ≤ 1000 ∧ cl ≤ sh.length) ∧ ∀ sh1 M1, sh1 = sh ++ mnaS sh.length N K → M1 = zeroN M sh.length (N + 1) → g sh1 M1 = some r := by
  obtain ⟨h1, h2⟩ := ite_n h
  exact ⟨h1, fun sh1 M1 e1 e2 => by subst e1; subst e2; exact h2⟩
theorem stO_s {ci a k : Nat} {x : Int32} {sh : List Shp} {M : Mem} {g : Mem → CR} {r : List Shp × Mem} (h : stO ci a k x sh M g = some r) : ∃ q : Shp, sh[a]? = some q ∧ q.1 = ci ∧ q.2.2[k]? = some none ∧ ∀ M1, M1 = upd2 M a k x → g M1 = some r := by
  unfold stO at h
  split at h
  · next q hq =>
    obtain ⟨h1, h2⟩ := ite_n h
    exact ⟨q, hq, h1.1, h1.2, fun M1 e => by subst e; exact h2⟩
  · cases h
theorem rfO_s {ci a k r0 : Nat} {sh : List Shp} {g : List Shp → CR} {r : List Shp × Mem} (h : rfO ci a k r0 sh g = some r) : ∃ q : Shp, sh[a]? = some q ∧ q.1 = ci ∧ k < q.2.2.length ∧ ∀ sh1, sh1 = sh.set a (q.1, q.2.1, q.2.2.set k (some (some r0))) → g sh1 = some r := by
  unfold rfO at h
  split at h
  · next q hq =>
    obtain ⟨h1, h2⟩ := ite_n h
    exact ⟨q, hq, h1.1, h1.2, fun M1 e => by subst e; exact h2⟩
  · cases h
theorem gtO_s {ci a k : Nat} {sh : List Shp} {g : Nat → CR} {r : List Shp × Mem} (h : gtO ci a k sh g = some r) : ∃ (q : Shp) (r1 : Nat), sh[a]? = some q ∧ q.1 = ci ∧ q.2.2[k]? = some (some (some r1)) ∧ g r1 = some r := by
  unfold gtO at h
  split at h
  · next q hq =>
    obtain ⟨h1, h2⟩ := ite_n h
    split at h2
    · next r1 hr => exact ⟨q, r1, hq, h1, hr, h2⟩
    · cases h2
  · cases h
theorem caO_s {cl mc : Nat} {o : CR} {sh : List Shp} {g : List Shp → Mem → CR} {r : List Shp × Mem} (h : caO cl mc o sh g = some r) : ∃ sh1 M1, o = some (sh1, M1) ∧ (sh1.length = sh.length + mc ∧ sh1.length ≤ 1000) ∧ cl ≤ sh.length ∧ g sh1 M1 = some r := by
  cases o with
  | none => cases h
  | some p =>
    obtain ⟨h1, h2⟩ := ite_n h
    exact ⟨p.1, p.2, rfl, h1.1, h1.2, h2⟩
theorem thO_s {c : Bool} {g : CR} {r : List Shp × Mem} (h : thO c g = some r) : c = true ∧ g = some r := ite_n h
theorem thB_s {o : Option Mem} {g : Mem → CR} {r : List Shp × Mem} (h : thB o g = some r) : ∃ M1, o = some M1 ∧ g M1 = some r := by
  cases o with
  | none => cases h
  | some v => exact ⟨v, rfl, h⟩
theorem thM_s {M : Mem} {a k : Nat} {x : Int32} {g : Mem → CR} {r : List Shp × Mem} (h : thM M a k x g = some r) (M1 : Mem) (e : M1 = upd2 M a k x) : g M1 = some r := by subst e; exact h
def bTol (sh : List Shp) (a : Nat) : Bool := decide (sh[a]? = some (8, 11, [none, none, none, none, none, none, some (some (a + 1)), some (some (a + 2)), some (some (a + 3)), some (some (a + 9)), some (some (a + 13))])) && (decide (sh[a + 1]? = some (20, 81, [])) && (decide (sh[a + 2]? = some (20, 6, [])) && (decide (sh[a + 3]? = some (0, 6, [none, some (some (a + 4)), some (some (a + 5)), some (some (a + 6)), some (some (a + 7)), some (some (a + 8))])) && (decide (sh[a + 4]? = some (20, 8, [])) && (decide (sh[a + 5]? = some (20, 8, [])) && (decide (sh[a + 6]? = some (20, 8, [])) && (decide (sh[a + 7]? = some (20, 8, [])) && (decide (sh[a + 8]? = some (20, 8, [])) && (decide (sh[a + 9]? = some (9, 4, [none, some (some (a + 10)), some (some (a + 11)), some (some (a + 12))])) && (decide (sh[a + 10]? = some (20, 12, [])) && (decide (sh[a + 11]? = some (20, 12, [])) && (decide (sh[a + 12]? = some (20, 12, [])) && (decide (sh[a + 13]? = some (9, 4, [none, some (some (a + 14)), some (some (a + 15)), some (some (a + 16))])) && (decide (sh[a + 14]? = some (20, 12, [])) && (decide (sh[a + 15]? = some (20, 12, [])) && (decide (sh[a + 16]? = some (20, 12, []))))))))))))))))))
theorem bTol_ok {sh : List Shp} {a : Nat} (h : bTol sh a = true) : LTol sh a := by
  simp only [bTol, Bool.and_eq_true, decide_eq_true_eq] at h
  exact h
theorem om_RX0_3 : Cond.methodLink RX0 3 objectInit ∈ GW := gw_at 124 (by decide +kernel) rfl
theorem ow_i : Cond.instanceMethod objectInit ∈ GW := gw_at 111 (by decide +kernel) rfl
theorem ow_c : Cond.code objectInit ⟨#[0xb1]⟩ 1 none ∈ GW := gw_at 112 (by decide +kernel) rfl
theorem ki_0 : Int32.ofInt 0 = 0 := by decide +kernel
theorem cp_RX0_9 : FP RX0 9 0 0 (.int) false := ⟨RX0, TX0, 6, tyX0, rfl, by decide, gw_at 125 (by decide +kernel) rfl, clin_0, tyX0_ok, nmX0, rfl, by decide +kernel, fun h => by cases h⟩
theorem kb_8 : (Int8.ofInt 8).toInt32 = 8 := by decide +kernel
theorem aw_20 : Cond.arrayClass .int ∈ GW := gw_at 149 (by decide +kernel) rfl
theorem cp_RX0_15 : FP RX0 15 0 1 (.array .int) true := ⟨RX0, TX0, 6, tyX0, rfl, by decide, gw_at 131 (by decide +kernel) rfl, clin_0, tyX0_ok, nmX0, rfl, by decide +kernel, fun _ => rfl⟩
theorem cp_RX0_19 : FP RX0 19 0 2 (.array .int) true := ⟨RX0, TX0, 6, tyX0, rfl, by decide, gw_at 132 (by decide +kernel) rfl, clin_0, tyX0_ok, nmX0, rfl, by decide +kernel, fun _ => rfl⟩
theorem cp_RX0_22 : FP RX0 22 0 3 (.array .int) true := ⟨RX0, TX0, 6, tyX0, rfl, by decide, gw_at 133 (by decide +kernel) rfl, clin_0, tyX0_ok, nmX0, rfl, by decide +kernel, fun _ => rfl⟩
theorem cp_RX0_25 : FP RX0 25 0 4 (.array .int) true := ⟨RX0, TX0, 6, tyX0, rfl, by decide, gw_at 134 (by decide +kernel) rfl, clin_0, tyX0_ok, nmX0, rfl, by decide +kernel, fun _ => rfl⟩
theorem cp_RX0_28 : FP RX0 28 0 5 (.array .int) true := ⟨RX0, TX0, 6, tyX0, rfl, by decide, gw_at 135 (by decide +kernel) rfl, clin_0, tyX0_ok, nmX0, rfl, by decide +kernel, fun _ => rfl⟩
theorem om_RX9_3 : Cond.methodLink RX9 3 objectInit ∈ GW := gw_at 155 (by decide +kernel) rfl
theorem cp_RX9_9 : FP RX9 9 9 0 (.int) false := ⟨RX9, TX9, 4, tyX9, rfl, by decide, gw_at 156 (by decide +kernel) rfl, clin_9, tyX9_ok, nmX9, rfl, by decide +kernel, fun h => by cases h⟩
theorem kb_12 : (Int8.ofInt 12).toInt32 = 12 := by decide +kernel
theorem cp_RX9_15 : FP RX9 15 9 1 (.array .int) true := ⟨RX9, TX9, 4, tyX9, rfl, by decide, gw_at 163 (by decide +kernel) rfl, clin_9, tyX9_ok, nmX9, rfl, by decide +kernel, fun _ => rfl⟩
theorem cp_RX9_19 : FP RX9 19 9 2 (.array .int) true := ⟨RX9, TX9, 4, tyX9, rfl, by decide, gw_at 164 (by decide +kernel) rfl, clin_9, tyX9_ok, nmX9, rfl, by decide +kernel, fun _ => rfl⟩
theorem cp_RX9_22 : FP RX9 22 9 3 (.array .int) true := ⟨RX9, TX9, 4, tyX9, rfl, by decide, gw_at 165 (by decide +kernel) rfl, clin_9, tyX9_ok, nmX9, rfl, by decide +kernel, fun _ => rfl⟩
theorem om_RX8_3 : Cond.methodLink RX8 3 objectInit ∈ GW := gw_at 118 (by decide +kernel) rfl
theorem kb_81 : (Int8.ofInt 81).toInt32 = 81 := by decide +kernel
theorem cp_RX8_9 : FP RX8 9 8 6 (.array .int) true := ⟨RX8, TX8, 11, tyX8, rfl, by decide, gw_at 209 (by decide +kernel) rfl, clin_8, tyX8_ok, nmX8, rfl, by decide +kernel, fun _ => rfl⟩
theorem kb_6 : (Int8.ofInt 6).toInt32 = 6 := by decide +kernel
theorem cp_RX8_15 : FP RX8 15 8 7 (.array .int) true := ⟨RX8, TX8, 11, tyX8, rfl, by decide, gw_at 210 (by decide +kernel) rfl, clin_8, tyX8_ok, nmX8, rfl, by decide +kernel, fun _ => rfl⟩
theorem nw_RX8_18 : Cond.classLink RX8 18 RX0 ∈ GW ∧ Cond.instantiable RX0 6 ∈ GW ∧ Cond.initialized RX0 ∈ GW := ⟨gw_at 119 (by decide +kernel) rfl, gw_at 120 (by decide +kernel) rfl, gw_at 87 (by decide +kernel) rfl⟩
theorem dvX0 : ∀ k, k < 6 → tyX0 k = .int ∨ defaultValue (tyX0 k) = .null ∧ tyX0 k ≠ .int := by decide +kernel
theorem in_RX8_20 : Cond.methodLinkNest RX8 20 yX0_init "HallAnswers" ∈ NW := nw_at 121 (by decide +kernel) rfl
theorem iw_RX8_20 : Cond.instanceMethod yX0_init ∈ GW ∧ Cond.initialized yX0_init.cls ∈ GW ∧ Cond.code yX0_init cX0_init 1 none ∈ GW ∧ MX yX0_init 0 := ⟨gw_at 122 (by decide +kernel) rfl, gw_at 87 (by decide +kernel) rfl, gw_at 123 (by decide +kernel) rfl, ⟨by decide +kernel, by decide +kernel, by decide +kernel⟩⟩
theorem cp_RX8_21 : FP RX8 21 8 8 (.object "HallAnswers$Benches") true := ⟨RX8, TX8, 11, tyX8, rfl, by decide, gw_at 211 (by decide +kernel) rfl, clin_8, tyX8_ok, nmX8, rfl, by decide +kernel, fun _ => rfl⟩
theorem nw_RX8_25 : Cond.classLink RX8 25 RX9 ∈ GW ∧ Cond.instantiable RX9 4 ∈ GW ∧ Cond.initialized RX9 ∈ GW := ⟨gw_at 150 (by decide +kernel) rfl, gw_at 151 (by decide +kernel) rfl, gw_at 88 (by decide +kernel) rfl⟩
theorem dvX9 : ∀ k, k < 4 → tyX9 k = .int ∨ defaultValue (tyX9 k) = .null ∧ tyX9 k ≠ .int := by decide +kernel
theorem in_RX8_27 : Cond.methodLinkNest RX8 27 yX9_init "HallAnswers" ∈ NW := nw_at 152 (by decide +kernel) rfl
theorem iw_RX8_27 : Cond.instanceMethod yX9_init ∈ GW ∧ Cond.initialized yX9_init.cls ∈ GW ∧ Cond.code yX9_init cX9_init 1 none ∈ GW ∧ MX yX9_init 0 := ⟨gw_at 153 (by decide +kernel) rfl, gw_at 88 (by decide +kernel) rfl, gw_at 154 (by decide +kernel) rfl, ⟨by decide +kernel, by decide +kernel, by decide +kernel⟩⟩
theorem cp_RX8_28 : FP RX8 28 8 9 (.object "HallAnswers$Triples") true := ⟨RX8, TX8, 11, tyX8, rfl, by decide, gw_at 216 (by decide +kernel) rfl, clin_8, tyX8_ok, nmX8, rfl, by decide +kernel, fun _ => rfl⟩
theorem cp_RX8_32 : FP RX8 32 8 10 (.object "HallAnswers$Triples") true := ⟨RX8, TX8, 11, tyX8, rfl, by decide, gw_at 221 (by decide +kernel) rfl, clin_8, tyX8_ok, nmX8, rfl, by decide +kernel, fun _ => rfl⟩
theorem mv_RX8_35 : Cond.methodLink RX8 35 yX8_startAnew ∈ GW ∧ Cond.instanceMethod yX8_startAnew ∈ GW ∧ Cond.selects yX8_startAnew.cls yX8_startAnew yX8_startAnew ∈ GW ∧ Cond.initialized yX8_startAnew.cls ∈ GW ∧ Cond.code yX8_startAnew cX8_startAnew 2 none ∈ GW ∧ MX yX8_startAnew 0 := ⟨gw_at 175 (by decide +kernel) rfl, ki_X8_startAnew, ks_X8_startAnew, kn_X8_startAnew, kc_X8_startAnew, kx_X8_startAnew⟩
theorem om_RX6_3 : Cond.methodLink RX6 3 objectInit ∈ GW := gw_at 261 (by decide +kernel) rfl
theorem cp_RX6_9 : FP RX6 9 6 0 (.int) false := ⟨RX6, TX6, 8, tyX6, rfl, by decide, gw_at 262 (by decide +kernel) rfl, clin_6, tyX6_ok, nmX6, rfl, by decide +kernel, fun h => by cases h⟩
theorem ki_4 : Int32.ofInt 4 = 4 := by decide +kernel
theorem cp_RX6_15 : FP RX6 15 6 1 (.int) false := ⟨RX6, TX6, 8, tyX6, rfl, by decide, gw_at 265 (by decide +kernel) rfl, clin_6, tyX6_ok, nmX6, rfl, by decide +kernel, fun h => by cases h⟩
theorem cp_RX6_18 : FP RX6 18 6 2 (.int) false := ⟨RX6, TX6, 8, tyX6, rfl, by decide, gw_at 267 (by decide +kernel) rfl, clin_6, tyX6_ok, nmX6, rfl, by decide +kernel, fun h => by cases h⟩
theorem cp_RX6_21 : FP RX6 21 6 3 (.int) false := ⟨RX6, TX6, 8, tyX6, rfl, by decide, gw_at 269 (by decide +kernel) rfl, clin_6, tyX6_ok, nmX6, rfl, by decide +kernel, fun h => by cases h⟩
theorem cp_RX6_24 : FP RX6 24 6 4 (.int) false := ⟨RX6, TX6, 8, tyX6, rfl, by decide, gw_at 271 (by decide +kernel) rfl, clin_6, tyX6_ok, nmX6, rfl, by decide +kernel, fun h => by cases h⟩
theorem cp_RX6_27 : FP RX6 27 6 5 (.int) false := ⟨RX6, TX6, 8, tyX6, rfl, by decide, gw_at 274 (by decide +kernel) rfl, clin_6, tyX6_ok, nmX6, rfl, by decide +kernel, fun h => by cases h⟩
theorem cp_RX6_30 : FP RX6 30 6 6 (.int) false := ⟨RX6, TX6, 8, tyX6, rfl, by decide, gw_at 276 (by decide +kernel) rfl, clin_6, tyX6_ok, nmX6, rfl, by decide +kernel, fun h => by cases h⟩
theorem ks_320 : (Int16.ofInt 320).toInt32 = 320 := by decide +kernel
theorem aw_21 : Cond.arrayClass .byte ∈ GW := gw_at 295 (by decide +kernel) rfl
theorem cp_RX6_33 : FP RX6 33 6 7 (.array .byte) true := ⟨RX6, TX6, 8, tyX6, rfl, by decide, gw_at 277 (by decide +kernel) rfl, clin_6, tyX6_ok, nmX6, rfl, by decide +kernel, fun _ => rfl⟩
theorem om_RX7_3 : Cond.methodLink RX7 3 objectInit ∈ GW := gw_at 253 (by decide +kernel) rfl
theorem nw_RX7_9 : Cond.classLink RX7 9 RX8 ∈ GW ∧ Cond.instantiable RX8 11 ∈ GW ∧ Cond.initialized RX8 ∈ GW := ⟨gw_at 254 (by decide +kernel) rfl, gw_at 114 (by decide +kernel) rfl, gw_at 86 (by decide +kernel) rfl⟩
theorem dvX8 : ∀ k, k < 11 → tyX8 k = .int ∨ defaultValue (tyX8 k) = .null ∧ tyX8 k ≠ .int := by decide +kernel
theorem iw_RX7_11 : Cond.methodLink RX7 11 yX8_init ∈ GW ∧ Cond.instanceMethod yX8_init ∈ GW ∧ Cond.initialized yX8_init.cls ∈ GW ∧ Cond.code yX8_init cX8_init 1 none ∈ GW ∧ MX yX8_init 0 := ⟨gw_at 255 (by decide +kernel) rfl, gw_at 116 (by decide +kernel) rfl, gw_at 86 (by decide +kernel) rfl, gw_at 117 (by decide +kernel) rfl, ⟨by decide +kernel, by decide +kernel, by decide +kernel⟩⟩
theorem cp_RX7_12 : FP RX7 12 7 0 (.object "HallAnswers$Told") true := ⟨RX7, TX7, 4, tyX7, rfl, by decide, gw_at 296 (by decide +kernel) rfl, clin_7, tyX7_ok, nmX7, rfl, by decide +kernel, fun _ => rfl⟩
theorem nw_RX7_18 : Cond.classLink RX7 18 RX6 ∈ GW ∧ Cond.instantiable RX6 8 ∈ GW ∧ Cond.initialized RX6 ∈ GW := ⟨gw_at 256 (by decide +kernel) rfl, gw_at 257 (by decide +kernel) rfl, gw_at 91 (by decide +kernel) rfl⟩
theorem dvX6 : ∀ k, k < 8 → tyX6 k = .int ∨ defaultValue (tyX6 k) = .null ∧ tyX6 k ≠ .int := by decide +kernel
theorem in_RX7_20 : Cond.methodLinkNest RX7 20 yX6_init "HallAnswers" ∈ NW := nw_at 258 (by decide +kernel) rfl
theorem iw_RX7_20 : Cond.instanceMethod yX6_init ∈ GW ∧ Cond.initialized yX6_init.cls ∈ GW ∧ Cond.code yX6_init cX6_init 1 none ∈ GW ∧ MX yX6_init 0 := ⟨gw_at 259 (by decide +kernel) rfl, gw_at 91 (by decide +kernel) rfl, gw_at 260 (by decide +kernel) rfl, ⟨by decide +kernel, by decide +kernel, by decide +kernel⟩⟩
theorem cp_RX7_21 : FP RX7 21 7 1 (.object "HallAnswers$Tape") true := ⟨RX7, TX7, 4, tyX7, rfl, by decide, gw_at 298 (by decide +kernel) rfl, clin_7, tyX7_ok, nmX7, rfl, by decide +kernel, fun _ => rfl⟩
theorem cp_RX7_25 : FP RX7 25 7 2 (.int) false := ⟨RX7, TX7, 4, tyX7, rfl, by decide, gw_at 300 (by decide +kernel) rfl, clin_7, tyX7_ok, nmX7, rfl, by decide +kernel, fun h => by cases h⟩
theorem ki_m1 : Int32.ofInt (-1) = (-1) := by decide +kernel
theorem cp_RX7_29 : FP RX7 29 7 3 (.int) false := ⟨RX7, TX7, 4, tyX7, rfl, by decide, gw_at 301 (by decide +kernel) rfl, clin_7, tyX7_ok, nmX7, rfl, by decide +kernel, fun h => by cases h⟩
theorem om_RX1_3 : Cond.methodLink RX1 3 objectInit ∈ GW := gw_at 322 (by decide +kernel) rfl
theorem cp_RX1_9 : FP RX1 9 1 0 (.int) false := ⟨RX1, TX1, 4, tyX1, rfl, by decide, gw_at 323 (by decide +kernel) rfl, clin_1, tyX1_ok, nmX1, rfl, by decide +kernel, fun h => by cases h⟩
theorem kb_41 : (Int8.ofInt 41).toInt32 = 41 := by decide +kernel
theorem cp_RX1_15 : FP RX1 15 1 1 (.array .int) true := ⟨RX1, TX1, 4, tyX1, rfl, by decide, gw_at 325 (by decide +kernel) rfl, clin_1, tyX1_ok, nmX1, rfl, by decide +kernel, fun _ => rfl⟩
theorem cp_RX1_19 : FP RX1 19 1 2 (.array .int) true := ⟨RX1, TX1, 4, tyX1, rfl, by decide, gw_at 326 (by decide +kernel) rfl, clin_1, tyX1_ok, nmX1, rfl, by decide +kernel, fun _ => rfl⟩
theorem cp_RX1_22 : FP RX1 22 1 3 (.array .int) true := ⟨RX1, TX1, 4, tyX1, rfl, by decide, gw_at 327 (by decide +kernel) rfl, clin_1, tyX1_ok, nmX1, rfl, by decide +kernel, fun _ => rfl⟩
theorem om_RX3_3 : Cond.methodLink RX3 3 objectInit ∈ GW := gw_at 316 (by decide +kernel) rfl
theorem nw_RX3_9 : Cond.classLink RX3 9 RX1 ∈ GW ∧ Cond.instantiable RX1 4 ∈ GW ∧ Cond.initialized RX1 ∈ GW := ⟨gw_at 317 (by decide +kernel) rfl, gw_at 318 (by decide +kernel) rfl, gw_at 93 (by decide +kernel) rfl⟩
theorem dvX1 : ∀ k, k < 4 → tyX1 k = .int ∨ defaultValue (tyX1 k) = .null ∧ tyX1 k ≠ .int := by decide +kernel
theorem in_RX3_11 : Cond.methodLinkNest RX3 11 yX1_init "HallAnswers" ∈ NW := nw_at 319 (by decide +kernel) rfl
theorem iw_RX3_11 : Cond.instanceMethod yX1_init ∈ GW ∧ Cond.initialized yX1_init.cls ∈ GW ∧ Cond.code yX1_init cX1_init 1 none ∈ GW ∧ MX yX1_init 0 := ⟨gw_at 320 (by decide +kernel) rfl, gw_at 93 (by decide +kernel) rfl, gw_at 321 (by decide +kernel) rfl, ⟨by decide +kernel, by decide +kernel, by decide +kernel⟩⟩
theorem cp_RX3_12 : FP RX3 12 3 0 (.object "HallAnswers$Course") true := ⟨RX3, TX3, 2, tyX3, rfl, by decide, gw_at 337 (by decide +kernel) rfl, clin_3, tyX3_ok, nmX3, rfl, by decide +kernel, fun _ => rfl⟩
theorem cp_RX3_18 : FP RX3 18 3 1 (.array .int) true := ⟨RX3, TX3, 2, tyX3, rfl, by decide, gw_at 339 (by decide +kernel) rfl, clin_3, tyX3_ok, nmX3, rfl, by decide +kernel, fun _ => rfl⟩
theorem om_RX2_3 : Cond.methodLink RX2 3 objectInit ∈ GW := gw_at 350 (by decide +kernel) rfl
theorem nw_RX2_9 : Cond.classLink RX2 9 RX3 ∈ GW ∧ Cond.instantiable RX3 2 ∈ GW ∧ Cond.initialized RX3 ∈ GW := ⟨gw_at 351 (by decide +kernel) rfl, gw_at 312 (by decide +kernel) rfl, gw_at 92 (by decide +kernel) rfl⟩
theorem dvX3 : ∀ k, k < 2 → tyX3 k = .int ∨ defaultValue (tyX3 k) = .null ∧ tyX3 k ≠ .int := by decide +kernel
theorem in_RX2_11 : Cond.methodLinkNest RX2 11 yX3_init "HallAnswers" ∈ NW := nw_at 352 (by decide +kernel) rfl
theorem iw_RX2_11 : Cond.instanceMethod yX3_init ∈ GW ∧ Cond.initialized yX3_init.cls ∈ GW ∧ Cond.code yX3_init cX3_init 1 none ∈ GW ∧ MX yX3_init 0 := ⟨gw_at 314 (by decide +kernel) rfl, gw_at 92 (by decide +kernel) rfl, gw_at 315 (by decide +kernel) rfl, ⟨by decide +kernel, by decide +kernel, by decide +kernel⟩⟩
theorem cp_RX2_12 : FP RX2 12 2 0 (.object "HallAnswers$Hearing") true := ⟨RX2, TX2, 2, tyX2, rfl, by decide, gw_at 353 (by decide +kernel) rfl, clin_2, tyX2_ok, nmX2, rfl, by decide +kernel, fun _ => rfl⟩
theorem cp_RX2_18 : FP RX2 18 2 1 (.array .int) true := ⟨RX2, TX2, 2, tyX2, rfl, by decide, gw_at 354 (by decide +kernel) rfl, clin_2, tyX2_ok, nmX2, rfl, by decide +kernel, fun _ => rfl⟩
theorem om_RX4_3 : Cond.methodLink RX4 3 objectInit ∈ GW := gw_at 365 (by decide +kernel) rfl
theorem cp_RX4_9 : FP RX4 9 4 0 (.int) false := ⟨RX4, TX4, 5, tyX4, rfl, by decide, gw_at 368 (by decide +kernel) rfl, clin_4, tyX4_ok, nmX4, rfl, by decide +kernel, fun h => by cases h⟩
theorem cp_RX4_15 : FP RX4 15 4 1 (.int) false := ⟨RX4, TX4, 5, tyX4, rfl, by decide, gw_at 370 (by decide +kernel) rfl, clin_4, tyX4_ok, nmX4, rfl, by decide +kernel, fun h => by cases h⟩
theorem nw_RX4_18 : Cond.classLink RX4 18 RX3 ∈ GW ∧ Cond.instantiable RX3 2 ∈ GW ∧ Cond.initialized RX3 ∈ GW := ⟨gw_at 366 (by decide +kernel) rfl, gw_at 312 (by decide +kernel) rfl, gw_at 92 (by decide +kernel) rfl⟩
theorem in_RX4_20 : Cond.methodLinkNest RX4 20 yX3_init "HallAnswers" ∈ NW := nw_at 367 (by decide +kernel) rfl
theorem iw_RX4_20 : Cond.instanceMethod yX3_init ∈ GW ∧ Cond.initialized yX3_init.cls ∈ GW ∧ Cond.code yX3_init cX3_init 1 none ∈ GW ∧ MX yX3_init 0 := ⟨gw_at 314 (by decide +kernel) rfl, gw_at 92 (by decide +kernel) rfl, gw_at 315 (by decide +kernel) rfl, ⟨by decide +kernel, by decide +kernel, by decide +kernel⟩⟩
theorem cp_RX4_21 : FP RX4 21 4 2 (.object "HallAnswers$Hearing") true := ⟨RX4, TX4, 5, tyX4, rfl, by decide, gw_at 372 (by decide +kernel) rfl, clin_4, tyX4_ok, nmX4, rfl, by decide +kernel, fun _ => rfl⟩
theorem cp_RX4_25 : FP RX4 25 4 3 (.array .int) true := ⟨RX4, TX4, 5, tyX4, rfl, by decide, gw_at 373 (by decide +kernel) rfl, clin_4, tyX4_ok, nmX4, rfl, by decide +kernel, fun _ => rfl⟩
theorem cp_RX4_29 : FP RX4 29 4 4 (.array .int) true := ⟨RX4, TX4, 5, tyX4, rfl, by decide, gw_at 374 (by decide +kernel) rfl, clin_4, tyX4_ok, nmX4, rfl, by decide +kernel, fun _ => rfl⟩
theorem om_RX5_3 : Cond.methodLink RX5 3 objectInit ∈ GW := gw_at 391 (by decide +kernel) rfl
theorem kb_40 : (Int8.ofInt 40).toInt32 = 40 := by decide +kernel
theorem mw_cl : Cond.classLink RX5 9 "[[I" ∈ GW := gw_at 392 (by decide +kernel) rfl
theorem mw_ov : Cond.arrayOver (.array .int) ∈ NW := nw_at 393 (by decide +kernel) rfl
theorem cp_RX5_11 : FP RX5 11 5 0 (.array (.array .int)) true := ⟨RX5, TX5, 3, tyX5, rfl, by decide, gw_at 395 (by decide +kernel) rfl, clin_5, tyX5_ok, nmX5, rfl, by decide +kernel, fun _ => rfl⟩
theorem cp_RX5_16 : FP RX5 16 5 1 (.array .int) true := ⟨RX5, TX5, 3, tyX5, rfl, by decide, gw_at 396 (by decide +kernel) rfl, clin_5, tyX5_ok, nmX5, rfl, by decide +kernel, fun _ => rfl⟩
theorem cp_RX5_20 : FP RX5 20 5 2 (.array .int) true := ⟨RX5, TX5, 3, tyX5, rfl, by decide, gw_at 397 (by decide +kernel) rfl, clin_5, tyX5_ok, nmX5, rfl, by decide +kernel, fun _ => rfl⟩
theorem cf_RX5_16 : FL RX5 16 5 1 := ⟨RX5, TX5, 3, rfl, by decide, gw_at 396 (by decide +kernel) rfl, clin_5⟩
theorem om_RX10_1 : Cond.methodLink RX10 1 objectInit ∈ GW := gw_at 110 (by decide +kernel) rfl
theorem nw_RX10_7 : Cond.classLink RX10 7 RX8 ∈ GW ∧ Cond.instantiable RX8 11 ∈ GW ∧ Cond.initialized RX8 ∈ GW := ⟨gw_at 113 (by decide +kernel) rfl, gw_at 114 (by decide +kernel) rfl, gw_at 86 (by decide +kernel) rfl⟩
theorem iw_RX10_9 : Cond.methodLink RX10 9 yX8_init ∈ GW ∧ Cond.instanceMethod yX8_init ∈ GW ∧ Cond.initialized yX8_init.cls ∈ GW ∧ Cond.code yX8_init cX8_init 1 none ∈ GW ∧ MX yX8_init 0 := ⟨gw_at 115 (by decide +kernel) rfl, gw_at 116 (by decide +kernel) rfl, gw_at 86 (by decide +kernel) rfl, gw_at 117 (by decide +kernel) rfl, ⟨by decide +kernel, by decide +kernel, by decide +kernel⟩⟩
theorem cp_RX10_10 : FP RX10 10 10 0 (.object "HallAnswers$Told") true := ⟨RX10, TX10, 10, tyX10, rfl, by decide, gw_at 405 (by decide +kernel) rfl, clin_10, tyX10_ok, nmX10, rfl, by decide +kernel, fun _ => rfl⟩
theorem cp_RX10_16 : FP RX10 16 10 1 (.object "HallAnswers$Told") true := ⟨RX10, TX10, 10, tyX10, rfl, by decide, gw_at 406 (by decide +kernel) rfl, clin_10, tyX10_ok, nmX10, rfl, by decide +kernel, fun _ => rfl⟩
theorem cp_RX10_19 : FP RX10 19 10 2 (.object "HallAnswers$Told") true := ⟨RX10, TX10, 10, tyX10, rfl, by decide, gw_at 407 (by decide +kernel) rfl, clin_10, tyX10_ok, nmX10, rfl, by decide +kernel, fun _ => rfl⟩
theorem cp_RX10_22 : FP RX10 22 10 3 (.int) false := ⟨RX10, TX10, 10, tyX10, rfl, by decide, gw_at 408 (by decide +kernel) rfl, clin_10, tyX10_ok, nmX10, rfl, by decide +kernel, fun h => by cases h⟩
theorem nw_RX10_26 : Cond.classLink RX10 26 RX7 ∈ GW ∧ Cond.instantiable RX7 4 ∈ GW ∧ Cond.initialized RX7 ∈ GW := ⟨gw_at 248 (by decide +kernel) rfl, gw_at 249 (by decide +kernel) rfl, gw_at 90 (by decide +kernel) rfl⟩
theorem dvX7 : ∀ k, k < 4 → tyX7 k = .int ∨ defaultValue (tyX7 k) = .null ∧ tyX7 k ≠ .int := by decide +kernel
theorem in_RX10_28 : Cond.methodLinkNest RX10 28 yX7_init "HallAnswers" ∈ NW := nw_at 250 (by decide +kernel) rfl
theorem iw_RX10_28 : Cond.instanceMethod yX7_init ∈ GW ∧ Cond.initialized yX7_init.cls ∈ GW ∧ Cond.code yX7_init cX7_init 1 none ∈ GW ∧ MX yX7_init 0 := ⟨gw_at 251 (by decide +kernel) rfl, gw_at 90 (by decide +kernel) rfl, gw_at 252 (by decide +kernel) rfl, ⟨by decide +kernel, by decide +kernel, by decide +kernel⟩⟩
theorem cp_RX10_29 : FP RX10 29 10 4 (.object "HallAnswers$TextReader") true := ⟨RX10, TX10, 10, tyX10, rfl, by decide, gw_at 409 (by decide +kernel) rfl, clin_10, tyX10_ok, nmX10, rfl, by decide +kernel, fun _ => rfl⟩
theorem nw_RX10_33 : Cond.classLink RX10 33 RX3 ∈ GW ∧ Cond.instantiable RX3 2 ∈ GW ∧ Cond.initialized RX3 ∈ GW := ⟨gw_at 311 (by decide +kernel) rfl, gw_at 312 (by decide +kernel) rfl, gw_at 92 (by decide +kernel) rfl⟩
theorem in_RX10_35 : Cond.methodLinkNest RX10 35 yX3_init "HallAnswers" ∈ NW := nw_at 313 (by decide +kernel) rfl
theorem iw_RX10_35 : Cond.instanceMethod yX3_init ∈ GW ∧ Cond.initialized yX3_init.cls ∈ GW ∧ Cond.code yX3_init cX3_init 1 none ∈ GW ∧ MX yX3_init 0 := ⟨gw_at 314 (by decide +kernel) rfl, gw_at 92 (by decide +kernel) rfl, gw_at 315 (by decide +kernel) rfl, ⟨by decide +kernel, by decide +kernel, by decide +kernel⟩⟩
theorem cp_RX10_36 : FP RX10 36 10 5 (.object "HallAnswers$Hearing") true := ⟨RX10, TX10, 10, tyX10, rfl, by decide, gw_at 410 (by decide +kernel) rfl, clin_10, tyX10_ok, nmX10, rfl, by decide +kernel, fun _ => rfl⟩
theorem nw_RX10_40 : Cond.classLink RX10 40 RX2 ∈ GW ∧ Cond.instantiable RX2 2 ∈ GW ∧ Cond.initialized RX2 ∈ GW := ⟨gw_at 345 (by decide +kernel) rfl, gw_at 346 (by decide +kernel) rfl, gw_at 94 (by decide +kernel) rfl⟩
theorem dvX2 : ∀ k, k < 2 → tyX2 k = .int ∨ defaultValue (tyX2 k) = .null ∧ tyX2 k ≠ .int := by decide +kernel
theorem in_RX10_42 : Cond.methodLinkNest RX10 42 yX2_init "HallAnswers" ∈ NW := nw_at 347 (by decide +kernel) rfl
theorem iw_RX10_42 : Cond.instanceMethod yX2_init ∈ GW ∧ Cond.initialized yX2_init.cls ∈ GW ∧ Cond.code yX2_init cX2_init 1 none ∈ GW ∧ MX yX2_init 0 := ⟨gw_at 348 (by decide +kernel) rfl, gw_at 94 (by decide +kernel) rfl, gw_at 349 (by decide +kernel) rfl, ⟨by decide +kernel, by decide +kernel, by decide +kernel⟩⟩
theorem cp_RX10_43 : FP RX10 43 10 6 (.object "HallAnswers$Gossip") true := ⟨RX10, TX10, 10, tyX10, rfl, by decide, gw_at 411 (by decide +kernel) rfl, clin_10, tyX10_ok, nmX10, rfl, by decide +kernel, fun _ => rfl⟩
theorem nw_RX10_47 : Cond.classLink RX10 47 RX4 ∈ GW ∧ Cond.instantiable RX4 5 ∈ GW ∧ Cond.initialized RX4 ∈ GW := ⟨gw_at 360 (by decide +kernel) rfl, gw_at 361 (by decide +kernel) rfl, gw_at 95 (by decide +kernel) rfl⟩
theorem dvX4 : ∀ k, k < 5 → tyX4 k = .int ∨ defaultValue (tyX4 k) = .null ∧ tyX4 k ≠ .int := by decide +kernel
theorem in_RX10_49 : Cond.methodLinkNest RX10 49 yX4_init "HallAnswers" ∈ NW := nw_at 362 (by decide +kernel) rfl
theorem iw_RX10_49 : Cond.instanceMethod yX4_init ∈ GW ∧ Cond.initialized yX4_init.cls ∈ GW ∧ Cond.code yX4_init cX4_init 1 none ∈ GW ∧ MX yX4_init 0 := ⟨gw_at 363 (by decide +kernel) rfl, gw_at 95 (by decide +kernel) rfl, gw_at 364 (by decide +kernel) rfl, ⟨by decide +kernel, by decide +kernel, by decide +kernel⟩⟩
theorem cp_RX10_50 : FP RX10 50 10 7 (.object "HallAnswers$Seatings") true := ⟨RX10, TX10, 10, tyX10, rfl, by decide, gw_at 412 (by decide +kernel) rfl, clin_10, tyX10_ok, nmX10, rfl, by decide +kernel, fun _ => rfl⟩
theorem nw_RX10_54 : Cond.classLink RX10 54 RX5 ∈ GW ∧ Cond.instantiable RX5 3 ∈ GW ∧ Cond.initialized RX5 ∈ GW := ⟨gw_at 386 (by decide +kernel) rfl, gw_at 387 (by decide +kernel) rfl, gw_at 96 (by decide +kernel) rfl⟩
theorem dvX5 : ∀ k, k < 3 → tyX5 k = .int ∨ defaultValue (tyX5 k) = .null ∧ tyX5 k ≠ .int := by decide +kernel
theorem iw_RX10_56 : Cond.methodLink RX10 56 yX5_init ∈ GW ∧ Cond.instanceMethod yX5_init ∈ GW ∧ Cond.initialized yX5_init.cls ∈ GW ∧ Cond.code yX5_init cX5_init 1 none ∈ GW ∧ MX yX5_init 0 := ⟨gw_at 388 (by decide +kernel) rfl, gw_at 389 (by decide +kernel) rfl, gw_at 96 (by decide +kernel) rfl, gw_at 390 (by decide +kernel) rfl, ⟨by decide +kernel, by decide +kernel, by decide +kernel⟩⟩
theorem cp_RX10_57 : FP RX10 57 10 8 (.object "HallAnswers$Sheets") true := ⟨RX10, TX10, 10, tyX10, rfl, by decide, gw_at 413 (by decide +kernel) rfl, clin_10, tyX10_ok, nmX10, rfl, by decide +kernel, fun _ => rfl⟩
theorem cp_RX10_61 : FP RX10 61 10 9 (.int) false := ⟨RX10, TX10, 10, tyX10, rfl, by decide, gw_at 414 (by decide +kernel) rfl, clin_10, tyX10_ok, nmX10, rfl, by decide +kernel, fun h => by cases h⟩
theorem om_RX11_1 : Cond.methodLink RX11 1 objectInit ∈ GW := gw_at 1121 (by decide +kernel) rfl
theorem ks_375 : (Int16.ofInt 375).toInt32 = 375 := by decide +kernel
theorem cp_RX11_7 : FP RX11 7 11 0 (.array .int) true := ⟨RX11, TX11, 44, tyX11, rfl, by decide, gw_at 1134 (by decide +kernel) rfl, clin_11, tyX11_ok, nmX11, rfl, by decide +kernel, fun _ => rfl⟩
theorem ki_2 : Int32.ofInt 2 = 2 := by decide +kernel
theorem aw_22 : Cond.arrayClass .boolean ∈ GW := gw_at 1267 (by decide +kernel) rfl
theorem cp_RX11_13 : FP RX11 13 11 1 (.array .boolean) true := ⟨RX11, TX11, 44, tyX11, rfl, by decide, gw_at 1135 (by decide +kernel) rfl, clin_11, tyX11_ok, nmX11, rfl, by decide +kernel, fun _ => rfl⟩
theorem kb_32 : (Int8.ofInt 32).toInt32 = 32 := by decide +kernel
theorem cp_RX11_17 : FP RX11 17 11 9 (.array .int) true := ⟨RX11, TX11, 44, tyX11, rfl, by decide, gw_at 1143 (by decide +kernel) rfl, clin_11, tyX11_ok, nmX11, rfl, by decide +kernel, fun _ => rfl⟩
theorem kb_24 : (Int8.ofInt 24).toInt32 = 24 := by decide +kernel
theorem cp_RX11_20 : FP RX11 20 11 10 (.array .int) true := ⟨RX11, TX11, 44, tyX11, rfl, by decide, gw_at 1144 (by decide +kernel) rfl, clin_11, tyX11_ok, nmX11, rfl, by decide +kernel, fun _ => rfl⟩
theorem kb_125 : (Int8.ofInt 125).toInt32 = 125 := by decide +kernel
theorem cp_RX11_23 : FP RX11 23 11 11 (.array .int) true := ⟨RX11, TX11, 44, tyX11, rfl, by decide, gw_at 1145 (by decide +kernel) rfl, clin_11, tyX11_ok, nmX11, rfl, by decide +kernel, fun _ => rfl⟩
theorem cp_RX11_26 : FP RX11 26 11 12 (.array .int) true := ⟨RX11, TX11, 44, tyX11, rfl, by decide, gw_at 1146 (by decide +kernel) rfl, clin_11, tyX11_ok, nmX11, rfl, by decide +kernel, fun _ => rfl⟩
theorem cp_RX11_29 : FP RX11 29 11 13 (.array .int) true := ⟨RX11, TX11, 44, tyX11, rfl, by decide, gw_at 1147 (by decide +kernel) rfl, clin_11, tyX11_ok, nmX11, rfl, by decide +kernel, fun _ => rfl⟩
theorem ki_5 : Int32.ofInt 5 = 5 := by decide +kernel
theorem cp_RX11_32 : FP RX11 32 11 14 (.array .int) true := ⟨RX11, TX11, 44, tyX11, rfl, by decide, gw_at 1148 (by decide +kernel) rfl, clin_11, tyX11_ok, nmX11, rfl, by decide +kernel, fun _ => rfl⟩
theorem cp_RX11_35 : FP RX11 35 11 21 (.array .int) true := ⟨RX11, TX11, 44, tyX11, rfl, by decide, gw_at 1155 (by decide +kernel) rfl, clin_11, tyX11_ok, nmX11, rfl, by decide +kernel, fun _ => rfl⟩
theorem cp_RX11_38 : FP RX11 38 11 29 (.array .int) true := ⟨RX11, TX11, 44, tyX11, rfl, by decide, gw_at 1163 (by decide +kernel) rfl, clin_11, tyX11_ok, nmX11, rfl, by decide +kernel, fun _ => rfl⟩
theorem cp_RX11_41 : FP RX11 41 11 30 (.array .int) true := ⟨RX11, TX11, 44, tyX11, rfl, by decide, gw_at 1164 (by decide +kernel) rfl, clin_11, tyX11_ok, nmX11, rfl, by decide +kernel, fun _ => rfl⟩
theorem cp_RX11_44 : FP RX11 44 11 32 (.array .int) true := ⟨RX11, TX11, 44, tyX11, rfl, by decide, gw_at 1166 (by decide +kernel) rfl, clin_11, tyX11_ok, nmX11, rfl, by decide +kernel, fun _ => rfl⟩
theorem cp_RX11_47 : FP RX11 47 11 33 (.array .int) true := ⟨RX11, TX11, 44, tyX11, rfl, by decide, gw_at 1167 (by decide +kernel) rfl, clin_11, tyX11_ok, nmX11, rfl, by decide +kernel, fun _ => rfl⟩
theorem cp_RX11_50 : FP RX11 50 11 34 (.array .int) true := ⟨RX11, TX11, 44, tyX11, rfl, by decide, gw_at 1168 (by decide +kernel) rfl, clin_11, tyX11_ok, nmX11, rfl, by decide +kernel, fun _ => rfl⟩
theorem cp_RX11_53 : FP RX11 53 11 39 (.array .int) true := ⟨RX11, TX11, 44, tyX11, rfl, by decide, gw_at 1173 (by decide +kernel) rfl, clin_11, tyX11_ok, nmX11, rfl, by decide +kernel, fun _ => rfl⟩
theorem cp_RX11_56 : FP RX11 56 11 40 (.array .int) true := ⟨RX11, TX11, 44, tyX11, rfl, by decide, gw_at 1174 (by decide +kernel) rfl, clin_11, tyX11_ok, nmX11, rfl, by decide +kernel, fun _ => rfl⟩
theorem cp_RX11_59 : FP RX11 59 11 41 (.array .int) true := ⟨RX11, TX11, 44, tyX11, rfl, by decide, gw_at 1175 (by decide +kernel) rfl, clin_11, tyX11_ok, nmX11, rfl, by decide +kernel, fun _ => rfl⟩
theorem ks_160 : (Int16.ofInt 160).toInt32 = 160 := by decide +kernel
theorem cp_RX11_62 : FP RX11 62 11 42 (.array .int) true := ⟨RX11, TX11, 44, tyX11, rfl, by decide, gw_at 1176 (by decide +kernel) rfl, clin_11, tyX11_ok, nmX11, rfl, by decide +kernel, fun _ => rfl⟩
theorem cf_RX11_56 : FL RX11 56 11 40 := ⟨RX11, TX11, 44, rfl, by decide, gw_at 1174 (by decide +kernel) rfl, clin_11⟩
theorem kb_m4 : (Int8.ofInt (-4)).toInt32 = (-4) := by decide +kernel
theorem ixk_0 : (0 : Int32).toNatClampNeg = 0 := by decide +kernel
theorem ixk_1 : (1 : Int32).toNatClampNeg = 1 := by decide +kernel
theorem ixk_2 : (2 : Int32).toNatClampNeg = 2 := by decide +kernel
theorem ixk_3 : (3 : Int32).toNatClampNeg = 3 := by decide +kernel
def c_Ben (a : Nat) (sh : List Shp) (M : Mem) : CR :=
  stO 0 a 0 0 sh M fun M2 =>
  mkO 0 (20, 8, []) sh M2 fun sh3 M3 =>
  rfO 0 a 1 sh.length sh3 fun sh4 =>
  mkO 1 (20, 8, []) sh4 M3 fun sh5 M5 =>
  rfO 0 a 2 sh4.length sh5 fun sh6 =>
  mkO 2 (20, 8, []) sh6 M5 fun sh7 M7 =>
  rfO 0 a 3 sh6.length sh7 fun sh8 =>
  mkO 3 (20, 8, []) sh8 M7 fun sh9 M9 =>
  rfO 0 a 4 sh8.length sh9 fun sh10 =>
  mkO 4 (20, 8, []) sh10 M9 fun sh11 M11 =>
  rfO 0 a 5 sh10.length sh11 fun sh12 =>
  some (sh12, M11)
theorem okc_Ben {X : Sc} {l : Launch} {a : Nat} {sh sh' : List Shp} {M M' : Mem} (h : c_Ben a sh M = some (sh', M')) : Mt X l yX0_init cX0_init 1 none 1 5 40 [.ref a] sh M none sh' M' := by
  refine Mt.ofV (by decide) (Nat.le_of_ble_eq_true rfl) ?_
  show V X yX0_init cX0_init 1 none (rmD 1 5 40) l (FM none sh' M' 5 40) 0 [some (.ref a)] [] sh M 0 0
  unfold c_Ben at h
  refine V.aload_n dX0_init_0 rfl ?_
  refine V.objI dX0_init_1 rfl om_RX0_3 ow_i ow_c (by decide) (Nat.le_of_ble_eq_true rfl) ?_
  refine V.aload_n dX0_init_4 rfl ?_
  refine V.iconst dX0_init_5 ki_0 ?_
  obtain ⟨q2, hq2, hc2, hk2, h⟩ := stO_s h
  refine V.putI dX0_init_6 cp_RX0_9 hq2 hc2 hk2 (fun M2 hM2 => ?_)
  replace h := h _ hM2
  refine V.aload_n dX0_init_9 rfl ?_
  refine V.bipush dX0_init_10 kb_8 ?_
  obtain ⟨⟨hl3, hc3⟩, h⟩ := mkO_s h
  refine V.newarr (N := 8) dX0_init_12 (Or.inl ⟨rfl, rfl⟩) aw_20 (by decide) (by decide +kernel) (by decide) (fun _ _ h9 => hb9 hc3 h9) ⟨by decide, by decide⟩ hl3 (fun M3 hM3 => ?_)
  obtain ⟨sh3, hs3⟩ : ∃ z, z = sh ++ [(20, 8, [])] := ⟨_, rfl⟩
  rw [← hs3]
  replace h := h _ _ hs3 hM3
  show V X yX0_init cX0_init 1 none (rmD 1 5 40) l _ 14 [some (.ref a)] [.ref sh.length, .ref a] sh3 M3 1 8
  obtain ⟨q4, hq4, hc4, hk4, h⟩ := rfO_s h
  refine V.putR dX0_init_14 cp_RX0_15 (Or.inr ⟨_, rfl⟩) rfl hq4 hc4 hk4 ?_
  obtain ⟨sh4, hs4⟩ : ∃ z, z = sh3.set a (q4.1, q4.2.1, q4.2.2.set 1 (some (some sh.length))) := ⟨_, rfl⟩
  rw [← hs4]
  replace h := h _ hs4
  refine V.aload_n dX0_init_17 rfl ?_
  refine V.bipush dX0_init_18 kb_8 ?_
  obtain ⟨⟨hl5, hc5⟩, h⟩ := mkO_s h
  refine V.newarr (N := 8) dX0_init_20 (Or.inl ⟨rfl, rfl⟩) aw_20 (by decide) (by decide +kernel) (by decide) (fun _ _ h9 => hb9 hc5 h9) ⟨by decide, by decide⟩ hl5 (fun M5 hM5 => ?_)
  obtain ⟨sh5, hs5⟩ : ∃ z, z = sh4 ++ [(20, 8, [])] := ⟨_, rfl⟩
  rw [← hs5]
  replace h := h _ _ hs5 hM5
  show V X yX0_init cX0_init 1 none (rmD 1 5 40) l _ 22 [some (.ref a)] [.ref sh4.length, .ref a] sh5 M5 2 16
  obtain ⟨q6, hq6, hc6, hk6, h⟩ := rfO_s h
  refine V.putR dX0_init_22 cp_RX0_19 (Or.inr ⟨_, rfl⟩) rfl hq6 hc6 hk6 ?_
  obtain ⟨sh6, hs6⟩ : ∃ z, z = sh5.set a (q6.1, q6.2.1, q6.2.2.set 2 (some (some sh4.length))) := ⟨_, rfl⟩
  rw [← hs6]
  replace h := h _ hs6
  refine V.aload_n dX0_init_25 rfl ?_
  refine V.bipush dX0_init_26 kb_8 ?_
  obtain ⟨⟨hl7, hc7⟩, h⟩ := mkO_s h
  refine V.newarr (N := 8) dX0_init_28 (Or.inl ⟨rfl, rfl⟩) aw_20 (by decide) (by decide +kernel) (by decide) (fun _ _ h9 => hb9 hc7 h9) ⟨by decide, by decide⟩ hl7 (fun M7 hM7 => ?_)
  obtain ⟨sh7, hs7⟩ : ∃ z, z = sh6 ++ [(20, 8, [])] := ⟨_, rfl⟩
  rw [← hs7]
  replace h := h _ _ hs7 hM7
  show V X yX0_init cX0_init 1 none (rmD 1 5 40) l _ 30 [some (.ref a)] [.ref sh6.length, .ref a] sh7 M7 3 24
  obtain ⟨q8, hq8, hc8, hk8, h⟩ := rfO_s h
  refine V.putR dX0_init_30 cp_RX0_22 (Or.inr ⟨_, rfl⟩) rfl hq8 hc8 hk8 ?_
  obtain ⟨sh8, hs8⟩ : ∃ z, z = sh7.set a (q8.1, q8.2.1, q8.2.2.set 3 (some (some sh6.length))) := ⟨_, rfl⟩
  rw [← hs8]
  replace h := h _ hs8
  refine V.aload_n dX0_init_33 rfl ?_
  refine V.bipush dX0_init_34 kb_8 ?_
  obtain ⟨⟨hl9, hc9⟩, h⟩ := mkO_s h
  refine V.newarr (N := 8) dX0_init_36 (Or.inl ⟨rfl, rfl⟩) aw_20 (by decide) (by decide +kernel) (by decide) (fun _ _ h9 => hb9 hc9 h9) ⟨by decide, by decide⟩ hl9 (fun M9 hM9 => ?_)
  obtain ⟨sh9, hs9⟩ : ∃ z, z = sh8 ++ [(20, 8, [])] := ⟨_, rfl⟩
  rw [← hs9]
  replace h := h _ _ hs9 hM9
  show V X yX0_init cX0_init 1 none (rmD 1 5 40) l _ 38 [some (.ref a)] [.ref sh8.length, .ref a] sh9 M9 4 32
  obtain ⟨q10, hq10, hc10, hk10, h⟩ := rfO_s h
  refine V.putR dX0_init_38 cp_RX0_25 (Or.inr ⟨_, rfl⟩) rfl hq10 hc10 hk10 ?_
  obtain ⟨sh10, hs10⟩ : ∃ z, z = sh9.set a (q10.1, q10.2.1, q10.2.2.set 4 (some (some sh8.length))) := ⟨_, rfl⟩
  rw [← hs10]
  replace h := h _ hs10
  refine V.aload_n dX0_init_41 rfl ?_
  refine V.bipush dX0_init_42 kb_8 ?_
  obtain ⟨⟨hl11, hc11⟩, h⟩ := mkO_s h
  refine V.newarr (N := 8) dX0_init_44 (Or.inl ⟨rfl, rfl⟩) aw_20 (by decide) (by decide +kernel) (by decide) (fun _ _ h9 => hb9 hc11 h9) ⟨by decide, by decide⟩ hl11 (fun M11 hM11 => ?_)
  obtain ⟨sh11, hs11⟩ : ∃ z, z = sh10 ++ [(20, 8, [])] := ⟨_, rfl⟩
  rw [← hs11]
  replace h := h _ _ hs11 hM11
  show V X yX0_init cX0_init 1 none (rmD 1 5 40) l _ 46 [some (.ref a)] [.ref sh10.length, .ref a] sh11 M11 5 40
  obtain ⟨q12, hq12, hc12, hk12, h⟩ := rfO_s h
  refine V.putR dX0_init_46 cp_RX0_28 (Or.inr ⟨_, rfl⟩) rfl hq12 hc12 hk12 ?_
  obtain ⟨sh12, hs12⟩ : ∃ z, z = sh11.set a (q12.1, q12.2.1, q12.2.2.set 5 (some (some sh10.length))) := ⟨_, rfl⟩
  rw [← hs12]
  replace h := h _ hs12
  obtain ⟨rfl, rfl⟩ := inj2 h
  exact V.vret dX0_init_49 rfl
def c_Tri (a : Nat) (sh : List Shp) (M : Mem) : CR :=
  stO 9 a 0 0 sh M fun M2 =>
  mkO 0 (20, 12, []) sh M2 fun sh3 M3 =>
  rfO 9 a 1 sh.length sh3 fun sh4 =>
  mkO 1 (20, 12, []) sh4 M3 fun sh5 M5 =>
  rfO 9 a 2 sh4.length sh5 fun sh6 =>
  mkO 2 (20, 12, []) sh6 M5 fun sh7 M7 =>
  rfO 9 a 3 sh6.length sh7 fun sh8 =>
  some (sh8, M7)
theorem okc_Tri {X : Sc} {l : Launch} {a : Nat} {sh sh' : List Shp} {M M' : Mem} (h : c_Tri a sh M = some (sh', M')) : Mt X l yX9_init cX9_init 1 none 1 3 36 [.ref a] sh M none sh' M' := by
  refine Mt.ofV (by decide) (Nat.le_of_ble_eq_true rfl) ?_
  show V X yX9_init cX9_init 1 none (rmD 1 3 36) l (FM none sh' M' 3 36) 0 [some (.ref a)] [] sh M 0 0
  unfold c_Tri at h
  refine V.aload_n dX9_init_0 rfl ?_
  refine V.objI dX9_init_1 rfl om_RX9_3 ow_i ow_c (by decide) (Nat.le_of_ble_eq_true rfl) ?_
  refine V.aload_n dX9_init_4 rfl ?_
  refine V.iconst dX9_init_5 ki_0 ?_
  obtain ⟨q2, hq2, hc2, hk2, h⟩ := stO_s h
  refine V.putI dX9_init_6 cp_RX9_9 hq2 hc2 hk2 (fun M2 hM2 => ?_)
  replace h := h _ hM2
  refine V.aload_n dX9_init_9 rfl ?_
  refine V.bipush dX9_init_10 kb_12 ?_
  obtain ⟨⟨hl3, hc3⟩, h⟩ := mkO_s h
  refine V.newarr (N := 12) dX9_init_12 (Or.inl ⟨rfl, rfl⟩) aw_20 (by decide) (by decide +kernel) (by decide) (fun _ _ h9 => hb9 hc3 h9) ⟨by decide, by decide⟩ hl3 (fun M3 hM3 => ?_)
  obtain ⟨sh3, hs3⟩ : ∃ z, z = sh ++ [(20, 12, [])] := ⟨_, rfl⟩
  rw [← hs3]
  replace h := h _ _ hs3 hM3
  show V X yX9_init cX9_init 1 none (rmD 1 3 36) l _ 14 [some (.ref a)] [.ref sh.length, .ref a] sh3 M3 1 12
  obtain ⟨q4, hq4, hc4, hk4, h⟩ := rfO_s h
  refine V.putR dX9_init_14 cp_RX9_15 (Or.inr ⟨_, rfl⟩) rfl hq4 hc4 hk4 ?_
  obtain ⟨sh4, hs4⟩ : ∃ z, z = sh3.set a (q4.1, q4.2.1, q4.2.2.set 1 (some (some sh.length))) := ⟨_, rfl⟩
  rw [← hs4]
  replace h := h _ hs4
  refine V.aload_n dX9_init_17 rfl ?_
  refine V.bipush dX9_init_18 kb_12 ?_
  obtain ⟨⟨hl5, hc5⟩, h⟩ := mkO_s h
  refine V.newarr (N := 12) dX9_init_20 (Or.inl ⟨rfl, rfl⟩) aw_20 (by decide) (by decide +kernel) (by decide) (fun _ _ h9 => hb9 hc5 h9) ⟨by decide, by decide⟩ hl5 (fun M5 hM5 => ?_)
  obtain ⟨sh5, hs5⟩ : ∃ z, z = sh4 ++ [(20, 12, [])] := ⟨_, rfl⟩
  rw [← hs5]
  replace h := h _ _ hs5 hM5
  show V X yX9_init cX9_init 1 none (rmD 1 3 36) l _ 22 [some (.ref a)] [.ref sh4.length, .ref a] sh5 M5 2 24
  obtain ⟨q6, hq6, hc6, hk6, h⟩ := rfO_s h
  refine V.putR dX9_init_22 cp_RX9_19 (Or.inr ⟨_, rfl⟩) rfl hq6 hc6 hk6 ?_
  obtain ⟨sh6, hs6⟩ : ∃ z, z = sh5.set a (q6.1, q6.2.1, q6.2.2.set 2 (some (some sh4.length))) := ⟨_, rfl⟩
  rw [← hs6]
  replace h := h _ hs6
  refine V.aload_n dX9_init_25 rfl ?_
  refine V.bipush dX9_init_26 kb_12 ?_
  obtain ⟨⟨hl7, hc7⟩, h⟩ := mkO_s h
  refine V.newarr (N := 12) dX9_init_28 (Or.inl ⟨rfl, rfl⟩) aw_20 (by decide) (by decide +kernel) (by decide) (fun _ _ h9 => hb9 hc7 h9) ⟨by decide, by decide⟩ hl7 (fun M7 hM7 => ?_)
  obtain ⟨sh7, hs7⟩ : ∃ z, z = sh6 ++ [(20, 12, [])] := ⟨_, rfl⟩
  rw [← hs7]
  replace h := h _ _ hs7 hM7
  show V X yX9_init cX9_init 1 none (rmD 1 3 36) l _ 30 [some (.ref a)] [.ref sh6.length, .ref a] sh7 M7 3 36
  obtain ⟨q8, hq8, hc8, hk8, h⟩ := rfO_s h
  refine V.putR dX9_init_30 cp_RX9_22 (Or.inr ⟨_, rfl⟩) rfl hq8 hc8 hk8 ?_
  obtain ⟨sh8, hs8⟩ : ∃ z, z = sh7.set a (q8.1, q8.2.1, q8.2.2.set 3 (some (some sh6.length))) := ⟨_, rfl⟩
  rw [← hs8]
  replace h := h _ hs8
  obtain ⟨rfl, rfl⟩ := inj2 h
  exact V.vret dX9_init_33 rfl
def c_Tol (a : Nat) (sh : List Shp) (M : Mem) : CR :=
  mkO 0 (20, 81, []) sh M fun sh2 M2 =>
  rfO 8 a 6 sh.length sh2 fun sh3 =>
  mkO 1 (20, 6, []) sh3 M2 fun sh4 M4 =>
  rfO 8 a 7 sh3.length sh4 fun sh5 =>
  mkO 2 (0, 6, [none, some none, some none, some none, some none, some none]) sh5 M4 fun sh6 M6 =>
  caO 3 5 (c_Ben sh5.length sh6 M6) sh6 fun sh7 M7 =>
  rfO 8 a 8 sh5.length sh7 fun sh8 =>
  mkO 8 (9, 4, [none, some none, some none, some none]) sh8 M7 fun sh9 M9 =>
  caO 9 3 (c_Tri sh8.length sh9 M9) sh9 fun sh10 M10 =>
  rfO 8 a 9 sh8.length sh10 fun sh11 =>
  mkO 12 (9, 4, [none, some none, some none, some none]) sh11 M10 fun sh12 M12 =>
  caO 13 3 (c_Tri sh11.length sh12 M12) sh12 fun sh13 M13 =>
  rfO 8 a 10 sh11.length sh13 fun sh14 =>
  thO (cl9 16 sh14 && bTol sh14 a) <|
  thB (f_Tol_startAnew a M13) fun M15 =>
  some (sh14, M15)
theorem okc_Tol {X : Sc} {l : Launch} {a : Nat} {sh sh' : List Shp} {M M' : Mem} (h : c_Tol a sh M = some (sh', M')) : Mt X l yX8_init cX8_init 1 none 2 16 213 [.ref a] sh M none sh' M' := by
  refine Mt.ofV (by decide) (Nat.le_of_ble_eq_true rfl) ?_
  show V X yX8_init cX8_init 1 none (rmD 2 16 213) l (FM none sh' M' 16 213) 0 [some (.ref a)] [] sh M 0 0
  unfold c_Tol at h
  refine V.aload_n dX8_init_0 rfl ?_
  refine V.objI dX8_init_1 rfl om_RX8_3 ow_i ow_c (by decide) (Nat.le_of_ble_eq_true rfl) ?_
  refine V.aload_n dX8_init_4 rfl ?_
  refine V.bipush dX8_init_5 kb_81 ?_
  obtain ⟨⟨hl2, hc2⟩, h⟩ := mkO_s h
  refine V.newarr (N := 81) dX8_init_7 (Or.inl ⟨rfl, rfl⟩) aw_20 (by decide) (by decide +kernel) (by decide) (fun _ _ h9 => hb9 hc2 h9) ⟨by decide, by decide⟩ hl2 (fun M2 hM2 => ?_)
  obtain ⟨sh2, hs2⟩ : ∃ z, z = sh ++ [(20, 81, [])] := ⟨_, rfl⟩
  rw [← hs2]
  replace h := h _ _ hs2 hM2
  show V X yX8_init cX8_init 1 none (rmD 2 16 213) l _ 9 [some (.ref a)] [.ref sh.length, .ref a] sh2 M2 1 81
  obtain ⟨q3, hq3, hc3, hk3, h⟩ := rfO_s h
  refine V.putR dX8_init_9 cp_RX8_9 (Or.inr ⟨_, rfl⟩) rfl hq3 hc3 hk3 ?_
  obtain ⟨sh3, hs3⟩ : ∃ z, z = sh2.set a (q3.1, q3.2.1, q3.2.2.set 6 (some (some sh.length))) := ⟨_, rfl⟩
  rw [← hs3]
  replace h := h _ hs3
  refine V.aload_n dX8_init_12 rfl ?_
  refine V.bipush dX8_init_13 kb_6 ?_
  obtain ⟨⟨hl4, hc4⟩, h⟩ := mkO_s h
  refine V.newarr (N := 6) dX8_init_15 (Or.inl ⟨rfl, rfl⟩) aw_20 (by decide) (by decide +kernel) (by decide) (fun _ _ h9 => hb9 hc4 h9) ⟨by decide, by decide⟩ hl4 (fun M4 hM4 => ?_)
  obtain ⟨sh4, hs4⟩ : ∃ z, z = sh3 ++ [(20, 6, [])] := ⟨_, rfl⟩
  rw [← hs4]
  replace h := h _ _ hs4 hM4
  show V X yX8_init cX8_init 1 none (rmD 2 16 213) l _ 17 [some (.ref a)] [.ref sh3.length, .ref a] sh4 M4 2 87
  obtain ⟨q5, hq5, hc5, hk5, h⟩ := rfO_s h
  refine V.putR dX8_init_17 cp_RX8_15 (Or.inr ⟨_, rfl⟩) rfl hq5 hc5 hk5 ?_
  obtain ⟨sh5, hs5⟩ : ∃ z, z = sh4.set a (q5.1, q5.2.1, q5.2.2.set 7 (some (some sh3.length))) := ⟨_, rfl⟩
  rw [← hs5]
  replace h := h _ hs5
  refine V.aload_n dX8_init_20 rfl ?_
  obtain ⟨⟨hl6, hc6⟩, h⟩ := mkO_s h
  refine V.new (fs := [none, some none, some none, some none, some none, some none]) dX8_init_21 (show vwCl[0]? = some (RX0, TX0, 6) from rfl) nw_RX8_18 clin_0 tyX0_ok rfl dvX0 (fun _ _ h9 => hb9 hc6 h9) ⟨by decide, by decide⟩ hl6 (fun M6 hM6 => ?_)
  obtain ⟨sh6, hs6⟩ : ∃ z, z = sh5 ++ [(0, 6, [none, some none, some none, some none, some none, some none])] := ⟨_, rfl⟩
  rw [← hs6]
  replace h := h _ _ hs6 hM6
  show V X yX8_init cX8_init 1 none (rmD 2 16 213) l _ 24 [some (.ref a)] [.ref sh5.length, .ref a] sh6 M6 3 93
  refine V.dup dX8_init_24 rfl ?_
  obtain ⟨sh7, M7, ho7, hl7, hc7, h⟩ := caO_s h
  refine V.invIN (mc := 5) (ms := 40) dX8_init_25 rfl in_RX8_20 iw_RX8_20 rfl (okc_Ben ho7) (av := []) rfl rfl (by decide) ⟨by decide, by decide⟩ (Nat.le_of_ble_eq_true rfl) hl7 (fun _ _ h9 => hb9 hc7 h9) ?_
  show V X yX8_init cX8_init 1 none (rmD 2 16 213) l _ 28 [some (.ref a)] [.ref sh5.length, .ref a] sh7 M7 8 133
  obtain ⟨q8, hq8, hc8, hk8, h⟩ := rfO_s h
  refine V.putR dX8_init_28 cp_RX8_21 (Or.inl ⟨_, rfl⟩) rfl hq8 hc8 hk8 ?_
  obtain ⟨sh8, hs8⟩ : ∃ z, z = sh7.set a (q8.1, q8.2.1, q8.2.2.set 8 (some (some sh5.length))) := ⟨_, rfl⟩
  rw [← hs8]
  replace h := h _ hs8
  refine V.aload_n dX8_init_31 rfl ?_
  obtain ⟨⟨hl9, hc9⟩, h⟩ := mkO_s h
  refine V.new (fs := [none, some none, some none, some none]) dX8_init_32 (show vwCl[9]? = some (RX9, TX9, 4) from rfl) nw_RX8_25 clin_9 tyX9_ok rfl dvX9 (fun _ _ h9 => hb9 hc9 h9) ⟨by decide, by decide⟩ hl9 (fun M9 hM9 => ?_)
  obtain ⟨sh9, hs9⟩ : ∃ z, z = sh8 ++ [(9, 4, [none, some none, some none, some none])] := ⟨_, rfl⟩
  rw [← hs9]
  replace h := h _ _ hs9 hM9
  show V X yX8_init cX8_init 1 none (rmD 2 16 213) l _ 35 [some (.ref a)] [.ref sh8.length, .ref a] sh9 M9 9 137
  refine V.dup dX8_init_35 rfl ?_
  obtain ⟨sh10, M10, ho10, hl10, hc10, h⟩ := caO_s h
  refine V.invIN (mc := 3) (ms := 36) dX8_init_36 rfl in_RX8_27 iw_RX8_27 rfl (okc_Tri ho10) (av := []) rfl rfl (by decide) ⟨by decide, by decide⟩ (Nat.le_of_ble_eq_true rfl) hl10 (fun _ _ h9 => hb9 hc10 h9) ?_
  show V X yX8_init cX8_init 1 none (rmD 2 16 213) l _ 39 [some (.ref a)] [.ref sh8.length, .ref a] sh10 M10 12 173
  obtain ⟨q11, hq11, hc11, hk11, h⟩ := rfO_s h
  refine V.putR dX8_init_39 cp_RX8_28 (Or.inl ⟨_, rfl⟩) rfl hq11 hc11 hk11 ?_
  obtain ⟨sh11, hs11⟩ : ∃ z, z = sh10.set a (q11.1, q11.2.1, q11.2.2.set 9 (some (some sh8.length))) := ⟨_, rfl⟩
  rw [← hs11]
  replace h := h _ hs11
  refine V.aload_n dX8_init_42 rfl ?_
  obtain ⟨⟨hl12, hc12⟩, h⟩ := mkO_s h
  refine V.new (fs := [none, some none, some none, some none]) dX8_init_43 (show vwCl[9]? = some (RX9, TX9, 4) from rfl) nw_RX8_25 clin_9 tyX9_ok rfl dvX9 (fun _ _ h9 => hb9 hc12 h9) ⟨by decide, by decide⟩ hl12 (fun M12 hM12 => ?_)
  obtain ⟨sh12, hs12⟩ : ∃ z, z = sh11 ++ [(9, 4, [none, some none, some none, some none])] := ⟨_, rfl⟩
  rw [← hs12]
  replace h := h _ _ hs12 hM12
  show V X yX8_init cX8_init 1 none (rmD 2 16 213) l _ 46 [some (.ref a)] [.ref sh11.length, .ref a] sh12 M12 13 177
  refine V.dup dX8_init_46 rfl ?_
  obtain ⟨sh13, M13, ho13, hl13, hc13, h⟩ := caO_s h
  refine V.invIN (mc := 3) (ms := 36) dX8_init_47 rfl in_RX8_27 iw_RX8_27 rfl (okc_Tri ho13) (av := []) rfl rfl (by decide) ⟨by decide, by decide⟩ (Nat.le_of_ble_eq_true rfl) hl13 (fun _ _ h9 => hb9 hc13 h9) ?_
  show V X yX8_init cX8_init 1 none (rmD 2 16 213) l _ 50 [some (.ref a)] [.ref sh11.length, .ref a] sh13 M13 16 213
  obtain ⟨q14, hq14, hc14, hk14, h⟩ := rfO_s h
  refine V.putR dX8_init_50 cp_RX8_32 (Or.inl ⟨_, rfl⟩) rfl hq14 hc14 hk14 ?_
  obtain ⟨sh14, hs14⟩ : ∃ z, z = sh13.set a (q14.1, q14.2.1, q14.2.2.set 10 (some (some sh11.length))) := ⟨_, rfl⟩
  rw [← hs14]
  replace h := h _ hs14
  refine V.aload_n dX8_init_53 rfl ?_
  obtain ⟨hb15, h⟩ := thO_s h
  obtain ⟨hc15, ht15⟩ := and_s hb15
  obtain ⟨M15, hv15, h⟩ := thB_s h
  refine V.cVv dX8_init_54 rfl mv_RX8_35 (ok_Tol_startAnew (bTol_ok ht15) hv15) rfl rfl (LTol.f0 (bTol_ok ht15)) rfl (by decide) ⟨by decide, by decide⟩ (Nat.le_of_ble_eq_true rfl) (cl9_ok hc15) ?_
  obtain ⟨rfl, rfl⟩ := inj2 h
  exact V.vret dX8_init_57 rfl
def c_Tap (a : Nat) (sh : List Shp) (M : Mem) : CR :=
  stO 6 a 0 0 sh M fun M2 =>
  stO 6 a 1 4 sh M2 fun M3 =>
  stO 6 a 2 0 sh M3 fun M4 =>
  stO 6 a 3 0 sh M4 fun M5 =>
  stO 6 a 4 0 sh M5 fun M6 =>
  stO 6 a 5 0 sh M6 fun M7 =>
  stO 6 a 6 0 sh M7 fun M8 =>
  mkO 0 (21, 320, []) sh M8 fun sh9 M9 =>
  rfO 6 a 7 sh.length sh9 fun sh10 =>
  some (sh10, M9)
theorem okc_Tap {X : Sc} {l : Launch} {a : Nat} {sh sh' : List Shp} {M M' : Mem} (h : c_Tap a sh M = some (sh', M')) : Mt X l yX6_init cX6_init 1 none 1 1 320 [.ref a] sh M none sh' M' := by
  refine Mt.ofV (by decide) (Nat.le_of_ble_eq_true rfl) ?_
  show V X yX6_init cX6_init 1 none (rmD 1 1 320) l (FM none sh' M' 1 320) 0 [some (.ref a)] [] sh M 0 0
  unfold c_Tap at h
  refine V.aload_n dX6_init_0 rfl ?_
  refine V.objI dX6_init_1 rfl om_RX6_3 ow_i ow_c (by decide) (Nat.le_of_ble_eq_true rfl) ?_
  refine V.aload_n dX6_init_4 rfl ?_
  refine V.iconst dX6_init_5 ki_0 ?_
  obtain ⟨q2, hq2, hc2, hk2, h⟩ := stO_s h
  refine V.putI dX6_init_6 cp_RX6_9 hq2 hc2 hk2 (fun M2 hM2 => ?_)
  replace h := h _ hM2
  refine V.aload_n dX6_init_9 rfl ?_
  refine V.iconst dX6_init_10 ki_4 ?_
  obtain ⟨q3, hq3, hc3, hk3, h⟩ := stO_s h
  refine V.putI dX6_init_11 cp_RX6_15 hq3 hc3 hk3 (fun M3 hM3 => ?_)
  replace h := h _ hM3
  refine V.aload_n dX6_init_14 rfl ?_
  refine V.iconst dX6_init_15 ki_0 ?_
  obtain ⟨q4, hq4, hc4, hk4, h⟩ := stO_s h
  refine V.putI dX6_init_16 cp_RX6_18 hq4 hc4 hk4 (fun M4 hM4 => ?_)
  replace h := h _ hM4
  refine V.aload_n dX6_init_19 rfl ?_
  refine V.iconst dX6_init_20 ki_0 ?_
  obtain ⟨q5, hq5, hc5, hk5, h⟩ := stO_s h
  refine V.putI dX6_init_21 cp_RX6_21 hq5 hc5 hk5 (fun M5 hM5 => ?_)
  replace h := h _ hM5
  refine V.aload_n dX6_init_24 rfl ?_
  refine V.iconst dX6_init_25 ki_0 ?_
  obtain ⟨q6, hq6, hc6, hk6, h⟩ := stO_s h
  refine V.putI dX6_init_26 cp_RX6_24 hq6 hc6 hk6 (fun M6 hM6 => ?_)
  replace h := h _ hM6
  refine V.aload_n dX6_init_29 rfl ?_
  refine V.iconst dX6_init_30 ki_0 ?_
  obtain ⟨q7, hq7, hc7, hk7, h⟩ := stO_s h
  refine V.putI dX6_init_31 cp_RX6_27 hq7 hc7 hk7 (fun M7 hM7 => ?_)
  replace h := h _ hM7
  refine V.aload_n dX6_init_34 rfl ?_
  refine V.iconst dX6_init_35 ki_0 ?_
  obtain ⟨q8, hq8, hc8, hk8, h⟩ := stO_s h
  refine V.putI dX6_init_36 cp_RX6_30 hq8 hc8 hk8 (fun M8 hM8 => ?_)
  replace h := h _ hM8
  refine V.aload_n dX6_init_39 rfl ?_
  refine V.sipush dX6_init_40 ks_320 ?_
  obtain ⟨⟨hl9, hc9⟩, h⟩ := mkO_s h
  refine V.newarr (N := 320) dX6_init_43 (Or.inr (Or.inl ⟨rfl, rfl⟩)) aw_21 (by decide) (by decide +kernel) (by decide) (fun _ _ h9 => hb9 hc9 h9) ⟨by decide, by decide⟩ hl9 (fun M9 hM9 => ?_)
  obtain ⟨sh9, hs9⟩ : ∃ z, z = sh ++ [(21, 320, [])] := ⟨_, rfl⟩
  rw [← hs9]
  replace h := h _ _ hs9 hM9
  show V X yX6_init cX6_init 1 none (rmD 1 1 320) l _ 45 [some (.ref a)] [.ref sh.length, .ref a] sh9 M9 1 320
  obtain ⟨q10, hq10, hc10, hk10, h⟩ := rfO_s h
  refine V.putR dX6_init_45 cp_RX6_33 (Or.inr ⟨_, rfl⟩) rfl hq10 hc10 hk10 ?_
  obtain ⟨sh10, hs10⟩ : ∃ z, z = sh9.set a (q10.1, q10.2.1, q10.2.2.set 7 (some (some sh.length))) := ⟨_, rfl⟩
  rw [← hs10]
  replace h := h _ hs10
  obtain ⟨rfl, rfl⟩ := inj2 h
  exact V.vret dX6_init_48 rfl
def c_Rea (a : Nat) (sh : List Shp) (M : Mem) : CR :=
  mkO 0 (8, 11, [none, none, none, none, none, none, some none, some none, some none, some none, some none]) sh M fun sh2 M2 =>
  caO 1 16 (c_Tol sh.length sh2 M2) sh2 fun sh3 M3 =>
  rfO 7 a 0 sh.length sh3 fun sh4 =>
  mkO 17 (6, 8, [none, none, none, none, none, none, none, some none]) sh4 M3 fun sh5 M5 =>
  caO 18 1 (c_Tap sh4.length sh5 M5) sh5 fun sh6 M6 =>
  rfO 7 a 1 sh4.length sh6 fun sh7 =>
  stO 7 a 2 0 sh7 M6 fun M8 =>
  stO 7 a 3 (-1) sh7 M8 fun M9 =>
  some (sh7, M9)
theorem okc_Rea {X : Sc} {l : Launch} {a : Nat} {sh sh' : List Shp} {M M' : Mem} (h : c_Rea a sh M = some (sh', M')) : Mt X l yX7_init cX7_init 1 none 3 19 552 [.ref a] sh M none sh' M' := by
  refine Mt.ofV (by decide) (Nat.le_of_ble_eq_true rfl) ?_
  show V X yX7_init cX7_init 1 none (rmD 3 19 552) l (FM none sh' M' 19 552) 0 [some (.ref a)] [] sh M 0 0
  unfold c_Rea at h
  refine V.aload_n dX7_init_0 rfl ?_
  refine V.objI dX7_init_1 rfl om_RX7_3 ow_i ow_c (by decide) (Nat.le_of_ble_eq_true rfl) ?_
  refine V.aload_n dX7_init_4 rfl ?_
  obtain ⟨⟨hl2, hc2⟩, h⟩ := mkO_s h
  refine V.new (fs := [none, none, none, none, none, none, some none, some none, some none, some none, some none]) dX7_init_5 (show vwCl[8]? = some (RX8, TX8, 11) from rfl) nw_RX7_9 clin_8 tyX8_ok rfl dvX8 (fun _ _ h9 => hb9 hc2 h9) ⟨by decide, by decide⟩ hl2 (fun M2 hM2 => ?_)
  obtain ⟨sh2, hs2⟩ : ∃ z, z = sh ++ [(8, 11, [none, none, none, none, none, none, some none, some none, some none, some none, some none])] := ⟨_, rfl⟩
  rw [← hs2]
  replace h := h _ _ hs2 hM2
  show V X yX7_init cX7_init 1 none (rmD 3 19 552) l _ 8 [some (.ref a)] [.ref sh.length, .ref a] sh2 M2 1 11
  refine V.dup dX7_init_8 rfl ?_
  obtain ⟨sh3, M3, ho3, hl3, hc3, h⟩ := caO_s h
  refine V.invI (mc := 16) (ms := 213) dX7_init_9 rfl iw_RX7_11 rfl (okc_Tol ho3) (av := []) rfl rfl (by decide) ⟨by decide, by decide⟩ (Nat.le_of_ble_eq_true rfl) hl3 (fun _ _ h9 => hb9 hc3 h9) ?_
  show V X yX7_init cX7_init 1 none (rmD 3 19 552) l _ 12 [some (.ref a)] [.ref sh.length, .ref a] sh3 M3 17 224
  obtain ⟨q4, hq4, hc4, hk4, h⟩ := rfO_s h
  refine V.putR dX7_init_12 cp_RX7_12 (Or.inl ⟨_, rfl⟩) rfl hq4 hc4 hk4 ?_
  obtain ⟨sh4, hs4⟩ : ∃ z, z = sh3.set a (q4.1, q4.2.1, q4.2.2.set 0 (some (some sh.length))) := ⟨_, rfl⟩
  rw [← hs4]
  replace h := h _ hs4
  refine V.aload_n dX7_init_15 rfl ?_
  obtain ⟨⟨hl5, hc5⟩, h⟩ := mkO_s h
  refine V.new (fs := [none, none, none, none, none, none, none, some none]) dX7_init_16 (show vwCl[6]? = some (RX6, TX6, 8) from rfl) nw_RX7_18 clin_6 tyX6_ok rfl dvX6 (fun _ _ h9 => hb9 hc5 h9) ⟨by decide, by decide⟩ hl5 (fun M5 hM5 => ?_)
  obtain ⟨sh5, hs5⟩ : ∃ z, z = sh4 ++ [(6, 8, [none, none, none, none, none, none, none, some none])] := ⟨_, rfl⟩
  rw [← hs5]
  replace h := h _ _ hs5 hM5
  show V X yX7_init cX7_init 1 none (rmD 3 19 552) l _ 19 [some (.ref a)] [.ref sh4.length, .ref a] sh5 M5 18 232
  refine V.dup dX7_init_19 rfl ?_
  obtain ⟨sh6, M6, ho6, hl6, hc6, h⟩ := caO_s h
  refine V.invIN (mc := 1) (ms := 320) dX7_init_20 rfl in_RX7_20 iw_RX7_20 rfl (okc_Tap ho6) (av := []) rfl rfl (by decide) ⟨by decide, by decide⟩ (Nat.le_of_ble_eq_true rfl) hl6 (fun _ _ h9 => hb9 hc6 h9) ?_
  show V X yX7_init cX7_init 1 none (rmD 3 19 552) l _ 23 [some (.ref a)] [.ref sh4.length, .ref a] sh6 M6 19 552
  obtain ⟨q7, hq7, hc7, hk7, h⟩ := rfO_s h
  refine V.putR dX7_init_23 cp_RX7_21 (Or.inl ⟨_, rfl⟩) rfl hq7 hc7 hk7 ?_
  obtain ⟨sh7, hs7⟩ : ∃ z, z = sh6.set a (q7.1, q7.2.1, q7.2.2.set 1 (some (some sh4.length))) := ⟨_, rfl⟩
  rw [← hs7]
  replace h := h _ hs7
  refine V.aload_n dX7_init_26 rfl ?_
  refine V.iconst dX7_init_27 ki_0 ?_
  obtain ⟨q8, hq8, hc8, hk8, h⟩ := stO_s h
  refine V.putI dX7_init_28 cp_RX7_25 hq8 hc8 hk8 (fun M8 hM8 => ?_)
  replace h := h _ hM8
  refine V.aload_n dX7_init_31 rfl ?_
  refine V.iconst dX7_init_32 ki_m1 ?_
  obtain ⟨q9, hq9, hc9, hk9, h⟩ := stO_s h
  refine V.putI dX7_init_33 cp_RX7_29 hq9 hc9 hk9 (fun M9 hM9 => ?_)
  replace h := h _ hM9
  obtain ⟨rfl, rfl⟩ := inj2 h
  exact V.vret dX7_init_36 rfl
def c_Cou (a : Nat) (sh : List Shp) (M : Mem) : CR :=
  stO 1 a 0 0 sh M fun M2 =>
  mkO 0 (20, 41, []) sh M2 fun sh3 M3 =>
  rfO 1 a 1 sh.length sh3 fun sh4 =>
  mkO 1 (20, 41, []) sh4 M3 fun sh5 M5 =>
  rfO 1 a 2 sh4.length sh5 fun sh6 =>
  mkO 2 (20, 41, []) sh6 M5 fun sh7 M7 =>
  rfO 1 a 3 sh6.length sh7 fun sh8 =>
  some (sh8, M7)
theorem okc_Cou {X : Sc} {l : Launch} {a : Nat} {sh sh' : List Shp} {M M' : Mem} (h : c_Cou a sh M = some (sh', M')) : Mt X l yX1_init cX1_init 1 none 1 3 123 [.ref a] sh M none sh' M' := by
  refine Mt.ofV (by decide) (Nat.le_of_ble_eq_true rfl) ?_
  show V X yX1_init cX1_init 1 none (rmD 1 3 123) l (FM none sh' M' 3 123) 0 [some (.ref a)] [] sh M 0 0
  unfold c_Cou at h
  refine V.aload_n dX1_init_0 rfl ?_
  refine V.objI dX1_init_1 rfl om_RX1_3 ow_i ow_c (by decide) (Nat.le_of_ble_eq_true rfl) ?_
  refine V.aload_n dX1_init_4 rfl ?_
  refine V.iconst dX1_init_5 ki_0 ?_
  obtain ⟨q2, hq2, hc2, hk2, h⟩ := stO_s h
  refine V.putI dX1_init_6 cp_RX1_9 hq2 hc2 hk2 (fun M2 hM2 => ?_)
  replace h := h _ hM2
  refine V.aload_n dX1_init_9 rfl ?_
  refine V.bipush dX1_init_10 kb_41 ?_
  obtain ⟨⟨hl3, hc3⟩, h⟩ := mkO_s h
  refine V.newarr (N := 41) dX1_init_12 (Or.inl ⟨rfl, rfl⟩) aw_20 (by decide) (by decide +kernel) (by decide) (fun _ _ h9 => hb9 hc3 h9) ⟨by decide, by decide⟩ hl3 (fun M3 hM3 => ?_)
  obtain ⟨sh3, hs3⟩ : ∃ z, z = sh ++ [(20, 41, [])] := ⟨_, rfl⟩
  rw [← hs3]
  replace h := h _ _ hs3 hM3
  show V X yX1_init cX1_init 1 none (rmD 1 3 123) l _ 14 [some (.ref a)] [.ref sh.length, .ref a] sh3 M3 1 41
  obtain ⟨q4, hq4, hc4, hk4, h⟩ := rfO_s h
  refine V.putR dX1_init_14 cp_RX1_15 (Or.inr ⟨_, rfl⟩) rfl hq4 hc4 hk4 ?_
  obtain ⟨sh4, hs4⟩ : ∃ z, z = sh3.set a (q4.1, q4.2.1, q4.2.2.set 1 (some (some sh.length))) := ⟨_, rfl⟩
  rw [← hs4]
  replace h := h _ hs4
  refine V.aload_n dX1_init_17 rfl ?_
  refine V.bipush dX1_init_18 kb_41 ?_
  obtain ⟨⟨hl5, hc5⟩, h⟩ := mkO_s h
  refine V.newarr (N := 41) dX1_init_20 (Or.inl ⟨rfl, rfl⟩) aw_20 (by decide) (by decide +kernel) (by decide) (fun _ _ h9 => hb9 hc5 h9) ⟨by decide, by decide⟩ hl5 (fun M5 hM5 => ?_)
  obtain ⟨sh5, hs5⟩ : ∃ z, z = sh4 ++ [(20, 41, [])] := ⟨_, rfl⟩
  rw [← hs5]
  replace h := h _ _ hs5 hM5
  show V X yX1_init cX1_init 1 none (rmD 1 3 123) l _ 22 [some (.ref a)] [.ref sh4.length, .ref a] sh5 M5 2 82
  obtain ⟨q6, hq6, hc6, hk6, h⟩ := rfO_s h
  refine V.putR dX1_init_22 cp_RX1_19 (Or.inr ⟨_, rfl⟩) rfl hq6 hc6 hk6 ?_
  obtain ⟨sh6, hs6⟩ : ∃ z, z = sh5.set a (q6.1, q6.2.1, q6.2.2.set 2 (some (some sh4.length))) := ⟨_, rfl⟩
  rw [← hs6]
  replace h := h _ hs6
  refine V.aload_n dX1_init_25 rfl ?_
  refine V.bipush dX1_init_26 kb_41 ?_
  obtain ⟨⟨hl7, hc7⟩, h⟩ := mkO_s h
  refine V.newarr (N := 41) dX1_init_28 (Or.inl ⟨rfl, rfl⟩) aw_20 (by decide) (by decide +kernel) (by decide) (fun _ _ h9 => hb9 hc7 h9) ⟨by decide, by decide⟩ hl7 (fun M7 hM7 => ?_)
  obtain ⟨sh7, hs7⟩ : ∃ z, z = sh6 ++ [(20, 41, [])] := ⟨_, rfl⟩
  rw [← hs7]
  replace h := h _ _ hs7 hM7
  show V X yX1_init cX1_init 1 none (rmD 1 3 123) l _ 30 [some (.ref a)] [.ref sh6.length, .ref a] sh7 M7 3 123
  obtain ⟨q8, hq8, hc8, hk8, h⟩ := rfO_s h
  refine V.putR dX1_init_30 cp_RX1_22 (Or.inr ⟨_, rfl⟩) rfl hq8 hc8 hk8 ?_
  obtain ⟨sh8, hs8⟩ : ∃ z, z = sh7.set a (q8.1, q8.2.1, q8.2.2.set 3 (some (some sh6.length))) := ⟨_, rfl⟩
  rw [← hs8]
  replace h := h _ hs8
  obtain ⟨rfl, rfl⟩ := inj2 h
  exact V.vret dX1_init_33 rfl
def c_Hea (a : Nat) (sh : List Shp) (M : Mem) : CR :=
  mkO 0 (1, 4, [none, some none, some none, some none]) sh M fun sh2 M2 =>
  caO 1 3 (c_Cou sh.length sh2 M2) sh2 fun sh3 M3 =>
  rfO 3 a 0 sh.length sh3 fun sh4 =>
  mkO 4 (20, 8, []) sh4 M3 fun sh5 M5 =>
  rfO 3 a 1 sh4.length sh5 fun sh6 =>
  some (sh6, M5)
theorem okc_Hea {X : Sc} {l : Launch} {a : Nat} {sh sh' : List Shp} {M M' : Mem} (h : c_Hea a sh M = some (sh', M')) : Mt X l yX3_init cX3_init 1 none 2 5 135 [.ref a] sh M none sh' M' := by
  refine Mt.ofV (by decide) (Nat.le_of_ble_eq_true rfl) ?_
  show V X yX3_init cX3_init 1 none (rmD 2 5 135) l (FM none sh' M' 5 135) 0 [some (.ref a)] [] sh M 0 0
  unfold c_Hea at h
  refine V.aload_n dX3_init_0 rfl ?_
  refine V.objI dX3_init_1 rfl om_RX3_3 ow_i ow_c (by decide) (Nat.le_of_ble_eq_true rfl) ?_
  refine V.aload_n dX3_init_4 rfl ?_
  obtain ⟨⟨hl2, hc2⟩, h⟩ := mkO_s h
  refine V.new (fs := [none, some none, some none, some none]) dX3_init_5 (show vwCl[1]? = some (RX1, TX1, 4) from rfl) nw_RX3_9 clin_1 tyX1_ok rfl dvX1 (fun _ _ h9 => hb9 hc2 h9) ⟨by decide, by decide⟩ hl2 (fun M2 hM2 => ?_)
  obtain ⟨sh2, hs2⟩ : ∃ z, z = sh ++ [(1, 4, [none, some none, some none, some none])] := ⟨_, rfl⟩
  rw [← hs2]
  replace h := h _ _ hs2 hM2
  show V X yX3_init cX3_init 1 none (rmD 2 5 135) l _ 8 [some (.ref a)] [.ref sh.length, .ref a] sh2 M2 1 4
  refine V.dup dX3_init_8 rfl ?_
  obtain ⟨sh3, M3, ho3, hl3, hc3, h⟩ := caO_s h
  refine V.invIN (mc := 3) (ms := 123) dX3_init_9 rfl in_RX3_11 iw_RX3_11 rfl (okc_Cou ho3) (av := []) rfl rfl (by decide) ⟨by decide, by decide⟩ (Nat.le_of_ble_eq_true rfl) hl3 (fun _ _ h9 => hb9 hc3 h9) ?_
  show V X yX3_init cX3_init 1 none (rmD 2 5 135) l _ 12 [some (.ref a)] [.ref sh.length, .ref a] sh3 M3 4 127
  obtain ⟨q4, hq4, hc4, hk4, h⟩ := rfO_s h
  refine V.putR dX3_init_12 cp_RX3_12 (Or.inl ⟨_, rfl⟩) rfl hq4 hc4 hk4 ?_
  obtain ⟨sh4, hs4⟩ : ∃ z, z = sh3.set a (q4.1, q4.2.1, q4.2.2.set 0 (some (some sh.length))) := ⟨_, rfl⟩
  rw [← hs4]
  replace h := h _ hs4
  refine V.aload_n dX3_init_15 rfl ?_
  refine V.bipush dX3_init_16 kb_8 ?_
  obtain ⟨⟨hl5, hc5⟩, h⟩ := mkO_s h
  refine V.newarr (N := 8) dX3_init_18 (Or.inl ⟨rfl, rfl⟩) aw_20 (by decide) (by decide +kernel) (by decide) (fun _ _ h9 => hb9 hc5 h9) ⟨by decide, by decide⟩ hl5 (fun M5 hM5 => ?_)
  obtain ⟨sh5, hs5⟩ : ∃ z, z = sh4 ++ [(20, 8, [])] := ⟨_, rfl⟩
  rw [← hs5]
  replace h := h _ _ hs5 hM5
  show V X yX3_init cX3_init 1 none (rmD 2 5 135) l _ 20 [some (.ref a)] [.ref sh4.length, .ref a] sh5 M5 5 135
  obtain ⟨q6, hq6, hc6, hk6, h⟩ := rfO_s h
  refine V.putR dX3_init_20 cp_RX3_18 (Or.inr ⟨_, rfl⟩) rfl hq6 hc6 hk6 ?_
  obtain ⟨sh6, hs6⟩ : ∃ z, z = sh5.set a (q6.1, q6.2.1, q6.2.2.set 1 (some (some sh4.length))) := ⟨_, rfl⟩
  rw [← hs6]
  replace h := h _ hs6
  obtain ⟨rfl, rfl⟩ := inj2 h
  exact V.vret dX3_init_23 rfl
def c_Gos (a : Nat) (sh : List Shp) (M : Mem) : CR :=
  mkO 0 (3, 2, [some none, some none]) sh M fun sh2 M2 =>
  caO 1 5 (c_Hea sh.length sh2 M2) sh2 fun sh3 M3 =>
  rfO 2 a 0 sh.length sh3 fun sh4 =>
  mkO 6 (20, 8, []) sh4 M3 fun sh5 M5 =>
  rfO 2 a 1 sh4.length sh5 fun sh6 =>
  some (sh6, M5)
theorem okc_Gos {X : Sc} {l : Launch} {a : Nat} {sh sh' : List Shp} {M M' : Mem} (h : c_Gos a sh M = some (sh', M')) : Mt X l yX2_init cX2_init 1 none 3 7 145 [.ref a] sh M none sh' M' := by
  refine Mt.ofV (by decide) (Nat.le_of_ble_eq_true rfl) ?_
  show V X yX2_init cX2_init 1 none (rmD 3 7 145) l (FM none sh' M' 7 145) 0 [some (.ref a)] [] sh M 0 0
  unfold c_Gos at h
  refine V.aload_n dX2_init_0 rfl ?_
  refine V.objI dX2_init_1 rfl om_RX2_3 ow_i ow_c (by decide) (Nat.le_of_ble_eq_true rfl) ?_
  refine V.aload_n dX2_init_4 rfl ?_
  obtain ⟨⟨hl2, hc2⟩, h⟩ := mkO_s h
  refine V.new (fs := [some none, some none]) dX2_init_5 (show vwCl[3]? = some (RX3, TX3, 2) from rfl) nw_RX2_9 clin_3 tyX3_ok rfl dvX3 (fun _ _ h9 => hb9 hc2 h9) ⟨by decide, by decide⟩ hl2 (fun M2 hM2 => ?_)
  obtain ⟨sh2, hs2⟩ : ∃ z, z = sh ++ [(3, 2, [some none, some none])] := ⟨_, rfl⟩
  rw [← hs2]
  replace h := h _ _ hs2 hM2
  show V X yX2_init cX2_init 1 none (rmD 3 7 145) l _ 8 [some (.ref a)] [.ref sh.length, .ref a] sh2 M2 1 2
  refine V.dup dX2_init_8 rfl ?_
  obtain ⟨sh3, M3, ho3, hl3, hc3, h⟩ := caO_s h
  refine V.invIN (mc := 5) (ms := 135) dX2_init_9 rfl in_RX2_11 iw_RX2_11 rfl (okc_Hea ho3) (av := []) rfl rfl (by decide) ⟨by decide, by decide⟩ (Nat.le_of_ble_eq_true rfl) hl3 (fun _ _ h9 => hb9 hc3 h9) ?_
  show V X yX2_init cX2_init 1 none (rmD 3 7 145) l _ 12 [some (.ref a)] [.ref sh.length, .ref a] sh3 M3 6 137
  obtain ⟨q4, hq4, hc4, hk4, h⟩ := rfO_s h
  refine V.putR dX2_init_12 cp_RX2_12 (Or.inl ⟨_, rfl⟩) rfl hq4 hc4 hk4 ?_
  obtain ⟨sh4, hs4⟩ : ∃ z, z = sh3.set a (q4.1, q4.2.1, q4.2.2.set 0 (some (some sh.length))) := ⟨_, rfl⟩
  rw [← hs4]
  replace h := h _ hs4
  refine V.aload_n dX2_init_15 rfl ?_
  refine V.bipush dX2_init_16 kb_8 ?_
  obtain ⟨⟨hl5, hc5⟩, h⟩ := mkO_s h
  refine V.newarr (N := 8) dX2_init_18 (Or.inl ⟨rfl, rfl⟩) aw_20 (by decide) (by decide +kernel) (by decide) (fun _ _ h9 => hb9 hc5 h9) ⟨by decide, by decide⟩ hl5 (fun M5 hM5 => ?_)
  obtain ⟨sh5, hs5⟩ : ∃ z, z = sh4 ++ [(20, 8, [])] := ⟨_, rfl⟩
  rw [← hs5]
  replace h := h _ _ hs5 hM5
  show V X yX2_init cX2_init 1 none (rmD 3 7 145) l _ 20 [some (.ref a)] [.ref sh4.length, .ref a] sh5 M5 7 145
  obtain ⟨q6, hq6, hc6, hk6, h⟩ := rfO_s h
  refine V.putR dX2_init_20 cp_RX2_18 (Or.inr ⟨_, rfl⟩) rfl hq6 hc6 hk6 ?_
  obtain ⟨sh6, hs6⟩ : ∃ z, z = sh5.set a (q6.1, q6.2.1, q6.2.2.set 1 (some (some sh4.length))) := ⟨_, rfl⟩
  rw [← hs6]
  replace h := h _ hs6
  obtain ⟨rfl, rfl⟩ := inj2 h
  exact V.vret dX2_init_23 rfl
def c_Sea (a : Nat) (sh : List Shp) (M : Mem) : CR :=
  stO 4 a 0 0 sh M fun M2 =>
  stO 4 a 1 0 sh M2 fun M3 =>
  mkO 0 (3, 2, [some none, some none]) sh M3 fun sh4 M4 =>
  caO 1 5 (c_Hea sh.length sh4 M4) sh4 fun sh5 M5 =>
  rfO 4 a 2 sh.length sh5 fun sh6 =>
  mkO 6 (20, 6, []) sh6 M5 fun sh7 M7 =>
  rfO 4 a 3 sh6.length sh7 fun sh8 =>
  mkO 7 (20, 6, []) sh8 M7 fun sh9 M9 =>
  rfO 4 a 4 sh8.length sh9 fun sh10 =>
  some (sh10, M9)
theorem okc_Sea {X : Sc} {l : Launch} {a : Nat} {sh sh' : List Shp} {M M' : Mem} (h : c_Sea a sh M = some (sh', M')) : Mt X l yX4_init cX4_init 1 none 3 8 149 [.ref a] sh M none sh' M' := by
  refine Mt.ofV (by decide) (Nat.le_of_ble_eq_true rfl) ?_
  show V X yX4_init cX4_init 1 none (rmD 3 8 149) l (FM none sh' M' 8 149) 0 [some (.ref a)] [] sh M 0 0
  unfold c_Sea at h
  refine V.aload_n dX4_init_0 rfl ?_
  refine V.objI dX4_init_1 rfl om_RX4_3 ow_i ow_c (by decide) (Nat.le_of_ble_eq_true rfl) ?_
  refine V.aload_n dX4_init_4 rfl ?_
  refine V.iconst dX4_init_5 ki_0 ?_
  obtain ⟨q2, hq2, hc2, hk2, h⟩ := stO_s h
  refine V.putI dX4_init_6 cp_RX4_9 hq2 hc2 hk2 (fun M2 hM2 => ?_)
  replace h := h _ hM2
  refine V.aload_n dX4_init_9 rfl ?_
  refine V.iconst dX4_init_10 ki_0 ?_
  obtain ⟨q3, hq3, hc3, hk3, h⟩ := stO_s h
  refine V.putI dX4_init_11 cp_RX4_15 hq3 hc3 hk3 (fun M3 hM3 => ?_)
  replace h := h _ hM3
  refine V.aload_n dX4_init_14 rfl ?_
  obtain ⟨⟨hl4, hc4⟩, h⟩ := mkO_s h
  refine V.new (fs := [some none, some none]) dX4_init_15 (show vwCl[3]? = some (RX3, TX3, 2) from rfl) nw_RX4_18 clin_3 tyX3_ok rfl dvX3 (fun _ _ h9 => hb9 hc4 h9) ⟨by decide, by decide⟩ hl4 (fun M4 hM4 => ?_)
  obtain ⟨sh4, hs4⟩ : ∃ z, z = sh ++ [(3, 2, [some none, some none])] := ⟨_, rfl⟩
  rw [← hs4]
  replace h := h _ _ hs4 hM4
  show V X yX4_init cX4_init 1 none (rmD 3 8 149) l _ 18 [some (.ref a)] [.ref sh.length, .ref a] sh4 M4 1 2
  refine V.dup dX4_init_18 rfl ?_
  obtain ⟨sh5, M5, ho5, hl5, hc5, h⟩ := caO_s h
  refine V.invIN (mc := 5) (ms := 135) dX4_init_19 rfl in_RX4_20 iw_RX4_20 rfl (okc_Hea ho5) (av := []) rfl rfl (by decide) ⟨by decide, by decide⟩ (Nat.le_of_ble_eq_true rfl) hl5 (fun _ _ h9 => hb9 hc5 h9) ?_
  show V X yX4_init cX4_init 1 none (rmD 3 8 149) l _ 22 [some (.ref a)] [.ref sh.length, .ref a] sh5 M5 6 137
  obtain ⟨q6, hq6, hc6, hk6, h⟩ := rfO_s h
  refine V.putR dX4_init_22 cp_RX4_21 (Or.inl ⟨_, rfl⟩) rfl hq6 hc6 hk6 ?_
  obtain ⟨sh6, hs6⟩ : ∃ z, z = sh5.set a (q6.1, q6.2.1, q6.2.2.set 2 (some (some sh.length))) := ⟨_, rfl⟩
  rw [← hs6]
  replace h := h _ hs6
  refine V.aload_n dX4_init_25 rfl ?_
  refine V.bipush dX4_init_26 kb_6 ?_
  obtain ⟨⟨hl7, hc7⟩, h⟩ := mkO_s h
  refine V.newarr (N := 6) dX4_init_28 (Or.inl ⟨rfl, rfl⟩) aw_20 (by decide) (by decide +kernel) (by decide) (fun _ _ h9 => hb9 hc7 h9) ⟨by decide, by decide⟩ hl7 (fun M7 hM7 => ?_)
  obtain ⟨sh7, hs7⟩ : ∃ z, z = sh6 ++ [(20, 6, [])] := ⟨_, rfl⟩
  rw [← hs7]
  replace h := h _ _ hs7 hM7
  show V X yX4_init cX4_init 1 none (rmD 3 8 149) l _ 30 [some (.ref a)] [.ref sh6.length, .ref a] sh7 M7 7 143
  obtain ⟨q8, hq8, hc8, hk8, h⟩ := rfO_s h
  refine V.putR dX4_init_30 cp_RX4_25 (Or.inr ⟨_, rfl⟩) rfl hq8 hc8 hk8 ?_
  obtain ⟨sh8, hs8⟩ : ∃ z, z = sh7.set a (q8.1, q8.2.1, q8.2.2.set 3 (some (some sh6.length))) := ⟨_, rfl⟩
  rw [← hs8]
  replace h := h _ hs8
  refine V.aload_n dX4_init_33 rfl ?_
  refine V.bipush dX4_init_34 kb_6 ?_
  obtain ⟨⟨hl9, hc9⟩, h⟩ := mkO_s h
  refine V.newarr (N := 6) dX4_init_36 (Or.inl ⟨rfl, rfl⟩) aw_20 (by decide) (by decide +kernel) (by decide) (fun _ _ h9 => hb9 hc9 h9) ⟨by decide, by decide⟩ hl9 (fun M9 hM9 => ?_)
  obtain ⟨sh9, hs9⟩ : ∃ z, z = sh8 ++ [(20, 6, [])] := ⟨_, rfl⟩
  rw [← hs9]
  replace h := h _ _ hs9 hM9
  show V X yX4_init cX4_init 1 none (rmD 3 8 149) l _ 38 [some (.ref a)] [.ref sh8.length, .ref a] sh9 M9 8 149
  obtain ⟨q10, hq10, hc10, hk10, h⟩ := rfO_s h
  refine V.putR dX4_init_38 cp_RX4_29 (Or.inr ⟨_, rfl⟩) rfl hq10 hc10 hk10 ?_
  obtain ⟨sh10, hs10⟩ : ∃ z, z = sh9.set a (q10.1, q10.2.1, q10.2.2.set 4 (some (some sh8.length))) := ⟨_, rfl⟩
  rw [← hs10]
  replace h := h _ hs10
  obtain ⟨rfl, rfl⟩ := inj2 h
  exact V.vret dX4_init_41 rfl
def c_She (a : Nat) (sh : List Shp) (M : Mem) : CR :=
  mnO 0 4 40 sh M fun sh2 M2 =>
  rfO 5 a 0 sh.length sh2 fun sh3 =>
  mkO 5 (20, 4, []) sh3 M2 fun sh4 M4 =>
  rfO 5 a 1 sh3.length sh4 fun sh5 =>
  mkO 6 (20, 4, []) sh5 M4 fun sh6 M6 =>
  rfO 5 a 2 sh5.length sh6 fun sh7 =>
  gtO 5 a 1 sh7 fun r8 =>
  thO (cl9 7 sh7 && decide (sh7[r8]? = some (20, 4, []))) <|
  thB (f_Arr_fill r8 4 (-1) M6) fun M9 =>
  some (sh7, M9)
theorem okc_She {X : Sc} {l : Launch} {a : Nat} {sh sh' : List Shp} {M M' : Mem} (h : c_She a sh M = some (sh', M')) : Mt X l yX5_init cX5_init 1 none 1 7 172 [.ref a] sh M none sh' M' := by
  refine Mt.ofV (by decide) (Nat.le_of_ble_eq_true rfl) ?_
  show V X yX5_init cX5_init 1 none (rmD 1 7 172) l (FM none sh' M' 7 172) 0 [some (.ref a)] [] sh M 0 0
  unfold c_She at h
  refine V.aload_n dX5_init_0 rfl ?_
  refine V.objI dX5_init_1 rfl om_RX5_3 ow_i ow_c (by decide) (Nat.le_of_ble_eq_true rfl) ?_
  refine V.aload_n dX5_init_4 rfl ?_
  refine V.iconst dX5_init_5 ki_4 ?_
  refine V.bipush dX5_init_6 kb_40 ?_
  obtain ⟨⟨hl2, hc2⟩, h⟩ := mnO_s h
  refine V.mna (N := 4) (K := 40) dX5_init_8 mw_cl mw_ov aw_20 (by decide) (by decide) (by decide +kernel) (by decide +kernel) (by decide) (fun _ _ h9 => hb9 hc2 h9) ⟨by decide, by decide⟩ hl2 (fun M2 hM2 => ?_)
  obtain ⟨sh2, hs2⟩ : ∃ z, z = sh ++ mnaS sh.length 4 40 := ⟨_, rfl⟩
  rw [← hs2]
  replace h := h _ _ hs2 hM2
  show V X yX5_init cX5_init 1 none (rmD 1 7 172) l _ 12 [some (.ref a)] [.ref sh.length, .ref a] sh2 M2 5 164
  obtain ⟨q3, hq3, hc3, hk3, h⟩ := rfO_s h
  refine V.putR dX5_init_12 cp_RX5_11 (Or.inr ⟨_, rfl⟩) rfl hq3 hc3 hk3 ?_
  obtain ⟨sh3, hs3⟩ : ∃ z, z = sh2.set a (q3.1, q3.2.1, q3.2.2.set 0 (some (some sh.length))) := ⟨_, rfl⟩
  rw [← hs3]
  replace h := h _ hs3
  refine V.aload_n dX5_init_15 rfl ?_
  refine V.iconst dX5_init_16 ki_4 ?_
  obtain ⟨⟨hl4, hc4⟩, h⟩ := mkO_s h
  refine V.newarr (N := 4) dX5_init_17 (Or.inl ⟨rfl, rfl⟩) aw_20 (by decide) (by decide +kernel) (by decide) (fun _ _ h9 => hb9 hc4 h9) ⟨by decide, by decide⟩ hl4 (fun M4 hM4 => ?_)
  obtain ⟨sh4, hs4⟩ : ∃ z, z = sh3 ++ [(20, 4, [])] := ⟨_, rfl⟩
  rw [← hs4]
  replace h := h _ _ hs4 hM4
  show V X yX5_init cX5_init 1 none (rmD 1 7 172) l _ 19 [some (.ref a)] [.ref sh3.length, .ref a] sh4 M4 6 168
  obtain ⟨q5, hq5, hc5, hk5, h⟩ := rfO_s h
  refine V.putR dX5_init_19 cp_RX5_16 (Or.inr ⟨_, rfl⟩) rfl hq5 hc5 hk5 ?_
  obtain ⟨sh5, hs5⟩ : ∃ z, z = sh4.set a (q5.1, q5.2.1, q5.2.2.set 1 (some (some sh3.length))) := ⟨_, rfl⟩
  rw [← hs5]
  replace h := h _ hs5
  refine V.aload_n dX5_init_22 rfl ?_
  refine V.iconst dX5_init_23 ki_4 ?_
  obtain ⟨⟨hl6, hc6⟩, h⟩ := mkO_s h
  refine V.newarr (N := 4) dX5_init_24 (Or.inl ⟨rfl, rfl⟩) aw_20 (by decide) (by decide +kernel) (by decide) (fun _ _ h9 => hb9 hc6 h9) ⟨by decide, by decide⟩ hl6 (fun M6 hM6 => ?_)
  obtain ⟨sh6, hs6⟩ : ∃ z, z = sh5 ++ [(20, 4, [])] := ⟨_, rfl⟩
  rw [← hs6]
  replace h := h _ _ hs6 hM6
  show V X yX5_init cX5_init 1 none (rmD 1 7 172) l _ 26 [some (.ref a)] [.ref sh5.length, .ref a] sh6 M6 7 172
  obtain ⟨q7, hq7, hc7, hk7, h⟩ := rfO_s h
  refine V.putR dX5_init_26 cp_RX5_20 (Or.inr ⟨_, rfl⟩) rfl hq7 hc7 hk7 ?_
  obtain ⟨sh7, hs7⟩ : ∃ z, z = sh6.set a (q7.1, q7.2.1, q7.2.2.set 2 (some (some sh5.length))) := ⟨_, rfl⟩
  rw [← hs7]
  replace h := h _ hs7
  refine V.aload_n dX5_init_29 rfl ?_
  obtain ⟨q8, r8, hq8, hc8, hk8, h⟩ := gtO_s h
  refine V.getR dX5_init_30 cf_RX5_16 hq8 hc8 hk8 ?_
  refine V.iconst dX5_init_33 ki_m1 ?_
  obtain ⟨hb9, h⟩ := thO_s h
  obtain ⟨hc9, ht9⟩ := and_s hb9
  obtain ⟨M9, hv9, h⟩ := thB_s h
  refine V.cSv dX5_init_34 rfl mv_RX5_23 (ok_Arr_fill (of_decide_eq_true ht9) hv9) rfl rfl (by decide) ⟨by decide, by decide⟩ (Nat.le_of_ble_eq_true rfl) (cl9_ok hc9) ?_
  obtain ⟨rfl, rfl⟩ := inj2 h
  exact V.vret dX5_init_37 rfl
def c_Hal (a : Nat) (sh : List Shp) (M : Mem) : CR :=
  mkO 0 (8, 11, [none, none, none, none, none, none, some none, some none, some none, some none, some none]) sh M fun sh2 M2 =>
  caO 1 16 (c_Tol sh.length sh2 M2) sh2 fun sh3 M3 =>
  rfO 10 a 0 sh.length sh3 fun sh4 =>
  mkO 17 (8, 11, [none, none, none, none, none, none, some none, some none, some none, some none, some none]) sh4 M3 fun sh5 M5 =>
  caO 18 16 (c_Tol sh4.length sh5 M5) sh5 fun sh6 M6 =>
  rfO 10 a 1 sh4.length sh6 fun sh7 =>
  mkO 34 (8, 11, [none, none, none, none, none, none, some none, some none, some none, some none, some none]) sh7 M6 fun sh8 M8 =>
  caO 35 16 (c_Tol sh7.length sh8 M8) sh8 fun sh9 M9 =>
  rfO 10 a 2 sh7.length sh9 fun sh10 =>
  stO 10 a 3 0 sh10 M9 fun M11 =>
  mkO 51 (7, 4, [some none, some none, none, none]) sh10 M11 fun sh12 M12 =>
  caO 52 19 (c_Rea sh10.length sh12 M12) sh12 fun sh13 M13 =>
  rfO 10 a 4 sh10.length sh13 fun sh14 =>
  mkO 71 (3, 2, [some none, some none]) sh14 M13 fun sh15 M15 =>
  caO 72 5 (c_Hea sh14.length sh15 M15) sh15 fun sh16 M16 =>
  rfO 10 a 5 sh14.length sh16 fun sh17 =>
  mkO 77 (2, 2, [some none, some none]) sh17 M16 fun sh18 M18 =>
  caO 78 7 (c_Gos sh17.length sh18 M18) sh18 fun sh19 M19 =>
  rfO 10 a 6 sh17.length sh19 fun sh20 =>
  mkO 85 (4, 5, [none, none, some none, some none, some none]) sh20 M19 fun sh21 M21 =>
  caO 86 8 (c_Sea sh20.length sh21 M21) sh21 fun sh22 M22 =>
  rfO 10 a 7 sh20.length sh22 fun sh23 =>
  mkO 94 (5, 3, [some none, some none, some none]) sh23 M22 fun sh24 M24 =>
  caO 95 7 (c_She sh23.length sh24 M24) sh24 fun sh25 M25 =>
  rfO 10 a 8 sh23.length sh25 fun sh26 =>
  stO 10 a 9 0 sh26 M25 fun M27 =>
  some (sh26, M27)
theorem okc_Hal {X : Sc} {l : Launch} {a : Nat} {sh sh' : List Shp} {M M' : Mem} (h : c_Hal a sh M = some (sh', M')) : Mt X l yX10_init cX10_init 1 none 4 102 1841 [.ref a] sh M none sh' M' := by
  refine Mt.ofV (by decide) (Nat.le_of_ble_eq_true rfl) ?_
  show V X yX10_init cX10_init 1 none (rmD 4 102 1841) l (FM none sh' M' 102 1841) 0 [some (.ref a)] [] sh M 0 0
  unfold c_Hal at h
  refine V.aload_n dX10_init_0 rfl ?_
  refine V.objI dX10_init_1 rfl om_RX10_1 ow_i ow_c (by decide) (Nat.le_of_ble_eq_true rfl) ?_
  refine V.aload_n dX10_init_4 rfl ?_
  obtain ⟨⟨hl2, hc2⟩, h⟩ := mkO_s h
  refine V.new (fs := [none, none, none, none, none, none, some none, some none, some none, some none, some none]) dX10_init_5 (show vwCl[8]? = some (RX8, TX8, 11) from rfl) nw_RX10_7 clin_8 tyX8_ok rfl dvX8 (fun _ _ h9 => hb9 hc2 h9) ⟨by decide, by decide⟩ hl2 (fun M2 hM2 => ?_)
  obtain ⟨sh2, hs2⟩ : ∃ z, z = sh ++ [(8, 11, [none, none, none, none, none, none, some none, some none, some none, some none, some none])] := ⟨_, rfl⟩
  rw [← hs2]
  replace h := h _ _ hs2 hM2
  show V X yX10_init cX10_init 1 none (rmD 4 102 1841) l _ 8 [some (.ref a)] [.ref sh.length, .ref a] sh2 M2 1 11
  refine V.dup dX10_init_8 rfl ?_
  obtain ⟨sh3, M3, ho3, hl3, hc3, h⟩ := caO_s h
  refine V.invI (mc := 16) (ms := 213) dX10_init_9 rfl iw_RX10_9 rfl (okc_Tol ho3) (av := []) rfl rfl (by decide) ⟨by decide, by decide⟩ (Nat.le_of_ble_eq_true rfl) hl3 (fun _ _ h9 => hb9 hc3 h9) ?_
  show V X yX10_init cX10_init 1 none (rmD 4 102 1841) l _ 12 [some (.ref a)] [.ref sh.length, .ref a] sh3 M3 17 224
  obtain ⟨q4, hq4, hc4, hk4, h⟩ := rfO_s h
  refine V.putR dX10_init_12 cp_RX10_10 (Or.inl ⟨_, rfl⟩) rfl hq4 hc4 hk4 ?_
  obtain ⟨sh4, hs4⟩ : ∃ z, z = sh3.set a (q4.1, q4.2.1, q4.2.2.set 0 (some (some sh.length))) := ⟨_, rfl⟩
  rw [← hs4]
  replace h := h _ hs4
  refine V.aload_n dX10_init_15 rfl ?_
  obtain ⟨⟨hl5, hc5⟩, h⟩ := mkO_s h
  refine V.new (fs := [none, none, none, none, none, none, some none, some none, some none, some none, some none]) dX10_init_16 (show vwCl[8]? = some (RX8, TX8, 11) from rfl) nw_RX10_7 clin_8 tyX8_ok rfl dvX8 (fun _ _ h9 => hb9 hc5 h9) ⟨by decide, by decide⟩ hl5 (fun M5 hM5 => ?_)
  obtain ⟨sh5, hs5⟩ : ∃ z, z = sh4 ++ [(8, 11, [none, none, none, none, none, none, some none, some none, some none, some none, some none])] := ⟨_, rfl⟩
  rw [← hs5]
  replace h := h _ _ hs5 hM5
  show V X yX10_init cX10_init 1 none (rmD 4 102 1841) l _ 19 [some (.ref a)] [.ref sh4.length, .ref a] sh5 M5 18 235
  refine V.dup dX10_init_19 rfl ?_
  obtain ⟨sh6, M6, ho6, hl6, hc6, h⟩ := caO_s h
  refine V.invI (mc := 16) (ms := 213) dX10_init_20 rfl iw_RX10_9 rfl (okc_Tol ho6) (av := []) rfl rfl (by decide) ⟨by decide, by decide⟩ (Nat.le_of_ble_eq_true rfl) hl6 (fun _ _ h9 => hb9 hc6 h9) ?_
  show V X yX10_init cX10_init 1 none (rmD 4 102 1841) l _ 23 [some (.ref a)] [.ref sh4.length, .ref a] sh6 M6 34 448
  obtain ⟨q7, hq7, hc7, hk7, h⟩ := rfO_s h
  refine V.putR dX10_init_23 cp_RX10_16 (Or.inl ⟨_, rfl⟩) rfl hq7 hc7 hk7 ?_
  obtain ⟨sh7, hs7⟩ : ∃ z, z = sh6.set a (q7.1, q7.2.1, q7.2.2.set 1 (some (some sh4.length))) := ⟨_, rfl⟩
  rw [← hs7]
  replace h := h _ hs7
  refine V.aload_n dX10_init_26 rfl ?_
  obtain ⟨⟨hl8, hc8⟩, h⟩ := mkO_s h
  refine V.new (fs := [none, none, none, none, none, none, some none, some none, some none, some none, some none]) dX10_init_27 (show vwCl[8]? = some (RX8, TX8, 11) from rfl) nw_RX10_7 clin_8 tyX8_ok rfl dvX8 (fun _ _ h9 => hb9 hc8 h9) ⟨by decide, by decide⟩ hl8 (fun M8 hM8 => ?_)
  obtain ⟨sh8, hs8⟩ : ∃ z, z = sh7 ++ [(8, 11, [none, none, none, none, none, none, some none, some none, some none, some none, some none])] := ⟨_, rfl⟩
  rw [← hs8]
  replace h := h _ _ hs8 hM8
  show V X yX10_init cX10_init 1 none (rmD 4 102 1841) l _ 30 [some (.ref a)] [.ref sh7.length, .ref a] sh8 M8 35 459
  refine V.dup dX10_init_30 rfl ?_
  obtain ⟨sh9, M9, ho9, hl9, hc9, h⟩ := caO_s h
  refine V.invI (mc := 16) (ms := 213) dX10_init_31 rfl iw_RX10_9 rfl (okc_Tol ho9) (av := []) rfl rfl (by decide) ⟨by decide, by decide⟩ (Nat.le_of_ble_eq_true rfl) hl9 (fun _ _ h9 => hb9 hc9 h9) ?_
  show V X yX10_init cX10_init 1 none (rmD 4 102 1841) l _ 34 [some (.ref a)] [.ref sh7.length, .ref a] sh9 M9 51 672
  obtain ⟨q10, hq10, hc10, hk10, h⟩ := rfO_s h
  refine V.putR dX10_init_34 cp_RX10_19 (Or.inl ⟨_, rfl⟩) rfl hq10 hc10 hk10 ?_
  obtain ⟨sh10, hs10⟩ : ∃ z, z = sh9.set a (q10.1, q10.2.1, q10.2.2.set 2 (some (some sh7.length))) := ⟨_, rfl⟩
  rw [← hs10]
  replace h := h _ hs10
  refine V.aload_n dX10_init_37 rfl ?_
  refine V.iconst dX10_init_38 ki_0 ?_
  obtain ⟨q11, hq11, hc11, hk11, h⟩ := stO_s h
  refine V.putI dX10_init_39 cp_RX10_22 hq11 hc11 hk11 (fun M11 hM11 => ?_)
  replace h := h _ hM11
  refine V.aload_n dX10_init_42 rfl ?_
  obtain ⟨⟨hl12, hc12⟩, h⟩ := mkO_s h
  refine V.new (fs := [some none, some none, none, none]) dX10_init_43 (show vwCl[7]? = some (RX7, TX7, 4) from rfl) nw_RX10_26 clin_7 tyX7_ok rfl dvX7 (fun _ _ h9 => hb9 hc12 h9) ⟨by decide, by decide⟩ hl12 (fun M12 hM12 => ?_)
  obtain ⟨sh12, hs12⟩ : ∃ z, z = sh10 ++ [(7, 4, [some none, some none, none, none])] := ⟨_, rfl⟩
  rw [← hs12]
  replace h := h _ _ hs12 hM12
  show V X yX10_init cX10_init 1 none (rmD 4 102 1841) l _ 46 [some (.ref a)] [.ref sh10.length, .ref a] sh12 M12 52 676
  refine V.dup dX10_init_46 rfl ?_
  obtain ⟨sh13, M13, ho13, hl13, hc13, h⟩ := caO_s h
  refine V.invIN (mc := 19) (ms := 552) dX10_init_47 rfl in_RX10_28 iw_RX10_28 rfl (okc_Rea ho13) (av := []) rfl rfl (by decide) ⟨by decide, by decide⟩ (Nat.le_of_ble_eq_true rfl) hl13 (fun _ _ h9 => hb9 hc13 h9) ?_
  show V X yX10_init cX10_init 1 none (rmD 4 102 1841) l _ 50 [some (.ref a)] [.ref sh10.length, .ref a] sh13 M13 71 1228
  obtain ⟨q14, hq14, hc14, hk14, h⟩ := rfO_s h
  refine V.putR dX10_init_50 cp_RX10_29 (Or.inl ⟨_, rfl⟩) rfl hq14 hc14 hk14 ?_
  obtain ⟨sh14, hs14⟩ : ∃ z, z = sh13.set a (q14.1, q14.2.1, q14.2.2.set 4 (some (some sh10.length))) := ⟨_, rfl⟩
  rw [← hs14]
  replace h := h _ hs14
  refine V.aload_n dX10_init_53 rfl ?_
  obtain ⟨⟨hl15, hc15⟩, h⟩ := mkO_s h
  refine V.new (fs := [some none, some none]) dX10_init_54 (show vwCl[3]? = some (RX3, TX3, 2) from rfl) nw_RX10_33 clin_3 tyX3_ok rfl dvX3 (fun _ _ h9 => hb9 hc15 h9) ⟨by decide, by decide⟩ hl15 (fun M15 hM15 => ?_)
  obtain ⟨sh15, hs15⟩ : ∃ z, z = sh14 ++ [(3, 2, [some none, some none])] := ⟨_, rfl⟩
  rw [← hs15]
  replace h := h _ _ hs15 hM15
  show V X yX10_init cX10_init 1 none (rmD 4 102 1841) l _ 57 [some (.ref a)] [.ref sh14.length, .ref a] sh15 M15 72 1230
  refine V.dup dX10_init_57 rfl ?_
  obtain ⟨sh16, M16, ho16, hl16, hc16, h⟩ := caO_s h
  refine V.invIN (mc := 5) (ms := 135) dX10_init_58 rfl in_RX10_35 iw_RX10_35 rfl (okc_Hea ho16) (av := []) rfl rfl (by decide) ⟨by decide, by decide⟩ (Nat.le_of_ble_eq_true rfl) hl16 (fun _ _ h9 => hb9 hc16 h9) ?_
  show V X yX10_init cX10_init 1 none (rmD 4 102 1841) l _ 61 [some (.ref a)] [.ref sh14.length, .ref a] sh16 M16 77 1365
  obtain ⟨q17, hq17, hc17, hk17, h⟩ := rfO_s h
  refine V.putR dX10_init_61 cp_RX10_36 (Or.inl ⟨_, rfl⟩) rfl hq17 hc17 hk17 ?_
  obtain ⟨sh17, hs17⟩ : ∃ z, z = sh16.set a (q17.1, q17.2.1, q17.2.2.set 5 (some (some sh14.length))) := ⟨_, rfl⟩
  rw [← hs17]
  replace h := h _ hs17
  refine V.aload_n dX10_init_64 rfl ?_
  obtain ⟨⟨hl18, hc18⟩, h⟩ := mkO_s h
  refine V.new (fs := [some none, some none]) dX10_init_65 (show vwCl[2]? = some (RX2, TX2, 2) from rfl) nw_RX10_40 clin_2 tyX2_ok rfl dvX2 (fun _ _ h9 => hb9 hc18 h9) ⟨by decide, by decide⟩ hl18 (fun M18 hM18 => ?_)
  obtain ⟨sh18, hs18⟩ : ∃ z, z = sh17 ++ [(2, 2, [some none, some none])] := ⟨_, rfl⟩
  rw [← hs18]
  replace h := h _ _ hs18 hM18
  show V X yX10_init cX10_init 1 none (rmD 4 102 1841) l _ 68 [some (.ref a)] [.ref sh17.length, .ref a] sh18 M18 78 1367
  refine V.dup dX10_init_68 rfl ?_
  obtain ⟨sh19, M19, ho19, hl19, hc19, h⟩ := caO_s h
  refine V.invIN (mc := 7) (ms := 145) dX10_init_69 rfl in_RX10_42 iw_RX10_42 rfl (okc_Gos ho19) (av := []) rfl rfl (by decide) ⟨by decide, by decide⟩ (Nat.le_of_ble_eq_true rfl) hl19 (fun _ _ h9 => hb9 hc19 h9) ?_
  show V X yX10_init cX10_init 1 none (rmD 4 102 1841) l _ 72 [some (.ref a)] [.ref sh17.length, .ref a] sh19 M19 85 1512
  obtain ⟨q20, hq20, hc20, hk20, h⟩ := rfO_s h
  refine V.putR dX10_init_72 cp_RX10_43 (Or.inl ⟨_, rfl⟩) rfl hq20 hc20 hk20 ?_
  obtain ⟨sh20, hs20⟩ : ∃ z, z = sh19.set a (q20.1, q20.2.1, q20.2.2.set 6 (some (some sh17.length))) := ⟨_, rfl⟩
  rw [← hs20]
  replace h := h _ hs20
  refine V.aload_n dX10_init_75 rfl ?_
  obtain ⟨⟨hl21, hc21⟩, h⟩ := mkO_s h
  refine V.new (fs := [none, none, some none, some none, some none]) dX10_init_76 (show vwCl[4]? = some (RX4, TX4, 5) from rfl) nw_RX10_47 clin_4 tyX4_ok rfl dvX4 (fun _ _ h9 => hb9 hc21 h9) ⟨by decide, by decide⟩ hl21 (fun M21 hM21 => ?_)
  obtain ⟨sh21, hs21⟩ : ∃ z, z = sh20 ++ [(4, 5, [none, none, some none, some none, some none])] := ⟨_, rfl⟩
  rw [← hs21]
  replace h := h _ _ hs21 hM21
  show V X yX10_init cX10_init 1 none (rmD 4 102 1841) l _ 79 [some (.ref a)] [.ref sh20.length, .ref a] sh21 M21 86 1517
  refine V.dup dX10_init_79 rfl ?_
  obtain ⟨sh22, M22, ho22, hl22, hc22, h⟩ := caO_s h
  refine V.invIN (mc := 8) (ms := 149) dX10_init_80 rfl in_RX10_49 iw_RX10_49 rfl (okc_Sea ho22) (av := []) rfl rfl (by decide) ⟨by decide, by decide⟩ (Nat.le_of_ble_eq_true rfl) hl22 (fun _ _ h9 => hb9 hc22 h9) ?_
  show V X yX10_init cX10_init 1 none (rmD 4 102 1841) l _ 83 [some (.ref a)] [.ref sh20.length, .ref a] sh22 M22 94 1666
  obtain ⟨q23, hq23, hc23, hk23, h⟩ := rfO_s h
  refine V.putR dX10_init_83 cp_RX10_50 (Or.inl ⟨_, rfl⟩) rfl hq23 hc23 hk23 ?_
  obtain ⟨sh23, hs23⟩ : ∃ z, z = sh22.set a (q23.1, q23.2.1, q23.2.2.set 7 (some (some sh20.length))) := ⟨_, rfl⟩
  rw [← hs23]
  replace h := h _ hs23
  refine V.aload_n dX10_init_86 rfl ?_
  obtain ⟨⟨hl24, hc24⟩, h⟩ := mkO_s h
  refine V.new (fs := [some none, some none, some none]) dX10_init_87 (show vwCl[5]? = some (RX5, TX5, 3) from rfl) nw_RX10_54 clin_5 tyX5_ok rfl dvX5 (fun _ _ h9 => hb9 hc24 h9) ⟨by decide, by decide⟩ hl24 (fun M24 hM24 => ?_)
  obtain ⟨sh24, hs24⟩ : ∃ z, z = sh23 ++ [(5, 3, [some none, some none, some none])] := ⟨_, rfl⟩
  rw [← hs24]
  replace h := h _ _ hs24 hM24
  show V X yX10_init cX10_init 1 none (rmD 4 102 1841) l _ 90 [some (.ref a)] [.ref sh23.length, .ref a] sh24 M24 95 1669
  refine V.dup dX10_init_90 rfl ?_
  obtain ⟨sh25, M25, ho25, hl25, hc25, h⟩ := caO_s h
  refine V.invI (mc := 7) (ms := 172) dX10_init_91 rfl iw_RX10_56 rfl (okc_She ho25) (av := []) rfl rfl (by decide) ⟨by decide, by decide⟩ (Nat.le_of_ble_eq_true rfl) hl25 (fun _ _ h9 => hb9 hc25 h9) ?_
  show V X yX10_init cX10_init 1 none (rmD 4 102 1841) l _ 94 [some (.ref a)] [.ref sh23.length, .ref a] sh25 M25 102 1841
  obtain ⟨q26, hq26, hc26, hk26, h⟩ := rfO_s h
  refine V.putR dX10_init_94 cp_RX10_57 (Or.inl ⟨_, rfl⟩) rfl hq26 hc26 hk26 ?_
  obtain ⟨sh26, hs26⟩ : ∃ z, z = sh25.set a (q26.1, q26.2.1, q26.2.2.set 8 (some (some sh23.length))) := ⟨_, rfl⟩
  rw [← hs26]
  replace h := h _ hs26
  refine V.aload_n dX10_init_97 rfl ?_
  refine V.iconst dX10_init_98 ki_0 ?_
  obtain ⟨q27, hq27, hc27, hk27, h⟩ := stO_s h
  refine V.putI dX10_init_99 cp_RX10_61 hq27 hc27 hk27 (fun M27 hM27 => ?_)
  replace h := h _ hM27
  obtain ⟨rfl, rfl⟩ := inj2 h
  exact V.vret dX10_init_102 rfl
def c_Mod (a : Nat) (sh : List Shp) (M : Mem) : CR :=
  mkO 0 (20, 375, []) sh M fun sh2 M2 =>
  rfO 11 a 0 sh.length sh2 fun sh3 =>
  mkO 1 (22, 2, []) sh3 M2 fun sh4 M4 =>
  rfO 11 a 1 sh3.length sh4 fun sh5 =>
  mkO 2 (20, 32, []) sh5 M4 fun sh6 M6 =>
  rfO 11 a 9 sh5.length sh6 fun sh7 =>
  mkO 3 (20, 24, []) sh7 M6 fun sh8 M8 =>
  rfO 11 a 10 sh7.length sh8 fun sh9 =>
  mkO 4 (20, 125, []) sh9 M8 fun sh10 M10 =>
  rfO 11 a 11 sh9.length sh10 fun sh11 =>
  mkO 5 (20, 32, []) sh11 M10 fun sh12 M12 =>
  rfO 11 a 12 sh11.length sh12 fun sh13 =>
  mkO 6 (20, 24, []) sh13 M12 fun sh14 M14 =>
  rfO 11 a 13 sh13.length sh14 fun sh15 =>
  mkO 7 (20, 5, []) sh15 M14 fun sh16 M16 =>
  rfO 11 a 14 sh15.length sh16 fun sh17 =>
  mkO 8 (20, 320, []) sh17 M16 fun sh18 M18 =>
  rfO 11 a 21 sh17.length sh18 fun sh19 =>
  mkO 9 (20, 41, []) sh19 M18 fun sh20 M20 =>
  rfO 11 a 29 sh19.length sh20 fun sh21 =>
  mkO 10 (20, 41, []) sh21 M20 fun sh22 M22 =>
  rfO 11 a 30 sh21.length sh22 fun sh23 =>
  mkO 11 (20, 8, []) sh23 M22 fun sh24 M24 =>
  rfO 11 a 32 sh23.length sh24 fun sh25 =>
  mkO 12 (20, 6, []) sh25 M24 fun sh26 M26 =>
  rfO 11 a 33 sh25.length sh26 fun sh27 =>
  mkO 13 (20, 6, []) sh27 M26 fun sh28 M28 =>
  rfO 11 a 34 sh27.length sh28 fun sh29 =>
  mkO 14 (20, 8, []) sh29 M28 fun sh30 M30 =>
  rfO 11 a 39 sh29.length sh30 fun sh31 =>
  mkO 15 (20, 4, []) sh31 M30 fun sh32 M32 =>
  rfO 11 a 40 sh31.length sh32 fun sh33 =>
  mkO 16 (20, 4, []) sh33 M32 fun sh34 M34 =>
  rfO 11 a 41 sh33.length sh34 fun sh35 =>
  mkO 17 (20, 160, []) sh35 M34 fun sh36 M36 =>
  rfO 11 a 42 sh35.length sh36 fun sh37 =>
  thO (decide (a = 103 ∧ sh37 = S0)) <|
  thM M36 119 0 (-4) fun M39 =>
  thM M39 119 1 (-4) fun M41 =>
  thM M41 119 2 (-4) fun M43 =>
  thM M43 119 3 (-4) fun M45 =>
  thB (f_Mod_firstDraft M45) fun M46 =>
  thB (f_Mod_keepDraft M46) fun M47 =>
  some (S0, M47)
theorem okc_Mod {X : Sc} {l : Launch} {a : Nat} {sh sh' : List Shp} {M M' : Mem} (h : c_Mod a sh M = some (sh', M')) : Mt X l yX11_init cX11_init 2 none 2 18 1217 [.ref a] sh M none sh' M' := by
  refine Mt.ofV (by decide) (Nat.le_of_ble_eq_true rfl) ?_
  show V X yX11_init cX11_init 2 none (rmD 2 18 1217) l (FM none sh' M' 18 1217) 0 [some (.ref a), none] [] sh M 0 0
  unfold c_Mod at h
  refine V.aload_n dX11_init_0 rfl ?_
  refine V.objI dX11_init_1 rfl om_RX11_1 ow_i ow_c (by decide) (Nat.le_of_ble_eq_true rfl) ?_
  refine V.aload_n dX11_init_4 rfl ?_
  refine V.sipush dX11_init_5 ks_375 ?_
  obtain ⟨⟨hl2, hc2⟩, h⟩ := mkO_s h
  refine V.newarr (N := 375) dX11_init_8 (Or.inl ⟨rfl, rfl⟩) aw_20 (by decide) (by decide +kernel) (by decide) (fun _ _ h9 => hb9 hc2 h9) ⟨by decide, by decide⟩ hl2 (fun M2 hM2 => ?_)
  obtain ⟨sh2, hs2⟩ : ∃ z, z = sh ++ [(20, 375, [])] := ⟨_, rfl⟩
  rw [← hs2]
  replace h := h _ _ hs2 hM2
  show V X yX11_init cX11_init 2 none (rmD 2 18 1217) l _ 10 [some (.ref a), none] [.ref sh.length, .ref a] sh2 M2 1 375
  obtain ⟨q3, hq3, hc3, hk3, h⟩ := rfO_s h
  refine V.putR dX11_init_10 cp_RX11_7 (Or.inr ⟨_, rfl⟩) rfl hq3 hc3 hk3 ?_
  obtain ⟨sh3, hs3⟩ : ∃ z, z = sh2.set a (q3.1, q3.2.1, q3.2.2.set 0 (some (some sh.length))) := ⟨_, rfl⟩
  rw [← hs3]
  replace h := h _ hs3
  refine V.aload_n dX11_init_13 rfl ?_
  refine V.iconst dX11_init_14 ki_2 ?_
  obtain ⟨⟨hl4, hc4⟩, h⟩ := mkO_s h
  refine V.newarr (N := 2) dX11_init_15 (Or.inr (Or.inr ⟨rfl, rfl⟩)) aw_22 (by decide) (by decide +kernel) (by decide) (fun _ _ h9 => hb9 hc4 h9) ⟨by decide, by decide⟩ hl4 (fun M4 hM4 => ?_)
  obtain ⟨sh4, hs4⟩ : ∃ z, z = sh3 ++ [(22, 2, [])] := ⟨_, rfl⟩
  rw [← hs4]
  replace h := h _ _ hs4 hM4
  show V X yX11_init cX11_init 2 none (rmD 2 18 1217) l _ 17 [some (.ref a), none] [.ref sh3.length, .ref a] sh4 M4 2 377
  obtain ⟨q5, hq5, hc5, hk5, h⟩ := rfO_s h
  refine V.putR dX11_init_17 cp_RX11_13 (Or.inr ⟨_, rfl⟩) rfl hq5 hc5 hk5 ?_
  obtain ⟨sh5, hs5⟩ : ∃ z, z = sh4.set a (q5.1, q5.2.1, q5.2.2.set 1 (some (some sh3.length))) := ⟨_, rfl⟩
  rw [← hs5]
  replace h := h _ hs5
  refine V.aload_n dX11_init_20 rfl ?_
  refine V.bipush dX11_init_21 kb_32 ?_
  obtain ⟨⟨hl6, hc6⟩, h⟩ := mkO_s h
  refine V.newarr (N := 32) dX11_init_23 (Or.inl ⟨rfl, rfl⟩) aw_20 (by decide) (by decide +kernel) (by decide) (fun _ _ h9 => hb9 hc6 h9) ⟨by decide, by decide⟩ hl6 (fun M6 hM6 => ?_)
  obtain ⟨sh6, hs6⟩ : ∃ z, z = sh5 ++ [(20, 32, [])] := ⟨_, rfl⟩
  rw [← hs6]
  replace h := h _ _ hs6 hM6
  show V X yX11_init cX11_init 2 none (rmD 2 18 1217) l _ 25 [some (.ref a), none] [.ref sh5.length, .ref a] sh6 M6 3 409
  obtain ⟨q7, hq7, hc7, hk7, h⟩ := rfO_s h
  refine V.putR dX11_init_25 cp_RX11_17 (Or.inr ⟨_, rfl⟩) rfl hq7 hc7 hk7 ?_
  obtain ⟨sh7, hs7⟩ : ∃ z, z = sh6.set a (q7.1, q7.2.1, q7.2.2.set 9 (some (some sh5.length))) := ⟨_, rfl⟩
  rw [← hs7]
  replace h := h _ hs7
  refine V.aload_n dX11_init_28 rfl ?_
  refine V.bipush dX11_init_29 kb_24 ?_
  obtain ⟨⟨hl8, hc8⟩, h⟩ := mkO_s h
  refine V.newarr (N := 24) dX11_init_31 (Or.inl ⟨rfl, rfl⟩) aw_20 (by decide) (by decide +kernel) (by decide) (fun _ _ h9 => hb9 hc8 h9) ⟨by decide, by decide⟩ hl8 (fun M8 hM8 => ?_)
  obtain ⟨sh8, hs8⟩ : ∃ z, z = sh7 ++ [(20, 24, [])] := ⟨_, rfl⟩
  rw [← hs8]
  replace h := h _ _ hs8 hM8
  show V X yX11_init cX11_init 2 none (rmD 2 18 1217) l _ 33 [some (.ref a), none] [.ref sh7.length, .ref a] sh8 M8 4 433
  obtain ⟨q9, hq9, hc9, hk9, h⟩ := rfO_s h
  refine V.putR dX11_init_33 cp_RX11_20 (Or.inr ⟨_, rfl⟩) rfl hq9 hc9 hk9 ?_
  obtain ⟨sh9, hs9⟩ : ∃ z, z = sh8.set a (q9.1, q9.2.1, q9.2.2.set 10 (some (some sh7.length))) := ⟨_, rfl⟩
  rw [← hs9]
  replace h := h _ hs9
  refine V.aload_n dX11_init_36 rfl ?_
  refine V.bipush dX11_init_37 kb_125 ?_
  obtain ⟨⟨hl10, hc10⟩, h⟩ := mkO_s h
  refine V.newarr (N := 125) dX11_init_39 (Or.inl ⟨rfl, rfl⟩) aw_20 (by decide) (by decide +kernel) (by decide) (fun _ _ h9 => hb9 hc10 h9) ⟨by decide, by decide⟩ hl10 (fun M10 hM10 => ?_)
  obtain ⟨sh10, hs10⟩ : ∃ z, z = sh9 ++ [(20, 125, [])] := ⟨_, rfl⟩
  rw [← hs10]
  replace h := h _ _ hs10 hM10
  show V X yX11_init cX11_init 2 none (rmD 2 18 1217) l _ 41 [some (.ref a), none] [.ref sh9.length, .ref a] sh10 M10 5 558
  obtain ⟨q11, hq11, hc11, hk11, h⟩ := rfO_s h
  refine V.putR dX11_init_41 cp_RX11_23 (Or.inr ⟨_, rfl⟩) rfl hq11 hc11 hk11 ?_
  obtain ⟨sh11, hs11⟩ : ∃ z, z = sh10.set a (q11.1, q11.2.1, q11.2.2.set 11 (some (some sh9.length))) := ⟨_, rfl⟩
  rw [← hs11]
  replace h := h _ hs11
  refine V.aload_n dX11_init_44 rfl ?_
  refine V.bipush dX11_init_45 kb_32 ?_
  obtain ⟨⟨hl12, hc12⟩, h⟩ := mkO_s h
  refine V.newarr (N := 32) dX11_init_47 (Or.inl ⟨rfl, rfl⟩) aw_20 (by decide) (by decide +kernel) (by decide) (fun _ _ h9 => hb9 hc12 h9) ⟨by decide, by decide⟩ hl12 (fun M12 hM12 => ?_)
  obtain ⟨sh12, hs12⟩ : ∃ z, z = sh11 ++ [(20, 32, [])] := ⟨_, rfl⟩
  rw [← hs12]
  replace h := h _ _ hs12 hM12
  show V X yX11_init cX11_init 2 none (rmD 2 18 1217) l _ 49 [some (.ref a), none] [.ref sh11.length, .ref a] sh12 M12 6 590
  obtain ⟨q13, hq13, hc13, hk13, h⟩ := rfO_s h
  refine V.putR dX11_init_49 cp_RX11_26 (Or.inr ⟨_, rfl⟩) rfl hq13 hc13 hk13 ?_
  obtain ⟨sh13, hs13⟩ : ∃ z, z = sh12.set a (q13.1, q13.2.1, q13.2.2.set 12 (some (some sh11.length))) := ⟨_, rfl⟩
  rw [← hs13]
  replace h := h _ hs13
  refine V.aload_n dX11_init_52 rfl ?_
  refine V.bipush dX11_init_53 kb_24 ?_
  obtain ⟨⟨hl14, hc14⟩, h⟩ := mkO_s h
  refine V.newarr (N := 24) dX11_init_55 (Or.inl ⟨rfl, rfl⟩) aw_20 (by decide) (by decide +kernel) (by decide) (fun _ _ h9 => hb9 hc14 h9) ⟨by decide, by decide⟩ hl14 (fun M14 hM14 => ?_)
  obtain ⟨sh14, hs14⟩ : ∃ z, z = sh13 ++ [(20, 24, [])] := ⟨_, rfl⟩
  rw [← hs14]
  replace h := h _ _ hs14 hM14
  show V X yX11_init cX11_init 2 none (rmD 2 18 1217) l _ 57 [some (.ref a), none] [.ref sh13.length, .ref a] sh14 M14 7 614
  obtain ⟨q15, hq15, hc15, hk15, h⟩ := rfO_s h
  refine V.putR dX11_init_57 cp_RX11_29 (Or.inr ⟨_, rfl⟩) rfl hq15 hc15 hk15 ?_
  obtain ⟨sh15, hs15⟩ : ∃ z, z = sh14.set a (q15.1, q15.2.1, q15.2.2.set 13 (some (some sh13.length))) := ⟨_, rfl⟩
  rw [← hs15]
  replace h := h _ hs15
  refine V.aload_n dX11_init_60 rfl ?_
  refine V.iconst dX11_init_61 ki_5 ?_
  obtain ⟨⟨hl16, hc16⟩, h⟩ := mkO_s h
  refine V.newarr (N := 5) dX11_init_62 (Or.inl ⟨rfl, rfl⟩) aw_20 (by decide) (by decide +kernel) (by decide) (fun _ _ h9 => hb9 hc16 h9) ⟨by decide, by decide⟩ hl16 (fun M16 hM16 => ?_)
  obtain ⟨sh16, hs16⟩ : ∃ z, z = sh15 ++ [(20, 5, [])] := ⟨_, rfl⟩
  rw [← hs16]
  replace h := h _ _ hs16 hM16
  show V X yX11_init cX11_init 2 none (rmD 2 18 1217) l _ 64 [some (.ref a), none] [.ref sh15.length, .ref a] sh16 M16 8 619
  obtain ⟨q17, hq17, hc17, hk17, h⟩ := rfO_s h
  refine V.putR dX11_init_64 cp_RX11_32 (Or.inr ⟨_, rfl⟩) rfl hq17 hc17 hk17 ?_
  obtain ⟨sh17, hs17⟩ : ∃ z, z = sh16.set a (q17.1, q17.2.1, q17.2.2.set 14 (some (some sh15.length))) := ⟨_, rfl⟩
  rw [← hs17]
  replace h := h _ hs17
  refine V.aload_n dX11_init_67 rfl ?_
  refine V.sipush dX11_init_68 ks_320 ?_
  obtain ⟨⟨hl18, hc18⟩, h⟩ := mkO_s h
  refine V.newarr (N := 320) dX11_init_71 (Or.inl ⟨rfl, rfl⟩) aw_20 (by decide) (by decide +kernel) (by decide) (fun _ _ h9 => hb9 hc18 h9) ⟨by decide, by decide⟩ hl18 (fun M18 hM18 => ?_)
  obtain ⟨sh18, hs18⟩ : ∃ z, z = sh17 ++ [(20, 320, [])] := ⟨_, rfl⟩
  rw [← hs18]
  replace h := h _ _ hs18 hM18
  show V X yX11_init cX11_init 2 none (rmD 2 18 1217) l _ 73 [some (.ref a), none] [.ref sh17.length, .ref a] sh18 M18 9 939
  obtain ⟨q19, hq19, hc19, hk19, h⟩ := rfO_s h
  refine V.putR dX11_init_73 cp_RX11_35 (Or.inr ⟨_, rfl⟩) rfl hq19 hc19 hk19 ?_
  obtain ⟨sh19, hs19⟩ : ∃ z, z = sh18.set a (q19.1, q19.2.1, q19.2.2.set 21 (some (some sh17.length))) := ⟨_, rfl⟩
  rw [← hs19]
  replace h := h _ hs19
  refine V.aload_n dX11_init_76 rfl ?_
  refine V.bipush dX11_init_77 kb_41 ?_
  obtain ⟨⟨hl20, hc20⟩, h⟩ := mkO_s h
  refine V.newarr (N := 41) dX11_init_79 (Or.inl ⟨rfl, rfl⟩) aw_20 (by decide) (by decide +kernel) (by decide) (fun _ _ h9 => hb9 hc20 h9) ⟨by decide, by decide⟩ hl20 (fun M20 hM20 => ?_)
  obtain ⟨sh20, hs20⟩ : ∃ z, z = sh19 ++ [(20, 41, [])] := ⟨_, rfl⟩
  rw [← hs20]
  replace h := h _ _ hs20 hM20
  show V X yX11_init cX11_init 2 none (rmD 2 18 1217) l _ 81 [some (.ref a), none] [.ref sh19.length, .ref a] sh20 M20 10 980
  obtain ⟨q21, hq21, hc21, hk21, h⟩ := rfO_s h
  refine V.putR dX11_init_81 cp_RX11_38 (Or.inr ⟨_, rfl⟩) rfl hq21 hc21 hk21 ?_
  obtain ⟨sh21, hs21⟩ : ∃ z, z = sh20.set a (q21.1, q21.2.1, q21.2.2.set 29 (some (some sh19.length))) := ⟨_, rfl⟩
  rw [← hs21]
  replace h := h _ hs21
  refine V.aload_n dX11_init_84 rfl ?_
  refine V.bipush dX11_init_85 kb_41 ?_
  obtain ⟨⟨hl22, hc22⟩, h⟩ := mkO_s h
  refine V.newarr (N := 41) dX11_init_87 (Or.inl ⟨rfl, rfl⟩) aw_20 (by decide) (by decide +kernel) (by decide) (fun _ _ h9 => hb9 hc22 h9) ⟨by decide, by decide⟩ hl22 (fun M22 hM22 => ?_)
  obtain ⟨sh22, hs22⟩ : ∃ z, z = sh21 ++ [(20, 41, [])] := ⟨_, rfl⟩
  rw [← hs22]
  replace h := h _ _ hs22 hM22
  show V X yX11_init cX11_init 2 none (rmD 2 18 1217) l _ 89 [some (.ref a), none] [.ref sh21.length, .ref a] sh22 M22 11 1021
  obtain ⟨q23, hq23, hc23, hk23, h⟩ := rfO_s h
  refine V.putR dX11_init_89 cp_RX11_41 (Or.inr ⟨_, rfl⟩) rfl hq23 hc23 hk23 ?_
  obtain ⟨sh23, hs23⟩ : ∃ z, z = sh22.set a (q23.1, q23.2.1, q23.2.2.set 30 (some (some sh21.length))) := ⟨_, rfl⟩
  rw [← hs23]
  replace h := h _ hs23
  refine V.aload_n dX11_init_92 rfl ?_
  refine V.bipush dX11_init_93 kb_8 ?_
  obtain ⟨⟨hl24, hc24⟩, h⟩ := mkO_s h
  refine V.newarr (N := 8) dX11_init_95 (Or.inl ⟨rfl, rfl⟩) aw_20 (by decide) (by decide +kernel) (by decide) (fun _ _ h9 => hb9 hc24 h9) ⟨by decide, by decide⟩ hl24 (fun M24 hM24 => ?_)
  obtain ⟨sh24, hs24⟩ : ∃ z, z = sh23 ++ [(20, 8, [])] := ⟨_, rfl⟩
  rw [← hs24]
  replace h := h _ _ hs24 hM24
  show V X yX11_init cX11_init 2 none (rmD 2 18 1217) l _ 97 [some (.ref a), none] [.ref sh23.length, .ref a] sh24 M24 12 1029
  obtain ⟨q25, hq25, hc25, hk25, h⟩ := rfO_s h
  refine V.putR dX11_init_97 cp_RX11_44 (Or.inr ⟨_, rfl⟩) rfl hq25 hc25 hk25 ?_
  obtain ⟨sh25, hs25⟩ : ∃ z, z = sh24.set a (q25.1, q25.2.1, q25.2.2.set 32 (some (some sh23.length))) := ⟨_, rfl⟩
  rw [← hs25]
  replace h := h _ hs25
  refine V.aload_n dX11_init_100 rfl ?_
  refine V.bipush dX11_init_101 kb_6 ?_
  obtain ⟨⟨hl26, hc26⟩, h⟩ := mkO_s h
  refine V.newarr (N := 6) dX11_init_103 (Or.inl ⟨rfl, rfl⟩) aw_20 (by decide) (by decide +kernel) (by decide) (fun _ _ h9 => hb9 hc26 h9) ⟨by decide, by decide⟩ hl26 (fun M26 hM26 => ?_)
  obtain ⟨sh26, hs26⟩ : ∃ z, z = sh25 ++ [(20, 6, [])] := ⟨_, rfl⟩
  rw [← hs26]
  replace h := h _ _ hs26 hM26
  show V X yX11_init cX11_init 2 none (rmD 2 18 1217) l _ 105 [some (.ref a), none] [.ref sh25.length, .ref a] sh26 M26 13 1035
  obtain ⟨q27, hq27, hc27, hk27, h⟩ := rfO_s h
  refine V.putR dX11_init_105 cp_RX11_47 (Or.inr ⟨_, rfl⟩) rfl hq27 hc27 hk27 ?_
  obtain ⟨sh27, hs27⟩ : ∃ z, z = sh26.set a (q27.1, q27.2.1, q27.2.2.set 33 (some (some sh25.length))) := ⟨_, rfl⟩
  rw [← hs27]
  replace h := h _ hs27
  refine V.aload_n dX11_init_108 rfl ?_
  refine V.bipush dX11_init_109 kb_6 ?_
  obtain ⟨⟨hl28, hc28⟩, h⟩ := mkO_s h
  refine V.newarr (N := 6) dX11_init_111 (Or.inl ⟨rfl, rfl⟩) aw_20 (by decide) (by decide +kernel) (by decide) (fun _ _ h9 => hb9 hc28 h9) ⟨by decide, by decide⟩ hl28 (fun M28 hM28 => ?_)
  obtain ⟨sh28, hs28⟩ : ∃ z, z = sh27 ++ [(20, 6, [])] := ⟨_, rfl⟩
  rw [← hs28]
  replace h := h _ _ hs28 hM28
  show V X yX11_init cX11_init 2 none (rmD 2 18 1217) l _ 113 [some (.ref a), none] [.ref sh27.length, .ref a] sh28 M28 14 1041
  obtain ⟨q29, hq29, hc29, hk29, h⟩ := rfO_s h
  refine V.putR dX11_init_113 cp_RX11_50 (Or.inr ⟨_, rfl⟩) rfl hq29 hc29 hk29 ?_
  obtain ⟨sh29, hs29⟩ : ∃ z, z = sh28.set a (q29.1, q29.2.1, q29.2.2.set 34 (some (some sh27.length))) := ⟨_, rfl⟩
  rw [← hs29]
  replace h := h _ hs29
  refine V.aload_n dX11_init_116 rfl ?_
  refine V.bipush dX11_init_117 kb_8 ?_
  obtain ⟨⟨hl30, hc30⟩, h⟩ := mkO_s h
  refine V.newarr (N := 8) dX11_init_119 (Or.inl ⟨rfl, rfl⟩) aw_20 (by decide) (by decide +kernel) (by decide) (fun _ _ h9 => hb9 hc30 h9) ⟨by decide, by decide⟩ hl30 (fun M30 hM30 => ?_)
  obtain ⟨sh30, hs30⟩ : ∃ z, z = sh29 ++ [(20, 8, [])] := ⟨_, rfl⟩
  rw [← hs30]
  replace h := h _ _ hs30 hM30
  show V X yX11_init cX11_init 2 none (rmD 2 18 1217) l _ 121 [some (.ref a), none] [.ref sh29.length, .ref a] sh30 M30 15 1049
  obtain ⟨q31, hq31, hc31, hk31, h⟩ := rfO_s h
  refine V.putR dX11_init_121 cp_RX11_53 (Or.inr ⟨_, rfl⟩) rfl hq31 hc31 hk31 ?_
  obtain ⟨sh31, hs31⟩ : ∃ z, z = sh30.set a (q31.1, q31.2.1, q31.2.2.set 39 (some (some sh29.length))) := ⟨_, rfl⟩
  rw [← hs31]
  replace h := h _ hs31
  refine V.aload_n dX11_init_124 rfl ?_
  refine V.iconst dX11_init_125 ki_4 ?_
  obtain ⟨⟨hl32, hc32⟩, h⟩ := mkO_s h
  refine V.newarr (N := 4) dX11_init_126 (Or.inl ⟨rfl, rfl⟩) aw_20 (by decide) (by decide +kernel) (by decide) (fun _ _ h9 => hb9 hc32 h9) ⟨by decide, by decide⟩ hl32 (fun M32 hM32 => ?_)
  obtain ⟨sh32, hs32⟩ : ∃ z, z = sh31 ++ [(20, 4, [])] := ⟨_, rfl⟩
  rw [← hs32]
  replace h := h _ _ hs32 hM32
  show V X yX11_init cX11_init 2 none (rmD 2 18 1217) l _ 128 [some (.ref a), none] [.ref sh31.length, .ref a] sh32 M32 16 1053
  obtain ⟨q33, hq33, hc33, hk33, h⟩ := rfO_s h
  refine V.putR dX11_init_128 cp_RX11_56 (Or.inr ⟨_, rfl⟩) rfl hq33 hc33 hk33 ?_
  obtain ⟨sh33, hs33⟩ : ∃ z, z = sh32.set a (q33.1, q33.2.1, q33.2.2.set 40 (some (some sh31.length))) := ⟨_, rfl⟩
  rw [← hs33]
  replace h := h _ hs33
  refine V.aload_n dX11_init_131 rfl ?_
  refine V.iconst dX11_init_132 ki_4 ?_
  obtain ⟨⟨hl34, hc34⟩, h⟩ := mkO_s h
  refine V.newarr (N := 4) dX11_init_133 (Or.inl ⟨rfl, rfl⟩) aw_20 (by decide) (by decide +kernel) (by decide) (fun _ _ h9 => hb9 hc34 h9) ⟨by decide, by decide⟩ hl34 (fun M34 hM34 => ?_)
  obtain ⟨sh34, hs34⟩ : ∃ z, z = sh33 ++ [(20, 4, [])] := ⟨_, rfl⟩
  rw [← hs34]
  replace h := h _ _ hs34 hM34
  show V X yX11_init cX11_init 2 none (rmD 2 18 1217) l _ 135 [some (.ref a), none] [.ref sh33.length, .ref a] sh34 M34 17 1057
  obtain ⟨q35, hq35, hc35, hk35, h⟩ := rfO_s h
  refine V.putR dX11_init_135 cp_RX11_59 (Or.inr ⟨_, rfl⟩) rfl hq35 hc35 hk35 ?_
  obtain ⟨sh35, hs35⟩ : ∃ z, z = sh34.set a (q35.1, q35.2.1, q35.2.2.set 41 (some (some sh33.length))) := ⟨_, rfl⟩
  rw [← hs35]
  replace h := h _ hs35
  refine V.aload_n dX11_init_138 rfl ?_
  refine V.sipush dX11_init_139 ks_160 ?_
  obtain ⟨⟨hl36, hc36⟩, h⟩ := mkO_s h
  refine V.newarr (N := 160) dX11_init_142 (Or.inl ⟨rfl, rfl⟩) aw_20 (by decide) (by decide +kernel) (by decide) (fun _ _ h9 => hb9 hc36 h9) ⟨by decide, by decide⟩ hl36 (fun M36 hM36 => ?_)
  obtain ⟨sh36, hs36⟩ : ∃ z, z = sh35 ++ [(20, 160, [])] := ⟨_, rfl⟩
  rw [← hs36]
  replace h := h _ _ hs36 hM36
  show V X yX11_init cX11_init 2 none (rmD 2 18 1217) l _ 144 [some (.ref a), none] [.ref sh35.length, .ref a] sh36 M36 18 1217
  obtain ⟨q37, hq37, hc37, hk37, h⟩ := rfO_s h
  refine V.putR dX11_init_144 cp_RX11_62 (Or.inr ⟨_, rfl⟩) rfl hq37 hc37 hk37 ?_
  obtain ⟨sh37, hs37⟩ : ∃ z, z = sh36.set a (q37.1, q37.2.1, q37.2.2.set 42 (some (some sh35.length))) := ⟨_, rfl⟩
  rw [← hs37]
  replace h := h _ hs37
  obtain ⟨hb, h2⟩ := thO_s h
  clear h
  replace hb := of_decide_eq_true hb
  obtain ⟨rfl, hb⟩ := hb
  subst hb
  have h := h2
  clear h2
  refine V.iconst dX11_init_147 ki_0 ?_
  refine V.istore_n dX11_init_148 (by decide) rfl ?_
  refine V.iload_n dX11_init_149 rfl ?_
  refine V.iconst dX11_init_150 ki_4 ?_
  refine V.icmp_ge (tgt := 168) dX11_init_151 (by decide) (fun h9 => absurd h9 (by decide)) (fun _ => ?_)
  refine V.aload_n dX11_init_154 rfl ?_
  refine V.getR dX11_init_155 cf_RX11_56 s0_103 rfl rfl ?_
  refine V.iload_n dX11_init_158 rfl ?_
  refine V.bipush dX11_init_159 kb_m4 ?_
  refine V.iast dX11_init_161 s0_119 rfl (vp_of (by decide +kernel)) (fun M39 hM39 => ?_)
  rw [ixk_0] at hM39
  replace h := thM_s h M39 hM39
  refine V.iinc dX11_init_162 rfl (show _ = 1 by decide +kernel) (by decide) rfl ?_
  refine V.goto (tgt := 149) dX11_init_165 (by decide) ?_
  refine V.iload_n dX11_init_149 rfl ?_
  refine V.iconst dX11_init_150 ki_4 ?_
  refine V.icmp_ge (tgt := 168) dX11_init_151 (by decide) (fun h9 => absurd h9 (by decide)) (fun _ => ?_)
  refine V.aload_n dX11_init_154 rfl ?_
  refine V.getR dX11_init_155 cf_RX11_56 s0_103 rfl rfl ?_
  refine V.iload_n dX11_init_158 rfl ?_
  refine V.bipush dX11_init_159 kb_m4 ?_
  refine V.iast dX11_init_161 s0_119 rfl (vp_of (by decide +kernel)) (fun M41 hM41 => ?_)
  rw [ixk_1] at hM41
  replace h := thM_s h M41 hM41
  refine V.iinc dX11_init_162 rfl (show _ = 2 by decide +kernel) (by decide) rfl ?_
  refine V.goto (tgt := 149) dX11_init_165 (by decide) ?_
  refine V.iload_n dX11_init_149 rfl ?_
  refine V.iconst dX11_init_150 ki_4 ?_
  refine V.icmp_ge (tgt := 168) dX11_init_151 (by decide) (fun h9 => absurd h9 (by decide)) (fun _ => ?_)
  refine V.aload_n dX11_init_154 rfl ?_
  refine V.getR dX11_init_155 cf_RX11_56 s0_103 rfl rfl ?_
  refine V.iload_n dX11_init_158 rfl ?_
  refine V.bipush dX11_init_159 kb_m4 ?_
  refine V.iast dX11_init_161 s0_119 rfl (vp_of (by decide +kernel)) (fun M43 hM43 => ?_)
  rw [ixk_2] at hM43
  replace h := thM_s h M43 hM43
  refine V.iinc dX11_init_162 rfl (show _ = 3 by decide +kernel) (by decide) rfl ?_
  refine V.goto (tgt := 149) dX11_init_165 (by decide) ?_
  refine V.iload_n dX11_init_149 rfl ?_
  refine V.iconst dX11_init_150 ki_4 ?_
  refine V.icmp_ge (tgt := 168) dX11_init_151 (by decide) (fun h9 => absurd h9 (by decide)) (fun _ => ?_)
  refine V.aload_n dX11_init_154 rfl ?_
  refine V.getR dX11_init_155 cf_RX11_56 s0_103 rfl rfl ?_
  refine V.iload_n dX11_init_158 rfl ?_
  refine V.bipush dX11_init_159 kb_m4 ?_
  refine V.iast dX11_init_161 s0_119 rfl (vp_of (by decide +kernel)) (fun M45 hM45 => ?_)
  rw [ixk_3] at hM45
  replace h := thM_s h M45 hM45
  refine V.iinc dX11_init_162 rfl (show _ = 4 by decide +kernel) (by decide) rfl ?_
  refine V.goto (tgt := 149) dX11_init_165 (by decide) ?_
  refine V.iload_n dX11_init_149 rfl ?_
  refine V.iconst dX11_init_150 ki_4 ?_
  refine V.icmp_ge (tgt := 168) dX11_init_151 (by decide) (fun _ => ?_) (fun h9 => absurd (by decide) h9)
  refine V.aload_n dX11_init_168 rfl ?_
  obtain ⟨M46, hv46, h⟩ := thB_s h
  refine V.cVv dX11_init_169 rfl mv_RX11_65 (ok_Mod_firstDraft hv46) rfl rfl s0_103 rfl (by decide) ⟨by decide, by decide⟩ (Nat.le_of_ble_eq_true rfl) (by decide) ?_
  refine V.aload_n dX11_init_172 rfl ?_
  obtain ⟨M47, hv47, h⟩ := thB_s h
  refine V.cVv dX11_init_173 rfl mv_RX11_68 (ok_Mod_keepDraft hv47) rfl rfl s0_103 rfl (by decide) ⟨by decide, by decide⟩ (Nat.le_of_ble_eq_true rfl) (by decide) ?_
  obtain ⟨rfl, rfl⟩ := inj2 h
  exact V.vret dX11_init_176 rfl
