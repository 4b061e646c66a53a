section VR
variable {X : Sc} {y : MethodName} {b : ByteArray} {nL : Nat} {ret : Option FieldType} {R : Room} {l : Launch} {F : Fi → List Frame → Array Value → State → State → Prop}
variable {pc : Nat} {ls : List (Option Value)} {st : List Value} {sh : List Shp} {M : Mem} {cl sl : Nat}
theorem V.iconst {n : Int} {v : Int32} (hd : decode b pc = .ok (.iconst n, 1)) (hv : Int32.ofInt n = v) (k : V X y b nL ret R l F (pc + 1) ls (.int v :: st) sh M cl sl) : V X y b nL ret R l F pc ls st sh M cl sl := by
  intro Φ p e s m args below meth c H locs lsA hC hN hH hW hS hL
  exact lv_iconst hC.1 hC.2.1 hd hv (k Φ p e s m args below meth c H locs lsA hC hN hH hW hS hL)
theorem V.bipush {n : Int} {v : Int32} (hd : decode b pc = .ok (.bipush n, 2)) (hv : (Int8.ofInt n).toInt32 = v) (k : V X y b nL ret R l F (pc + 2) ls (.int v :: st) sh M cl sl) : V X y b nL ret R l F pc ls st sh M cl sl := by
  intro Φ p e s m args below meth c H locs lsA hC hN hH hW hS hL
  exact lv_bipush hC.1 hC.2.1 hd hv (k Φ p e s m args below meth c H locs lsA hC hN hH hW hS hL)
theorem V.sipush {n : Int} {v : Int32} (hd : decode b pc = .ok (.sipush n, 3)) (hv : (Int16.ofInt n).toInt32 = v) (k : V X y b nL ret R l F (pc + 3) ls (.int v :: st) sh M cl sl) : V X y b nL ret R l F pc ls st sh M cl sl := by
  intro Φ p e s m args below meth c H locs lsA hC hN hH hW hS hL
  exact lv_sipush hC.1 hC.2.1 hd hv (k Φ p e s m args below meth c H locs lsA hC hN hH hW hS hL)
theorem V.lconst {n : Fin 2} {v : Int64} (hd : decode b pc = .ok (.lconst n, 1)) (hv : Int64.ofNat (n : Nat) = v) (k : V X y b nL ret R l F (pc + 1) ls (.long v :: st) sh M cl sl) : V X y b nL ret R l F pc ls st sh M cl sl := by
  intro Φ p e s m args below meth c H locs lsA hC hN hH hW hS hL
  exact lv_lconst hC.1 hC.2.1 hd hv (k Φ p e s m args below meth c H locs lsA hC hN hH hW hS hL)
theorem V.iload_n {k0 : Fin 4} {x : Int32} (hd : decode b pc = .ok (.iload_n k0, 1)) (hl : ls[(k0 : Nat)]? = some (some (.int x))) (k : V X y b nL ret R l F (pc + 1) ls (.int x :: st) sh M cl sl) : V X y b nL ret R l F pc ls st sh M cl sl := by
  intro Φ p e s m args below meth c H locs lsA hC hN hH hW hS hL
  exact lv_iload_n hC.1 hC.2.1 hd rfl (hL.2.2 _ _ hl) (k Φ p e s m args below meth c H locs lsA hC hN hH hW hS hL)
theorem V.iload {i : Nat} {x : Int32} (hd : decode b pc = .ok (.iload i, 2)) (hl : ls[i]? = some (some (.int x))) (k : V X y b nL ret R l F (pc + 2) ls (.int x :: st) sh M cl sl) : V X y b nL ret R l F pc ls st sh M cl sl := by
  intro Φ p e s m args below meth c H locs lsA hC hN hH hW hS hL
  exact lv_iload hC.1 hC.2.1 hd (hL.2.2 _ _ hl) (k Φ p e s m args below meth c H locs lsA hC hN hH hW hS hL)
theorem V.lload_n {k0 : Fin 4} {x : Int64} (hd : decode b pc = .ok (.lload_n k0, 1)) (hl : ls[(k0 : Nat)]? = some (some (.long x))) (k : V X y b nL ret R l F (pc + 1) ls (.long x :: st) sh M cl sl) : V X y b nL ret R l F pc ls st sh M cl sl := by
  intro Φ p e s m args below meth c H locs lsA hC hN hH hW hS hL
  exact lv_lload_n hC.1 hC.2.1 hd rfl (hL.2.2 _ _ hl) (k Φ p e s m args below meth c H locs lsA hC hN hH hW hS hL)
theorem V.lload {i : Nat} {x : Int64} (hd : decode b pc = .ok (.lload i, 2)) (hl : ls[i]? = some (some (.long x))) (k : V X y b nL ret R l F (pc + 2) ls (.long x :: st) sh M cl sl) : V X y b nL ret R l F pc ls st sh M cl sl := by
  intro Φ p e s m args below meth c H locs lsA hC hN hH hW hS hL
  exact lv_lload hC.1 hC.2.1 hd (hL.2.2 _ _ hl) (k Φ p e s m args below meth c H locs lsA hC hN hH hW hS hL)
theorem V.aload_n {k0 : Fin 4} {x : Nat} (hd : decode b pc = .ok (.aload_n k0, 1)) (hl : ls[(k0 : Nat)]? = some (some (.ref x))) (k : V X y b nL ret R l F (pc + 1) ls (.ref x :: st) sh M cl sl) : V X y b nL ret R l F pc ls st sh M cl sl := by
  intro Φ p e s m args below meth c H locs lsA hC hN hH hW hS hL
  exact lv_aload_n hC.1 hC.2.1 hd rfl (hL.2.2 _ _ hl) (k Φ p e s m args below meth c H locs lsA hC hN hH hW hS hL)
theorem V.aload {i : Nat} {x : Nat} (hd : decode b pc = .ok (.aload i, 2)) (hl : ls[i]? = some (some (.ref x))) (k : V X y b nL ret R l F (pc + 2) ls (.ref x :: st) sh M cl sl) : V X y b nL ret R l F pc ls st sh M cl sl := by
  intro Φ p e s m args below meth c H locs lsA hC hN hH hW hS hL
  exact lv_aload hC.1 hC.2.1 hd (hL.2.2 _ _ hl) (k Φ p e s m args below meth c H locs lsA hC hN hH hW hS hL)
theorem V.istore_n {k0 : Fin 4} {x : Int32} (hd : decode b pc = .ok (.istore_n k0, 1)) (hn : (k0 : Nat) < nL) (hp : noL ls (k0 : Nat) = true) (k : V X y b nL ret R l F (pc + 1) (ls.set (k0 : Nat) (some (.int x))) st sh M cl sl) : V X y b nL ret R l F pc ls (.int x :: st) sh M cl sl := by
  intro Φ p e s m args below meth c H locs lsA hC hN hH hW hS hL
  exact lv_istore_n hC.1 hC.2.1 hd rfl hL.has hn rfl (fun lsB h9 => (k Φ p e s m args below meth c H locs lsB hC hN hH hW hS (fi_L.store hC.2.2.2.2.2.2.2.2.2.2.1 hp h9)))
theorem V.istore {i : Nat} {x : Int32} (hd : decode b pc = .ok (.istore i, 2)) (hn : i < nL) (hp : noL ls i = true) (k : V X y b nL ret R l F (pc + 2) (ls.set i (some (.int x))) st sh M cl sl) : V X y b nL ret R l F pc ls (.int x :: st) sh M cl sl := by
  intro Φ p e s m args below meth c H locs lsA hC hN hH hW hS hL
  exact lv_istore hC.1 hC.2.1 hd hL.has hn rfl (fun lsB h9 => (k Φ p e s m args below meth c H locs lsB hC hN hH hW hS (fi_L.store hC.2.2.2.2.2.2.2.2.2.2.1 hp h9)))
theorem V.astore_n {k0 : Fin 4} {x : Nat} (hd : decode b pc = .ok (.astore_n k0, 1)) (hn : (k0 : Nat) < nL) (hp : noL ls (k0 : Nat) = true) (k : V X y b nL ret R l F (pc + 1) (ls.set (k0 : Nat) (some (.ref x))) st sh M cl sl) : V X y b nL ret R l F pc ls (.ref x :: st) sh M cl sl := by
  intro Φ p e s m args below meth c H locs lsA hC hN hH hW hS hL
  exact lv_astore_n hC.1 hC.2.1 hd rfl hL.has hn rfl (fun lsB h9 => (k Φ p e s m args below meth c H locs lsB hC hN hH hW hS (fi_L.store hC.2.2.2.2.2.2.2.2.2.2.1 hp h9)))
theorem V.astore {i : Nat} {x : Nat} (hd : decode b pc = .ok (.astore i, 2)) (hn : i < nL) (hp : noL ls i = true) (k : V X y b nL ret R l F (pc + 2) (ls.set i (some (.ref x))) st sh M cl sl) : V X y b nL ret R l F pc ls (.ref x :: st) sh M cl sl := by
  intro Φ p e s m args below meth c H locs lsA hC hN hH hW hS hL
  exact lv_astore hC.1 hC.2.1 hd hL.has hn rfl (fun lsB h9 => (k Φ p e s m args below meth c H locs lsB hC hN hH hW hS (fi_L.store hC.2.2.2.2.2.2.2.2.2.2.1 hp h9)))
theorem V.lstore {i : Nat} {x : Int64} (hd : decode b pc = .ok (.lstore i, 2)) (hn : i + 1 < nL) (hp : noL ls i = true) (k : V X y b nL ret R l F (pc + 2) ((ls.set i (some (.long x))).set (i + 1) none) st sh M cl sl) : V X y b nL ret R l F pc ls (.long x :: st) sh M cl sl := by
  intro Φ p e s m args below meth c H locs lsA hC hN hH hW hS hL
  exact lv_lstore hC.1 hC.2.1 hd hL.has hn rfl (fun lsB h9 => (k Φ p e s m args below meth c H locs lsB hC hN hH hW hS (fi_L.store2 hC.2.2.2.2.2.2.2.2.2.2.1 hp h9)))
theorem V.iinc {i : Nat} {n : Int} {x v : Int32} (hd : decode b pc = .ok (.iinc i n, 3)) (hl : ls[i]? = some (some (.int x))) (hv : x + Int32.ofInt n = v) (hn : i < nL) (hp : noL ls i = true) (k : V X y b nL ret R l F (pc + 3) (ls.set i (some (.int v))) st sh M cl sl) : V X y b nL ret R l F pc ls st sh M cl sl := by
  intro Φ p e s m args below meth c H locs lsA hC hN hH hW hS hL
  obtain ⟨j, hj⟩ := List.getElem?_of_mem (fi_lst_mem (Φ := Φ) (q := (i, .int x)).mpr ⟨_, hl, rfl⟩)
  exact lv_iinc (lv := fi_lst Φ ls) hC.1 hC.2.1 hd hL.has hj hv hn rfl (fun lsB h9 => (k Φ p e s m args below meth c H locs lsB hC hN hH hW hS (fi_L.store hC.2.2.2.2.2.2.2.2.2.2.1 (v := .int v) hp h9)))
theorem V.iadd {x z : Int32} (hd : decode b pc = .ok (.iadd, 1)) (k : V X y b nL ret R l F (pc + 1) ls (.int (x + z) :: st) sh M cl sl) : V X y b nL ret R l F pc ls (.int z :: .int x :: st) sh M cl sl := by
  intro Φ p e s m args below meth c H locs lsA hC hN hH hW hS hL
  exact lv_iadd hC.1 hC.2.1 hd (k Φ p e s m args below meth c H locs lsA hC hN hH hW hS hL)
theorem V.isub {x z : Int32} (hd : decode b pc = .ok (.isub, 1)) (k : V X y b nL ret R l F (pc + 1) ls (.int (x - z) :: st) sh M cl sl) : V X y b nL ret R l F pc ls (.int z :: .int x :: st) sh M cl sl := by
  intro Φ p e s m args below meth c H locs lsA hC hN hH hW hS hL
  exact lv_isub hC.1 hC.2.1 hd (k Φ p e s m args below meth c H locs lsA hC hN hH hW hS hL)
theorem V.imul {x z : Int32} (hd : decode b pc = .ok (.imul, 1)) (k : V X y b nL ret R l F (pc + 1) ls (.int (x * z) :: st) sh M cl sl) : V X y b nL ret R l F pc ls (.int z :: .int x :: st) sh M cl sl := by
  intro Φ p e s m args below meth c H locs lsA hC hN hH hW hS hL
  exact lv_imul hC.1 hC.2.1 hd (k Φ p e s m args below meth c H locs lsA hC hN hH hW hS hL)
theorem V.iand {x z : Int32} (hd : decode b pc = .ok (.iand, 1)) (k : V X y b nL ret R l F (pc + 1) ls (.int (x &&& z) :: st) sh M cl sl) : V X y b nL ret R l F pc ls (.int z :: .int x :: st) sh M cl sl := by
  intro Φ p e s m args below meth c H locs lsA hC hN hH hW hS hL
  exact lv_iand hC.1 hC.2.1 hd (k Φ p e s m args below meth c H locs lsA hC hN hH hW hS hL)
theorem V.ior {x z : Int32} (hd : decode b pc = .ok (.ior, 1)) (k : V X y b nL ret R l F (pc + 1) ls (.int (x ||| z) :: st) sh M cl sl) : V X y b nL ret R l F pc ls (.int z :: .int x :: st) sh M cl sl := by
  intro Φ p e s m args below meth c H locs lsA hC hN hH hW hS hL
  exact lv_ior hC.1 hC.2.1 hd (k Φ p e s m args below meth c H locs lsA hC hN hH hW hS hL)
theorem V.ixor {x z : Int32} (hd : decode b pc = .ok (.ixor, 1)) (k : V X y b nL ret R l F (pc + 1) ls (.int (x ^^^ z) :: st) sh M cl sl) : V X y b nL ret R l F pc ls (.int z :: .int x :: st) sh M cl sl := by
  intro Φ p e s m args below meth c H locs lsA hC hN hH hW hS hL
  exact lv_ixor hC.1 hC.2.1 hd (k Φ p e s m args below meth c H locs lsA hC hN hH hW hS hL)
theorem V.ishl {x z : Int32} (hd : decode b pc = .ok (.ishl, 1)) (k : V X y b nL ret R l F (pc + 1) ls (.int (jshl x z) :: st) sh M cl sl) : V X y b nL ret R l F pc ls (.int z :: .int x :: st) sh M cl sl := by
  intro Φ p e s m args below meth c H locs lsA hC hN hH hW hS hL
  exact lv_ishl hC.1 hC.2.1 hd (k Φ p e s m args below meth c H locs lsA hC hN hH hW hS hL)
theorem V.ishr {x z : Int32} (hd : decode b pc = .ok (.ishr, 1)) (k : V X y b nL ret R l F (pc + 1) ls (.int (jshr x z) :: st) sh M cl sl) : V X y b nL ret R l F pc ls (.int z :: .int x :: st) sh M cl sl := by
  intro Φ p e s m args below meth c H locs lsA hC hN hH hW hS hL
  exact lv_ishr hC.1 hC.2.1 hd (k Φ p e s m args below meth c H locs lsA hC hN hH hW hS hL)
theorem V.iushr {x z : Int32} (hd : decode b pc = .ok (.iushr, 1)) (k : V X y b nL ret R l F (pc + 1) ls (.int (jushr x z) :: st) sh M cl sl) : V X y b nL ret R l F pc ls (.int z :: .int x :: st) sh M cl sl := by
  intro Φ p e s m args below meth c H locs lsA hC hN hH hW hS hL
  exact lv_iushr hC.1 hC.2.1 hd rfl (k Φ p e s m args below meth c H locs lsA hC hN hH hW hS hL)
theorem V.idiv {x z : Int32} (hd : decode b pc = .ok (.idiv, 1)) (h0 : ¬ z = 0) (k : V X y b nL ret R l F (pc + 1) ls (.int (x / z) :: st) sh M cl sl) : V X y b nL ret R l F pc ls (.int z :: .int x :: st) sh M cl sl := by
  intro Φ p e s m args below meth c H locs lsA hC hN hH hW hS hL
  exact lv_idiv hC.1 hC.2.1 hd h0 (k Φ p e s m args below meth c H locs lsA hC hN hH hW hS hL)
theorem V.irem {x z : Int32} (hd : decode b pc = .ok (.irem, 1)) (h0 : ¬ z = 0) (k : V X y b nL ret R l F (pc + 1) ls (.int (jrem x z) :: st) sh M cl sl) : V X y b nL ret R l F pc ls (.int z :: .int x :: st) sh M cl sl := by
  intro Φ p e s m args below meth c H locs lsA hC hN hH hW hS hL
  exact lv_irem hC.1 hC.2.1 hd h0 (k Φ p e s m args below meth c H locs lsA hC hN hH hW hS hL)
theorem V.ineg {x : Int32} (hd : decode b pc = .ok (.ineg, 1)) (k : V X y b nL ret R l F (pc + 1) ls (.int (-x) :: st) sh M cl sl) : V X y b nL ret R l F pc ls (.int x :: st) sh M cl sl := by
  intro Φ p e s m args below meth c H locs lsA hC hN hH hW hS hL
  exact lv_ineg hC.1 hC.2.1 hd (k Φ p e s m args below meth c H locs lsA hC hN hH hW hS hL)
theorem V.ladd {x z : Int64} (hd : decode b pc = .ok (.ladd, 1)) (k : V X y b nL ret R l F (pc + 1) ls (.long (x + z) :: st) sh M cl sl) : V X y b nL ret R l F pc ls (.long z :: .long x :: st) sh M cl sl := by
  intro Φ p e s m args below meth c H locs lsA hC hN hH hW hS hL
  exact lv_ladd hC.1 hC.2.1 hd (k Φ p e s m args below meth c H locs lsA hC hN hH hW hS hL)
theorem V.land {x z : Int64} (hd : decode b pc = .ok (.land, 1)) (k : V X y b nL ret R l F (pc + 1) ls (.long (x &&& z) :: st) sh M cl sl) : V X y b nL ret R l F pc ls (.long z :: .long x :: st) sh M cl sl := by
  intro Φ p e s m args below meth c H locs lsA hC hN hH hW hS hL
  exact lv_land hC.1 hC.2.1 hd (k Φ p e s m args below meth c H locs lsA hC hN hH hW hS hL)
theorem V.lor {x z : Int64} (hd : decode b pc = .ok (.lor, 1)) (k : V X y b nL ret R l F (pc + 1) ls (.long (x ||| z) :: st) sh M cl sl) : V X y b nL ret R l F pc ls (.long z :: .long x :: st) sh M cl sl := by
  intro Φ p e s m args below meth c H locs lsA hC hN hH hW hS hL
  exact lv_lor hC.1 hC.2.1 hd (k Φ p e s m args below meth c H locs lsA hC hN hH hW hS hL)
theorem V.lshl {x : Int64} {z : Int32} (hd : decode b pc = .ok (.lshl, 1)) (k : V X y b nL ret R l F (pc + 1) ls (.long (jlshl x z) :: st) sh M cl sl) : V X y b nL ret R l F pc ls (.int z :: .long x :: st) sh M cl sl := by
  intro Φ p e s m args below meth c H locs lsA hC hN hH hW hS hL
  exact lv_lshl hC.1 hC.2.1 hd rfl (k Φ p e s m args below meth c H locs lsA hC hN hH hW hS hL)
theorem V.lshr {x : Int64} {z : Int32} (hd : decode b pc = .ok (.lshr, 1)) (k : V X y b nL ret R l F (pc + 1) ls (.long (jlshr x z) :: st) sh M cl sl) : V X y b nL ret R l F pc ls (.int z :: .long x :: st) sh M cl sl := by
  intro Φ p e s m args below meth c H locs lsA hC hN hH hW hS hL
  exact lv_lshr hC.1 hC.2.1 hd rfl (k Φ p e s m args below meth c H locs lsA hC hN hH hW hS hL)
theorem V.lcmp {x z : Int64} (hd : decode b pc = .ok (.lcmp, 1)) (k : V X y b nL ret R l F (pc + 1) ls (.int (lg_cmp x z) :: st) sh M cl sl) : V X y b nL ret R l F pc ls (.long z :: .long x :: st) sh M cl sl := by
  intro Φ p e s m args below meth c H locs lsA hC hN hH hW hS hL
  exact W.lcmp hC.1 hC.2.1 hd (k Φ p e s m args below meth c H locs lsA hC hN hH hW hS hL)
theorem V.i2l {x : Int32} (hd : decode b pc = .ok (.i2l, 1)) (k : V X y b nL ret R l F (pc + 1) ls (.long x.toInt64 :: st) sh M cl sl) : V X y b nL ret R l F pc ls (.int x :: st) sh M cl sl := by
  intro Φ p e s m args below meth c H locs lsA hC hN hH hW hS hL
  exact lv_i2l hC.1 hC.2.1 hd rfl (k Φ p e s m args below meth c H locs lsA hC hN hH hW hS hL)
theorem V.l2i {x : Int64} (hd : decode b pc = .ok (.l2i, 1)) (k : V X y b nL ret R l F (pc + 1) ls (.int x.toInt32 :: st) sh M cl sl) : V X y b nL ret R l F pc ls (.long x :: st) sh M cl sl := by
  intro Φ p e s m args below meth c H locs lsA hC hN hH hW hS hL
  exact lv_l2i hC.1 hC.2.1 hd rfl (k Φ p e s m args below meth c H locs lsA hC hN hH hW hS hL)
theorem V.i2b {x : Int32} (hd : decode b pc = .ok (.i2b, 1)) (k : V X y b nL ret R l F (pc + 1) ls (.int x.toInt8.toInt32 :: st) sh M cl sl) : V X y b nL ret R l F pc ls (.int x :: st) sh M cl sl := by
  intro Φ p e s m args below meth c H locs lsA hC hN hH hW hS hL
  exact lv_i2b hC.1 hC.2.1 hd rfl (k Φ p e s m args below meth c H locs lsA hC hN hH hW hS hL)
theorem V.i2s {x : Int32} (hd : decode b pc = .ok (.i2s, 1)) (k : V X y b nL ret R l F (pc + 1) ls (.int x.toInt16.toInt32 :: st) sh M cl sl) : V X y b nL ret R l F pc ls (.int x :: st) sh M cl sl := by
  intro Φ p e s m args below meth c H locs lsA hC hN hH hW hS hL
  exact lv_i2s hC.1 hC.2.1 hd rfl (k Φ p e s m args below meth c H locs lsA hC hN hH hW hS hL)
theorem V.i2c {x : Int32} (hd : decode b pc = .ok (.i2c, 1)) (k : V X y b nL ret R l F (pc + 1) ls (.int (x.toUInt32 % 65536).toInt32 :: st) sh M cl sl) : V X y b nL ret R l F pc ls (.int x :: st) sh M cl sl := by
  intro Φ p e s m args below meth c H locs lsA hC hN hH hW hS hL
  exact lv_i2c hC.1 hC.2.1 hd rfl (k Φ p e s m args below meth c H locs lsA hC hN hH hW hS hL)
theorem V.dup {v : Value} (hd : decode b pc = .ok (.dup, 1)) (hv : v.category = 1) (k : V X y b nL ret R l F (pc + 1) ls (v :: v :: st) sh M cl sl) : V X y b nL ret R l F pc ls (v :: st) sh M cl sl := by
  intro Φ p e s m args below meth c H locs lsA hC hN hH hW hS hL
  exact lv_dup hC.1 hC.2.1 hd ((fi_cat hC.2.2.2.2.2.2.2.2.2.2.1 v).trans hv) (k Φ p e s m args below meth c H locs lsA hC hN hH hW hS hL)
theorem V.pop {v : Value} (hd : decode b pc = .ok (.pop, 1)) (hv : v.category = 1) (k : V X y b nL ret R l F (pc + 1) ls st sh M cl sl) : V X y b nL ret R l F pc ls (v :: st) sh M cl sl := by
  intro Φ p e s m args below meth c H locs lsA hC hN hH hW hS hL
  exact lv_pop hC.1 hC.2.1 hd ((fi_cat hC.2.2.2.2.2.2.2.2.2.2.1 v).trans hv) (k Φ p e s m args below meth c H locs lsA hC hN hH hW hS hL)
theorem V.dup2 {v w : Value} (hd : decode b pc = .ok (.dup2, 1)) (hv : v.category = 1) (hw : w.category = 1) (k : V X y b nL ret R l F (pc + 1) ls (v :: w :: v :: w :: st) sh M cl sl) : V X y b nL ret R l F pc ls (v :: w :: st) sh M cl sl := by
  intro Φ p e s m args below meth c H locs lsA hC hN hH hW hS hL
  exact lv_dup2_11 hC.1 hC.2.1 hd ((fi_cat hC.2.2.2.2.2.2.2.2.2.2.1 v).trans hv) ((fi_cat hC.2.2.2.2.2.2.2.2.2.2.1 w).trans hw) (k Φ p e s m args below meth c H locs lsA hC hN hH hW hS hL)
theorem V.icmp_eq {x z : Int32} {off : Int} {tgt : Nat} (hd : decode b pc = .ok (.if_icmp .eq off, 3)) (ht : (pc : Int) + off = (tgt : Int)) (kt : (x = z) → V X y b nL ret R l F tgt ls st sh M cl sl) (kf : ¬ (x = z) → V X y b nL ret R l F (pc + 3) ls st sh M cl sl) : V X y b nL ret R l F pc ls (.int z :: .int x :: st) sh M cl sl := by
  intro Φ p e s m args below meth c H locs lsA hC hN hH hW hS hL
  exact lv_icmp_eq hC.1 hC.2.1 hd ht (fun h => kt h Φ p e s m args below meth c H locs lsA hC hN hH hW hS hL) (fun h => kf h Φ p e s m args below meth c H locs lsA hC hN hH hW hS hL)
theorem V.if_eq {x : Int32} {off : Int} {tgt : Nat} (hd : decode b pc = .ok (.ifCond .eq off, 3)) (ht : (pc : Int) + off = (tgt : Int)) (kt : (x = 0) → V X y b nL ret R l F tgt ls st sh M cl sl) (kf : ¬ (x = 0) → V X y b nL ret R l F (pc + 3) ls st sh M cl sl) : V X y b nL ret R l F pc ls (.int x :: st) sh M cl sl := by
  intro Φ p e s m args below meth c H locs lsA hC hN hH hW hS hL
  exact lv_if_eq hC.1 hC.2.1 hd ht (fun h => kt h Φ p e s m args below meth c H locs lsA hC hN hH hW hS hL) (fun h => kf h Φ p e s m args below meth c H locs lsA hC hN hH hW hS hL)
theorem V.icmp_ne {x z : Int32} {off : Int} {tgt : Nat} (hd : decode b pc = .ok (.if_icmp .ne off, 3)) (ht : (pc : Int) + off = (tgt : Int)) (kt : (¬ x = z) → V X y b nL ret R l F tgt ls st sh M cl sl) (kf : (x = z) → V X y b nL ret R l F (pc + 3) ls st sh M cl sl) : V X y b nL ret R l F pc ls (.int z :: .int x :: st) sh M cl sl := by
  intro Φ p e s m args below meth c H locs lsA hC hN hH hW hS hL
  exact lv_icmp_ne hC.1 hC.2.1 hd ht (fun h => kt h Φ p e s m args below meth c H locs lsA hC hN hH hW hS hL) (fun h => kf h Φ p e s m args below meth c H locs lsA hC hN hH hW hS hL)
theorem V.if_ne {x : Int32} {off : Int} {tgt : Nat} (hd : decode b pc = .ok (.ifCond .ne off, 3)) (ht : (pc : Int) + off = (tgt : Int)) (kt : (¬ x = 0) → V X y b nL ret R l F tgt ls st sh M cl sl) (kf : (x = 0) → V X y b nL ret R l F (pc + 3) ls st sh M cl sl) : V X y b nL ret R l F pc ls (.int x :: st) sh M cl sl := by
  intro Φ p e s m args below meth c H locs lsA hC hN hH hW hS hL
  exact lv_if_ne hC.1 hC.2.1 hd ht (fun h => kt h Φ p e s m args below meth c H locs lsA hC hN hH hW hS hL) (fun h => kf h Φ p e s m args below meth c H locs lsA hC hN hH hW hS hL)
theorem V.icmp_lt {x z : Int32} {off : Int} {tgt : Nat} (hd : decode b pc = .ok (.if_icmp .lt off, 3)) (ht : (pc : Int) + off = (tgt : Int)) (kt : (x < z) → V X y b nL ret R l F tgt ls st sh M cl sl) (kf : ¬ (x < z) → V X y b nL ret R l F (pc + 3) ls st sh M cl sl) : V X y b nL ret R l F pc ls (.int z :: .int x :: st) sh M cl sl := by
  intro Φ p e s m args below meth c H locs lsA hC hN hH hW hS hL
  exact lv_icmp_lt hC.1 hC.2.1 hd ht (fun h => kt h Φ p e s m args below meth c H locs lsA hC hN hH hW hS hL) (fun h => kf h Φ p e s m args below meth c H locs lsA hC hN hH hW hS hL)
theorem V.if_lt {x : Int32} {off : Int} {tgt : Nat} (hd : decode b pc = .ok (.ifCond .lt off, 3)) (ht : (pc : Int) + off = (tgt : Int)) (kt : (x < 0) → V X y b nL ret R l F tgt ls st sh M cl sl) (kf : ¬ (x < 0) → V X y b nL ret R l F (pc + 3) ls st sh M cl sl) : V X y b nL ret R l F pc ls (.int x :: st) sh M cl sl := by
  intro Φ p e s m args below meth c H locs lsA hC hN hH hW hS hL
  exact lv_if_lt hC.1 hC.2.1 hd ht (fun h => kt h Φ p e s m args below meth c H locs lsA hC hN hH hW hS hL) (fun h => kf h Φ p e s m args below meth c H locs lsA hC hN hH hW hS hL)
theorem V.icmp_ge {x z : Int32} {off : Int} {tgt : Nat} (hd : decode b pc = .ok (.if_icmp .ge off, 3)) (ht : (pc : Int) + off = (tgt : Int)) (kt : (z ≤ x) → V X y b nL ret R l F tgt ls st sh M cl sl) (kf : ¬ (z ≤ x) → V X y b nL ret R l F (pc + 3) ls st sh M cl sl) : V X y b nL ret R l F pc ls (.int z :: .int x :: st) sh M cl sl := by
  intro Φ p e s m args below meth c H locs lsA hC hN hH hW hS hL
  exact lv_icmp_ge hC.1 hC.2.1 hd ht (fun h => kt h Φ p e s m args below meth c H locs lsA hC hN hH hW hS hL) (fun h => kf h Φ p e s m args below meth c H locs lsA hC hN hH hW hS hL)
theorem V.if_ge {x : Int32} {off : Int} {tgt : Nat} (hd : decode b pc = .ok (.ifCond .ge off, 3)) (ht : (pc : Int) + off = (tgt : Int)) (kt : (0 ≤ x) → V X y b nL ret R l F tgt ls st sh M cl sl) (kf : ¬ (0 ≤ x) → V X y b nL ret R l F (pc + 3) ls st sh M cl sl) : V X y b nL ret R l F pc ls (.int x :: st) sh M cl sl := by
  intro Φ p e s m args below meth c H locs lsA hC hN hH hW hS hL
  exact lv_if_ge hC.1 hC.2.1 hd ht (fun h => kt h Φ p e s m args below meth c H locs lsA hC hN hH hW hS hL) (fun h => kf h Φ p e s m args below meth c H locs lsA hC hN hH hW hS hL)
theorem V.icmp_gt {x z : Int32} {off : Int} {tgt : Nat} (hd : decode b pc = .ok (.if_icmp .gt off, 3)) (ht : (pc : Int) + off = (tgt : Int)) (kt : (z < x) → V X y b nL ret R l F tgt ls st sh M cl sl) (kf : ¬ (z < x) → V X y b nL ret R l F (pc + 3) ls st sh M cl sl) : V X y b nL ret R l F pc ls (.int z :: .int x :: st) sh M cl sl := by
  intro Φ p e s m args below meth c H locs lsA hC hN hH hW hS hL
  exact lv_icmp_gt hC.1 hC.2.1 hd ht (fun h => kt h Φ p e s m args below meth c H locs lsA hC hN hH hW hS hL) (fun h => kf h Φ p e s m args below meth c H locs lsA hC hN hH hW hS hL)
theorem V.if_gt {x : Int32} {off : Int} {tgt : Nat} (hd : decode b pc = .ok (.ifCond .gt off, 3)) (ht : (pc : Int) + off = (tgt : Int)) (kt : (0 < x) → V X y b nL ret R l F tgt ls st sh M cl sl) (kf : ¬ (0 < x) → V X y b nL ret R l F (pc + 3) ls st sh M cl sl) : V X y b nL ret R l F pc ls (.int x :: st) sh M cl sl := by
  intro Φ p e s m args below meth c H locs lsA hC hN hH hW hS hL
  exact lv_if_gt hC.1 hC.2.1 hd ht (fun h => kt h Φ p e s m args below meth c H locs lsA hC hN hH hW hS hL) (fun h => kf h Φ p e s m args below meth c H locs lsA hC hN hH hW hS hL)
theorem V.icmp_le {x z : Int32} {off : Int} {tgt : Nat} (hd : decode b pc = .ok (.if_icmp .le off, 3)) (ht : (pc : Int) + off = (tgt : Int)) (kt : (x ≤ z) → V X y b nL ret R l F tgt ls st sh M cl sl) (kf : ¬ (x ≤ z) → V X y b nL ret R l F (pc + 3) ls st sh M cl sl) : V X y b nL ret R l F pc ls (.int z :: .int x :: st) sh M cl sl := by
  intro Φ p e s m args below meth c H locs lsA hC hN hH hW hS hL
  exact lv_icmp_le hC.1 hC.2.1 hd ht (fun h => kt h Φ p e s m args below meth c H locs lsA hC hN hH hW hS hL) (fun h => kf h Φ p e s m args below meth c H locs lsA hC hN hH hW hS hL)
theorem V.if_le {x : Int32} {off : Int} {tgt : Nat} (hd : decode b pc = .ok (.ifCond .le off, 3)) (ht : (pc : Int) + off = (tgt : Int)) (kt : (x ≤ 0) → V X y b nL ret R l F tgt ls st sh M cl sl) (kf : ¬ (x ≤ 0) → V X y b nL ret R l F (pc + 3) ls st sh M cl sl) : V X y b nL ret R l F pc ls (.int x :: st) sh M cl sl := by
  intro Φ p e s m args below meth c H locs lsA hC hN hH hW hS hL
  exact lv_if_le hC.1 hC.2.1 hd ht (fun h => kt h Φ p e s m args below meth c H locs lsA hC hN hH hW hS hL) (fun h => kf h Φ p e s m args below meth c H locs lsA hC hN hH hW hS hL)
theorem V.goto {off : Int} {tgt : Nat} (hd : decode b pc = .ok (.goto off, 3)) (ht : (pc : Int) + off = (tgt : Int)) (k : V X y b nL ret R l F tgt ls st sh M cl sl) : V X y b nL ret R l F pc ls st sh M cl sl := by
  intro Φ p e s m args below meth c H locs lsA hC hN hH hW hS hL
  exact lv_goto hC.1 hC.2.1 hd ht (k Φ p e s m args below meth c H locs lsA hC hN hH hW hS hL)
theorem V.tabOut {dflt lo hi : Int} {offs : Array Int} {len : Nat} {x : Int32} {tgt : Nat} (hd : decode b pc = .ok (.tableswitch dflt lo hi offs, len)) (h : x.toInt < lo ∨ hi < x.toInt) (ht : (pc : Int) + dflt = (tgt : Int)) (k : V X y b nL ret R l F tgt ls st sh M cl sl) : V X y b nL ret R l F pc ls (.int x :: st) sh M cl sl := by
  intro Φ p e s m args below meth c H locs lsA hC hN hH hW hS hL
  exact lv_tableOut hC.1 hC.2.1 hd h ht (k Φ p e s m args below meth c H locs lsA hC hN hH hW hS hL)
theorem V.tabIn {dflt lo hi : Int} {offs : Array Int} {len : Nat} {x : Int32} {off : Int} {tgt : Nat} (hd : decode b pc = .ok (.tableswitch dflt lo hi offs, len)) (h1 : ¬ x.toInt < lo) (h2 : ¬ hi < x.toInt) (ho : offs[(x.toInt - lo).toNat]? = some off) (ht : (pc : Int) + off = (tgt : Int)) (k : V X y b nL ret R l F tgt ls st sh M cl sl) : V X y b nL ret R l F pc ls (.int x :: st) sh M cl sl := by
  intro Φ p e s m args below meth c H locs lsA hC hN hH hW hS hL
  exact lv_tableIn hC.1 hC.2.1 hd h1 h2 ho ht (k Φ p e s m args below meth c H locs lsA hC hN hH hW hS hL)
theorem V.lookup {dflt : Int} {ps : Array (Int × Int)} {len : Nat} {x : Int32} {off : Int} {tgt : Nat} (hd : decode b pc = .ok (.lookupswitch dflt ps, len)) (hp : (ps.toList.zip (ps.toList.drop 1)).all (fun (a, next) => a.1 < next.1) = true) (ho : Op.lookupswitch.offset ps.toList dflt x.toInt = off) (ht : (pc : Int) + off = (tgt : Int)) (k : V X y b nL ret R l F tgt ls st sh M cl sl) : V X y b nL ret R l F pc ls (.int x :: st) sh M cl sl := by
  intro Φ p e s m args below meth c H locs lsA hC hN hH hW hS hL
  exact lv_lookup hC.1 hC.2.1 hd hp ho ht (k Φ p e s m args below meth c H locs lsA hC hN hH hW hS hL)
theorem V.ldc {own : String} {idx : Nat} {v : Int32} (hd : decode b pc = .ok (.ldc idx, 2)) (ho : own = y.cls) (hc : Cond.constant own idx v ∈ GW) (k : V X y b nL ret R l F (pc + 2) ls (.int v :: st) sh M cl sl) : V X y b nL ret R l F pc ls st sh M cl sl := by
  intro Φ p e s m args below meth c H locs lsA hC hN hH hW hS hL
  exact lv_ldc hC.1 hC.2.1 hC.2.2.2.2.2.2.1 (hC.2.2.2.2.2.2.2.1 _ (ho ▸ hc)) hd (k Φ p e s m args below meth c H locs lsA hC hN hH hW hS hL)
theorem V.ldcw {own : String} {idx : Nat} {v : Int32} (hd : decode b pc = .ok (.ldc_w idx, 3)) (ho : own = y.cls) (hc : Cond.constant own idx v ∈ GW) (k : V X y b nL ret R l F (pc + 3) ls (.int v :: st) sh M cl sl) : V X y b nL ret R l F pc ls st sh M cl sl := by
  intro Φ p e s m args below meth c H locs lsA hC hN hH hW hS hL
  exact lv_ldcw hC.1 hC.2.1 hC.2.2.2.2.2.2.1 (hC.2.2.2.2.2.2.2.1 _ (ho ▸ hc)) hd (k Φ p e s m args below meth c H locs lsA hC hN hH hW hS hL)
theorem V.ldc2 {own : String} {idx : Nat} {v : Int64} (hd : decode b pc = .ok (.ldc2_w idx, 3)) (ho : own = y.cls) (hc : Cond.constantLong own idx v ∈ GW) (k : V X y b nL ret R l F (pc + 3) ls (.long v :: st) sh M cl sl) : V X y b nL ret R l F pc ls st sh M cl sl := by
  intro Φ p e s m args below meth c H locs lsA hC hN hH hW hS hL
  exact lv_ldc2 hC.1 hC.2.1 hC.2.2.2.2.2.2.1 (hC.2.2.2.2.2.2.2.1 _ (ho ▸ hc)) hd (k Φ p e s m args below meth c H locs lsA hC hN hH hW hS hL)
theorem V.sub {ls' : List (Option Value)} (h : ∀ (i : Nat) (v : Value), ls'[i]? = some (some v) → ls[i]? = some (some v)) (k : V X y b nL ret R l F pc ls' st sh M cl sl) : V X y b nL ret R l F pc ls st sh M cl sl := by
  intro Φ p e s m args below meth c H locs lsA hC hN hH hW hS hL
  exact k Φ p e s m args below meth c H locs lsA hC hN hH hW hS ⟨hL.1, hL.2.1, fun i v hv => hL.2.2 i v (h i v hv)⟩
def msk : List Bool → List (Option Value) → List (Option Value)
  | true :: m, x :: l => x :: msk m l
  | false :: m, _ :: l => none :: msk m l
  | _, _ => []
theorem msk_sub : ∀ (m : List Bool) (l : List (Option Value)) (i : Nat) (v : Value), (msk m l)[i]? = some (some v) → l[i]? = some (some v)
  | [], l, i, v, h => by simp [msk] at h
  | _ :: _, [], i, v, h => by simp [msk] at h
  | true :: m, x :: l, 0, v, h => by simpa [msk] using h
  | false :: m, x :: l, 0, v, h => by simp [msk] at h
  | true :: m, x :: l, i + 1, v, h => by
    have := msk_sub m l i v (by simpa [msk] using h)
    simpa using this
  | false :: m, x :: l, i + 1, v, h => by
    have := msk_sub m l i v (by simpa [msk] using h)
    simpa using this
theorem V.mask (m : List Bool) {ls' : List (Option Value)} (h : msk m ls = ls') (k : V X y b nL ret R l F pc ls' st sh M cl sl) : V X y b nL ret R l F pc ls st sh M cl sl := V.sub (fun i v hv => msk_sub m ls i v (h ▸ hv)) k
end VR
