section
/-! memory, and how methods are told as functions: None is where a row would be left, or a bound be passed -/
abbrev Mem : Type := Nat → Nat → Int32
abbrev Sc : Type := Nat × (Nat → Int32)
def strB : List (List Int32) := [[104, 97, 108, 108], [102, 97, 100, 101], [98, 111, 117, 110, 99, 101], [119, 97, 114, 109], [112, 101, 111, 112, 108, 101], [98, 101, 110, 99, 104], [112, 105, 108, 108, 97, 114], [99, 117, 114, 116, 97, 105, 110], [106, 111, 105, 110], [98, 97, 114], [119, 104, 105, 115, 112, 101, 114], [112, 108, 97, 105, 110], [116, 117, 114, 110, 101, 100], [109, 111, 118, 105, 110, 103], [114, 97, 105, 115, 101, 100], [108, 105, 115, 116, 101, 110, 105, 110, 103]]
def strL : List Nat := [4, 4, 6, 4, 6, 5, 6, 7, 4, 3, 7, 5, 6, 6, 6, 9]
def chX (j : Nat) : Int32 := ([0, 1, 1, 1, 0, -1, -1, -1] : List Int32).getD j 0
def chY (j : Nat) : Int32 := ([-1, -1, 0, 1, 1, 1, 0, -1] : List Int32).getD j 0
def upd2 (M : Mem) (a k : Nat) (x : Int32) : Mem := fun a' k' => if a' = a ∧ k' = k then x else M a' k'
def zero2 (M : Mem) (n : Nat) : Mem := fun a' k' => if a' = n then 0 else M a' k'
def cpy2 (M : Mem) (a sp d dp n : Nat) : Mem := fun a' k' => if a' = d ∧ dp ≤ k' ∧ k' < dp + n then M a (sp + (k' - dp)) else M a' k'
def jrem (x z : Int32) : Int32 := x - x / z * z
def jshl (x z : Int32) : Int32 := x <<< (z &&& 31)
def jshr (x z : Int32) : Int32 := x >>> (z &&& 31)
def jushr (x z : Int32) : Int32 := (x.toUInt32 >>> (z.toUInt32 &&& Int32.toUInt32 31)).toInt32
def jlshl (x : Int64) (z : Int32) : Int64 := x <<< (z.toInt64 &&& 63)
def jlshr (x : Int64) (z : Int32) : Int64 := x >>> (z.toInt64 &&& 63)
def setM {α : Type} (M : Mem) (a k : Nat) (x : Int32) (g : Mem → Option α) : Option α := g (upd2 M a k x)
def nmI {α : Type} (x : Int32) (g : Int32 → Option α) : Option α := g x
def nmL {α : Type} (x : Int64) (g : Int64 → Option α) : Option α := g x
def bnd {α β : Type} (o : Option β) (g : β → Option α) : Option α := o.bind g
def bnd2 {α β : Type} (o : Option (β × Mem)) (g : β → Mem → Option α) : Option α := o.bind (fun p => g p.1 p.2)
def inb (i : Int32) (n : Nat) : Bool := decide (0 ≤ i.toInt) && decide (i.toInt < (n : Int))
abbrev ix (i : Int32) : Nat := i.toNatClampNeg
def cpyM {α : Type} (M : Mem) (a sp d dp n : Nat) (g : Mem → Option α) : Option α := g (cpy2 M a sp d dp n)
def isImg (r : Nat) : Bool := r == 18 || r == 35
def isStr (r : Nat) : Bool := decide (1010 ≤ r) && decide (r < 1026)
def ck {α : Type} (c : Bool) (a : Option α) : Option α := if c = true then a else none
def isB (x : Int32) : Bool := x == 0 || x == 1
def slen (s : Nat) : Nat := strL.getD (s - 1010) 0
def sch (s k : Nat) : Int32 := (strB.getD (s - 1010) []).getD k 0
/-! the methods as functions, by program out of the bytecode -/
def jmax (x z : Int32) : Int32 := if x < z then z else x
def jmin (x z : Int32) : Int32 := if z < x then z else x
def f_Ben_add (a : Nat)  (x1 : Int32) (x2 : Int32) (x3 : Int32) (x4 : Int32) (x5 : Int32) (M : Mem) : Option Mem :=
  if M a 0 < 0 then
    some M
  else
  if M a 0 < 8 then
    ck (inb (M a 0) 8) <|
    setM M (a + 1) (ix (M a 0)) x1 fun M4 =>
    ck (inb (M4 a 0) 8) <|
    setM M4 (a + 2) (ix (M4 a 0)) x2 fun M6 =>
    ck (inb (M6 a 0) 8) <|
    setM M6 (a + 3) (ix (M6 a 0)) x3 fun M8 =>
    ck (inb (M8 a 0) 8) <|
    setM M8 (a + 4) (ix (M8 a 0)) x4 fun M10 =>
    ck (inb (M10 a 0) 8) <|
    setM M10 (a + 5) (ix (M10 a 0)) x5 fun M12 =>
    setM M12 a 0 ((M12 a 0) + 1) fun M13 =>
    some M13
  else
  some M
def f_Ben_copyFrom (a : Nat) (o : Nat)   (M : Mem) : Option Mem :=
  setM M a 0 (M o 0) fun M1 =>
  cpyM M1 (o + 1) (ix 0) (a + 1) (ix 0) (ix 8) fun M2 =>
  cpyM M2 (o + 2) (ix 0) (a + 2) (ix 0) (ix 8) fun M3 =>
  cpyM M3 (o + 3) (ix 0) (a + 3) (ix 0) (ix 8) fun M4 =>
  cpyM M4 (o + 4) (ix 0) (a + 4) (ix 0) (ix 8) fun M5 =>
  cpyM M5 (o + 5) (ix 0) (a + 5) (ix 0) (ix 8) fun M6 =>
  some M6
def f_Ben_exists (a : Nat) (M : Mem) (x1 : Int32)  : Option Int32 :=
  if x1 < 0 then
    some 0
  else
  if M a 0 ≤ x1 then
    some 0
  else
  if 8 ≤ x1 then
    some 0
  else
  some 1
def f_Ben_anyPutOn_L2 (a : Nat) (M : Mem) : Nat → Int32 → Int32 → Option Int32
  | 0, _, _ => none
  | n + 1, x1, x2 =>
    if M a 0 ≤ x2 then
      some 0
    else
    if 8 ≤ x2 then
      some 0
    else
    ck (inb x2 8) <|
    ck (inb x2 8) <|
    if (9 * (M (a + 2) (ix x2))) + (M (a + 1) (ix x2)) = x1 then
      some 1
    else
    f_Ben_anyPutOn_L2 a M n x1 (x2 + 1)
def f_Ben_anyPutOn (a : Nat) (M : Mem) (x1 : Int32)  : Option Int32 :=
  f_Ben_anyPutOn_L2 a M 1000 x1 0
def f_Ben_cellIn_J44 (a : Nat) (M : Mem) (x1 : Int32) (s0 : Int32) : Option Int32 :=
  ck (inb x1 8) <|
  some ((9 * (M (a + 2) (ix x1))) + s0)
def f_Ben_cellIn_J38 (a : Nat) (M : Mem) (x1 : Int32) : Option Int32 :=
  ck (inb x1 8) <|
  f_Ben_cellIn_J44 a M x1 (M (a + 1) (ix x1))
def f_Ben_cellIn (a : Nat) (M : Mem) (x1 : Int32) (x2 : Int32) (x3 : Int32)  : Option Int32 :=
  bnd (f_Ben_exists a M x1) fun v2 =>
  if v2 = 0 then
    some (-4)
  else
  ck (inb x1 8) <|
  if M (a + 5) (ix x1) = 2 then
    if x3 ≤ 0 then
      f_Ben_cellIn_J38 a M x1
    else
    ck (inb x1 8) <|
    if x3 = 0 then none else
    f_Ben_cellIn_J44 a M x1 (jrem ((M (a + 1) (ix x1)) + x2) x3)
  else
  f_Ben_cellIn_J38 a M x1
def f_Ben_facingIn_J36 (a : Nat) (M : Mem) (x1 : Int32) (x2 : Int32) (s0 : Int32) : Option Int32 :=
  if s0 = 0 then
    ck (inb x1 8) <|
    some (M (a + 3) (ix x1))
  else
  ck (inb x1 8) <|
  some (jrem ((M (a + 3) (ix x1)) + x2) 8)
def f_Ben_facingIn_J31 (a : Nat) (M : Mem) (x1 : Int32) (x2 : Int32) : Option Int32 :=
  f_Ben_facingIn_J36 a M x1 x2 1
def f_Ben_facingIn (a : Nat) (M : Mem) (x1 : Int32) (x2 : Int32)  : Option Int32 :=
  bnd (f_Ben_exists a M x1) fun v2 =>
  if v2 = 0 then
    some (-4)
  else
  ck (inb x1 8) <|
  if M (a + 5) (ix x1) = 1 then
    f_Ben_facingIn_J31 a M x1 x2
  else
  ck (inb x1 8) <|
  if M (a + 5) (ix x1) = 2 then
    f_Ben_facingIn_J31 a M x1 x2
  else
  f_Ben_facingIn_J36 a M x1 x2 0
def f_Ben_earOf (a : Nat) (M : Mem) (x1 : Int32)  : Option Int32 :=
  bnd (f_Ben_exists a M x1) fun v2 =>
  if v2 = 0 then
    some (-4)
  else
  ck (inb x1 8) <|
  if M (a + 5) (ix x1) = 4 then
    ck (inb x1 8) <|
    some (jmax 1 ((M (a + 4) (ix x1)) / 2))
  else
  ck (inb x1 8) <|
  some (M (a + 4) (ix x1))
def f_Ben_kindOf (a : Nat) (M : Mem) (x1 : Int32)  : Option Int32 :=
  bnd (f_Ben_exists a M x1) fun v2 =>
  if v2 = 0 then
    some (-4)
  else
  ck (inb x1 8) <|
  some (M (a + 5) (ix x1))
def f_Tol_isCell (t : Nat) (M : Mem) (x1 : Int32)  : Option Int32 :=
  if x1 < 0 then
    some 0
  else
  if 81 ≤ x1 then
    some 0
  else
  if M t 0 ≤ jrem x1 9 then
    some 0
  else
  if M t 1 ≤ x1 / 9 then
    some 0
  else
  some 1
def f_Hal_within (x0 : Int32) (x1 : Int32) (x2 : Int32)  : Option Int32 :=
  if x0 < x1 then
    some 0
  else
  if x2 < x0 then
    some 0
  else
  some 1
def f_Tol_stateOf (t : Nat) (M : Mem) (x1 : Int32)  : Option Int32 :=
  if x1 < 0 then
    some 1
  else
  if 81 ≤ x1 then
    some 1
  else
  ck (inb x1 81) <|
  some (M (t + 1) (ix x1))
def f_Cou_run_J228 (k63 : Int32 → Int32 → Int32 → Int32 → Int32 → Int32 → Int32 → Mem → Option Mem) (c : Nat)  (x4 : Int32) (x5 : Int32) (x6 : Int32) (x7 : Int32) (x8 : Int32) (x9 : Int32) (x10 : Int32) (x12 : Int32) (M : Mem) : Option Mem :=
  ck (inb x10 41) <|
  setM M (c + 1) (ix x10) ((9 * x6) + x5) fun M2 =>
  ck (inb x10 41) <|
  setM M2 (c + 2) (ix x10) x12 fun M4 =>
  ck (inb x10 41) <|
  setM M4 (c + 3) (ix x10) x9 fun M6 =>
  setM M6 c 0 x10 fun M7 =>
  k63 x4 x5 x6 x7 x8 x9 (x10 + 1) M7
def f_Cou_run_J171 (k63 : Int32 → Int32 → Int32 → Int32 → Int32 → Int32 → Int32 → Mem → Option Mem) (c : Nat)  (x4 : Int32) (x5 : Int32) (x6 : Int32) (x7 : Int32) (x8 : Int32) (x9 : Int32) (x10 : Int32) (M : Mem) : Option Mem :=
  bnd (f_Tol_stateOf 1 M ((9 * x6) + x5)) fun v2 =>
  nmI ((100 - ((M 1 2) * x10)) - ((M 1 3) * x9)) fun w3 =>
  if w3 ≤ 0 then
    some M
  else
  if v2 = 1 then
    some M
  else
  if v2 = 2 then
    if x4 = 0 then
      some M
    else
    f_Cou_run_J228 k63 c x4 x5 x6 x7 x8 x9 x10 w3 M
  else
  f_Cou_run_J228 k63 c x4 x5 x6 x7 x8 x9 x10 w3 M
def f_Cou_run_J126 (k63 : Int32 → Int32 → Int32 → Int32 → Int32 → Int32 → Int32 → Mem → Option Mem) (c : Nat)  (x4 : Int32) (x5 : Int32) (x6 : Int32) (x7 : Int32) (x8 : Int32) (x9 : Int32) (x10 : Int32) (M : Mem) : Option Mem :=
  nmI (x5 + x7) fun w1 =>
  nmI (x6 + x8) fun w2 =>
  if M 1 4 ≤ 0 then
    f_Cou_run_J171 k63 c x4 w1 w2 x7 x8 x9 x10 M
  else
  if M 1 4 = 0 then none else
  if jrem x10 (M 1 4) = 0 then
    if M 1 1 ≤ w2 + 1 then
      f_Cou_run_J171 k63 c x4 w1 w2 x7 x8 x9 x10 M
    else
    f_Cou_run_J171 k63 c x4 w1 (w2 + 1) x7 x8 x9 x10 M
  else
  f_Cou_run_J171 k63 c x4 w1 w2 x7 x8 x9 x10 M
def f_Cou_run_J118 (k63 : Int32 → Int32 → Int32 → Int32 → Int32 → Int32 → Int32 → Mem → Option Mem) (c : Nat)  (x4 : Int32) (x5 : Int32) (x6 : Int32) (x7 : Int32) (x8 : Int32) (x9 : Int32) (x10 : Int32) (M : Mem) : Option Mem :=
  nmI (-x8) fun w1 =>
  f_Cou_run_J126 k63 c x4 x5 x6 x7 w1 (x9 + 1) x10 M
def f_Cou_run_J98 (k63 : Int32 → Int32 → Int32 → Int32 → Int32 → Int32 → Int32 → Mem → Option Mem) (c : Nat)  (x4 : Int32) (x5 : Int32) (x6 : Int32) (x7 : Int32) (x8 : Int32) (x9 : Int32) (x10 : Int32) (M : Mem) : Option Mem :=
  if x6 + x8 < 0 then
    f_Cou_run_J118 k63 c x4 x5 x6 x7 x8 x9 x10 M
  else
  if x6 + x8 < M 1 1 then
    f_Cou_run_J126 k63 c x4 x5 x6 x7 x8 x9 x10 M
  else
  f_Cou_run_J118 k63 c x4 x5 x6 x7 x8 x9 x10 M
def f_Cou_run_J90 (k63 : Int32 → Int32 → Int32 → Int32 → Int32 → Int32 → Int32 → Mem → Option Mem) (c : Nat)  (x4 : Int32) (x5 : Int32) (x6 : Int32) (x7 : Int32) (x8 : Int32) (x9 : Int32) (x10 : Int32) (M : Mem) : Option Mem :=
  nmI (-x7) fun w1 =>
  f_Cou_run_J98 k63 c x4 x5 x6 w1 x8 (x9 + 1) x10 M
def f_Cou_run_L63 (c : Nat)  : Nat → Int32 → Int32 → Int32 → Int32 → Int32 → Int32 → Int32 → Mem → Option Mem
  | 0, _, _, _, _, _, _, _, _ => none
  | n + 1, x4, x5, x6, x7, x8, x9, x10, M =>
    if 40 < x10 then
      some M
    else
    if x5 + x7 < 0 then
      f_Cou_run_J90 (f_Cou_run_L63 c n) c x4 x5 x6 x7 x8 x9 x10 M
    else
    if x5 + x7 < M 1 0 then
      f_Cou_run_J98 (f_Cou_run_L63 c n) c x4 x5 x6 x7 x8 x9 x10 M
    else
    f_Cou_run_J90 (f_Cou_run_L63 c n) c x4 x5 x6 x7 x8 x9 x10 M
def f_Cou_run (c : Nat)  (x2 : Int32) (x3 : Int32) (x4 : Int32) (M : Mem) : Option Mem :=
  setM M c 0 0 fun M1 =>
  setM M1 (c + 1) (ix 0) x2 fun M2 =>
  bnd (f_Tol_isCell 1 M2 x2) fun v4 =>
  if v4 = 0 then
    some M2
  else
  bnd (f_Hal_within x3 0 7) fun v7 =>
  if v7 = 0 then
    some M2
  else
  nmI (jrem x2 9) fun w9 =>
  nmI (x2 / 9) fun w10 =>
  ck (inb x3 8) <|
  nmI (chX (ix x3)) fun w12 =>
  ck (inb x3 8) <|
  nmI (chY (ix x3)) fun w14 =>
  f_Cou_run_L63 c 1000 x4 w9 w10 w12 w14 0 1 M2
def f_Cou_reaches (c : Nat) (M : Mem) (x1 : Int32)  : Option Int32 :=
  if x1 < 0 then
    some 0
  else
  if M c 0 < x1 then
    some 0
  else
  if 40 < x1 then
    some 0
  else
  some 1
def f_Cou_cellAt (c : Nat) (M : Mem) (x1 : Int32)  : Option Int32 :=
  bnd (f_Cou_reaches c M x1) fun v2 =>
  if v2 = 0 then
    some (-4)
  else
  ck (inb x1 41) <|
  some (M (c + 1) (ix x1))
def f_Cou_loudAt (c : Nat) (M : Mem) (x1 : Int32)  : Option Int32 :=
  bnd (f_Cou_reaches c M x1) fun v2 =>
  if v2 = 0 then
    some (-4)
  else
  ck (inb x1 41) <|
  some (M (c + 2) (ix x1))
def f_Cou_bouncesAt (c : Nat) (M : Mem) (x1 : Int32)  : Option Int32 :=
  bnd (f_Cou_reaches c M x1) fun v2 =>
  if v2 = 0 then
    some (-4)
  else
  ck (inb x1 41) <|
  some (M (c + 3) (ix x1))
def f_Cou_stepHeardOn_L2 (c : Nat) (M : Mem) : Nat → Int32 → Int32 → Int32 → Option Int32
  | 0, _, _, _ => none
  | n + 1, x1, x2, x3 =>
    if M c 0 < x3 then
      some 0
    else
    if 40 < x3 then
      some 0
    else
    ck (inb x3 41) <|
    if M (c + 1) (ix x3) = x1 then
      ck (inb x3 41) <|
      if M (c + 2) (ix x3) < x2 then
        some 0
      else
      some x3
    else
    f_Cou_stepHeardOn_L2 c M n x1 x2 (x3 + 1)
def f_Cou_stepHeardOn (c : Nat) (M : Mem) (x1 : Int32) (x2 : Int32)  : Option Int32 :=
  f_Cou_stepHeardOn_L2 c M 1000 x1 x2 1
def f_Arr_fill_L5 (a : Nat) (n : Nat)  : Nat → Int32 → Int32 → Int32 → Mem → Option Mem
  | 0, _, _, _, _ => none
  | n0 + 1, x1, x2, x3, M =>
    if x3 ≤ x2 then
      some M
    else
    ck (inb x2 n) <|
    setM M a (ix x2) x1 fun M3 =>
    f_Arr_fill_L5 a n n0 x1 (x2 + 1) x3 M3
def f_Arr_fill (a : Nat) (n : Nat)  (x1 : Int32) (M : Mem) : Option Mem :=
  nmI (nI n) fun w1 =>
  f_Arr_fill_L5 a n 1000 x1 0 w1 M
def f_Tri_part (a : Nat) (M : Mem) (x1 : Int32) (x2 : Int32)  : Option Int32 :=
  if x1 < 0 then
    some (-1)
  else
  if M a 0 ≤ x1 then
    some (-1)
  else
  if x1 < 12 then
    if x2 = 0 then
      ck (inb x1 12) <|
      some (M (a + 1) (ix x1))
    else if x2 = 1 then
      ck (inb x1 12) <|
      some (M (a + 2) (ix x1))
    else if x2 = 2 then
      ck (inb x1 12) <|
      some (M (a + 3) (ix x1))
    else
    some (-1)
  else
  some (-1)
def f_Hal_isSecret (x0 : Int32)  : Option Int32 :=
  bnd (f_Hal_within x0 0 7) fun v2 =>
  ck (isB v2) <|
  some v2
def f_Gos_knowersOf (M : Mem) (x1 : Int32)  : Option Int32 :=
  bnd (f_Hal_isSecret x1) fun v2 =>
  if v2 = 0 then
    some 0
  else
  ck (inb x1 8) <|
  some (M 85 (ix x1))
def f_Hal_bit (x0 : Int32) (x1 : Int32)  : Option Int32 :=
  some ((jshr x0 x1) &&& 1)
def f_Tol_seatOf (t : Nat) (M : Mem) (x1 : Int32)  : Option Int32 :=
  if x1 < 0 then
    some (-4)
  else
  if M t 5 ≤ x1 then
    some (-4)
  else
  if 6 ≤ x1 then
    some (-4)
  else
  ck (inb x1 6) <|
  some (M (t + 2) (ix x1))
def f_Hea_whisperFromBench_J17 (g : Nat)  (x2 : Int32) (x3 : Int32) (s0 : Int32) (M : Mem) : Option Mem :=
  bnd (f_Ben_cellIn 4 M x2 x3 (M 1 0)) fun v2 =>
  bnd (f_Ben_facingIn 4 M x2 x3) fun v4 =>
  bnd (f_Cou_run (g + 1) v2 v4 s0 M) fun M6 =>
  some M6
def f_Hea_whisperFromBench (g : Nat)  (x2 : Int32) (x3 : Int32) (M : Mem) : Option Mem :=
  bnd (f_Ben_kindOf 4 M x2) fun v2 =>
  if v2 = 3 then
    f_Hea_whisperFromBench_J17 g x2 x3 1 M
  else
  f_Hea_whisperFromBench_J17 g x2 x3 0 M
def f_Hea_hearersOfLatest_L5 (g : Nat) (M : Mem) : Nat → Int32 → Int32 → Int32 → Option Int32
  | 0, _, _, _ => none
  | n + 1, x2, x3, x4 =>
    if M 4 0 ≤ x4 then
      some x3
    else
    bnd (f_Ben_cellIn 4 M x4 x2 (M 1 0)) fun v3 =>
    bnd (f_Ben_earOf 4 M x4) fun v5 =>
    bnd (f_Cou_stepHeardOn (g + 1) M v3 v5) fun v7 =>
    if v7 ≤ 0 then
      f_Hea_hearersOfLatest_L5 g M n x2 x3 (x4 + 1)
    else
    nmI (x3 ||| (jshl 1 x4)) fun w9 =>
    f_Hea_hearersOfLatest_L5 g M n x2 w9 (x4 + 1)
def f_Hea_hearersOfLatest (g : Nat) (M : Mem) (x2 : Int32)  : Option Int32 :=
  f_Hea_hearersOfLatest_L5 g M 1000 x2 0 0
def f_Hea_hearersOf (g : Nat)  (x2 : Int32) (x3 : Int32) (M : Mem) : Option (Int32 × Mem) :=
  bnd (f_Hea_whisperFromBench g x2 x3 M) fun M2 =>
  bnd (f_Hea_hearersOfLatest g M2 x3) fun v4 =>
  some (v4 &&& ((jshl 1 x2) ^^^ (-1)), M2)
def f_Hea_peopleHearing_L34 (g : Nat)  : Nat → Int32 → Int32 → Int32 → Mem → Option (Int32 × Mem)
  | 0, _, _, _, _ => none
  | n + 1, x5, x6, x7, M =>
    if M 1 5 ≤ x7 then
      some (x6, M)
    else
    bnd (f_Tol_seatOf 1 M x7) fun v3 =>
    if v3 = (-4) then
      f_Hea_peopleHearing_L34 g n x5 x6 (x7 + 1) M
    else
    bnd (f_Hal_bit x5 v3) fun v6 =>
    if v6 = 1 then
      nmI (x6 ||| (jshl 1 x7)) fun w8 =>
      f_Hea_peopleHearing_L34 g n x5 w8 (x7 + 1) M
    else
    f_Hea_peopleHearing_L34 g n x5 x6 (x7 + 1) M
def f_Hea_peopleHearing_J26 (g : Nat)  (s0 : Int32) (M : Mem) : Option (Int32 × Mem) :=
  f_Hea_peopleHearing_L34 g 1000 s0 0 0 M
def f_Hea_peopleHearing (g : Nat)  (x2 : Int32) (x3 : Int32) (M : Mem) : Option (Int32 × Mem) :=
  bnd (f_Tol_seatOf 1 M x2) fun v2 =>
  if v2 = (-4) then
    f_Hea_peopleHearing_J26 g 0 M
  else
  bnd2 (f_Hea_hearersOf g v2 x3 M) fun v5 M6 =>
  f_Hea_peopleHearing_J26 g v5 M6
def f_Gos_tellOne_J67 (x2 : Int32) (x3 : Int32) (x4 : Int32) (x5 : Int32) (M : Mem) : Option (Int32 × Mem) :=
  bnd (f_Tri_part 14 M x2 0) fun v2 =>
  bnd2 (f_Hea_peopleHearing 79 x3 v2 M) fun v4 M5 =>
  ck (inb x4 8) <|
  setM M5 85 (ix x4) ((x5 ||| (jshl 1 x3)) ||| v4) fun M7 =>
  some (1, M7)
def f_Gos_tellOne (x2 : Int32) (M : Mem) : Option (Int32 × Mem) :=
  bnd (f_Tri_part 14 M x2 1) fun v2 =>
  bnd (f_Tri_part 14 M x2 2) fun v4 =>
  bnd (f_Gos_knowersOf M v4) fun v6 =>
  bnd (f_Hal_within v2 0 ((M 1 5) - 1)) fun v8 =>
  if v8 = 0 then
    some (0, M)
  else
  bnd (f_Hal_isSecret v4) fun v11 =>
  if v11 = 0 then
    some (0, M)
  else
  if v6 = 0 then
    f_Gos_tellOne_J67 x2 v2 v4 v6 M
  else
  bnd (f_Hal_bit v6 v2) fun v15 =>
  if v15 = 0 then
    some (0, M)
  else
  f_Gos_tellOne_J67 x2 v2 v4 v6 M
def f_Gos_tellFirst_L13 : Nat → Int32 → Int32 → Int32 → Mem → Option (Int32 × Mem)
  | 0, _, _, _, _ => none
  | n + 1, x2, x3, x4, M =>
    if x2 ≤ x4 then
      some (x3, M)
    else
    bnd2 (f_Gos_tellOne x4 M) fun v3 M4 =>
    nmI (x3 + v3) fun w5 =>
    f_Gos_tellFirst_L13 n x2 w5 (x4 + 1) M4
def f_Gos_tellFirst (x2 : Int32) (M : Mem) : Option (Int32 × Mem) :=
  bnd (f_Arr_fill 85 8 0 M) fun M2 =>
  f_Gos_tellFirst_L13 1000 x2 0 0 M2
def f_Gos_tellAllBut_L10 : Nat → Int32 → Int32 → Mem → Option Mem
  | 0, _, _, _ => none
  | n + 1, x2, x3, M =>
    if M 14 0 ≤ x3 then
      some M
    else
    if x3 = x2 then
      f_Gos_tellAllBut_L10 n x2 (x3 + 1) M
    else
    bnd2 (f_Gos_tellOne x3 M) fun v4 M5 =>
    f_Gos_tellAllBut_L10 n x2 (x3 + 1) M5
def f_Gos_tellAllBut (x2 : Int32) (M : Mem) : Option Mem :=
  bnd (f_Arr_fill 85 8 0 M) fun M2 =>
  f_Gos_tellAllBut_L10 1000 x2 0 M2
def f_Gos_firstKnownOutside_L11 : Nat → Int32 → Int32 → Int32 → Mem → Option (Int32 × Mem)
  | 0, _, _, _, _ => none
  | n + 1, x2, x3, x4, M =>
    if M 14 0 ≤ x4 then
      some ((-4), M)
    else
    bnd2 (f_Gos_tellOne x4 M) fun v3 M4 =>
    bnd (f_Gos_knowersOf M4 x2) fun v6 =>
    if v6 &&& (x3 ^^^ (-1)) = 0 then
      f_Gos_firstKnownOutside_L11 n x2 x3 (x4 + 1) M4
    else
    some (x4, M4)
def f_Gos_firstKnownOutside (x2 : Int32) (x3 : Int32) (M : Mem) : Option (Int32 × Mem) :=
  bnd (f_Arr_fill 85 8 0 M) fun M2 =>
  f_Gos_firstKnownOutside_L11 1000 x2 x3 0 M2
def f_Gos_secretsOf_L4 (M : Mem) : Nat → Int32 → Int32 → Int32 → Option Int32
  | 0, _, _, _ => none
  | n + 1, x1, x2, x3 =>
    if 8 ≤ x3 then
      some x2
    else
    bnd (f_Gos_knowersOf M x3) fun v3 =>
    bnd (f_Hal_bit v3 x1) fun v5 =>
    nmI (x2 ||| (jshl v5 x3)) fun w6 =>
    f_Gos_secretsOf_L4 M n x1 w6 (x3 + 1)
def f_Gos_secretsOf (M : Mem) (x1 : Int32)  : Option Int32 :=
  f_Gos_secretsOf_L4 M 1000 x1 0 0
def f_Hea_stepOfHearing (g : Nat) (M : Mem) (x2 : Int32) (x3 : Int32)  : Option Int32 :=
  bnd (f_Ben_cellIn 4 M x2 x3 (M 1 0)) fun v2 =>
  bnd (f_Ben_earOf 4 M x2) fun v4 =>
  bnd (f_Cou_stepHeardOn (g + 1) M v2 v4) fun v6 =>
  some v6
def f_Hea_listenToAll_L2 (g : Nat)  : Nat → Int32 → Int32 → Mem → Option Mem
  | 0, _, _, _ => none
  | n + 1, x2, x3, M =>
    if M 4 0 ≤ x3 then
      some M
    else
    if 8 ≤ x3 then
      some M
    else
    bnd2 (f_Hea_hearersOf g x3 x2 M) fun v4 M5 =>
    ck (inb x3 8) <|
    setM M5 (g + 5) (ix x3) v4 fun M7 =>
    f_Hea_listenToAll_L2 g n x2 (x3 + 1) M7
def f_Hea_listenToAll (g : Nat)  (x2 : Int32) (M : Mem) : Option Mem :=
  f_Hea_listenToAll_L2 g 1000 x2 0 M
def f_Hea_isHeardBy (g : Nat) (M : Mem) (x1 : Int32) (x2 : Int32)  : Option Int32 :=
  bnd (f_Hal_within x1 0 7) fun v2 =>
  if v2 = 0 then
    some 0
  else
  bnd (f_Hal_within x2 0 7) fun v5 =>
  if v5 = 0 then
    some 0
  else
  ck (inb x1 8) <|
  bnd (f_Hal_bit (M (g + 5) (ix x1)) x2) fun v9 =>
  some v9
def f_Hea_brokenWants_L11 (g : Nat)  : Nat → Int32 → Int32 → Mem → Option (Int32 × Mem)
  | 0, _, _, _ => none
  | n + 1, x3, x4, M =>
    if M 10 0 ≤ x4 then
      some (x3, M)
    else
    bnd (f_Tri_part 10 M x4 0) fun v3 =>
    bnd (f_Tol_seatOf 1 M v3) fun v5 =>
    bnd (f_Tri_part 10 M x4 1) fun v7 =>
    bnd (f_Tol_seatOf 1 M v7) fun v9 =>
    bnd (f_Hea_isHeardBy g M v5 v9) fun v11 =>
    bnd (f_Tri_part 10 M x4 2) fun v13 =>
    if v11 = v13 then
      f_Hea_brokenWants_L11 g n x3 (x4 + 1) M
    else
    nmI (x3 ||| (jshl 1 x4)) fun w15 =>
    f_Hea_brokenWants_L11 g n w15 (x4 + 1) M
def f_Hea_brokenWants (g : Nat)  (x2 : Int32) (M : Mem) : Option (Int32 × Mem) :=
  bnd (f_Hea_listenToAll g x2 M) fun M2 =>
  f_Hea_brokenWants_L11 g 1000 0 0 M2
def f_Sea_takeSeating_J33 (M : Mem) : Option Mem :=
  setM M 86 1 ((M 86 1) + 1) fun M1 =>
  some M1
def f_Sea_takeSeating (x1 : Int32) (M : Mem) : Option Mem :=
  if M 86 0 ≤ x1 then
    f_Sea_takeSeating_J33 M
  else
  setM M 86 0 x1 fun M2 =>
  setM M2 86 1 0 fun M3 =>
  cpyM M3 94 (ix 0) 93 (ix 0) (ix 6) fun M4 =>
  f_Sea_takeSeating_J33 M4
def f_Sea_benchTried (M : Mem) (x1 : Int32)  : Option Int32 :=
  bnd (f_Hal_within x1 0 5) fun v2 =>
  if v2 = 0 then
    some (-4)
  else
  ck (inb x1 6) <|
  some (M 94 (ix x1))
def f_Sea_brokenBy_L5 (M : Mem) : Nat → Int32 → Int32 → Int32 → Option Int32
  | 0, _, _, _ => none
  | n + 1, x2, x3, x4 =>
    if M 10 0 ≤ x4 then
      some x3
    else
    bnd (f_Tri_part 10 M x4 0) fun v3 =>
    bnd (f_Tri_part 10 M x4 1) fun v5 =>
    if jmax v3 v5 = x2 then
      bnd (f_Sea_benchTried M v3) fun v8 =>
      bnd (f_Sea_benchTried M v5) fun v10 =>
      bnd (f_Hea_isHeardBy 87 M v8 v10) fun v12 =>
      bnd (f_Tri_part 10 M x4 2) fun v14 =>
      if v12 = v14 then
        f_Sea_brokenBy_L5 M n x2 x3 (x4 + 1)
      else
      f_Sea_brokenBy_L5 M n x2 (x3 + 1) (x4 + 1)
    else
    f_Sea_brokenBy_L5 M n x2 x3 (x4 + 1)
def f_Sea_brokenBy (M : Mem) (x2 : Int32)  : Option Int32 :=
  f_Sea_brokenBy_L5 M 1000 x2 0 0
def f_Sea_seatNext_L38 (kr : Int32 → Int32 → Int32 → Mem → Option Mem)    : Nat → Int32 → Int32 → Int32 → Int32 → Mem → Option Mem
  | 0, _, _, _, _, _ => none
  | n + 1, x2, x3, x4, x5, M =>
    if M 4 0 ≤ x5 then
      some M
    else
    bnd (f_Hal_bit x3 x5) fun v3 =>
    if v3 = 0 then
      ck (inb x2 6) <|
      setM M 94 (ix x2) x5 fun M6 =>
      bnd (f_Sea_brokenBy M6 x2) fun v8 =>
      bnd (kr (x2 + 1) (x3 ||| (jshl 1 x5)) (x4 + v8) M6) fun M10 =>
      f_Sea_seatNext_L38 kr n x2 x3 x4 (x5 + 1) M10
    else
    f_Sea_seatNext_L38 kr n x2 x3 x4 (x5 + 1) M
def f_Sea_seatNext_J28 (kr : Int32 → Int32 → Int32 → Mem → Option Mem)    (x4 : Int32) (M : Mem) : Option Mem :=
  bnd (f_Sea_takeSeating x4 M) fun M2 =>
  some M2
def f_Sea_seatNext : Nat → Int32 → Int32 → Int32 → Mem → Option Mem
  | 0, _, _, _, _ => none
  | d + 1, x2, x3, x4, M =>
    if x4 ≤ M 86 0 then
      if x2 < 0 then
        f_Sea_seatNext_J28 (f_Sea_seatNext d) x4 M
      else
      if M 1 5 ≤ x2 then
        f_Sea_seatNext_J28 (f_Sea_seatNext d) x4 M
      else
      if x2 < 6 then
        f_Sea_seatNext_L38 (f_Sea_seatNext d) 1000 x2 x3 x4 0 M
      else
      f_Sea_seatNext_J28 (f_Sea_seatNext d) x4 M
    else
    some M
def f_Sea_search (x2 : Int32) (M : Mem) : Option Mem :=
  bnd (f_Hea_listenToAll 87 x2 M) fun M2 =>
  setM M2 86 0 9 fun M3 =>
  setM M3 86 1 0 fun M4 =>
  bnd (f_Sea_seatNext 12 0 0 0 M4) fun M6 =>
  some M6
def f_Sea_benchInFirst (M : Mem) (x1 : Int32)  : Option Int32 :=
  bnd (f_Hal_within x1 0 5) fun v2 =>
  if v2 = 0 then
    some (-4)
  else
  ck (inb x1 6) <|
  some (M 93 (ix x1))
def f_She_isSheet (x0 : Int32)  : Option Int32 :=
  bnd (f_Hal_within x0 0 3) fun v2 =>
  ck (isB v2) <|
  some v2
def f_She_renew (x1 : Int32) (x2 : Int32) (x3 : Int32) (M : Mem) : Option Mem :=
  bnd (f_She_isSheet x1) fun v2 =>
  if v2 = 0 then
    some M
  else
  bnd (f_Hal_within x3 0 40) fun v5 =>
  if v5 = 0 then
    some M
  else
  ck (inb x1 4) <|
  bnd (f_Arr_fill (97 + ix (x1)) 40 0 M) fun M9 =>
  ck (inb x1 4) <|
  setM M9 101 (ix x1) x2 fun M11 =>
  ck (inb x1 4) <|
  setM M11 102 (ix x1) x3 fun M13 =>
  some M13
def f_She_cellsOf (M : Mem) (x1 : Int32)  : Option Int32 :=
  bnd (f_She_isSheet x1) fun v2 =>
  if v2 = 0 then
    some (-4)
  else
  ck (inb x1 4) <|
  if M 101 (ix x1) = (-1) then
    some (-4)
  else
  ck (inb x1 4) <|
  some (M 102 (ix x1))
def f_She_faultOfLane (M : Mem) (x1 : Int32) (x2 : Int32)  : Option Int32 :=
  bnd (f_She_isSheet x1) fun v2 =>
  if v2 = 0 then
    some 1
  else
  ck (inb x1 4) <|
  if M 101 (ix x1) = (-1) then
    some 1
  else
  ck (inb x1 4) <|
  if M 101 (ix x1) = x2 then
    some 0
  else
  some 3
def f_She_faultOfCells (M : Mem) (x1 : Int32) (x2 : Int32) (x3 : Int32)  : Option Int32 :=
  bnd (f_She_isSheet x1) fun v2 =>
  if v2 = 0 then
    some 1
  else
  ck (inb x1 4) <|
  if M 101 (ix x1) = (-1) then
    some 1
  else
  ck (inb x1 4) <|
  bnd (f_Hal_within x2 0 ((M 102 (ix x1)) - x3)) fun v8 =>
  if v8 = 0 then
    some 2
  else
  some 0
def f_She_put (x1 : Int32) (x2 : Int32) (x3 : Int32) (M : Mem) : Option Mem :=
  bnd (f_She_faultOfCells M x1 x2 1) fun v2 =>
  if v2 = 0 then
    if x2 < 40 then
      ck (inb x1 4) <|
      if M 101 (ix x1) = 0 then
        ck (inb x1 4) <|
        ck (inb x2 40) <|
        setM M (97 + ix (x1)) (ix x2) x3.toInt8.toInt32 fun M9 =>
        some M9
      else if M 101 (ix x1) = 1 then
        ck (inb x1 4) <|
        ck (inb x2 40) <|
        setM M (97 + ix (x1)) (ix x2) x3.toInt16.toInt32 fun M13 =>
        some M13
      else
      ck (inb x1 4) <|
      ck (inb x2 40) <|
      setM M (97 + ix (x1)) (ix x2) x3 fun M16 =>
      some M16
    else
    some M
  else
  some M
def f_She_valueAt (M : Mem) (x1 : Int32) (x2 : Int32)  : Option Int32 :=
  bnd (f_She_faultOfCells M x1 x2 1) fun v2 =>
  if v2 = 0 then
    if 40 ≤ x2 then
      some 0
    else
    ck (inb x1 4) <|
    ck (inb x2 40) <|
    some (M (97 + ix (x1)) (ix x2))
  else
  some 0
def f_Tap_append_L22 : Nat → Int64 → Int32 → Mem → Option (Int32 × Mem)
  | 0, _, _, _ => none
  | n + 1, x1, x3, M =>
    if 8 ≤ x3 then
      setM M 70 0 ((M 70 0) + 8) fun M2 =>
      some (M2 70 0, M2)
    else
    ck (inb ((M 70 0) + x3) 320) <|
    setM M 71 (ix ((M 70 0) + x3)) ((((jlshr x1 (56 - (8 * x3))).toInt32).toInt8.toInt32).toInt8.toInt32) fun M4 =>
    f_Tap_append_L22 n x1 (x3 + 1) M4
def f_Tap_append (x1 : Int64) (M : Mem) : Option (Int32 × Mem) :=
  if M 70 0 < 0 then
    some ((-3), M)
  else
  if M 70 0 ≤ 312 then
    f_Tap_append_L22 1000 x1 0 M
  else
  some ((-3), M)
def f_Tap_rewind (M : Mem) : Option Mem :=
  setM M 70 6 0 fun M1 =>
  setM M1 70 4 0 fun M2 =>
  some M2
def f_Tap_fail (x1 : Int32) (x2 : Int32) (M : Mem) : Option Mem :=
  if M 70 4 = 0 then
    setM M 70 4 x1 fun M2 =>
    setM M2 70 5 x2 fun M3 =>
    some M3
  else
  some M
def f_Tap_tokenOf_J28 (x0 : Int32) : Option Int32 :=
  if x0 = 59 then
    some 3
  else
  some 0
def f_Tap_tokenOf_J14 (x0 : Int32) : Option Int32 :=
  if x0 < 48 then
    f_Tap_tokenOf_J28 x0
  else
  if 57 < x0 then
    f_Tap_tokenOf_J28 x0
  else
  some 2
def f_Tap_tokenOf (x0 : Int32)  : Option Int32 :=
  if x0 < 97 then
    f_Tap_tokenOf_J14 x0
  else
  if 122 < x0 then
    f_Tap_tokenOf_J14 x0
  else
  some 1
def f_Tap_nextToken_J259 (M : Mem) : Option Mem :=
  bnd (f_Tap_fail 1 (M 70 2) M) fun M2 =>
  some M2
def f_Tap_nextToken_J231 (M : Mem) : Option Mem :=
  if M 70 1 = 0 then
    f_Tap_nextToken_J259 M
  else
  if M 70 1 = 2 then
    if (M 70 6) - (M 70 2) ≤ 3 then
      some M
    else
    f_Tap_nextToken_J259 M
  else
  some M
def f_Tap_nextToken_J213 (M : Mem) : Option Mem :=
  if M 70 1 = 3 then
    setM M 70 6 ((M 70 6) + 1) fun M2 =>
    f_Tap_nextToken_J231 M2
  else
  f_Tap_nextToken_J231 M
def f_Tap_nextToken_L132 : Nat → Int32 → Mem → Option Mem
  | 0, _, _ => none
  | n + 1, x1, M =>
    if x1 = 0 then
      f_Tap_nextToken_J213 M
    else
    if M 70 0 ≤ M 70 6 then
      f_Tap_nextToken_J213 M
    else
    if 320 ≤ M 70 6 then
      f_Tap_nextToken_J213 M
    else
    ck (inb (M 70 6) 320) <|
    bnd (f_Tap_tokenOf (M 71 (ix (M 70 6)))) fun v6 =>
    if v6 = M 70 1 then
      ck (inb (M 70 6) 320) <|
      setM M 70 3 (((10 * (M 70 3)) + (M 71 (ix (M 70 6)))) - 48) fun M9 =>
      setM M9 70 6 ((M9 70 6) + 1) fun M10 =>
      f_Tap_nextToken_L132 n x1 M10
    else
    f_Tap_nextToken_J213 M
def f_Tap_nextToken_J131 (s0 : Int32) (M : Mem) : Option Mem :=
  f_Tap_nextToken_L132 1000 s0 M
def f_Tap_nextToken_J126 (M : Mem) : Option Mem :=
  f_Tap_nextToken_J131 1 M
def f_Tap_nextToken_J102 (s1 : Int32) (M : Mem) : Option Mem :=
  setM M 70 1 s1 fun M1 =>
  setM M1 70 3 0 fun M2 =>
  if M2 70 1 = 1 then
    f_Tap_nextToken_J126 M2
  else
  if M2 70 1 = 2 then
    f_Tap_nextToken_J126 M2
  else
  f_Tap_nextToken_J131 0 M2
def f_Tap_nextToken_J101 (M : Mem) : Option Mem :=
  f_Tap_nextToken_J102 4 M
def f_Tap_nextToken_J56 (M : Mem) : Option Mem :=
  setM M 70 2 (M 70 6) fun M1 =>
  if M1 70 0 ≤ M1 70 6 then
    f_Tap_nextToken_J101 M1
  else
  if 320 ≤ M1 70 6 then
    f_Tap_nextToken_J101 M1
  else
  ck (inb (M1 70 6) 320) <|
  bnd (f_Tap_tokenOf (M1 71 (ix (M1 70 6)))) fun v6 =>
  f_Tap_nextToken_J102 v6 M1
def f_Tap_nextToken_L8 : Nat → Mem → Option Mem
  | 0, _ => none
  | n + 1, M =>
    if M 70 0 ≤ M 70 6 then
      f_Tap_nextToken_J56 M
    else
    if 320 ≤ M 70 6 then
      f_Tap_nextToken_J56 M
    else
    ck (inb (M 70 6) 320) <|
    if M 71 (ix (M 70 6)) = 32 then
      setM M 70 6 ((M 70 6) + 1) fun M5 =>
      f_Tap_nextToken_L8 n M5
    else
    f_Tap_nextToken_J56 M
def f_Tap_nextToken (M : Mem) : Option Mem :=
  if M 70 4 = 0 then
    f_Tap_nextToken_L8 1000 M
  else
  some M
def f_Tap_isName_L28 (s : Nat) (M : Mem) : Nat → Int32 → Option Int32
  | 0, _ => none
  | n + 1, x2 =>
    if nI (slen s) ≤ x2 then
      some 1
    else
    if 320 ≤ (M 70 2) + x2 then
      some 1
    else
    ck (inb ((M 70 2) + x2) 320) <|
    ck (inb x2 (slen s)) <|
    if M 71 (ix ((M 70 2) + x2)) = sch s (ix x2) then
      f_Tap_isName_L28 s M n (x2 + 1)
    else
    some 0
def f_Tap_isName (s : Nat) (M : Mem)   : Option Int32 :=
  if M 70 1 = 1 then
    if (M 70 6) - (M 70 2) = nI (slen s) then
      f_Tap_isName_L28 s M 1000 0
    else
    some 0
  else
  some 0
def f_Tol_startAnew_L42 (t : Nat)  : Nat → Int32 → Mem → Option Mem
  | 0, _, _ => none
  | n + 1, x1, M =>
    if 6 ≤ x1 then
      setM M (t + 3) 0 0 fun M2 =>
      setM M2 (t + 9) 0 0 fun M3 =>
      setM M3 (t + 13) 0 0 fun M4 =>
      some M4
    else
    ck (inb x1 6) <|
    setM M (t + 2) (ix x1) x1 fun M6 =>
    f_Tol_startAnew_L42 t n (x1 + 1) M6
def f_Tol_startAnew (t : Nat)   (M : Mem) : Option Mem :=
  setM M t 0 9 fun M1 =>
  setM M1 t 1 7 fun M2 =>
  setM M2 t 2 3 fun M3 =>
  setM M3 t 3 5 fun M4 =>
  setM M4 t 4 0 fun M5 =>
  setM M5 t 5 0 fun M6 =>
  bnd (f_Arr_fill (t + 1) 81 0 M6) fun M8 =>
  f_Tol_startAnew_L42 t 1000 0 M8
def f_Rea_nameOfLine (x0 : Int32)  : Option Nat :=
  if x0 = 0 then
    some 1010
  else if x0 = 1 then
    some 1011
  else if x0 = 2 then
    some 1012
  else if x0 = 3 then
    some 1013
  else if x0 = 4 then
    some 1014
  else if x0 = 5 then
    some 1015
  else if x0 = 6 then
    some 1016
  else if x0 = 7 then
    some 1017
  else if x0 = 8 then
    some 1018
  else if x0 = 9 then
    some 1019
  else
  some 1020
def f_Rea_lineBegun_L2 (M : Mem) : Nat → Int32 → Option Int32
  | 0, _ => none
  | n + 1, x1 =>
    if 11 ≤ x1 then
      some (-4)
    else
    bnd (f_Rea_nameOfLine x1) fun r3 =>
    ck (isStr r3) <|
    bnd (f_Tap_isName r3 M) fun v6 =>
    if v6 = 0 then
      f_Rea_lineBegun_L2 M n (x1 + 1)
    else
    some x1
def f_Rea_lineBegun (M : Mem)   : Option Int32 :=
  f_Rea_lineBegun_L2 M 1000 0
def f_Rea_failHere (x1 : Int32) (M : Mem) : Option Mem :=
  bnd (f_Tap_fail x1 (M 70 2) M) fun M2 =>
  some M2
def f_Rea_readNumber (x1 : Int32) (x2 : Int32) (M : Mem) : Option (Int32 × Mem) :=
  bnd (f_Tap_nextToken M) fun M2 =>
  if M2 70 1 = 2 then
    bnd (f_Hal_within (M2 70 3) x1 x2) fun v5 =>
    if v5 = 0 then
      bnd (f_Rea_failHere 3 M2) fun M8 =>
      some (x1, M8)
    else
    some (M2 70 3, M2)
  else
  bnd (f_Rea_failHere 2 M2) fun M10 =>
  some (x1, M10)
def f_Rea_requireSign (M : Mem) : Option Mem :=
  if M 70 1 = 3 then
    some M
  else
  bnd (f_Rea_failHere 2 M) fun M3 =>
  some M3
def f_Rea_readSign (M : Mem) : Option Mem :=
  bnd (f_Tap_nextToken M) fun M2 =>
  bnd (f_Rea_requireSign M2) fun M4 =>
  some M4
def f_Rea_readRule_J153 (M : Mem) : Option Mem :=
  bnd (f_Rea_readSign M) fun M2 =>
  some M2
def f_Rea_readRule_J17 (x1 : Int32) (M : Mem) : Option Mem :=
  setM M 52 2 ((M 52 2) ||| (jshl 1 x1)) fun M1 =>
  if x1 = 0 then
    bnd2 (f_Rea_readNumber 3 9 M1) fun v4 M5 =>
    setM M5 53 0 v4 fun M6 =>
    bnd2 (f_Rea_readNumber 3 9 M6) fun v8 M9 =>
    setM M9 53 1 v8 fun M10 =>
    f_Rea_readRule_J153 M10
  else if x1 = 1 then
    bnd2 (f_Rea_readNumber 0 20 M1) fun v13 M14 =>
    setM M14 53 2 v13 fun M15 =>
    f_Rea_readRule_J153 M15
  else if x1 = 2 then
    bnd2 (f_Rea_readNumber 0 50 M1) fun v18 M19 =>
    setM M19 53 3 v18 fun M20 =>
    f_Rea_readRule_J153 M20
  else if x1 = 3 then
    bnd2 (f_Rea_readNumber 0 9 M1) fun v23 M24 =>
    setM M24 53 4 v23 fun M25 =>
    f_Rea_readRule_J153 M25
  else
  bnd2 (f_Rea_readNumber 0 6 M1) fun v27 M28 =>
  setM M28 52 3 v27 fun M29 =>
  f_Rea_readRule_J153 M29
def f_Rea_readRule (x1 : Int32) (M : Mem) : Option Mem :=
  bnd (f_Hal_bit (M 52 2) x1) fun v2 =>
  if v2 = 1 then
    bnd (f_Rea_failHere 4 M) fun M5 =>
    f_Rea_readRule_J17 x1 M5
  else
  f_Rea_readRule_J17 x1 M
def f_Rea_nameOfKind (x0 : Int32)  : Option Nat :=
  if x0 = 0 then
    some 1021
  else if x0 = 1 then
    some 1022
  else if x0 = 2 then
    some 1023
  else if x0 = 3 then
    some 1024
  else
  some 1025
def f_Rea_readKind_L9 : Nat → Int32 → Mem → Option (Int32 × Mem)
  | 0, _, _ => none
  | n + 1, x1, M =>
    if 4 < x1 then
      some (0, M)
    else
    bnd (f_Rea_nameOfKind x1) fun r3 =>
    ck (isStr r3) <|
    bnd (f_Tap_isName r3 M) fun v6 =>
    if v6 = 0 then
      f_Rea_readKind_L9 n (x1 + 1) M
    else
    bnd (f_Tap_nextToken M) fun M9 =>
    some (x1, M9)
def f_Rea_readKind (M : Mem) : Option (Int32 × Mem) :=
  bnd (f_Tap_nextToken M) fun M2 =>
  f_Rea_readKind_L9 1000 0 M2
def f_Rea_readBench_J20 (M : Mem) : Option Mem :=
  bnd2 (f_Rea_readNumber 0 8 M) fun v2 M3 =>
  bnd2 (f_Rea_readNumber 0 8 M3) fun v5 M6 =>
  bnd2 (f_Rea_readNumber 0 7 M6) fun v8 M9 =>
  bnd2 (f_Rea_readNumber 1 100 M9) fun v11 M12 =>
  bnd2 (f_Rea_readKind M12) fun v14 M15 =>
  bnd (f_Ben_add 56 v2 v5 v8 v11 v14 M15) fun M17 =>
  bnd (f_Rea_requireSign M17) fun M19 =>
  some M19
def f_Rea_readBench (M : Mem) : Option Mem :=
  if M 56 0 < 8 then
    f_Rea_readBench_J20 M
  else
  bnd (f_Rea_failHere 5 M) fun M3 =>
  f_Rea_readBench_J20 M3
def f_Tol_setState (t : Nat)  (x1 : Int32) (x2 : Int32) (M : Mem) : Option Mem :=
  if x1 < 0 then
    some M
  else
  if 81 ≤ x1 then
    some M
  else
  ck (inb x1 81) <|
  setM M (t + 1) (ix x1) x2 fun M4 =>
  some M4
def f_Rea_readDeafCell_J41 (x1 : Int32) (x4 : Int32) (M : Mem) : Option Mem :=
  bnd (f_Tol_setState 53 x4 x1 M) fun M2 =>
  bnd (f_Rea_readSign M2) fun M4 =>
  some M4
def f_Rea_readDeafCell (x1 : Int32) (M : Mem) : Option Mem :=
  bnd2 (f_Rea_readNumber 0 8 M) fun v2 M3 =>
  bnd2 (f_Rea_readNumber 0 8 M3) fun v5 M6 =>
  nmI ((9 * v5) + v2) fun w7 =>
  bnd (f_Tol_stateOf 53 M6 w7) fun v9 =>
  if v9 = 0 then
    f_Rea_readDeafCell_J41 x1 w7 M6
  else
  bnd (f_Rea_failHere 4 M6) fun M12 =>
  f_Rea_readDeafCell_J41 x1 w7 M12
def f_Tri_add (a : Nat)  (x1 : Int32) (x2 : Int32) (x3 : Int32) (M : Mem) : Option Mem :=
  if M a 0 < 0 then
    some M
  else
  if M a 0 < 12 then
    ck (inb (M a 0) 12) <|
    setM M (a + 1) (ix (M a 0)) x1 fun M4 =>
    ck (inb (M4 a 0) 12) <|
    setM M4 (a + 2) (ix (M4 a 0)) x2 fun M6 =>
    ck (inb (M6 a 0) 12) <|
    setM M6 (a + 3) (ix (M6 a 0)) x3 fun M8 =>
    setM M8 a 0 ((M8 a 0) + 1) fun M9 =>
    some M9
  else
  some M
def f_Rea_readWant_J44 (x1 : Int32) (x2 : Int32) (x3 : Int32) (M : Mem) : Option Mem :=
  bnd (f_Tri_add 62 x2 x3 x1 M) fun M2 =>
  bnd (f_Rea_readSign M2) fun M4 =>
  some M4
def f_Rea_readWant_J20 (x1 : Int32) (M : Mem) : Option Mem :=
  bnd2 (f_Rea_readNumber 0 5 M) fun v2 M3 =>
  bnd2 (f_Rea_readNumber 0 5 M3) fun v5 M6 =>
  if v2 = v5 then
    bnd (f_Rea_failHere 4 M6) fun M9 =>
    f_Rea_readWant_J44 x1 v2 v5 M9
  else
  f_Rea_readWant_J44 x1 v2 v5 M6
def f_Rea_readWant (x1 : Int32) (M : Mem) : Option Mem :=
  if M 62 0 < 8 then
    f_Rea_readWant_J20 x1 M
  else
  bnd (f_Rea_failHere 5 M) fun M3 =>
  f_Rea_readWant_J20 x1 M3
def f_Tol_latestHour (t : Nat) (M : Mem)   : Option Int32 :=
  if M (t + 13) 0 ≤ 0 then
    some 0
  else
  bnd (f_Tri_part (t + 13) M ((M (t + 13) 0) - 1) 0) fun v3 =>
  some v3
def f_Rea_readWhisper_J20 (M : Mem) : Option Mem :=
  bnd (f_Tol_latestHour 53 M) fun v2 =>
  bnd2 (f_Rea_readNumber v2 11 M) fun v4 M5 =>
  bnd2 (f_Rea_readNumber 0 5 M5) fun v7 M8 =>
  bnd2 (f_Rea_readNumber 0 7 M8) fun v10 M11 =>
  bnd (f_Tri_add 66 v4 v7 v10 M11) fun M13 =>
  bnd (f_Rea_readSign M13) fun M15 =>
  some M15
def f_Rea_readWhisper (M : Mem) : Option Mem :=
  if M 66 0 < 12 then
    f_Rea_readWhisper_J20 M
  else
  bnd (f_Rea_failHere 5 M) fun M3 =>
  f_Rea_readWhisper_J20 M3
def f_Rea_readLine_J60 (x1 : Int32) (M : Mem) : Option Mem :=
  bnd (f_Rea_readRule x1 M) fun M2 =>
  some M2
def f_Rea_readLine (x1 : Int32) (M : Mem) : Option Mem :=
  if x1 = 0 then
    f_Rea_readLine_J60 x1 M
  else if x1 = 1 then
    f_Rea_readLine_J60 x1 M
  else if x1 = 2 then
    f_Rea_readLine_J60 x1 M
  else if x1 = 3 then
    f_Rea_readLine_J60 x1 M
  else if x1 = 4 then
    f_Rea_readLine_J60 x1 M
  else if x1 = 5 then
    bnd (f_Rea_readBench M) fun M8 =>
    some M8
  else if x1 = 6 then
    bnd (f_Rea_readDeafCell 1 M) fun M11 =>
    some M11
  else if x1 = 7 then
    bnd (f_Rea_readDeafCell 2 M) fun M14 =>
    some M14
  else if x1 = 8 then
    bnd (f_Rea_readWant 1 M) fun M17 =>
    some M17
  else if x1 = 9 then
    bnd (f_Rea_readWant 0 M) fun M20 =>
    some M20
  else if x1 = 10 then
    bnd (f_Rea_readWhisper M) fun M23 =>
    some M23
  else
  bnd (f_Rea_failHere 2 M) fun M25 =>
  some M25
def f_Rea_anyCellMissing_L2 (M : Mem) : Nat → Int32 → Option Int32
  | 0, _ => none
  | n + 1, x1 =>
    if 81 ≤ x1 then
      some 0
    else
    bnd (f_Tol_isCell 53 M x1) fun v3 =>
    if v3 = 0 then
      bnd (f_Tol_stateOf 53 M x1) fun v6 =>
      if v6 = 0 then
        bnd (f_Ben_anyPutOn 56 M x1) fun v9 =>
        if v9 = 0 then
          f_Rea_anyCellMissing_L2 M n (x1 + 1)
        else
        some 1
      else
      some 1
    else
    f_Rea_anyCellMissing_L2 M n (x1 + 1)
def f_Rea_anyCellMissing (M : Mem)   : Option Int32 :=
  f_Rea_anyCellMissing_L2 M 1000 0
def f_Rea_anyOneMissing_L70 (M : Mem) : Nat → Int32 → Option Int32
  | 0, _ => none
  | n + 1, x1 =>
    if M 66 0 ≤ x1 then
      some 0
    else
    bnd (f_Tri_part 66 M x1 1) fun v3 =>
    if v3 < M 53 5 then
      f_Rea_anyOneMissing_L70 M n (x1 + 1)
    else
    some 1
def f_Rea_anyOneMissing_L2 (M : Mem) : Nat → Int32 → Option Int32
  | 0, _ => none
  | n + 1, x1 =>
    if M 62 0 ≤ x1 then
      f_Rea_anyOneMissing_L70 M 1000 0
    else
    bnd (f_Tri_part 62 M x1 0) fun v3 =>
    if M 53 5 ≤ v3 then
      some 1
    else
    bnd (f_Tri_part 62 M x1 1) fun v6 =>
    if v6 < M 53 5 then
      f_Rea_anyOneMissing_L2 M n (x1 + 1)
    else
    some 1
def f_Rea_anyOneMissing (M : Mem)   : Option Int32 :=
  f_Rea_anyOneMissing_L2 M 1000 0
def f_Rea_checkAll_L52 : Nat → Int32 → Mem → Option Mem
  | 0, _, _ => none
  | n + 1, x1, M =>
    if 81 ≤ x1 then
      some M
    else
    bnd (f_Tol_stateOf 53 M x1) fun v3 =>
    if v3 = 0 then
      f_Rea_checkAll_L52 n (x1 + 1) M
    else
    bnd (f_Ben_anyPutOn 56 M x1) fun v6 =>
    if v6 = 0 then
      f_Rea_checkAll_L52 n (x1 + 1) M
    else
    bnd (f_Tap_fail 7 (M 70 0) M) fun M9 =>
    f_Rea_checkAll_L52 n (x1 + 1) M9
def f_Rea_checkAll_J50 (M : Mem) : Option Mem :=
  f_Rea_checkAll_L52 1000 0 M
def f_Rea_checkAll_J34 (M : Mem) : Option Mem :=
  bnd (f_Tap_fail 6 (M 70 0) M) fun M2 =>
  f_Rea_checkAll_J50 M2
def f_Rea_checkAll (M : Mem) : Option Mem :=
  bnd (f_Rea_anyCellMissing M) fun v2 =>
  if v2 = 0 then
    bnd (f_Rea_anyOneMissing M) fun v5 =>
    if v5 = 0 then
      if M 53 5 ≤ M 56 0 then
        f_Rea_checkAll_J50 M
      else
      f_Rea_checkAll_J34 M
    else
    f_Rea_checkAll_J34 M
  else
  f_Rea_checkAll_J34 M
def f_Rea_readLines_J116 (x1 : Int32) (s1 : Int32) (M : Mem) : Option (Int32 × Mem) :=
  setM M 53 5 s1 fun M1 =>
  bnd (f_Rea_checkAll M1) fun M3 =>
  some (x1, M3)
def f_Rea_readLines_J82 (x1 : Int32) (M : Mem) : Option (Int32 × Mem) :=
  if M 52 3 = (-1) then
    f_Rea_readLines_J116 x1 (jmin (M 56 0) 6) M
  else
  f_Rea_readLines_J116 x1 (M 52 3) M
def f_Rea_readLines_L33 : Nat → Int32 → Mem → Option (Int32 × Mem)
  | 0, _, _ => none
  | n + 1, x1, M =>
    if M 70 4 = 0 then
      if M 70 1 = 4 then
        f_Rea_readLines_J82 x1 M
      else
      if 320 < x1 then
        f_Rea_readLines_J82 x1 M
      else
      bnd (f_Rea_lineBegun M) fun v5 =>
      bnd (f_Rea_readLine v5 M) fun M7 =>
      bnd (f_Tap_nextToken M7) fun M9 =>
      f_Rea_readLines_L33 n (x1 + 1) M9
    else
    f_Rea_readLines_J82 x1 M
def f_Rea_readLines (M : Mem) : Option (Int32 × Mem) :=
  bnd (f_Tol_startAnew 53 M) fun M2 =>
  setM M2 52 2 0 fun M3 =>
  setM M3 52 3 (-1) fun M4 =>
  bnd (f_Tap_rewind M4) fun M6 =>
  bnd (f_Tap_nextToken M6) fun M8 =>
  f_Rea_readLines_L33 1000 0 M8
def f_Tri_copyFrom (a : Nat) (o : Nat)   (M : Mem) : Option Mem :=
  setM M a 0 (M o 0) fun M1 =>
  cpyM M1 (o + 1) (ix 0) (a + 1) (ix 0) (ix 12) fun M2 =>
  cpyM M2 (o + 2) (ix 0) (a + 2) (ix 0) (ix 12) fun M3 =>
  cpyM M3 (o + 3) (ix 0) (a + 3) (ix 0) (ix 12) fun M4 =>
  some M4
def f_Tol_copyChanging (t : Nat) (o : Nat)   (M : Mem) : Option Mem :=
  cpyM M (o + 1) (ix 0) (t + 1) (ix 0) (ix 81) fun M1 =>
  setM M1 t 4 (M1 o 4) fun M2 =>
  cpyM M2 (o + 2) (ix 0) (t + 2) (ix 0) (ix 6) fun M3 =>
  bnd (f_Tri_copyFrom (t + 13) (o + 13) M3) fun M5 =>
  some M5
def f_Tol_copyAll (t : Nat) (o : Nat)   (M : Mem) : Option Mem :=
  setM M t 0 (M o 0) fun M1 =>
  setM M1 t 1 (M1 o 1) fun M2 =>
  setM M2 t 2 (M2 o 2) fun M3 =>
  setM M3 t 3 (M3 o 3) fun M4 =>
  setM M4 t 5 (M4 o 5) fun M5 =>
  bnd (f_Ben_copyFrom (t + 3) (o + 3) M5) fun M7 =>
  bnd (f_Tri_copyFrom (t + 9) (o + 9) M7) fun M9 =>
  bnd (f_Tol_copyChanging t o M9) fun M11 =>
  some M11
def f_Tol_isFree (t : Nat) (M : Mem) (x1 : Int32)  : Option Int32 :=
  bnd (f_Tol_isCell t M x1) fun v2 =>
  if v2 = 0 then
    some 0
  else
  bnd (f_Tol_stateOf t M x1) fun v5 =>
  if v5 = 0 then
    some 1
  else
  some 0
def f_Tol_deafCells_L4 (t : Nat) (M : Mem) : Nat → Int32 → Int32 → Option Int32
  | 0, _, _ => none
  | n + 1, x1, x2 =>
    if 81 ≤ x2 then
      some x1
    else
    bnd (f_Tol_stateOf t M x2) fun v3 =>
    if v3 = 0 then
      nmI (x1 + 0) fun w6 =>
      f_Tol_deafCells_L4 t M n w6 (x2 + 1)
    else
    nmI (x1 + 1) fun w5 =>
    f_Tol_deafCells_L4 t M n w5 (x2 + 1)
def f_Tol_deafCells (t : Nat) (M : Mem)   : Option Int32 :=
  f_Tol_deafCells_L4 t M 1000 0 0
def f_Tol_anyBenchOn_L2 (t : Nat) (M : Mem) : Nat → Int32 → Int32 → Int32 → Option Int32
  | 0, _, _, _ => none
  | n + 1, x1, x2, x3 =>
    if M (t + 3) 0 ≤ x3 then
      some 0
    else
    bnd (f_Ben_cellIn (t + 3) M x3 x2 (M t 0)) fun v3 =>
    if v3 = x1 then
      some 1
    else
    f_Tol_anyBenchOn_L2 t M n x1 x2 (x3 + 1)
def f_Tol_anyBenchOn (t : Nat) (M : Mem) (x1 : Int32) (x2 : Int32)  : Option Int32 :=
  f_Tol_anyBenchOn_L2 t M 1000 x1 x2 0
def f_Tol_sitterOn_L2 (t : Nat) (M : Mem) : Nat → Int32 → Int32 → Option Int32
  | 0, _, _ => none
  | n + 1, x1, x2 =>
    if M t 5 ≤ x2 then
      some (-4)
    else
    bnd (f_Tol_seatOf t M x2) fun v3 =>
    if v3 = x1 then
      some x2
    else
    f_Tol_sitterOn_L2 t M n x1 (x2 + 1)
def f_Tol_sitterOn (t : Nat) (M : Mem) (x1 : Int32)  : Option Int32 :=
  f_Tol_sitterOn_L2 t M 1000 x1 0
def f_Tol_seatOn_J30 (t : Nat)  (x1 : Int32) (x2 : Int32) (x4 : Int32) (M : Mem) : Option (Int32 × Mem) :=
  bnd (f_Hal_within x1 0 5) fun v2 =>
  if v2 = 0 then
    some (x4, M)
  else
  ck (inb x1 6) <|
  setM M (t + 2) (ix x1) x2 fun M5 =>
  some (x4, M5)
def f_Tol_seatOn (t : Nat)  (x1 : Int32) (x2 : Int32) (M : Mem) : Option (Int32 × Mem) :=
  bnd (f_Tol_sitterOn t M x2) fun v2 =>
  bnd (f_Tol_seatOf t M x1) fun v4 =>
  bnd (f_Hal_within v2 0 5) fun v6 =>
  if v6 = 0 then
    f_Tol_seatOn_J30 t x1 x2 v4 M
  else
  ck (inb v2 6) <|
  setM M (t + 2) (ix v2) v4 fun M9 =>
  f_Tol_seatOn_J30 t x1 x2 v4 M9
def f_Hal_feed (x1 : Int64) (M : Mem) : Option (Int32 × Mem) :=
  bnd2 (f_Tap_append x1 M) fun v2 M3 =>
  some (v2, M3)
def f_Hal_end (x1 : Int32) (M : Mem) : Option (Int32 × Mem) :=
  bnd (f_Hal_within x1 0 (M 70 0)) fun v2 =>
  if v2 = 0 then
    some ((-1), M)
  else
  nmI (M 70 0) fun w4 =>
  setM M 70 0 x1 fun M5 =>
  some (w4, M5)
def f_Hal_text (M : Mem) : Option (Int32 × Mem) :=
  bnd2 (f_Rea_readLines M) fun v2 M3 =>
  setM M3 70 0 0 fun M4 =>
  if M4 70 4 = 0 then
    bnd (f_Tol_copyAll 1 53 M4) fun M7 =>
    setM M7 0 3 0 fun M8 =>
    some (v2, M8)
  else
  some ((-10) - (M4 70 5), M4)
def f_Hal_fault (M : Mem)   : Option Int32 :=
  some (M 70 4)
def f_Hal_rule (M : Mem) (x1 : Int32)  : Option Int32 :=
  if x1 = 0 then
    some (M 1 0)
  else if x1 = 1 then
    some (M 1 1)
  else if x1 = 2 then
    some (M 1 2)
  else if x1 = 3 then
    some (M 1 3)
  else if x1 = 4 then
    some (M 1 4)
  else
  some (-1)
def f_Hal_cell (M : Mem) (x1 : Int32)  : Option Int32 :=
  bnd (f_Tol_isCell 1 M x1) fun v2 =>
  if v2 = 0 then
    some (-1)
  else
  bnd (f_Tol_stateOf 1 M x1) fun v5 =>
  some v5
def f_Hal_isBench (M : Mem) (x1 : Int32)  : Option Int32 :=
  bnd (f_Hal_within x1 0 ((M 4 0) - 1)) fun v2 =>
  ck (isB v2) <|
  some v2
def f_Hal_isHour (x0 : Int32)  : Option Int32 :=
  bnd (f_Hal_within x0 0 11) fun v2 =>
  ck (isB v2) <|
  some v2
def f_Hal_bench (M : Mem) (x1 : Int32) (x2 : Int32) (x3 : Int32)  : Option Int32 :=
  bnd (f_Hal_isBench M x1) fun v2 =>
  if v2 = 0 then
    some (-1)
  else
  bnd (f_Hal_isHour x2) fun v5 =>
  if v5 = 0 then
    some (-1)
  else
  if x3 = 0 then
    bnd (f_Ben_cellIn 4 M x1 x2 (M 1 0)) fun v9 =>
    some v9
  else if x3 = 1 then
    bnd (f_Ben_facingIn 4 M x1 x2) fun v12 =>
    some v12
  else if x3 = 2 then
    bnd (f_Ben_earOf 4 M x1) fun v15 =>
    some v15
  else if x3 = 3 then
    bnd (f_Ben_kindOf 4 M x1) fun v18 =>
    some v18
  else if x3 = 4 then
    bnd (f_Tol_sitterOn 1 M x1) fun v21 =>
    some v21
  else
  some (-1)
def f_Hal_want (M : Mem) (x1 : Int32) (x2 : Int32)  : Option Int32 :=
  bnd (f_Tri_part 10 M x1 x2) fun v2 =>
  some v2
def f_Hal_hang_J43 (x1 : Int32) (x2 : Int32) (M : Mem) : Option (Int32 × Mem) :=
  bnd (f_Tol_stateOf 1 M x1) fun v2 =>
  bnd (f_Tol_setState 1 x1 x2 M) fun M4 =>
  some (v2, M4)
def f_Hal_hang (x1 : Int32) (x2 : Int32) (M : Mem) : Option (Int32 × Mem) :=
  bnd (f_Tol_isCell 1 M x1) fun v2 =>
  if v2 = 0 then
    some ((-1), M)
  else
  bnd (f_Hal_within x2 0 2) fun v5 =>
  if v5 = 0 then
    some ((-1), M)
  else
  if x2 = 0 then
    f_Hal_hang_J43 x1 x2 M
  else
  bnd (f_Ben_anyPutOn 4 M x1) fun v9 =>
  if v9 = 0 then
    f_Hal_hang_J43 x1 x2 M
  else
  some ((-2), M)
def f_Hal_warm (x1 : Int32) (M : Mem) : Option (Int32 × Mem) :=
  bnd (f_Hal_within x1 0 9) fun v2 =>
  if v2 = 0 then
    some ((-1), M)
  else
  nmI (M 1 4) fun w4 =>
  setM M 1 4 x1 fun M5 =>
  some (w4, M5)
def f_Hal_isOne (M : Mem) (x1 : Int32)  : Option Int32 :=
  bnd (f_Hal_within x1 0 ((M 1 5) - 1)) fun v2 =>
  ck (isB v2) <|
  some v2
def f_Hal_sit (x1 : Int32) (x2 : Int32) (M : Mem) : Option (Int32 × Mem) :=
  bnd (f_Hal_isOne M x1) fun v2 =>
  if v2 = 0 then
    some ((-1), M)
  else
  bnd (f_Hal_isBench M x2) fun v5 =>
  if v5 = 0 then
    some ((-1), M)
  else
  bnd2 (f_Tol_seatOn 1 x1 x2 M) fun v8 M9 =>
  some (v8, M9)
def f_Hal_way (x1 : Int32) (x2 : Int32) (x3 : Int32) (M : Mem) : Option (Int32 × Mem) :=
  bnd (f_Hal_isBench M x1) fun v2 =>
  if v2 = 0 then
    some ((-1), M)
  else
  bnd (f_Hal_isHour x2) fun v5 =>
  if v5 = 0 then
    some ((-1), M)
  else
  bnd (f_Hal_within x3 0 40) fun v8 =>
  if v8 = 0 then
    some ((-1), M)
  else
  bnd (f_Hea_whisperFromBench 72 x1 x2 M) fun M11 =>
  bnd (f_Cou_cellAt 73 M11 x3) fun v13 =>
  some (v13, M11)
def f_Hal_steps (x1 : Int32) (x2 : Int32) (M : Mem) : Option (Int32 × Mem) :=
  bnd (f_Hal_isBench M x1) fun v2 =>
  if v2 = 0 then
    some ((-1), M)
  else
  bnd (f_Hal_isHour x2) fun v5 =>
  if v5 = 0 then
    some ((-1), M)
  else
  bnd (f_Hea_whisperFromBench 72 x1 x2 M) fun M8 =>
  some (M8 73 0, M8)
def f_Hal_hears (x1 : Int32) (x2 : Int32) (x3 : Int32) (x4 : Int32) (M : Mem) : Option (Int32 × Mem) :=
  bnd (f_Hal_isBench M x1) fun v2 =>
  if v2 = 0 then
    some ((-1), M)
  else
  bnd (f_Hal_isBench M x2) fun v5 =>
  if v5 = 0 then
    some ((-1), M)
  else
  if x1 = x2 then
    some ((-1), M)
  else
  bnd (f_Hal_isHour x3) fun v9 =>
  if v9 = 0 then
    some ((-1), M)
  else
  bnd (f_Hal_within x4 0 2) fun v12 =>
  if v12 = 0 then
    some ((-1), M)
  else
  bnd (f_Hea_whisperFromBench 72 x1 x3 M) fun M15 =>
  bnd (f_Hea_stepOfHearing 72 M15 x2 x3) fun v17 =>
  if v17 = 0 then
    some ((-4), M15)
  else
  if x4 = 0 then
    bnd (f_Cou_loudAt 73 M15 v17) fun v24 =>
    some (v24, M15)
  else
  if x4 = 1 then
    some (v17, M15)
  else
  bnd (f_Cou_bouncesAt 73 M15 v17) fun v22 =>
  some (v22, M15)
def f_Hal_heard (x1 : Int32) (x2 : Int32) (M : Mem) : Option (Int32 × Mem) :=
  bnd (f_Hal_isBench M x1) fun v2 =>
  if v2 = 0 then
    some ((-1), M)
  else
  bnd (f_Hal_isHour x2) fun v5 =>
  if v5 = 0 then
    some ((-1), M)
  else
  bnd2 (f_Hea_hearersOf 72 x1 x2 M) fun v8 M9 =>
  some (v8, M9)
def f_Hal_answer_L34 : Nat → Int32 → Int32 → Int32 → Int32 → Mem → Option (Int32 × Mem)
  | 0, _, _, _, _, _ => none
  | n + 1, x1, x2, x3, x4, M =>
    if M 4 0 ≤ x4 then
      some ((-4), M)
    else
    if x3 = jshl 1 x4 then
      bnd2 (f_Hea_hearersOf 72 x4 x2 M) fun v4 M5 =>
      if v4 = jshl 1 x1 then
        some (x4, M5)
      else
      some ((-4), M5)
    else
    f_Hal_answer_L34 n x1 x2 x3 (x4 + 1) M
def f_Hal_answer (x1 : Int32) (x2 : Int32) (M : Mem) : Option (Int32 × Mem) :=
  bnd (f_Hal_isBench M x1) fun v2 =>
  if v2 = 0 then
    some ((-1), M)
  else
  bnd (f_Hal_isHour x2) fun v5 =>
  if v5 = 0 then
    some ((-1), M)
  else
  bnd2 (f_Hea_hearersOf 72 x1 x2 M) fun v8 M9 =>
  f_Hal_answer_L34 1000 x1 x2 v8 0 M9
def f_Hal_can (x1 : Int32) (x2 : Int32) (x3 : Int32) (M : Mem) : Option (Int32 × Mem) :=
  bnd (f_Hal_isOne M x1) fun v2 =>
  if v2 = 0 then
    some ((-1), M)
  else
  bnd (f_Hal_isOne M x2) fun v5 =>
  if v5 = 0 then
    some ((-1), M)
  else
  if x1 = x2 then
    some ((-1), M)
  else
  bnd (f_Hal_isHour x3) fun v9 =>
  if v9 = 0 then
    some ((-1), M)
  else
  bnd2 (f_Hea_peopleHearing 72 x1 x3 M) fun v12 M13 =>
  bnd (f_Hal_bit v12 x2) fun v15 =>
  some (v15, M13)
def f_Hal_broken (x1 : Int32) (M : Mem) : Option (Int32 × Mem) :=
  bnd (f_Hal_isHour x1) fun v2 =>
  if v2 = 0 then
    some ((-1), M)
  else
  bnd2 (f_Hea_brokenWants 72 x1 M) fun v5 M6 =>
  some (v5, M6)
def f_Hal_seating_J45 (x1 : Int32) (x2 : Int32) (x3 : Int32) (M : Mem) : Option (Int32 × Mem) :=
  bnd (f_Sea_search x1 M) fun M2 =>
  if x3 = 0 then
    if x2 = 0 then
      some (M2 86 0, M2)
    else
    some (M2 86 1, M2)
  else
  bnd (f_Sea_benchInFirst M2 (x2 - 10)) fun v6 =>
  some (v6, M2)
def f_Hal_seating_J22 (x1 : Int32) (x2 : Int32) (s0 : Int32) (M : Mem) : Option (Int32 × Mem) :=
  bnd (f_Hal_isHour x1) fun v2 =>
  if v2 = 0 then
    some ((-1), M)
  else
  bnd (f_Hal_within x2 0 1) fun v5 =>
  if v5 = 0 then
    if s0 = 0 then
      some ((-1), M)
    else
    f_Hal_seating_J45 x1 x2 s0 M
  else
  f_Hal_seating_J45 x1 x2 s0 M
def f_Hal_seating_J21 (x1 : Int32) (x2 : Int32) (M : Mem) : Option (Int32 × Mem) :=
  f_Hal_seating_J22 x1 x2 0 M
def f_Hal_seating (x1 : Int32) (x2 : Int32) (M : Mem) : Option (Int32 × Mem) :=
  if x2 < 10 then
    f_Hal_seating_J21 x1 x2 M
  else
  bnd (f_Hal_isOne M (x2 - 10)) fun v3 =>
  if v3 = 0 then
    f_Hal_seating_J21 x1 x2 M
  else
  f_Hal_seating_J22 x1 x2 1 M
def f_Int_bitCount (x0 : Int32)  : Option Int32 :=
  nmI (x0 - ((jushr x0 1) &&& 1431655765)) fun w1 =>
  nmI ((w1 &&& 858993459) + ((jushr w1 2) &&& 858993459)) fun w2 =>
  nmI ((w2 + (jushr w2 4)) &&& 252645135) fun w3 =>
  nmI (w3 + (jushr w3 8)) fun w4 =>
  nmI (w4 + (jushr w4 16)) fun w5 =>
  some (w5 &&& 63)
def f_Hal_mayBecome (M : Mem) (x1 : Int32) (x2 : Int32) (x3 : Int32)  : Option Int32 :=
  if x2 = 0 then
    bnd (f_Tol_isCell 1 M x1) fun v9 =>
    if v9 = 0 then
      some 0
    else
    bnd (f_Tol_isFree 1 M x1) fun v12 =>
    if v12 = 0 then
      some 1
    else
    some 0
  else
  bnd (f_Tol_isFree 1 M x1) fun v3 =>
  if v3 = 0 then
    some 0
  else
  bnd (f_Tol_anyBenchOn 1 M x1 x3) fun v6 =>
  if v6 = 0 then
    some 1
  else
  some 0
def f_Hal_bestChange_L24 : Nat → Int32 → Int32 → Int32 → Int32 → Int32 → Int32 → Mem → Option (Int32 × Mem)
  | 0, _, _, _, _, _, _, _ => none
  | n + 1, x1, x2, x3, x4, x5, x6, M =>
    if 81 ≤ x6 then
      if x4 = (-4) then
        some (x4, M)
      else
      if x2 = 0 then
        some (x4, M)
      else
      some (x5, M)
    else
    bnd (f_Hal_mayBecome M x6 x3 x1) fun v5 =>
    if v5 = 0 then
      f_Hal_bestChange_L24 n x1 x2 x3 x4 x5 (x6 + 1) M
    else
    bnd (f_Tol_stateOf 1 M x6) fun v8 =>
    bnd (f_Tol_setState 1 x6 x3 M) fun M10 =>
    bnd2 (f_Hea_brokenWants 72 x1 M10) fun v12 M13 =>
    bnd (f_Int_bitCount v12) fun v15 =>
    bnd (f_Tol_setState 1 x6 v8 M13) fun M17 =>
    if x5 ≤ v15 then
      f_Hal_bestChange_L24 n x1 x2 x3 x4 x5 (x6 + 1) M17
    else
    f_Hal_bestChange_L24 n x1 x2 x3 x6 v15 (x6 + 1) M17
def f_Hal_bestChange (x1 : Int32) (x2 : Int32) (x3 : Int32) (M : Mem) : Option (Int32 × Mem) :=
  bnd2 (f_Hea_brokenWants 72 x1 M) fun v2 M3 =>
  bnd (f_Int_bitCount v2) fun v5 =>
  f_Hal_bestChange_L24 1000 x1 x2 x3 (-4) v5 0 M3
def f_Hal_curtain (x1 : Int32) (x2 : Int32) (M : Mem) : Option (Int32 × Mem) :=
  bnd (f_Hal_isHour x1) fun v2 =>
  if v2 = 0 then
    some ((-1), M)
  else
  bnd (f_Hal_within x2 0 1) fun v5 =>
  if v5 = 0 then
    some ((-1), M)
  else
  bnd2 (f_Hal_bestChange x1 x2 2 M) fun v8 M9 =>
  some (v8, M9)
def f_Hal_clear (x1 : Int32) (x2 : Int32) (M : Mem) : Option (Int32 × Mem) :=
  bnd (f_Hal_isHour x1) fun v2 =>
  if v2 = 0 then
    some ((-1), M)
  else
  bnd (f_Hal_within x2 0 1) fun v5 =>
  if v5 = 0 then
    some ((-1), M)
  else
  bnd2 (f_Hal_bestChange x1 x2 0 M) fun v8 M9 =>
  some (v8, M9)
def f_Hal_hours_L4 : Nat → Int32 → Int32 → Mem → Option (Int32 × Mem)
  | 0, _, _, _ => none
  | n + 1, x1, x2, M =>
    if 12 ≤ x2 then
      some (x1, M)
    else
    bnd2 (f_Hea_brokenWants 72 x2 M) fun v3 M4 =>
    if v3 = 0 then
      nmI (x1 ||| (jshl 1 x2)) fun w6 =>
      f_Hal_hours_L4 n w6 (x2 + 1) M4
    else
    f_Hal_hours_L4 n x1 (x2 + 1) M4
def f_Hal_hours (M : Mem) : Option (Int32 × Mem) :=
  f_Hal_hours_L4 1000 0 0 M
def f_Hal_hearersOnDay (x1 : Int32) (x2 : Int32) (x3 : Int32) (M : Mem) : Option (Int32 × Mem) :=
  nmI (M 1 4) fun w1 =>
  setM M 1 4 x3 fun M2 =>
  bnd2 (f_Hea_hearersOf 72 x1 x2 M2) fun v4 M5 =>
  setM M5 1 4 w1 fun M6 =>
  some (v4, M6)
def f_Hal_days_L40 : Nat → Int32 → Int32 → Int32 → Int32 → Int32 → Int32 → Int32 → Mem → Option (Int32 × Mem)
  | 0, _, _, _, _, _, _, _, _ => none
  | n + 1, x1, x2, x3, x4, x5, x6, x7, M =>
    if M 4 0 ≤ x7 then
      if x3 = 0 then
        some (x4, M)
      else
      if x3 = 1 then
        some (x5, M)
      else
      some (x6 - x5, M)
    else
    bnd2 (f_Hea_hearersOf 72 x7 x1 M) fun v5 M6 =>
    bnd2 (f_Hal_hearersOnDay x7 x1 x2 M6) fun v8 M9 =>
    bnd (f_Int_bitCount v5) fun v11 =>
    nmI (x4 + v11) fun w12 =>
    bnd (f_Int_bitCount (v5 &&& v8)) fun v14 =>
    nmI (x5 + v14) fun w15 =>
    bnd (f_Int_bitCount v8) fun v17 =>
    nmI (x6 + v17) fun w18 =>
    f_Hal_days_L40 n x1 x2 x3 w12 w15 w18 (x7 + 1) M9
def f_Hal_days (x1 : Int32) (x2 : Int32) (x3 : Int32) (M : Mem) : Option (Int32 × Mem) :=
  bnd (f_Hal_isHour x1) fun v2 =>
  if v2 = 0 then
    some ((-1), M)
  else
  bnd (f_Hal_within x2 0 9) fun v5 =>
  if v5 = 0 then
    some ((-1), M)
  else
  bnd (f_Hal_within x3 0 2) fun v8 =>
  if v8 = 0 then
    some ((-1), M)
  else
  f_Hal_days_L40 1000 x1 x2 x3 0 0 0 0 M
def f_Hal_brokenOnDay (x1 : Int32) (x2 : Int32) (M : Mem) : Option (Int32 × Mem) :=
  nmI (M 1 4) fun w1 =>
  setM M 1 4 x2 fun M2 =>
  bnd2 (f_Hea_brokenWants 72 x1 M2) fun v4 M5 =>
  bnd (f_Int_bitCount v4) fun v7 =>
  setM M5 1 4 w1 fun M8 =>
  some (v7, M8)
def f_Hal_best_L27 : Nat → Int32 → Int32 → Int32 → Int32 → Int32 → Mem → Option (Int32 × Mem)
  | 0, _, _, _, _, _, _ => none
  | n + 1, x1, x2, x3, x4, x5, M =>
    if 9 < x5 then
      if x2 = 0 then
        some (x3, M)
      else
      some (x4, M)
    else
    bnd2 (f_Hal_brokenOnDay x1 x5 M) fun v4 M5 =>
    if x4 ≤ v4 then
      f_Hal_best_L27 n x1 x2 x3 x4 (x5 + 1) M5
    else
    f_Hal_best_L27 n x1 x2 x5 v4 (x5 + 1) M5
def f_Hal_best (x1 : Int32) (x2 : Int32) (M : Mem) : Option (Int32 × Mem) :=
  bnd (f_Hal_isHour x1) fun v2 =>
  if v2 = 0 then
    some ((-1), M)
  else
  bnd (f_Hal_within x2 0 1) fun v5 =>
  if v5 = 0 then
    some ((-1), M)
  else
  f_Hal_best_L27 1000 x1 x2 0 9 0 M
def f_Hal_whisperMore (x1 : Int32) (x2 : Int32) (x3 : Int32) (M : Mem) : Option (Int32 × Mem) :=
  bnd (f_Hal_isHour x1) fun v2 =>
  if v2 = 0 then
    some ((-1), M)
  else
  bnd (f_Tol_latestHour 1 M) fun v5 =>
  if x1 < v5 then
    some ((-1), M)
  else
  bnd (f_Hal_isOne M x2) fun v8 =>
  if v8 = 0 then
    some ((-1), M)
  else
  bnd (f_Hal_isSecret x3) fun v11 =>
  if v11 = 0 then
    some ((-1), M)
  else
  if M 14 0 < 12 then
    bnd (f_Tri_add 14 x1 x2 x3 M) fun M15 =>
    some (M15 14 0, M15)
  else
  some ((-3), M)
def f_Hal_say (x1 : Int32) (x2 : Int32) (x3 : Int32) (M : Mem) : Option (Int32 × Mem) :=
  bnd2 (f_Hal_whisperMore x1 x2 x3 M) fun v2 M3 =>
  some (v2, M3)
def f_Hal_unsay (x1 : Int32) (M : Mem) : Option (Int32 × Mem) :=
  bnd (f_Hal_within x1 0 (M 14 0)) fun v2 =>
  if v2 = 0 then
    some ((-1), M)
  else
  nmI (M 14 0) fun w4 =>
  setM M 14 0 x1 fun M5 =>
  some (w4, M5)
def f_Hal_isWhisper (M : Mem) (x1 : Int32)  : Option Int32 :=
  bnd (f_Hal_within x1 0 ((M 14 0) - 1)) fun v2 =>
  ck (isB v2) <|
  some v2
def f_Hal_said (x1 : Int32) (x2 : Int32) (M : Mem) : Option (Int32 × Mem) :=
  bnd (f_Hal_isWhisper M x1) fun v2 =>
  if v2 = 0 then
    some ((-1), M)
  else
  bnd (f_Hal_within x2 0 3) fun v5 =>
  if v5 = 0 then
    some ((-1), M)
  else
  if 3 ≤ x2 then
    bnd2 (f_Gos_tellFirst x1 M) fun v9 M10 =>
    bnd2 (f_Gos_tellOne x1 M10) fun v12 M13 =>
    some (v12, M13)
  else
  bnd (f_Tri_part 14 M x1 x2) fun v15 =>
  some (v15, M)
def f_Hal_knows (x1 : Int32) (x2 : Int32) (M : Mem) : Option (Int32 × Mem) :=
  bnd (f_Hal_isOne M x1) fun v2 =>
  if v2 = 0 then
    some ((-1), M)
  else
  bnd (f_Hal_within x2 0 (M 14 0)) fun v5 =>
  if v5 = 0 then
    some ((-1), M)
  else
  bnd2 (f_Gos_tellFirst x2 M) fun v8 M9 =>
  bnd (f_Gos_secretsOf M9 x1) fun v11 =>
  some (v11, M9)
def f_Hal_since (x1 : Int32) (x2 : Int32) (M : Mem) : Option (Int32 × Mem) :=
  bnd (f_Hal_isOne M x1) fun v2 =>
  if v2 = 0 then
    some ((-1), M)
  else
  bnd (f_Hal_isSecret x2) fun v5 =>
  if v5 = 0 then
    some ((-1), M)
  else
  bnd2 (f_Gos_firstKnownOutside x2 ((jshl 1 x1) ^^^ (-1)) M) fun v8 M9 =>
  some (v8, M9)
def f_Hal_areBitsBelow (x0 : Int32) (x1 : Int32)  : Option Int32 :=
  bnd (f_Hal_within x0 0 ((jshl 1 x1) - 1)) fun v2 =>
  ck (isB v2) <|
  some v2
def f_Hal_leak (x1 : Int32) (x2 : Int32) (x3 : Int32) (M : Mem) : Option (Int32 × Mem) :=
  bnd (f_Hal_isSecret x1) fun v2 =>
  if v2 = 0 then
    some ((-1), M)
  else
  bnd (f_Hal_areBitsBelow x2 (M 1 5)) fun v5 =>
  if v5 = 0 then
    some ((-1), M)
  else
  bnd (f_Hal_within x3 0 2) fun v8 =>
  if v8 = 0 then
    some ((-1), M)
  else
  bnd2 (f_Gos_firstKnownOutside x1 x2 M) fun v11 M12 =>
  if v11 = (-4) then
    some (v11, M12)
  else
  if x3 = 0 then
    some (v11, M12)
  else
  if x3 = 1 then
    bnd (f_Tri_part 14 M12 v11 1) fun v19 =>
    some (v19, M12)
  else
  bnd (f_Gos_knowersOf M12 x1) fun v17 =>
  some (v17 &&& (x2 ^^^ (-1)), M12)
def f_Hal_without (x1 : Int32) (M : Mem) : Option (Int32 × Mem) :=
  bnd (f_Hal_isWhisper M x1) fun v2 =>
  if v2 = 0 then
    some ((-1), M)
  else
  bnd (f_Tri_part 14 M x1 2) fun v5 =>
  bnd2 (f_Gos_tellFirst (M 14 0) M) fun v7 M8 =>
  bnd (f_Gos_knowersOf M8 v5) fun v10 =>
  bnd (f_Int_bitCount v10) fun v12 =>
  bnd (f_Gos_tellAllBut x1 M8) fun M14 =>
  bnd (f_Gos_knowersOf M14 v5) fun v16 =>
  bnd (f_Int_bitCount v16) fun v18 =>
  nmI (v12 - v18) fun w19 =>
  if 0 ≤ w19 then
    some (w19, M14)
  else
  some (w19 - 100, M14)
def f_Hal_nextSeed (x0 : Int32)  : Option Int32 :=
  some ((x0 * 1103515245) + 12345)
def f_Hal_drawnFrom (x0 : Int32)  : Option Int32 :=
  some ((jshr x0 16) &&& 32767)
def f_Hal_murmur_L49 : Nat → Int32 → Int32 → Int32 → Int32 → Mem → Option (Int32 × Mem)
  | 0, _, _, _, _, _ => none
  | n + 1, x2, x3, x4, x5, M =>
    if x2 ≤ x5 then
      bnd2 (f_Gos_tellFirst x2 M) fun v3 M4 =>
      some (v3, M4)
    else
    bnd (f_Hal_nextSeed x4) fun v6 =>
    bnd (f_Hal_drawnFrom v6) fun v8 =>
    if M 1 5 = 0 then none else
    nmI (jrem v8 (M 1 5)) fun w10 =>
    bnd (f_Hal_nextSeed v6) fun v12 =>
    bnd (f_Hal_drawnFrom v12) fun v14 =>
    bnd (f_Tri_add 14 x3 w10 (jrem v14 8) M) fun M16 =>
    f_Hal_murmur_L49 n x2 x3 v12 (x5 + 1) M16
def f_Hal_murmur (x1 : Int32) (x2 : Int32) (x3 : Int32) (M : Mem) : Option (Int32 × Mem) :=
  bnd (f_Hal_within x2 1 12) fun v2 =>
  if v2 = 0 then
    some ((-1), M)
  else
  bnd (f_Hal_isHour x3) fun v5 =>
  if v5 = 0 then
    some ((-1), M)
  else
  if 0 < M 1 5 then
    setM M 14 0 0 fun M8 =>
    f_Hal_murmur_L49 1000 x2 x3 x1 0 M8
  else
  some ((-2), M)
def f_Hal_from_L31 : Nat → Int32 → Int32 → Int32 → Int32 → Mem → Option (Int32 × Mem)
  | 0, _, _, _, _, _ => none
  | n + 1, x1, x2, x3, x4, M =>
    if M 4 0 ≤ x4 then
      some (x3, M)
    else
    bnd2 (f_Hea_hearersOf 72 x4 x2 M) fun v3 M4 =>
    if v3 = x1 then
      nmI (x3 ||| (jshl 1 x4)) fun w6 =>
      f_Hal_from_L31 n x1 x2 w6 (x4 + 1) M4
    else
    f_Hal_from_L31 n x1 x2 x3 (x4 + 1) M4
def f_Hal_from (x1 : Int32) (x2 : Int32) (M : Mem) : Option (Int32 × Mem) :=
  bnd (f_Hal_areBitsBelow x1 (M 4 0)) fun v2 =>
  if v2 = 0 then
    some ((-1), M)
  else
  bnd (f_Hal_isHour x2) fun v5 =>
  if v5 = 0 then
    some ((-1), M)
  else
  f_Hal_from_L31 1000 x1 x2 0 0 M
def f_Hal_firstDirectionHeardBy_L3 : Nat → Int32 → Int32 → Int32 → Int32 → Mem → Option (Int32 × Mem)
  | 0, _, _, _, _, _ => none
  | n + 1, x1, x2, x3, x4, M =>
    if 8 ≤ x4 then
      some ((-4), M)
    else
    bnd (f_Cou_run 73 x2 x4 0 M) fun M3 =>
    bnd (f_Hea_hearersOfLatest 72 M3 x3) fun v5 =>
    if v5 = x1 then
      some (x4, M3)
    else
    f_Hal_firstDirectionHeardBy_L3 n x1 x2 x3 (x4 + 1) M3
def f_Hal_firstDirectionHeardBy (x1 : Int32) (x2 : Int32) (x3 : Int32) (M : Mem) : Option (Int32 × Mem) :=
  f_Hal_firstDirectionHeardBy_L3 1000 x1 x2 x3 0 M
def f_Hal_where_J107 (k53 : Int32 → Int32 → Int32 → Int32 → Int32 → Int32 → Int32 → Mem → Option (Int32 × Mem))   (x1 : Int32) (x2 : Int32) (x3 : Int32) (x4 : Int32) (x5 : Int32) (x6 : Int32) (x7 : Int32) (x8 : Int32) (M : Mem) : Option (Int32 × Mem) :=
  if x8 = (-4) then
    nmI (x4 + 0) fun w3 =>
    k53 x1 x2 x3 w3 x5 x6 (x7 + 1) M
  else
  nmI (x4 + 1) fun w2 =>
  k53 x1 x2 x3 w2 x5 x6 (x7 + 1) M
def f_Hal_where_J85 (k53 : Int32 → Int32 → Int32 → Int32 → Int32 → Int32 → Int32 → Mem → Option (Int32 × Mem))   (x1 : Int32) (x2 : Int32) (x3 : Int32) (x4 : Int32) (x5 : Int32) (x6 : Int32) (x7 : Int32) (s0 : Int32) (M : Mem) : Option (Int32 × Mem) :=
  if s0 = (-4) then
    f_Hal_where_J107 k53 x1 x2 x3 x4 x5 x6 x7 s0 M
  else
  if x4 = 0 then
    f_Hal_where_J107 k53 x1 x2 x3 x4 x7 s0 x7 s0 M
  else
  f_Hal_where_J107 k53 x1 x2 x3 x4 x5 x6 x7 s0 M
def f_Hal_where_L53 : Nat → Int32 → Int32 → Int32 → Int32 → Int32 → Int32 → Int32 → Mem → Option (Int32 × Mem)
  | 0, _, _, _, _, _, _, _, _ => none
  | n + 1, x1, x2, x3, x4, x5, x6, x7, M =>
    if 81 ≤ x7 then
      if x3 = 0 then
        some (x4, M)
      else
      if x3 = 1 then
        some (x5, M)
      else
      some (x6, M)
    else
    bnd (f_Tol_isFree 1 M x7) fun v5 =>
    if v5 = 0 then
      f_Hal_where_J85 (f_Hal_where_L53 n) x1 x2 x3 x4 x5 x6 x7 (-4) M
    else
    bnd2 (f_Hal_firstDirectionHeardBy x1 x7 x2 M) fun v8 M9 =>
    f_Hal_where_J85 (f_Hal_where_L53 n) x1 x2 x3 x4 x5 x6 x7 v8 M9
def f_Hal_where (x1 : Int32) (x2 : Int32) (x3 : Int32) (M : Mem) : Option (Int32 × Mem) :=
  bnd (f_Hal_areBitsBelow x1 (M 4 0)) fun v2 =>
  if v2 = 0 then
    some ((-1), M)
  else
  if x1 = 0 then
    some ((-1), M)
  else
  bnd (f_Hal_isHour x2) fun v6 =>
  if v6 = 0 then
    some ((-1), M)
  else
  bnd (f_Hal_within x3 0 2) fun v9 =>
  if v9 = 0 then
    some ((-1), M)
  else
  f_Hal_where_L53 1000 x1 x2 x3 0 (-4) (-4) 0 M
def f_Hal_imageOf (M : Mem) (x1 : Int32)  : Option Nat :=
  if x1 = 0 then
    some 18
  else
  some 35
def f_Hal_keep (x1 : Int32) (M : Mem) : Option (Int32 × Mem) :=
  bnd (f_Hal_within x1 0 1) fun v2 =>
  if v2 = 0 then
    some ((-1), M)
  else
  bnd (f_Hal_bit (M 0 3) x1) fun v5 =>
  bnd (f_Hal_imageOf M x1) fun r7 =>
  ck (isImg r7) <|
  bnd (f_Tol_copyChanging r7 1 M) fun M10 =>
  setM M10 0 3 ((M10 0 3) ||| (jshl 1 x1)) fun M11 =>
  some (v5, M11)
def f_Hal_back (x1 : Int32) (M : Mem) : Option (Int32 × Mem) :=
  bnd (f_Hal_within x1 0 1) fun v2 =>
  if v2 = 0 then
    some ((-1), M)
  else
  bnd (f_Hal_bit (M 0 3) x1) fun v5 =>
  if v5 = 0 then
    some ((-2), M)
  else
  bnd (f_Hal_imageOf M x1) fun r8 =>
  ck (isImg r8) <|
  bnd (f_Tol_copyChanging 1 r8 M) fun M11 =>
  some (M11 14 0, M11)
def f_Hal_sheet (x1 : Int32) (x2 : Int32) (x3 : Int32) (M : Mem) : Option (Int32 × Mem) :=
  bnd (f_Hal_within x1 0 3) fun v2 =>
  if v2 = 0 then
    some ((-1), M)
  else
  bnd (f_Hal_within x2 0 2) fun v5 =>
  if v5 = 0 then
    some ((-1), M)
  else
  if x3 ≤ 40 then
    if 0 ≤ x3 then
      bnd (f_She_renew x1 x2 x3 M) fun M10 =>
      some (1, M10)
    else
    some ((-14), M)
  else
  some ((-1), M)
def f_Hal_lay (x1 : Int32) (x2 : Int32) (x3 : Int32) (M : Mem) : Option (Int32 × Mem) :=
  bnd (f_Hal_within x1 0 3) fun v2 =>
  if v2 = 0 then
    some ((-1), M)
  else
  bnd (f_She_faultOfCells M x1 x2 1) fun v5 =>
  if v5 = 0 then
    bnd (f_She_put x1 x2 x3 M) fun M8 =>
    some (1, M8)
  else
  some ((-10) - v5, M)
def f_Hal_whisperOfSheet (x1 : Int32) (x2 : Int32) (M : Mem) : Option (Int32 × Mem) :=
  bnd (f_She_valueAt M x1 x2) fun v2 =>
  bnd (f_She_valueAt M x1 (x2 + 1)) fun v4 =>
  bnd (f_She_valueAt M x1 (x2 + 2)) fun v6 =>
  bnd2 (f_Hal_whisperMore v2 v4 v6 M) fun v8 M9 =>
  some (v8, M9)
def f_Hal_read_J144 (x6 : Int32) (x7 : Int32) (M : Mem) : Option (Int32 × Mem) :=
  setM M 0 9 x7 fun M1 =>
  some (x6, M1)
def f_Hal_read_L69 : Nat → Int32 → Int32 → Int32 → Int32 → Int32 → Int32 → Int32 → Mem → Option (Int32 × Mem)
  | 0, _, _, _, _, _, _, _, _ => none
  | n + 1, x1, x3, x4, x5, x6, x7, x8, M =>
    if x4 ≤ x8 then
      f_Hal_read_J144 x6 x7 M
    else
    if x7 = 0 then
      bnd (f_She_faultOfCells M x1 (x3 + (3 * x8)) 3) fun v4 =>
      if v4 = 0 then
        bnd2 (f_Hal_whisperOfSheet x1 (x3 + (3 * x8)) M) fun v7 M8 =>
        if 0 ≤ v7 then
          f_Hal_read_L69 n x1 x3 x4 x5 (x6 + 1) v4 (x8 + 1) M8
        else
        setM M8 14 0 x5 fun M10 =>
        some ((-20) - x8, M10)
      else
      f_Hal_read_L69 n x1 x3 x4 x5 x6 v4 (x8 + 1) M
    else
    f_Hal_read_J144 x6 x7 M
def f_Hal_read_J64 (x1 : Int32) (x3 : Int32) (x4 : Int32) (x5 : Int32) (x6 : Int32) (s0 : Int32) (M : Mem) : Option (Int32 × Mem) :=
  f_Hal_read_L69 1000 x1 x3 x4 x5 x6 s0 0 M
def f_Hal_read (x1 : Int32) (x2 : Int32) (x3 : Int32) (x4 : Int32) (M : Mem) : Option (Int32 × Mem) :=
  bnd (f_Hal_within x1 0 3) fun v2 =>
  if v2 = 0 then
    some ((-1), M)
  else
  bnd (f_Hal_within x2 0 2) fun v5 =>
  if v5 = 0 then
    some ((-1), M)
  else
  bnd (f_Hal_within x4 0 12) fun v8 =>
  if v8 = 0 then
    some ((-1), M)
  else
  nmI (M 14 0) fun w10 =>
  if x4 = 0 then
    f_Hal_read_J64 x1 x3 x4 w10 0 0 M
  else
  bnd (f_She_faultOfLane M x1 x2) fun v13 =>
  f_Hal_read_J64 x1 x3 x4 w10 0 v13 M
def f_Hal_torn (M : Mem)   : Option Int32 :=
  some (M 0 9)
def f_Hal_count (M : Mem) (x1 : Int32)  : Option Int32 :=
  if x1 = 0 then
    some (M 4 0)
  else if x1 = 1 then
    some (M 1 5)
  else if x1 = 2 then
    bnd (f_Tol_deafCells 1 M) fun v5 =>
    some v5
  else if x1 = 3 then
    some (M 10 0)
  else if x1 = 4 then
    some (M 14 0)
  else if x1 = 5 then
    bnd (f_Int_bitCount (M 0 3)) fun v10 =>
    some v10
  else if x1 = 6 then
    some (M 70 0)
  else if x1 = 7 then
    bnd (f_She_cellsOf M 0) fun v14 =>
    some v14
  else
  some (-1)
def f_Mod_in (x0 : Int64) (x2 : Int64) (x4 : Int64)  : Option Int32 :=
  if lg_cmp x0 x2 < 0 then
    some 0
  else
  if 0 < lg_cmp x0 x4 then
    some 0
  else
  some 1
def f_Mod_flag (x0 : Int32)  : Option Int32 :=
  if x0 = 0 then
    some 0
  else
  some 1
def f_Mod_bitsOf_L4 : Nat → Int32 → Int32 → Int32 → Option Int32
  | 0, _, _, _ => none
  | n + 1, x0, x1, x2 =>
    if 12 ≤ x2 then
      some x1
    else
    nmI (x1 + ((jshr x0 x2) &&& 1)) fun w2 =>
    f_Mod_bitsOf_L4 n x0 w2 (x2 + 1)
def f_Mod_bitsOf (x0 : Int32)  : Option Int32 :=
  f_Mod_bitsOf_L4 1000 x0 0 0
def f_Mod_firstDraft_L2 : Nat → Int32 → Mem → Option Mem
  | 0, _, _ => none
  | n + 1, x1, M =>
    if 125 ≤ x1 then
      setM M 111 (ix 0) 9 fun M2 =>
      setM M2 111 (ix 1) 7 fun M3 =>
      setM M3 111 (ix 2) 3 fun M4 =>
      setM M4 111 (ix 3) 5 fun M5 =>
      setM M5 111 (ix 4) (-4) fun M6 =>
      setM M6 103 15 0 fun M7 =>
      setM M7 103 16 0 fun M8 =>
      setM M8 103 17 (-4) fun M9 =>
      setM M9 103 18 0 fun M10 =>
      setM M10 103 19 0 fun M11 =>
      setM M11 103 20 0 fun M12 =>
      some M12
    else
    ck (inb x1 125) <|
    setM M 108 (ix x1) 0 fun M14 =>
    f_Mod_firstDraft_L2 n (x1 + 1) M14
def f_Mod_firstDraft (M : Mem) : Option Mem :=
  f_Mod_firstDraft_L2 1000 0 M
def f_Mod_dPeople (M : Mem)   : Option Int32 :=
  if M 111 (ix 4) = (-4) then
    if 6 ≤ M 103 15 then
      some 6
    else
    some (M 103 15)
  else
  some (M 111 (ix 4))
def f_Mod_keepDraft_L144 : Nat → Int32 → Mem → Option Mem
  | 0, _, _ => none
  | n + 1, x1, M =>
    if 6 ≤ x1 then
      setM M 105 (ix 0) 0 fun M2 =>
      setM M2 105 (ix 1) 0 fun M3 =>
      some M3
    else
    ck (inb (82 + x1) 375) <|
    setM M 104 (ix (82 + x1)) x1 fun M5 =>
    f_Mod_keepDraft_L144 n (x1 + 1) M5
def f_Mod_keepDraft_L54 : Nat → Int32 → Mem → Option Mem
  | 0, _, _ => none
  | n + 1, x1, M =>
    if 24 ≤ x1 then
      setM M 103 2 (M 111 (ix 0)) fun M2 =>
      setM M2 103 3 (M2 111 (ix 1)) fun M3 =>
      setM M3 103 4 (M3 111 (ix 2)) fun M4 =>
      setM M4 103 5 (M4 111 (ix 3)) fun M5 =>
      setM M5 103 6 (M5 103 15) fun M6 =>
      bnd (f_Mod_dPeople M6) fun v8 =>
      setM M6 103 7 v8 fun M9 =>
      setM M9 103 8 (M9 103 16) fun M10 =>
      f_Mod_keepDraft_L144 1000 0 M10
    else
    ck (inb x1 24) <|
    ck (inb x1 24) <|
    setM M 107 (ix x1) (M 110 (ix x1)) fun M13 =>
    f_Mod_keepDraft_L54 n (x1 + 1) M13
def f_Mod_keepDraft_L28 : Nat → Int32 → Mem → Option Mem
  | 0, _, _ => none
  | n + 1, x1, M =>
    if 32 ≤ x1 then
      f_Mod_keepDraft_L54 1000 0 M
    else
    ck (inb x1 32) <|
    ck (inb x1 32) <|
    setM M 106 (ix x1) (M 109 (ix x1)) fun M4 =>
    f_Mod_keepDraft_L28 n (x1 + 1) M4
def f_Mod_keepDraft_L2 : Nat → Int32 → Mem → Option Mem
  | 0, _, _ => none
  | n + 1, x1, M =>
    if 125 ≤ x1 then
      f_Mod_keepDraft_L28 1000 0 M
    else
    ck (inb x1 125) <|
    ck (inb x1 375) <|
    setM M 104 (ix x1) (M 108 (ix x1)) fun M4 =>
    f_Mod_keepDraft_L2 n (x1 + 1) M4
def f_Mod_keepDraft (M : Mem) : Option Mem :=
  f_Mod_keepDraft_L2 1000 0 M
def f_Mod_feed_L19 : Nat → Int64 → Int32 → Mem → Option (Int32 × Mem)
  | 0, _, _, _ => none
  | n + 1, x1, x3, M =>
    if x3 < 0 then
      some (M 103 22, M)
    else
    ck (inb (M 103 22) 320) <|
    setM M 112 (ix (M 103 22)) (((jlshr x1 x3) &&& 255).toInt32) fun M3 =>
    setM M3 103 22 ((M3 103 22) + 1) fun M4 =>
    f_Mod_feed_L19 n x1 (x3 + (-8)) M4
def f_Mod_feed (x1 : Int64) (M : Mem) : Option (Int32 × Mem) :=
  if (M 103 22) + 8 ≤ 320 then
    f_Mod_feed_L19 1000 x1 56 M
  else
  some ((-3), M)
def f_Mod_end (x1 : Int32) (M : Mem) : Option (Int32 × Mem) :=
  bnd (f_Mod_in x1.toInt64 0 ((M 103 22).toInt64)) fun v2 =>
  if v2 = 0 then
    some ((-1), M)
  else
  nmI (M 103 22) fun w4 =>
  setM M 103 22 x1 fun M5 =>
  some (w4, M5)
def f_Mod_needs (x1 : Int32) (x2 : Int32) (M : Mem) : Option Mem :=
  if x1 = 0 then
    if M 103 27 = 0 then
      setM M 103 27 x2 fun M3 =>
      setM M3 103 28 (M3 103 24) fun M4 =>
      some M4
    else
    some M
  else
  some M
def f_Mod_look (M : Mem) (x1 : Int32)  : Option Int32 :=
  if M 103 22 ≤ x1 then
    some (-1)
  else
  ck (inb x1 320) <|
  some (M 112 (ix x1))
def f_Mod_is (M : Mem) (x1 : Int32) (x2 : Int32) (x3 : Int32) (x4 : Int32) (x5 : Int32)  : Option Int32 :=
  if (M 103 23) - (M 103 24) = x1 then
    bnd (f_Mod_look M (M 103 24)) fun v3 =>
    if v3 = x2 then
      bnd (f_Mod_look M ((M 103 24) + 1)) fun v6 =>
      if v6 = x3 then
        bnd (f_Mod_look M ((M 103 24) + 2)) fun v9 =>
        if v9 = x4 then
          if x1 < 4 then
            some 1
          else
          bnd (f_Mod_look M ((M 103 24) + 3)) fun v13 =>
          if v13 = x5 then
            some 1
          else
          some 0
        else
        some 0
      else
      some 0
    else
    some 0
  else
  some 0
def f_Mod_ends (M : Mem) (x1 : Int32) (x2 : Int32) (x3 : Int32) (x4 : Int32)  : Option Int32 :=
  bnd (f_Mod_look M ((M 103 24) + x1)) fun v2 =>
  if v2 = x2 then
    bnd (f_Mod_look M (((M 103 24) + x1) + 1)) fun v5 =>
    if v5 = x3 then
      if x4 = 0 then
        some 1
      else
      bnd (f_Mod_look M (((M 103 24) + x1) + 2)) fun v9 =>
      if v9 = x4 then
        some 1
      else
      some 0
    else
    some 0
  else
  some 0
def f_Mod_ruleNow_J68 (M : Mem)  : Option Int32 :=
  bnd (f_Mod_is M 4 119 97 114 109) fun v2 =>
  if v2 = 0 then
    bnd (f_Mod_is M 6 112 101 111 112) fun v5 =>
    if v5 = 0 then
      some (-4)
    else
    bnd (f_Mod_ends M 4 108 101 0) fun v8 =>
    if v8 = 0 then
      some (-4)
    else
    some 4
  else
  some 3
def f_Mod_ruleNow (M : Mem)   : Option Int32 :=
  bnd (f_Mod_is M 4 104 97 108 108) fun v2 =>
  if v2 = 0 then
    bnd (f_Mod_is M 4 102 97 100 101) fun v5 =>
    if v5 = 0 then
      bnd (f_Mod_is M 6 98 111 117 110) fun v8 =>
      if v8 = 0 then
        f_Mod_ruleNow_J68 M
      else
      bnd (f_Mod_ends M 4 99 101 0) fun v11 =>
      if v11 = 0 then
        f_Mod_ruleNow_J68 M
      else
      some 2
    else
    some 1
  else
  some 0
def f_Mod_nameNow_J173 (M : Mem)  : Option Int32 :=
  bnd (f_Mod_ruleNow M) fun v2 =>
  some v2
def f_Mod_nameNow_J100 (M : Mem)  : Option Int32 :=
  bnd (f_Mod_is M 4 106 111 105 110) fun v2 =>
  if v2 = 0 then
    bnd (f_Mod_is M 3 98 97 114 0) fun v5 =>
    if v5 = 0 then
      bnd (f_Mod_is M 7 119 104 105 115) fun v8 =>
      if v8 = 0 then
        f_Mod_nameNow_J173 M
      else
      bnd (f_Mod_ends M 4 112 101 114) fun v11 =>
      if v11 = 0 then
        f_Mod_nameNow_J173 M
      else
      some 10
    else
    some 9
  else
  some 8
def f_Mod_nameNow_J66 (M : Mem)  : Option Int32 :=
  bnd (f_Mod_is M 7 99 117 114 116) fun v2 =>
  if v2 = 0 then
    f_Mod_nameNow_J100 M
  else
  bnd (f_Mod_ends M 4 97 105 110) fun v5 =>
  if v5 = 0 then
    f_Mod_nameNow_J100 M
  else
  some 7
def f_Mod_nameNow_J33 (M : Mem)  : Option Int32 :=
  bnd (f_Mod_is M 6 112 105 108 108) fun v2 =>
  if v2 = 0 then
    f_Mod_nameNow_J66 M
  else
  bnd (f_Mod_ends M 4 97 114 0) fun v5 =>
  if v5 = 0 then
    f_Mod_nameNow_J66 M
  else
  some 6
def f_Mod_nameNow (M : Mem)   : Option Int32 :=
  bnd (f_Mod_is M 5 98 101 110 99) fun v2 =>
  if v2 = 0 then
    f_Mod_nameNow_J33 M
  else
  bnd (f_Mod_look M ((M 103 24) + 4)) fun v5 =>
  if v5 = 104 then
    some 5
  else
  f_Mod_nameNow_J33 M
def f_Mod_kindNow_J129 (M : Mem)  : Option Int32 :=
  bnd (f_Mod_is M 9 108 105 115 116) fun v2 =>
  if v2 = 0 then
    some (-4)
  else
  bnd (f_Mod_ends M 4 101 110 105) fun v5 =>
  if v5 = 0 then
    some (-4)
  else
  bnd (f_Mod_ends M 7 110 103 0) fun v8 =>
  if v8 = 0 then
    some (-4)
  else
  some 4
def f_Mod_kindNow_J97 (M : Mem)  : Option Int32 :=
  bnd (f_Mod_is M 6 114 97 105 115) fun v2 =>
  if v2 = 0 then
    f_Mod_kindNow_J129 M
  else
  bnd (f_Mod_ends M 4 101 100 0) fun v5 =>
  if v5 = 0 then
    f_Mod_kindNow_J129 M
  else
  some 3
def f_Mod_kindNow_J65 (M : Mem)  : Option Int32 :=
  bnd (f_Mod_is M 6 109 111 118 105) fun v2 =>
  if v2 = 0 then
    f_Mod_kindNow_J97 M
  else
  bnd (f_Mod_ends M 4 110 103 0) fun v5 =>
  if v5 = 0 then
    f_Mod_kindNow_J97 M
  else
  some 2
def f_Mod_kindNow_J33 (M : Mem)  : Option Int32 :=
  bnd (f_Mod_is M 6 116 117 114 110) fun v2 =>
  if v2 = 0 then
    f_Mod_kindNow_J65 M
  else
  bnd (f_Mod_ends M 4 101 100 0) fun v5 =>
  if v5 = 0 then
    f_Mod_kindNow_J65 M
  else
  some 1
def f_Mod_kindNow (M : Mem)   : Option Int32 :=
  bnd (f_Mod_is M 5 112 108 97 105) fun v2 =>
  if v2 = 0 then
    f_Mod_kindNow_J33 M
  else
  bnd (f_Mod_look M ((M 103 24) + 4)) fun v5 =>
  if v5 = 110 then
    some 0
  else
  f_Mod_kindNow_J33 M
def f_Mod_next_J260 (s1 : Int32) (M : Mem) : Option Mem :=
  bnd (f_Mod_needs s1 1 M) fun M2 =>
  setM M2 103 23 ((M2 103 23) + 1) fun M3 =>
  some M3
def f_Mod_next_J236 (s1 : Int32) (M : Mem) : Option Mem :=
  bnd (f_Mod_needs s1 1 M) fun M2 =>
  some M2
def f_Mod_next_J201 (k140 : Mem → Option Mem)   (s1 : Int32) (M : Mem) : Option Mem :=
  setM M 103 26 s1 fun M1 =>
  setM M1 103 23 ((M1 103 23) + 1) fun M2 =>
  k140 M2
def f_Mod_next_L140 : Nat → Mem → Option Mem
  | 0, _ => none
  | n + 1, M =>
    bnd (f_Mod_look M (M 103 23)) fun v2 =>
    bnd (f_Mod_in v2.toInt64 48 57) fun v4 =>
    if v4 = 0 then
      if 3 < (M 103 23) - (M 103 24) then
        f_Mod_next_J236 0 M
      else
      f_Mod_next_J236 1 M
    else
    if 3 ≤ (M 103 23) - (M 103 24) then
      f_Mod_next_J201 (f_Mod_next_L140 n) (M 103 26) M
    else
    bnd (f_Mod_look M (M 103 23)) fun v9 =>
    f_Mod_next_J201 (f_Mod_next_L140 n) (((10 * (M 103 26)) + v9) - 48) M
def f_Mod_next_L82 : Nat → Mem → Option Mem
  | 0, _ => none
  | n + 1, M =>
    bnd (f_Mod_look M (M 103 23)) fun v2 =>
    bnd (f_Mod_in v2.toInt64 97 122) fun v4 =>
    if v4 = 0 then
      some M
    else
    setM M 103 23 ((M 103 23) + 1) fun M6 =>
    f_Mod_next_L82 n M6
def f_Mod_next_L8 : Nat → Mem → Option Mem
  | 0, _ => none
  | n + 1, M =>
    bnd (f_Mod_look M (M 103 23)) fun v2 =>
    if v2 = 32 then
      setM M 103 23 ((M 103 23) + 1) fun M20 =>
      f_Mod_next_L8 n M20
    else
    setM M 103 24 (M 103 23) fun M4 =>
    bnd (f_Mod_look M4 (M4 103 23)) fun v6 =>
    if 0 ≤ v6 then
      bnd (f_Mod_in v6.toInt64 97 122) fun v9 =>
      if v9 = 0 then
        bnd (f_Mod_in v6.toInt64 48 57) fun v12 =>
        if v12 = 0 then
          setM M4 103 25 3 fun M14 =>
          if v6 = 59 then
            f_Mod_next_J260 1 M14
          else
          f_Mod_next_J260 0 M14
        else
        setM M4 103 25 2 fun M16 =>
        setM M16 103 26 0 fun M17 =>
        f_Mod_next_L140 1000 M17
      else
      setM M4 103 25 1 fun M18 =>
      f_Mod_next_L82 1000 M18
    else
    setM M4 103 25 0 fun M19 =>
    some M19
def f_Mod_next (M : Mem) : Option Mem :=
  if M 103 27 ≤ 0 then
    f_Mod_next_L8 1000 M
  else
  some M
def f_Mod_looked_J49 (M : Mem) : Option (Int32 × Mem) :=
  if M 103 27 = 0 then
    some (M 103 26, M)
  else
  some (0, M)
def f_Mod_looked_J25 (x1 : Int32) (x2 : Int32) (M : Mem) : Option (Int32 × Mem) :=
  if M 103 27 = 0 then
    bnd (f_Mod_in ((M 103 26).toInt64) x1.toInt64 x2.toInt64) fun v3 =>
    bnd (f_Mod_needs v3 3 M) fun M5 =>
    f_Mod_looked_J49 M5
  else
  f_Mod_looked_J49 M
def f_Mod_looked_J21 (x1 : Int32) (x2 : Int32) (s1 : Int32) (M : Mem) : Option (Int32 × Mem) :=
  bnd (f_Mod_needs s1 2 M) fun M2 =>
  f_Mod_looked_J25 x1 x2 M2
def f_Mod_looked (x1 : Int32) (x2 : Int32) (M : Mem) : Option (Int32 × Mem) :=
  if M 103 27 = 0 then
    if M 103 25 = 2 then
      f_Mod_looked_J21 x1 x2 1 M
    else
    f_Mod_looked_J21 x1 x2 0 M
  else
  f_Mod_looked_J25 x1 x2 M
def f_Mod_readNumber (x1 : Int32) (x2 : Int32) (M : Mem) : Option (Int32 × Mem) :=
  bnd2 (f_Mod_looked x1 x2 M) fun v2 M3 =>
  bnd (f_Mod_next M3) fun M5 =>
  some (v2, M5)
def f_Mod_readCell_J92 (x2 : Int32) (x3 : Int32) (s1 : Int32) (M : Mem) : Option (Int32 × Mem) :=
  setM M 103 19 s1 fun M1 =>
  some ((9 * x3) + x2, M1)
def f_Mod_readCell_J72 (x2 : Int32) (x3 : Int32) (s1 : Int32) (M : Mem) : Option (Int32 × Mem) :=
  setM M 103 18 s1 fun M1 =>
  if x3 ≤ M1 103 19 then
    f_Mod_readCell_J92 x2 x3 (M1 103 19) M1
  else
  f_Mod_readCell_J92 x2 x3 x3 M1
def f_Mod_readCell_J51 (x2 : Int32) (x3 : Int32) (M : Mem) : Option (Int32 × Mem) :=
  bnd (f_Mod_next M) fun M2 =>
  if x2 ≤ M2 103 18 then
    f_Mod_readCell_J72 x2 x3 (M2 103 18) M2
  else
  f_Mod_readCell_J72 x2 x3 x2 M2
def f_Mod_readCell_J47 (x2 : Int32) (x3 : Int32) (s1 : Int32) (M : Mem) : Option (Int32 × Mem) :=
  bnd (f_Mod_needs s1 4 M) fun M2 =>
  f_Mod_readCell_J51 x2 x3 M2
def f_Mod_readCell (x1 : Int32) (M : Mem) : Option (Int32 × Mem) :=
  bnd2 (f_Mod_readNumber 0 8 M) fun v2 M3 =>
  bnd2 (f_Mod_looked 0 8 M3) fun v5 M6 =>
  if M6 103 27 = 0 then
    if x1 = 0 then
      f_Mod_readCell_J51 v2 v5 M6
    else
    ck (inb ((9 * v5) + v2) 125) <|
    if M6 108 (ix ((9 * v5) + v2)) = 0 then
      f_Mod_readCell_J47 v2 v5 1 M6
    else
    f_Mod_readCell_J47 v2 v5 0 M6
  else
  f_Mod_readCell_J51 v2 v5 M6
def f_Mod_readOne_J50 (x2 : Int32) (s1 : Int32) (M : Mem) : Option (Int32 × Mem) :=
  setM M 103 17 s1 fun M1 =>
  some (x2, M1)
def f_Mod_readOne_J29 (x2 : Int32) (M : Mem) : Option (Int32 × Mem) :=
  bnd (f_Mod_next M) fun M2 =>
  if x2 ≤ M2 103 17 then
    f_Mod_readOne_J50 x2 (M2 103 17) M2
  else
  f_Mod_readOne_J50 x2 x2 M2
def f_Mod_readOne_J25 (x2 : Int32) (s1 : Int32) (M : Mem) : Option (Int32 × Mem) :=
  bnd (f_Mod_needs s1 4 M) fun M2 =>
  f_Mod_readOne_J29 x2 M2
def f_Mod_readOne (x1 : Int32) (M : Mem) : Option (Int32 × Mem) :=
  bnd2 (f_Mod_looked 0 5 M) fun v2 M3 =>
  if M3 103 27 = 0 then
    if v2 = x1 then
      f_Mod_readOne_J25 v2 0 M3
    else
    f_Mod_readOne_J25 v2 1 M3
  else
  f_Mod_readOne_J29 v2 M3
def f_Mod_readBench_J106 (M : Mem) : Option Mem :=
  setM M 103 15 ((M 103 15) + 1) fun M1 =>
  some M1
def f_Mod_readBench_J89 (x1 : Int32) (x2 : Int32) (s1 : Int32) (M : Mem) : Option Mem :=
  bnd (f_Mod_needs s1 2 M) fun M2 =>
  ck (inb (x1 + 3) 32) <|
  setM M2 109 (ix (x1 + 3)) x2 fun M4 =>
  bnd (f_Mod_next M4) fun M6 =>
  f_Mod_readBench_J106 M6
def f_Mod_readBench (M : Mem) : Option Mem :=
  nmI (4 * (M 103 15)) fun w1 =>
  bnd2 (f_Mod_readCell 0 M) fun v3 M4 =>
  ck (inb w1 32) <|
  setM M4 109 (ix w1) v3 fun M6 =>
  bnd2 (f_Mod_readNumber 0 7 M6) fun v8 M9 =>
  ck (inb (w1 + 1) 32) <|
  setM M9 109 (ix (w1 + 1)) v8 fun M11 =>
  bnd2 (f_Mod_readNumber 1 100 M11) fun v13 M14 =>
  ck (inb (w1 + 2) 32) <|
  setM M14 109 (ix (w1 + 2)) v13 fun M16 =>
  ck (inb (w1 + 3) 32) <|
  setM M16 109 (ix (w1 + 3)) 0 fun M18 =>
  if M18 103 27 = 0 then
    if M18 103 25 = 1 then
      bnd (f_Mod_kindNow M18) fun v22 =>
      if v22 = (-4) then
        f_Mod_readBench_J89 w1 v22 0 M18
      else
      f_Mod_readBench_J89 w1 v22 1 M18
    else
    f_Mod_readBench_J106 M18
  else
  f_Mod_readBench_J106 M18
def f_Mod_readWant (x1 : Int32) (M : Mem) : Option Mem :=
  nmI (3 * (M 103 16)) fun w1 =>
  bnd2 (f_Mod_readOne (-4) M) fun v3 M4 =>
  ck (inb w1 24) <|
  setM M4 110 (ix w1) v3 fun M6 =>
  ck (inb w1 24) <|
  bnd2 (f_Mod_readOne (M6 110 (ix w1)) M6) fun v9 M10 =>
  ck (inb (w1 + 1) 24) <|
  setM M10 110 (ix (w1 + 1)) v9 fun M12 =>
  ck (inb (w1 + 2) 24) <|
  setM M12 110 (ix (w1 + 2)) x1 fun M14 =>
  setM M14 103 16 ((M14 103 16) + 1) fun M15 =>
  some M15
def f_Mod_readWhisper_J37 (x1 : Int32) (x2 : Int32) (s1 : Int32) (s3 : Int32) (M : Mem) : Option Mem :=
  bnd2 (f_Mod_readNumber s3 11 M) fun v2 M3 =>
  ck (inb s1 125) <|
  setM M3 108 (ix s1) v2 fun M5 =>
  bnd2 (f_Mod_readOne (-4) M5) fun v7 M8 =>
  ck (inb (x2 + 1) 125) <|
  setM M8 108 (ix (x2 + 1)) v7 fun M10 =>
  bnd2 (f_Mod_readNumber 0 7 M10) fun v12 M13 =>
  ck (inb (x2 + 2) 125) <|
  setM M13 108 (ix (x2 + 2)) v12 fun M15 =>
  setM M15 108 (ix 88) (x1 + 1) fun M16 =>
  some M16
def f_Mod_readWhisper (M : Mem) : Option Mem :=
  nmI (M 108 (ix 88)) fun w1 =>
  nmI (89 + (3 * w1)) fun w2 =>
  if w1 = 0 then
    f_Mod_readWhisper_J37 w1 w2 w2 0 M
  else
  ck (inb (w2 - 3) 125) <|
  f_Mod_readWhisper_J37 w1 w2 w2 (M 108 (ix (w2 - 3))) M
def f_Mod_readLineOf_J217 (s1 : Int32) (M : Mem) : Option Mem :=
  bnd (f_Mod_flag s1) fun v2 =>
  bnd (f_Mod_readWant v2 M) fun M4 =>
  some M4
def f_Mod_readLineOf_J205 (x1 : Int32) (M : Mem) : Option Mem :=
  if x1 = 8 then
    f_Mod_readLineOf_J217 1 M
  else
  f_Mod_readLineOf_J217 0 M
def f_Mod_readLineOf_J183 (x1 : Int32) (x2 : Int32) (M : Mem) : Option Mem :=
  ck (inb x2 125) <|
  setM M 108 (ix x2) ((x1 - 6) + 1) fun M2 =>
  some M2
def f_Mod_readLineOf_J161 (x1 : Int32) (M : Mem) : Option Mem :=
  bnd2 (f_Mod_readCell 1 M) fun v2 M3 =>
  if M3 103 27 = 0 then
    f_Mod_readLineOf_J183 x1 v2 M3
  else
  ck (inb v2 125) <|
  if M3 108 (ix v2) = 0 then
    f_Mod_readLineOf_J183 x1 v2 M3
  else
  some M3
def f_Mod_readLineOf (x1 : Int32) (M : Mem) : Option Mem :=
  if x1 = 0 then
    bnd2 (f_Mod_readNumber 3 9 M) fun v3 M4 =>
    setM M4 111 (ix 0) v3 fun M5 =>
    bnd2 (f_Mod_readNumber 3 9 M5) fun v7 M8 =>
    setM M8 111 (ix 1) v7 fun M9 =>
    some M9
  else if x1 = 1 then
    bnd2 (f_Mod_readNumber 0 20 M) fun v12 M13 =>
    setM M13 111 (ix 2) v12 fun M14 =>
    some M14
  else if x1 = 2 then
    bnd2 (f_Mod_readNumber 0 50 M) fun v17 M18 =>
    setM M18 111 (ix 3) v17 fun M19 =>
    some M19
  else if x1 = 3 then
    bnd2 (f_Mod_readNumber 0 9 M) fun v22 M23 =>
    setM M23 108 (ix 81) v22 fun M24 =>
    some M24
  else if x1 = 4 then
    bnd2 (f_Mod_readNumber 0 6 M) fun v27 M28 =>
    setM M28 111 (ix 4) v27 fun M29 =>
    some M29
  else if x1 = 5 then
    bnd (f_Mod_readBench M) fun M32 =>
    some M32
  else if x1 = 6 then
    f_Mod_readLineOf_J161 x1 M
  else if x1 = 7 then
    f_Mod_readLineOf_J161 x1 M
  else if x1 = 8 then
    f_Mod_readLineOf_J205 x1 M
  else if x1 = 9 then
    f_Mod_readLineOf_J205 x1 M
  else if x1 = 10 then
    bnd (f_Mod_readWhisper M) fun M39 =>
    some M39
  else
  f_Mod_readLineOf_J205 x1 M
def f_Mod_readLine_J184 (M : Mem) : Option Mem :=
  bnd (f_Mod_next M) fun M2 =>
  some M2
def f_Mod_readLine_J180 (s1 : Int32) (M : Mem) : Option Mem :=
  bnd (f_Mod_needs s1 2 M) fun M2 =>
  f_Mod_readLine_J184 M2
def f_Mod_readLine_J142 (x1 : Int32) (M : Mem) : Option Mem :=
  bnd (f_Mod_next M) fun M2 =>
  if M2 103 27 ≤ 0 then
    bnd (f_Mod_readLineOf x1 M2) fun M5 =>
    if M5 103 27 = 0 then
      if M5 103 25 = 3 then
        f_Mod_readLine_J180 1 M5
      else
      f_Mod_readLine_J180 0 M5
    else
    f_Mod_readLine_J184 M5
  else
  some M2
def f_Mod_readLine_J126 (x1 : Int32) (s1 : Int32) (M : Mem) : Option Mem :=
  bnd (f_Mod_needs s1 4 M) fun M2 =>
  setM M2 103 20 ((M2 103 20) ||| (jshl 1 x1)) fun M3 =>
  f_Mod_readLine_J142 x1 M3
def f_Mod_readLine_J93 (x1 : Int32) (s1 : Int32) (M : Mem) : Option Mem :=
  bnd (f_Mod_needs s1 5 M) fun M2 =>
  if M2 103 27 = 0 then
    if 5 ≤ x1 then
      f_Mod_readLine_J142 x1 M2
    else
    if (jshr (M2 103 20) x1) &&& 1 = 0 then
      f_Mod_readLine_J126 x1 1 M2
    else
    f_Mod_readLine_J126 x1 0 M2
  else
  f_Mod_readLine_J142 x1 M2
def f_Mod_readLine_J92 (x1 : Int32) (M : Mem) : Option Mem :=
  f_Mod_readLine_J93 x1 0 M
def f_Mod_readLine_J88 (x1 : Int32) (M : Mem) : Option Mem :=
  f_Mod_readLine_J93 x1 1 M
def f_Mod_readLine_J70 (x1 : Int32) (M : Mem) : Option Mem :=
  if x1 = 10 then
    if 12 ≤ M 108 (ix 88) then
      f_Mod_readLine_J92 x1 M
    else
    f_Mod_readLine_J88 x1 M
  else
  f_Mod_readLine_J88 x1 M
def f_Mod_readLine_J61 (x1 : Int32) (M : Mem) : Option Mem :=
  if 8 ≤ M 103 16 then
    f_Mod_readLine_J92 x1 M
  else
  f_Mod_readLine_J70 x1 M
def f_Mod_readLine_J49 (x1 : Int32) (M : Mem) : Option Mem :=
  if x1 = 8 then
    f_Mod_readLine_J61 x1 M
  else
  if x1 = 9 then
    f_Mod_readLine_J61 x1 M
  else
  f_Mod_readLine_J70 x1 M
def f_Mod_readLine_J30 (x1 : Int32) (s1 : Int32) (M : Mem) : Option Mem :=
  bnd (f_Mod_needs s1 2 M) fun M2 =>
  if x1 = 5 then
    if 8 ≤ M2 103 15 then
      f_Mod_readLine_J92 x1 M2
    else
    f_Mod_readLine_J49 x1 M2
  else
  f_Mod_readLine_J49 x1 M2
def f_Mod_readLine_J17 (s0 : Int32) (M : Mem) : Option Mem :=
  if s0 = (-4) then
    f_Mod_readLine_J30 s0 0 M
  else
  f_Mod_readLine_J30 s0 1 M
def f_Mod_readLine (M : Mem) : Option Mem :=
  if M 103 25 = 1 then
    bnd (f_Mod_nameNow M) fun v3 =>
    f_Mod_readLine_J17 v3 M
  else
  f_Mod_readLine_J17 (-4) M
def f_Mod_areFree_L4 (M : Mem) : Nat → Int32 → Int32 → Option Int32
  | 0, _, _ => none
  | n + 1, x1, x2 =>
    if M 103 15 ≤ x2 then
      ck (isB x1) <|
      some x1
    else
    if x1 = 0 then
      f_Mod_areFree_L4 M n 0 (x2 + 1)
    else
    ck (inb (4 * x2) 32) <|
    ck (inb (M 109 (ix (4 * x2))) 125) <|
    if M 108 (ix (M 109 (ix (4 * x2)))) = 0 then
      f_Mod_areFree_L4 M n 1 (x2 + 1)
    else
    f_Mod_areFree_L4 M n 0 (x2 + 1)
def f_Mod_areFree (M : Mem)   : Option Int32 :=
  f_Mod_areFree_L4 M 1000 1 0
def f_Mod_text_J120 (x1 : Int32) (M : Mem) : Option (Int32 × Mem) :=
  setM M 103 22 0 fun M1 =>
  if M1 103 27 ≤ 0 then
    bnd (f_Mod_keepDraft M1) fun M4 =>
    some (x1, M4)
  else
  some ((-10) - (M1 103 28), M1)
def f_Mod_text_J105 (x1 : Int32) (s1 : Int32) (M : Mem) : Option (Int32 × Mem) :=
  bnd (f_Mod_needs s1 6 M) fun M2 =>
  bnd (f_Mod_areFree M2) fun v4 =>
  bnd (f_Mod_needs v4 7 M2) fun M6 =>
  f_Mod_text_J120 x1 M6
def f_Mod_text_J104 (x1 : Int32) (M : Mem) : Option (Int32 × Mem) :=
  f_Mod_text_J105 x1 0 M
def f_Mod_text_J44 (x1 : Int32) (M : Mem) : Option (Int32 × Mem) :=
  if M 103 27 = 0 then
    if M 111 (ix 0) ≤ M 103 18 then
      f_Mod_text_J104 x1 M
    else
    if M 111 (ix 1) ≤ M 103 19 then
      f_Mod_text_J104 x1 M
    else
    bnd (f_Mod_dPeople M) fun v5 =>
    if v5 ≤ M 103 17 then
      f_Mod_text_J104 x1 M
    else
    bnd (f_Mod_dPeople M) fun v8 =>
    if M 103 15 < v8 then
      f_Mod_text_J104 x1 M
    else
    f_Mod_text_J105 x1 1 M
  else
  f_Mod_text_J120 x1 M
def f_Mod_text_L20 : Nat → Int32 → Mem → Option (Int32 × Mem)
  | 0, _, _ => none
  | n + 1, x1, M =>
    if M 103 27 = 0 then
      if M 103 25 = 0 then
        f_Mod_text_J44 x1 M
      else
      bnd (f_Mod_readLine M) fun M4 =>
      f_Mod_text_L20 n (x1 + 1) M4
    else
    f_Mod_text_J44 x1 M
def f_Mod_text (M : Mem) : Option (Int32 × Mem) :=
  setM M 103 27 0 fun M1 =>
  setM M1 103 23 0 fun M2 =>
  bnd (f_Mod_firstDraft M2) fun M4 =>
  bnd (f_Mod_next M4) fun M6 =>
  f_Mod_text_L20 1000 0 M6
def f_Mod_fault (M : Mem)   : Option Int32 :=
  some (M 103 27)
def f_Mod_rule (M : Mem) (x1 : Int32)  : Option Int32 :=
  if x1 = 0 then
    some (M 103 2)
  else if x1 = 1 then
    some (M 103 3)
  else if x1 = 2 then
    some (M 103 4)
  else if x1 = 3 then
    some (M 103 5)
  else if x1 = 4 then
    some (M 104 (ix 81))
  else
  some (-1)
def f_Mod_isCell (M : Mem) (x1 : Int32)  : Option Int32 :=
  bnd (f_Mod_in x1.toInt64 0 80) fun v2 =>
  if v2 = 0 then
    some 0
  else
  if M 103 2 ≤ jrem x1 9 then
    some 0
  else
  if M 103 3 ≤ x1 / 9 then
    some 0
  else
  some 1
def f_Mod_isBench (M : Mem) (x1 : Int32)  : Option Int32 :=
  bnd (f_Mod_in x1.toInt64 0 (((M 103 6) - 1).toInt64)) fun v2 =>
  ck (isB v2) <|
  some v2
def f_Mod_isOne (M : Mem) (x1 : Int32)  : Option Int32 :=
  bnd (f_Mod_in x1.toInt64 0 (((M 103 7) - 1).toInt64)) fun v2 =>
  ck (isB v2) <|
  some v2
def f_Mod_isHour (x0 : Int32)  : Option Int32 :=
  bnd (f_Mod_in x0.toInt64 0 11) fun v2 =>
  ck (isB v2) <|
  some v2
def f_Mod_cell (M : Mem) (x1 : Int32)  : Option Int32 :=
  bnd (f_Mod_isCell M x1) fun v2 =>
  if v2 = 0 then
    some (-1)
  else
  ck (inb x1 375) <|
  some (M 104 (ix x1))
def f_Mod_kindOf (M : Mem) (x1 : Int32)  : Option Int32 :=
  ck (inb ((4 * x1) + 3) 32) <|
  some (M 106 (ix ((4 * x1) + 3)))
def f_Mod_cellOf (M : Mem) (x1 : Int32) (x2 : Int32)  : Option Int32 :=
  ck (inb (4 * x1) 32) <|
  nmI (M 106 (ix (4 * x1))) fun w2 =>
  bnd (f_Mod_kindOf M x1) fun v4 =>
  if v4 = 2 then
    if M 103 2 = 0 then none else
    some ((w2 - (jrem w2 9)) + (jrem ((jrem w2 9) + x2) (M 103 2)))
  else
  some w2
def f_Mod_facingOf (M : Mem) (x1 : Int32) (x2 : Int32)  : Option Int32 :=
  bnd (f_Mod_kindOf M x1) fun v2 =>
  bnd (f_Mod_in v2.toInt64 1 2) fun v4 =>
  if v4 = 0 then
    ck (inb ((4 * x1) + 1) 32) <|
    some (M 106 (ix ((4 * x1) + 1)))
  else
  ck (inb ((4 * x1) + 1) 32) <|
  some (jrem ((M 106 (ix ((4 * x1) + 1))) + x2) 8)
def f_Mod_earOf (M : Mem) (x1 : Int32)  : Option Int32 :=
  ck (inb ((4 * x1) + 2) 32) <|
  nmI ((M 106 (ix ((4 * x1) + 2))) / 2) fun w2 =>
  bnd (f_Mod_kindOf M x1) fun v4 =>
  if v4 = 4 then
    if w2 ≤ 1 then
      some 1
    else
    some w2
  else
  ck (inb ((4 * x1) + 2) 32) <|
  some (M 106 (ix ((4 * x1) + 2)))
def f_Mod_whoOn_L5 (M : Mem) : Nat → Int32 → Int32 → Int32 → Option Int32
  | 0, _, _, _ => none
  | n + 1, x1, x2, x3 =>
    if M 103 7 ≤ x3 then
      some x2
    else
    ck (inb (82 + x3) 375) <|
    if M 104 (ix (82 + x3)) = x1 then
      f_Mod_whoOn_L5 M n x1 x3 (x3 + 1)
    else
    f_Mod_whoOn_L5 M n x1 x2 (x3 + 1)
def f_Mod_whoOn (M : Mem) (x1 : Int32)  : Option Int32 :=
  f_Mod_whoOn_L5 M 1000 x1 (-4) 0
def f_Mod_bench (M : Mem) (x1 : Int32) (x2 : Int32) (x3 : Int32)  : Option Int32 :=
  bnd (f_Mod_isBench M x1) fun v2 =>
  if v2 = 0 then
    some (-1)
  else
  bnd (f_Mod_isHour x2) fun v5 =>
  if v5 = 0 then
    some (-1)
  else
  if x3 = 0 then
    bnd (f_Mod_cellOf M x1 x2) fun v9 =>
    some v9
  else if x3 = 1 then
    bnd (f_Mod_facingOf M x1 x2) fun v12 =>
    some v12
  else if x3 = 2 then
    bnd (f_Mod_earOf M x1) fun v15 =>
    some v15
  else if x3 = 3 then
    bnd (f_Mod_kindOf M x1) fun v18 =>
    some v18
  else if x3 = 4 then
    bnd (f_Mod_whoOn M x1) fun v21 =>
    some v21
  else
  some (-1)
def f_Mod_want (M : Mem) (x1 : Int32) (x2 : Int32)  : Option Int32 :=
  bnd (f_Mod_in x1.toInt64 0 (((M 103 8) - 1).toInt64)) fun v2 =>
  if v2 = 0 then
    some (-1)
  else
  bnd (f_Mod_in x2.toInt64 0 2) fun v5 =>
  if v5 = 0 then
    some (-1)
  else
  ck (inb ((3 * x1) + x2) 24) <|
  some (M 107 (ix ((3 * x1) + x2)))
def f_Mod_hang_L24 : Nat → Int32 → Int32 → Int32 → Mem → Option (Int32 × Mem)
  | 0, _, _, _, _ => none
  | n + 1, x1, x2, x3, M =>
    if M 103 6 ≤ x3 then
      ck (inb x1 375) <|
      nmI (M 104 (ix x1)) fun w3 =>
      ck (inb x1 375) <|
      setM M 104 (ix x1) x2 fun M5 =>
      some (w3, M5)
    else
    ck (inb (4 * x3) 32) <|
    if M 106 (ix (4 * x3)) = x1 then
      if x2 ≤ 0 then
        f_Mod_hang_L24 n x1 x2 (x3 + 1) M
      else
      some ((-2), M)
    else
    f_Mod_hang_L24 n x1 x2 (x3 + 1) M
def f_Mod_hang (x1 : Int32) (x2 : Int32) (M : Mem) : Option (Int32 × Mem) :=
  bnd (f_Mod_isCell M x1) fun v2 =>
  if v2 = 0 then
    some ((-1), M)
  else
  bnd (f_Mod_in x2.toInt64 0 2) fun v5 =>
  if v5 = 0 then
    some ((-1), M)
  else
  f_Mod_hang_L24 1000 x1 x2 0 M
def f_Mod_warm (x1 : Int32) (M : Mem) : Option (Int32 × Mem) :=
  bnd (f_Mod_in x1.toInt64 0 9) fun v2 =>
  if v2 = 0 then
    some ((-1), M)
  else
  nmI (M 104 (ix 81)) fun w4 =>
  setM M 104 (ix 81) x1 fun M5 =>
  some (w4, M5)
def f_Mod_sit_J53 (x1 : Int32) (x2 : Int32) (x3 : Int32) (M : Mem) : Option (Int32 × Mem) :=
  ck (inb (82 + x1) 375) <|
  setM M 104 (ix (82 + x1)) x2 fun M2 =>
  some (x3, M2)
def f_Mod_sit (x1 : Int32) (x2 : Int32) (M : Mem) : Option (Int32 × Mem) :=
  bnd (f_Mod_isOne M x1) fun v2 =>
  if v2 = 0 then
    some ((-1), M)
  else
  bnd (f_Mod_isBench M x2) fun v5 =>
  if v5 = 0 then
    some ((-1), M)
  else
  ck (inb (82 + x1) 375) <|
  nmI (M 104 (ix (82 + x1))) fun w8 =>
  bnd (f_Mod_whoOn M x2) fun v10 =>
  if v10 = (-4) then
    f_Mod_sit_J53 x1 x2 w8 M
  else
  ck (inb (82 + v10) 375) <|
  setM M 104 (ix (82 + v10)) w8 fun M13 =>
  f_Mod_sit_J53 x1 x2 w8 M13
def f_Mod_rightOf (x0 : Int32)  : Option Int32 :=
  bnd (f_Mod_in x0.toInt64 1 3) fun v2 =>
  if v2 = 0 then
    bnd (f_Mod_in x0.toInt64 5 7) fun v5 =>
    if v5 = 0 then
      some 0
    else
    some (-1)
  else
  some 1
def f_Mod_downOf (x0 : Int32)  : Option Int32 :=
  bnd (f_Mod_in x0.toInt64 3 5) fun v2 =>
  if v2 = 0 then
    if x0 = 2 then
      some 0
    else
    if x0 = 6 then
      some 0
    else
    some (-1)
  else
  some 1
def f_Mod_layPath_J236 (k49 : Int32 → Int32 → Int32 → Int32 → Int32 → Int32 → Int32 → Mem → Option Mem)   (x3 : Int32) (x4 : Int32) (x5 : Int32) (x6 : Int32) (x7 : Int32) (x9 : Int32) (x10 : Int32) (s0 : Int32) (M : Mem) : Option Mem :=
  if s0 = 0 then
    k49 x3 x4 x5 x6 x7 s0 (x9 + 1) M
  else
  ck (inb x9 41) <|
  setM M 113 (ix x9) ((9 * x5) + x4) fun M3 =>
  ck (inb x9 41) <|
  setM M3 114 (ix x9) x10 fun M5 =>
  setM M5 103 31 x9 fun M6 =>
  k49 x3 x4 x5 x6 x7 s0 (x9 + 1) M6
def f_Mod_layPath_J235 (k49 : Int32 → Int32 → Int32 → Int32 → Int32 → Int32 → Int32 → Mem → Option Mem)   (x3 : Int32) (x4 : Int32) (x5 : Int32) (x6 : Int32) (x7 : Int32) (x9 : Int32) (x10 : Int32) (M : Mem) : Option Mem :=
  f_Mod_layPath_J236 k49 x3 x4 x5 x6 x7 x9 x10 0 M
def f_Mod_layPath_J210 (k49 : Int32 → Int32 → Int32 → Int32 → Int32 → Int32 → Int32 → Mem → Option Mem)   (x3 : Int32) (x4 : Int32) (x5 : Int32) (x6 : Int32) (x7 : Int32) (x9 : Int32) (x10 : Int32) (M : Mem) : Option Mem :=
  if (100 - ((M 103 4) * x9)) - ((M 103 5) * x10) ≤ 0 then
    f_Mod_layPath_J235 k49 x3 x4 x5 x6 x7 x9 x10 M
  else
  f_Mod_layPath_J236 k49 x3 x4 x5 x6 x7 x9 x10 1 M
def f_Mod_layPath_J179 (k49 : Int32 → Int32 → Int32 → Int32 → Int32 → Int32 → Int32 → Mem → Option Mem)   (x3 : Int32) (x4 : Int32) (x5 : Int32) (x6 : Int32) (x7 : Int32) (x9 : Int32) (x10 : Int32) (M : Mem) : Option Mem :=
  ck (inb ((9 * x5) + x4) 375) <|
  nmI (M 104 (ix ((9 * x5) + x4))) fun w2 =>
  if w2 = 1 then
    f_Mod_layPath_J235 k49 x3 x4 x5 x6 x7 x9 x10 M
  else
  if w2 = 2 then
    if x3 = 0 then
      f_Mod_layPath_J235 k49 x3 x4 x5 x6 x7 x9 x10 M
    else
    f_Mod_layPath_J210 k49 x3 x4 x5 x6 x7 x9 x10 M
  else
  f_Mod_layPath_J210 k49 x3 x4 x5 x6 x7 x9 x10 M
def f_Mod_layPath_J128 (k49 : Int32 → Int32 → Int32 → Int32 → Int32 → Int32 → Int32 → Mem → Option Mem)   (x3 : Int32) (x4 : Int32) (x5 : Int32) (x6 : Int32) (x7 : Int32) (x9 : Int32) (x10 : Int32) (M : Mem) : Option Mem :=
  nmI (x4 + x6) fun w1 =>
  nmI (x5 + x7) fun w2 =>
  if M 104 (ix 81) ≤ 0 then
    f_Mod_layPath_J179 k49 x3 w1 w2 x6 x7 x9 x10 M
  else
  if M 104 (ix 81) = 0 then none else
  if jrem x9 (M 104 (ix 81)) = 0 then
    if M 103 3 ≤ w2 + 1 then
      f_Mod_layPath_J179 k49 x3 w1 w2 x6 x7 x9 x10 M
    else
    f_Mod_layPath_J179 k49 x3 w1 (w2 + 1) x6 x7 x9 x10 M
  else
  f_Mod_layPath_J179 k49 x3 w1 w2 x6 x7 x9 x10 M
def f_Mod_layPath_J100 (k49 : Int32 → Int32 → Int32 → Int32 → Int32 → Int32 → Int32 → Mem → Option Mem)   (x3 : Int32) (x4 : Int32) (x5 : Int32) (x6 : Int32) (x7 : Int32) (x9 : Int32) (x10 : Int32) (M : Mem) : Option Mem :=
  bnd (f_Mod_in ((x5 + x7).toInt64) 0 (((M 103 3) - 1).toInt64)) fun v2 =>
  if v2 = 0 then
    nmI (-x7) fun w4 =>
    f_Mod_layPath_J128 k49 x3 x4 x5 x6 w4 x9 (x10 + 1) M
  else
  f_Mod_layPath_J128 k49 x3 x4 x5 x6 x7 x9 x10 M
def f_Mod_layPath_L49 : Nat → Int32 → Int32 → Int32 → Int32 → Int32 → Int32 → Int32 → Mem → Option Mem
  | 0, _, _, _, _, _, _, _, _ => none
  | n + 1, x3, x4, x5, x6, x7, x8, x9, M =>
    if 40 < x9 then
      some M
    else
    if x8 = 0 then
      some M
    else
    ck (inb (x9 - 1) 41) <|
    nmI (M 114 (ix (x9 - 1))) fun w4 =>
    bnd (f_Mod_in ((x4 + x6).toInt64) 0 (((M 103 2) - 1).toInt64)) fun v6 =>
    if v6 = 0 then
      nmI (-x6) fun w8 =>
      f_Mod_layPath_J100 (f_Mod_layPath_L49 n) x3 x4 x5 w8 x7 x9 (w4 + 1) M
    else
    f_Mod_layPath_J100 (f_Mod_layPath_L49 n) x3 x4 x5 x6 x7 x9 w4 M
def f_Mod_layPath (x1 : Int32) (x2 : Int32) (x3 : Int32) (M : Mem) : Option Mem :=
  nmI (jrem x1 9) fun w1 =>
  nmI (x1 / 9) fun w2 =>
  bnd (f_Mod_rightOf x2) fun v4 =>
  bnd (f_Mod_downOf x2) fun v6 =>
  setM M 113 (ix 0) x1 fun M7 =>
  setM M7 114 (ix 0) 0 fun M8 =>
  setM M8 103 31 0 fun M9 =>
  f_Mod_layPath_L49 1000 x3 w1 w2 v4 v6 1 1 M9
def f_Mod_loudAt (M : Mem) (x1 : Int32)  : Option Int32 :=
  ck (inb x1 41) <|
  some ((100 - ((M 103 4) * x1)) - ((M 103 5) * (M 114 (ix x1))))
def f_Mod_layPathOf_J27 (s1 : Int32) (s2 : Int32) (s3 : Int32) (M : Mem) : Option Mem :=
  bnd (f_Mod_layPath s1 s2 s3 M) fun M2 =>
  some M2
def f_Mod_layPathOf (x1 : Int32) (x2 : Int32) (M : Mem) : Option Mem :=
  bnd (f_Mod_cellOf M x1 x2) fun v2 =>
  bnd (f_Mod_facingOf M x1 x2) fun v4 =>
  bnd (f_Mod_kindOf M x1) fun v6 =>
  if v6 = 3 then
    f_Mod_layPathOf_J27 v2 v4 1 M
  else
  f_Mod_layPathOf_J27 v2 v4 0 M
def f_Mod_stepTo_L9 (M : Mem) : Nat → Int32 → Int32 → Int32 → Int32 → Option Int32
  | 0, _, _, _, _ => none
  | n + 1, x1, x2, x3, x4 =>
    if x4 ≤ 0 then
      if x3 = (-4) then
        some (-4)
      else
      bnd (f_Mod_loudAt M x3) fun v4 =>
      bnd (f_Mod_earOf M x1) fun v6 =>
      if v4 < v6 then
        some (-4)
      else
      some x3
    else
    ck (inb x4 41) <|
    bnd (f_Mod_cellOf M x1 x2) fun v10 =>
    if M 113 (ix x4) = v10 then
      f_Mod_stepTo_L9 M n x1 x2 x4 (x4 + (-1))
    else
    f_Mod_stepTo_L9 M n x1 x2 x3 (x4 + (-1))
def f_Mod_stepTo (M : Mem) (x1 : Int32) (x2 : Int32)  : Option Int32 :=
  nmI (M 103 31) fun w1 =>
  f_Mod_stepTo_L9 M 1000 x1 x2 (-4) w1
def f_Mod_way (x1 : Int32) (x2 : Int32) (x3 : Int32) (M : Mem) : Option (Int32 × Mem) :=
  bnd (f_Mod_isBench M x1) fun v2 =>
  if v2 = 0 then
    some ((-1), M)
  else
  bnd (f_Mod_isHour x2) fun v5 =>
  if v5 = 0 then
    some ((-1), M)
  else
  bnd (f_Mod_in x3.toInt64 0 40) fun v8 =>
  if v8 = 0 then
    some ((-1), M)
  else
  bnd (f_Mod_layPathOf x1 x2 M) fun M11 =>
  if M11 103 31 < x3 then
    some ((-4), M11)
  else
  ck (inb x3 41) <|
  some (M11 113 (ix x3), M11)
def f_Mod_steps (x1 : Int32) (x2 : Int32) (M : Mem) : Option (Int32 × Mem) :=
  bnd (f_Mod_isBench M x1) fun v2 =>
  if v2 = 0 then
    some ((-1), M)
  else
  bnd (f_Mod_isHour x2) fun v5 =>
  if v5 = 0 then
    some ((-1), M)
  else
  bnd (f_Mod_layPathOf x1 x2 M) fun M8 =>
  some (M8 103 31, M8)
def f_Mod_hears (x1 : Int32) (x2 : Int32) (x3 : Int32) (x4 : Int32) (M : Mem) : Option (Int32 × Mem) :=
  bnd (f_Mod_isBench M x1) fun v2 =>
  if v2 = 0 then
    some ((-1), M)
  else
  bnd (f_Mod_isBench M x2) fun v5 =>
  if v5 = 0 then
    some ((-1), M)
  else
  if x1 = x2 then
    some ((-1), M)
  else
  bnd (f_Mod_isHour x3) fun v9 =>
  if v9 = 0 then
    some ((-1), M)
  else
  bnd (f_Mod_in x4.toInt64 0 2) fun v12 =>
  if v12 = 0 then
    some ((-1), M)
  else
  bnd (f_Mod_layPathOf x1 x3 M) fun M15 =>
  bnd (f_Mod_stepTo M15 x2 x3) fun v17 =>
  if v17 = (-4) then
    some ((-4), M15)
  else
  if x4 = 0 then
    bnd (f_Mod_loudAt M15 v17) fun v23 =>
    some (v23, M15)
  else
  if x4 = 1 then
    some (v17, M15)
  else
  ck (inb v17 41) <|
  some (M15 114 (ix v17), M15)
def f_Mod_allTo_L5 (M : Mem) : Nat → Int32 → Int32 → Int32 → Int32 → Option Int32
  | 0, _, _, _, _ => none
  | n + 1, x1, x2, x3, x4 =>
    if M 103 6 ≤ x4 then
      some x3
    else
    if x4 = x2 then
      nmI (x3 ||| 0) fun w3 =>
      f_Mod_allTo_L5 M n x1 x2 w3 (x4 + 1)
    else
    bnd (f_Mod_stepTo M x4 x1) fun v5 =>
    if v5 = (-4) then
      nmI (x3 ||| 0) fun w7 =>
      f_Mod_allTo_L5 M n x1 x2 w7 (x4 + 1)
    else
    nmI (x3 ||| (jshl 1 x4)) fun w8 =>
    f_Mod_allTo_L5 M n x1 x2 w8 (x4 + 1)
def f_Mod_allTo (M : Mem) (x1 : Int32) (x2 : Int32)  : Option Int32 :=
  f_Mod_allTo_L5 M 1000 x1 x2 0 0
def f_Mod_heardOf (x1 : Int32) (x2 : Int32) (M : Mem) : Option (Int32 × Mem) :=
  bnd (f_Mod_layPathOf x1 x2 M) fun M2 =>
  bnd (f_Mod_allTo M2 x2 x1) fun v4 =>
  some (v4, M2)
def f_Mod_heard (x1 : Int32) (x2 : Int32) (M : Mem) : Option (Int32 × Mem) :=
  bnd (f_Mod_isBench M x1) fun v2 =>
  if v2 = 0 then
    some ((-1), M)
  else
  bnd (f_Mod_isHour x2) fun v5 =>
  if v5 = 0 then
    some ((-1), M)
  else
  bnd2 (f_Mod_heardOf x1 x2 M) fun v8 M9 =>
  some (v8, M9)
def f_Mod_answer_L27 : Nat → Int32 → Int32 → Int32 → Int32 → Mem → Option (Int32 × Mem)
  | 0, _, _, _, _, _ => none
  | n + 1, x1, x2, x3, x4, M =>
    if M 103 6 ≤ x4 then
      some ((-4), M)
    else
    if x3 = jshl 1 x4 then
      bnd2 (f_Mod_heardOf x4 x2 M) fun v4 M5 =>
      if v4 = jshl 1 x1 then
        some (x4, M5)
      else
      some ((-4), M5)
    else
    f_Mod_answer_L27 n x1 x2 x3 (x4 + 1) M
def f_Mod_answer (x1 : Int32) (x2 : Int32) (M : Mem) : Option (Int32 × Mem) :=
  bnd (f_Mod_isBench M x1) fun v2 =>
  if v2 = 0 then
    some ((-1), M)
  else
  bnd (f_Mod_isHour x2) fun v5 =>
  if v5 = 0 then
    some ((-1), M)
  else
  bnd2 (f_Mod_heardOf x1 x2 M) fun v8 M9 =>
  f_Mod_answer_L27 1000 x1 x2 v8 0 M9
def f_Mod_findHeards_L2 : Nat → Int32 → Int32 → Mem → Option Mem
  | 0, _, _, _ => none
  | n + 1, x1, x2, M =>
    if M 103 6 ≤ x2 then
      some M
    else
    bnd2 (f_Mod_heardOf x2 x1 M) fun v3 M4 =>
    ck (inb x2 8) <|
    setM M4 115 (ix x2) v3 fun M6 =>
    f_Mod_findHeards_L2 n x1 (x2 + 1) M6
def f_Mod_findHeards (x1 : Int32) (M : Mem) : Option Mem :=
  f_Mod_findHeards_L2 1000 x1 0 M
def f_Mod_can (x1 : Int32) (x2 : Int32) (x3 : Int32) (M : Mem) : Option (Int32 × Mem) :=
  bnd (f_Mod_isOne M x1) fun v2 =>
  if v2 = 0 then
    some ((-1), M)
  else
  bnd (f_Mod_isOne M x2) fun v5 =>
  if v5 = 0 then
    some ((-1), M)
  else
  if x1 = x2 then
    some ((-1), M)
  else
  bnd (f_Mod_isHour x3) fun v9 =>
  if v9 = 0 then
    some ((-1), M)
  else
  ck (inb (82 + x1) 375) <|
  bnd2 (f_Mod_heardOf (M 104 (ix (82 + x1))) x3 M) fun v13 M14 =>
  ck (inb (82 + x2) 375) <|
  some ((jshr v13 (M14 104 (ix (82 + x2)))) &&& 1, M14)
def f_Mod_sitsAsNow_L2 : Nat → Int32 → Mem → Option Mem
  | 0, _, _ => none
  | n + 1, x1, M =>
    if 6 ≤ x1 then
      some M
    else
    ck (inb (82 + x1) 375) <|
    ck (inb x1 6) <|
    setM M 116 (ix x1) (M 104 (ix (82 + x1))) fun M4 =>
    f_Mod_sitsAsNow_L2 n (x1 + 1) M4
def f_Mod_sitsAsNow (M : Mem) : Option Mem :=
  f_Mod_sitsAsNow_L2 1000 0 M
def f_Mod_brokenBy_J69 (k4 : Int32 → Int32 → Option Int32)  (M : Mem) (x2 : Int32) (s0 : Int32) (s1 : Int32) : Option Int32 :=
  bnd (f_Mod_flag s1) fun v2 =>
  nmI (s0 ||| (jshl v2 x2)) fun w3 =>
  k4 w3 (x2 + 1)
def f_Mod_brokenBy_L4 (M : Mem) : Nat → Int32 → Int32 → Option Int32
  | 0, _, _ => none
  | n + 1, x1, x2 =>
    if M 103 8 ≤ x2 then
      some x1
    else
    ck (inb (3 * x2) 24) <|
    ck (inb (M 107 (ix (3 * x2))) 6) <|
    ck (inb (M 116 (ix (M 107 (ix (3 * x2))))) 8) <|
    ck (inb ((3 * x2) + 1) 24) <|
    ck (inb (M 107 (ix ((3 * x2) + 1))) 6) <|
    nmI ((jshr (M 115 (ix (M 116 (ix (M 107 (ix (3 * x2))))))) (M 116 (ix (M 107 (ix ((3 * x2) + 1)))))) &&& 1) fun w7 =>
    ck (inb ((3 * x2) + 2) 24) <|
    if w7 = M 107 (ix ((3 * x2) + 2)) then
      f_Mod_brokenBy_J69 (f_Mod_brokenBy_L4 M n) M x2 x1 0
    else
    f_Mod_brokenBy_J69 (f_Mod_brokenBy_L4 M n) M x2 x1 1
def f_Mod_brokenBy (M : Mem)   : Option Int32 :=
  f_Mod_brokenBy_L4 M 1000 0 0
def f_Mod_brokenIn (x1 : Int32) (M : Mem) : Option (Int32 × Mem) :=
  bnd (f_Mod_findHeards x1 M) fun M2 =>
  bnd (f_Mod_sitsAsNow M2) fun M4 =>
  bnd (f_Mod_brokenBy M4) fun v6 =>
  some (v6, M4)
def f_Mod_broken (x1 : Int32) (M : Mem) : Option (Int32 × Mem) :=
  bnd (f_Mod_isHour x1) fun v2 =>
  if v2 = 0 then
    some ((-1), M)
  else
  bnd2 (f_Mod_brokenIn x1 M) fun v5 M6 =>
  some (v5, M6)
def f_Mod_areUnlike_J36 (k6 : Int32 → Int32 → Int32 → Option Int32)  (M : Mem) (x1 : Int32) (x3 : Int32) (s0 : Int32) : Option Int32 :=
  ck (inb x3 6) <|
  nmI (x1 ||| (jshl 1 (M 116 (ix x3)))) fun w2 =>
  k6 w2 s0 (x3 + 1)
def f_Mod_areUnlike_J35 (k6 : Int32 → Int32 → Int32 → Option Int32)  (M : Mem) (x1 : Int32) (x3 : Int32) : Option Int32 :=
  f_Mod_areUnlike_J36 k6 M x1 x3 0
def f_Mod_areUnlike_L6 (M : Mem) : Nat → Int32 → Int32 → Int32 → Option Int32
  | 0, _, _, _ => none
  | n + 1, x1, x2, x3 =>
    if M 103 7 ≤ x3 then
      ck (isB x2) <|
      some x2
    else
    if x2 = 0 then
      f_Mod_areUnlike_J35 (f_Mod_areUnlike_L6 M n) M x1 x3
    else
    ck (inb x3 6) <|
    if (jshr x1 (M 116 (ix x3))) &&& 1 = 0 then
      f_Mod_areUnlike_J36 (f_Mod_areUnlike_L6 M n) M x1 x3 1
    else
    f_Mod_areUnlike_J35 (f_Mod_areUnlike_L6 M n) M x1 x3
def f_Mod_areUnlike (M : Mem)   : Option Int32 :=
  f_Mod_areUnlike_L6 M 1000 0 1 0
def f_Mod_nextSeats_J53 (x1 : Int32) (M : Mem) : Option (Int32 × Mem) :=
  if x1 < 0 then
    some (0, M)
  else
  some (1, M)
def f_Mod_nextSeats_J39 (x1 : Int32) (M : Mem) : Option (Int32 × Mem) :=
  if x1 < 0 then
    f_Mod_nextSeats_J53 x1 M
  else
  ck (inb x1 6) <|
  ck (inb x1 6) <|
  setM M 116 (ix x1) ((M 116 (ix x1)) + 1) fun M4 =>
  f_Mod_nextSeats_J53 x1 M4
def f_Mod_nextSeats_L7 : Nat → Int32 → Mem → Option (Int32 × Mem)
  | 0, _, _ => none
  | n + 1, x1, M =>
    if x1 < 0 then
      f_Mod_nextSeats_J39 x1 M
    else
    ck (inb x1 6) <|
    if M 116 (ix x1) = (M 103 6) - 1 then
      ck (inb x1 6) <|
      setM M 116 (ix x1) 0 fun M5 =>
      f_Mod_nextSeats_L7 n (x1 + (-1)) M5
    else
    f_Mod_nextSeats_J39 x1 M
def f_Mod_nextSeats (M : Mem) : Option (Int32 × Mem) :=
  nmI ((M 103 7) - 1) fun w1 =>
  f_Mod_nextSeats_L7 1000 w1 M
def f_Mod_findSeating_J140 (k39 : Int32 → Mem → Option Mem)    (M : Mem) : Option Mem :=
  bnd2 (f_Mod_nextSeats M) fun v2 M3 =>
  k39 v2 M3
def f_Mod_findSeating_J133 (k39 : Int32 → Mem → Option Mem)   (s1 : Int32) (s2 : Int32) (M : Mem) : Option Mem :=
  bnd (f_Mod_flag s2) fun v2 =>
  setM M 103 36 (s1 + v2) fun M3 =>
  f_Mod_findSeating_J140 k39 M3
def f_Mod_findSeating_J115 (k39 : Int32 → Mem → Option Mem)   (x3 : Int32) (M : Mem) : Option Mem :=
  if x3 = M 103 35 then
    f_Mod_findSeating_J133 k39 (M 103 36) 1 M
  else
  f_Mod_findSeating_J133 k39 (M 103 36) 0 M
def f_Mod_findSeating_L88 (k39 : Int32 → Mem → Option Mem)   : Nat → Int32 → Int32 → Mem → Option Mem
  | 0, _, _, _ => none
  | n + 1, x3, x4, M =>
    if 6 ≤ x4 then
      f_Mod_findSeating_J115 k39 x3 M
    else
    ck (inb x4 6) <|
    ck (inb x4 6) <|
    setM M 117 (ix x4) (M 116 (ix x4)) fun M4 =>
    f_Mod_findSeating_L88 k39 n x3 (x4 + 1) M4
def f_Mod_findSeating_J75 (k39 : Int32 → Mem → Option Mem)   (x3 : Int32) (M : Mem) : Option Mem :=
  setM M 103 35 x3 fun M1 =>
  setM M1 103 36 0 fun M2 =>
  f_Mod_findSeating_L88 k39 1000 x3 0 M2
def f_Mod_findSeating_L39 : Nat → Int32 → Mem → Option Mem
  | 0, _, _ => none
  | n + 1, x2, M =>
    if x2 = 0 then
      some M
    else
    bnd (f_Mod_areUnlike M) fun v3 =>
    if v3 = 0 then
      f_Mod_findSeating_J140 (f_Mod_findSeating_L39 n) M
    else
    bnd (f_Mod_brokenBy M) fun v6 =>
    bnd (f_Mod_bitsOf v6) fun v8 =>
    if M 103 35 = (-4) then
      f_Mod_findSeating_J75 (f_Mod_findSeating_L39 n) v8 M
    else
    if M 103 35 ≤ v8 then
      f_Mod_findSeating_J115 (f_Mod_findSeating_L39 n) v8 M
    else
    f_Mod_findSeating_J75 (f_Mod_findSeating_L39 n) v8 M
def f_Mod_findSeating_L18 : Nat → Int32 → Mem → Option Mem
  | 0, _, _ => none
  | n + 1, x2, M =>
    if 6 ≤ x2 then
      f_Mod_findSeating_L39 300000 1 M
    else
    ck (inb x2 6) <|
    setM M 116 (ix x2) 0 fun M3 =>
    f_Mod_findSeating_L18 n (x2 + 1) M3
def f_Mod_findSeating (x1 : Int32) (M : Mem) : Option Mem :=
  bnd (f_Mod_findHeards x1 M) fun M2 =>
  setM M2 103 35 (-4) fun M3 =>
  setM M3 103 36 0 fun M4 =>
  f_Mod_findSeating_L18 1000 0 M4
def f_Mod_seating_J30 (x1 : Int32) (x2 : Int32) (M : Mem) : Option (Int32 × Mem) :=
  bnd (f_Mod_findSeating x1 M) fun M2 =>
  if x2 = 0 then
    some (M2 103 35, M2)
  else
  if x2 = 1 then
    some (M2 103 36, M2)
  else
  ck (inb (x2 - 10) 6) <|
  some (M2 117 (ix (x2 - 10)), M2)
def f_Mod_seating (x1 : Int32) (x2 : Int32) (M : Mem) : Option (Int32 × Mem) :=
  bnd (f_Mod_isHour x1) fun v2 =>
  if v2 = 0 then
    some ((-1), M)
  else
  bnd (f_Mod_in x2.toInt64 0 1) fun v5 =>
  if v5 = 0 then
    bnd (f_Mod_isOne M (x2 - 10)) fun v8 =>
    if v8 = 0 then
      some ((-1), M)
    else
    f_Mod_seating_J30 x1 x2 M
  else
  f_Mod_seating_J30 x1 x2 M
def f_Mod_hasBench_L5 (M : Mem) : Nat → Int32 → Int32 → Int32 → Int32 → Option Int32
  | 0, _, _, _, _ => none
  | n + 1, x1, x2, x3, x4 =>
    if M 103 6 ≤ x4 then
      ck (isB x3) <|
      some x3
    else
    if x3 = 0 then
      bnd (f_Mod_cellOf M x4 x2) fun v5 =>
      if v5 = x1 then
        f_Mod_hasBench_L5 M n x1 x2 1 (x4 + 1)
      else
      f_Mod_hasBench_L5 M n x1 x2 0 (x4 + 1)
    else
    f_Mod_hasBench_L5 M n x1 x2 1 (x4 + 1)
def f_Mod_hasBench (M : Mem) (x1 : Int32) (x2 : Int32)  : Option Int32 :=
  f_Mod_hasBench_L5 M 1000 x1 x2 0 0
def f_Mod_findBetter_J149 (k20 : Int32 → Int32 → Int32 → Mem → Option Mem)   (x1 : Int32) (x2 : Int32) (x3 : Int32) (s1 : Int32) (M : Mem) : Option Mem :=
  setM M 103 38 s1 fun M1 =>
  k20 x1 x2 (x3 + 1) M1
def f_Mod_findBetter_J127 (k20 : Int32 → Int32 → Int32 → Mem → Option Mem)   (x1 : Int32) (x2 : Int32) (x3 : Int32) (x5 : Int32) (s1 : Int32) (M : Mem) : Option Mem :=
  setM M 103 37 s1 fun M1 =>
  if M1 103 38 ≤ x5 then
    f_Mod_findBetter_J149 k20 x1 x2 x3 (M1 103 38) M1
  else
  f_Mod_findBetter_J149 k20 x1 x2 x3 x5 M1
def f_Mod_findBetter_J90 (k20 : Int32 → Int32 → Int32 → Mem → Option Mem)   (x1 : Int32) (x2 : Int32) (x3 : Int32) (x4 : Int32) (s1 : Int32) (s2 : Int32) (M : Mem) : Option Mem :=
  ck (inb s1 375) <|
  setM M 104 (ix s1) s2 fun M2 =>
  bnd2 (f_Mod_brokenIn x1 M2) fun v4 M5 =>
  bnd (f_Mod_bitsOf v4) fun v7 =>
  ck (inb x3 375) <|
  setM M5 104 (ix x3) x4 fun M9 =>
  if M9 103 38 ≤ v7 then
    f_Mod_findBetter_J127 k20 x1 x2 x3 v7 (M9 103 37) M9
  else
  f_Mod_findBetter_J127 k20 x1 x2 x3 v7 x3 M9
def f_Mod_findBetter_J68 (k20 : Int32 → Int32 → Int32 → Mem → Option Mem)   (x1 : Int32) (x2 : Int32) (x3 : Int32) (M : Mem) : Option Mem :=
  ck (inb x3 375) <|
  nmI (M 104 (ix x3)) fun w2 =>
  if x2 = 0 then
    f_Mod_findBetter_J90 k20 x1 x2 x3 w2 x3 0 M
  else
  f_Mod_findBetter_J90 k20 x1 x2 x3 w2 x3 2 M
def f_Mod_findBetter_L20 : Nat → Int32 → Int32 → Int32 → Mem → Option Mem
  | 0, _, _, _, _ => none
  | n + 1, x1, x2, x3, M =>
    if 81 ≤ x3 then
      some M
    else
    bnd (f_Mod_isCell M x3) fun v3 =>
    if v3 = 0 then
      f_Mod_findBetter_L20 n x1 x2 (x3 + 1) M
    else
    if x2 = 0 then
      ck (inb x3 375) <|
      if M 104 (ix x3) ≤ 0 then
        f_Mod_findBetter_L20 n x1 x2 (x3 + 1) M
      else
      f_Mod_findBetter_J68 (f_Mod_findBetter_L20 n) x1 x2 x3 M
    else
    ck (inb x3 375) <|
    if M 104 (ix x3) = 0 then
      bnd (f_Mod_hasBench M x3 x1) fun v11 =>
      if v11 = 0 then
        f_Mod_findBetter_J68 (f_Mod_findBetter_L20 n) x1 x2 x3 M
      else
      f_Mod_findBetter_L20 n x1 x2 (x3 + 1) M
    else
    f_Mod_findBetter_L20 n x1 x2 (x3 + 1) M
def f_Mod_findBetter (x1 : Int32) (x2 : Int32) (M : Mem) : Option Mem :=
  bnd2 (f_Mod_brokenIn x1 M) fun v2 M3 =>
  bnd (f_Mod_bitsOf v2) fun v5 =>
  setM M3 103 38 v5 fun M6 =>
  setM M6 103 37 (-4) fun M7 =>
  f_Mod_findBetter_L20 1000 x1 x2 0 M7
def f_Mod_curtain (x1 : Int32) (x2 : Int32) (M : Mem) : Option (Int32 × Mem) :=
  bnd (f_Mod_isHour x1) fun v2 =>
  if v2 = 0 then
    some ((-1), M)
  else
  bnd (f_Mod_in x2.toInt64 0 1) fun v5 =>
  if v5 = 0 then
    some ((-1), M)
  else
  bnd (f_Mod_findBetter x1 1 M) fun M8 =>
  if M8 103 37 = (-4) then
    some ((-4), M8)
  else
  if x2 = 0 then
    some (M8 103 37, M8)
  else
  some (M8 103 38, M8)
def f_Mod_clear (x1 : Int32) (x2 : Int32) (M : Mem) : Option (Int32 × Mem) :=
  bnd (f_Mod_isHour x1) fun v2 =>
  if v2 = 0 then
    some ((-1), M)
  else
  bnd (f_Mod_in x2.toInt64 0 1) fun v5 =>
  if v5 = 0 then
    some ((-1), M)
  else
  bnd (f_Mod_findBetter x1 0 M) fun M8 =>
  if M8 103 37 = (-4) then
    some ((-4), M8)
  else
  if x2 = 0 then
    some (M8 103 37, M8)
  else
  some (M8 103 38, M8)
def f_Mod_hours_J24 (k4 : Int32 → Int32 → Mem → Option (Int32 × Mem))   (x2 : Int32) (s0 : Int32) (s1 : Int32) (M : Mem) : Option (Int32 × Mem) :=
  bnd (f_Mod_flag s1) fun v2 =>
  nmI (s0 ||| (jshl v2 x2)) fun w3 =>
  k4 w3 (x2 + 1) M
def f_Mod_hours_L4 : Nat → Int32 → Int32 → Mem → Option (Int32 × Mem)
  | 0, _, _, _ => none
  | n + 1, x1, x2, M =>
    if 12 ≤ x2 then
      some (x1, M)
    else
    bnd2 (f_Mod_brokenIn x2 M) fun v3 M4 =>
    if v3 = 0 then
      f_Mod_hours_J24 (f_Mod_hours_L4 n) x2 x1 1 M4
    else
    f_Mod_hours_J24 (f_Mod_hours_L4 n) x2 x1 0 M4
def f_Mod_hours (M : Mem) : Option (Int32 × Mem) :=
  f_Mod_hours_L4 1000 0 0 M
def f_Mod_days_L54 : Nat → Int32 → Int32 → Int32 → Int32 → Int32 → Int32 → Int32 → Int32 → Mem → Option (Int32 × Mem)
  | 0, _, _, _, _, _, _, _, _, _ => none
  | n + 1, x1, x2, x3, x4, x5, x6, x7, x8, M =>
    if M 103 6 ≤ x8 then
      if x3 = 0 then
        some (x5, M)
      else
      if x3 = 1 then
        some (x6, M)
      else
      some (x7, M)
    else
    bnd2 (f_Mod_heardOf x8 x1 M) fun v5 M6 =>
    setM M6 104 (ix 81) x2 fun M7 =>
    bnd2 (f_Mod_heardOf x8 x1 M7) fun v9 M10 =>
    setM M10 104 (ix 81) x4 fun M11 =>
    bnd (f_Mod_bitsOf v5) fun v13 =>
    nmI (x5 + v13) fun w14 =>
    bnd (f_Mod_bitsOf (v5 &&& v9)) fun v16 =>
    nmI (x6 + v16) fun w17 =>
    bnd (f_Mod_bitsOf (v9 &&& (v5 ^^^ (-1)))) fun v19 =>
    nmI (x7 + v19) fun w20 =>
    f_Mod_days_L54 n x1 x2 x3 x4 w14 w17 w20 (x8 + 1) M11
def f_Mod_days (x1 : Int32) (x2 : Int32) (x3 : Int32) (M : Mem) : Option (Int32 × Mem) :=
  bnd (f_Mod_isHour x1) fun v2 =>
  if v2 = 0 then
    some ((-1), M)
  else
  bnd (f_Mod_in x2.toInt64 0 9) fun v5 =>
  if v5 = 0 then
    some ((-1), M)
  else
  bnd (f_Mod_in x3.toInt64 0 2) fun v8 =>
  if v8 = 0 then
    some ((-1), M)
  else
  nmI (M 104 (ix 81)) fun w10 =>
  f_Mod_days_L54 1000 x1 x2 x3 w10 0 0 0 0 M
def f_Mod_best_J96 (k37 : Int32 → Int32 → Int32 → Int32 → Int32 → Int32 → Mem → Option (Int32 × Mem))   (x1 : Int32) (x2 : Int32) (x3 : Int32) (x5 : Int32) (x6 : Int32) (x7 : Int32) (x8 : Int32) (s0 : Int32) (M : Mem) : Option (Int32 × Mem) :=
  if x8 = 0 then
    k37 x1 x2 x3 s0 x5 (x6 + 1) M
  else
  k37 x1 x2 x3 s0 x7 (x6 + 1) M
def f_Mod_best_J82 (k37 : Int32 → Int32 → Int32 → Int32 → Int32 → Int32 → Mem → Option (Int32 × Mem))   (x1 : Int32) (x2 : Int32) (x3 : Int32) (x4 : Int32) (x5 : Int32) (x6 : Int32) (x7 : Int32) (s0 : Int32) (M : Mem) : Option (Int32 × Mem) :=
  if s0 = 0 then
    f_Mod_best_J96 k37 x1 x2 x3 x5 x6 x7 s0 x4 M
  else
  f_Mod_best_J96 k37 x1 x2 x3 x5 x6 x7 s0 x6 M
def f_Mod_best_J77 (k37 : Int32 → Int32 → Int32 → Int32 → Int32 → Int32 → Mem → Option (Int32 × Mem))   (x1 : Int32) (x2 : Int32) (x3 : Int32) (x4 : Int32) (x5 : Int32) (x6 : Int32) (x7 : Int32) (M : Mem) : Option (Int32 × Mem) :=
  f_Mod_best_J82 k37 x1 x2 x3 x4 x5 x6 x7 1 M
def f_Mod_best_L37 : Nat → Int32 → Int32 → Int32 → Int32 → Int32 → Int32 → Mem → Option (Int32 × Mem)
  | 0, _, _, _, _, _, _, _ => none
  | n + 1, x1, x2, x3, x4, x5, x6, M =>
    if 10 ≤ x6 then
      setM M 104 (ix 81) x3 fun M2 =>
      if x2 = 0 then
        some (x4, M2)
      else
      some (x5, M2)
    else
    setM M 104 (ix 81) x6 fun M4 =>
    bnd2 (f_Mod_brokenIn x1 M4) fun v6 M7 =>
    bnd (f_Mod_bitsOf v6) fun v9 =>
    if x4 = (-4) then
      f_Mod_best_J77 (f_Mod_best_L37 n) x1 x2 x3 x4 x5 x6 v9 M7
    else
    if x5 ≤ v9 then
      f_Mod_best_J82 (f_Mod_best_L37 n) x1 x2 x3 x4 x5 x6 v9 0 M7
    else
    f_Mod_best_J77 (f_Mod_best_L37 n) x1 x2 x3 x4 x5 x6 v9 M7
def f_Mod_best (x1 : Int32) (x2 : Int32) (M : Mem) : Option (Int32 × Mem) :=
  bnd (f_Mod_isHour x1) fun v2 =>
  if v2 = 0 then
    some ((-1), M)
  else
  bnd (f_Mod_in x2.toInt64 0 1) fun v5 =>
  if v5 = 0 then
    some ((-1), M)
  else
  nmI (M 104 (ix 81)) fun w7 =>
  f_Mod_best_L37 1000 x1 x2 w7 (-4) 0 0 M
def f_Mod_sayOf (M : Mem) (x1 : Int32) (x2 : Int32)  : Option Int32 :=
  ck (inb ((89 + (3 * x1)) + x2) 375) <|
  some (M 104 (ix ((89 + (3 * x1)) + x2)))
def f_Mod_isSaid (M : Mem) (x1 : Int32)  : Option Int32 :=
  bnd (f_Mod_sayOf M x1 2) fun v2 =>
  ck (inb v2 8) <|
  nmI (M 118 (ix v2)) fun w4 =>
  if w4 = 0 then
    some 1
  else
  bnd (f_Mod_sayOf M x1 1) fun v7 =>
  if (jshr w4 v7) &&& 1 = 1 then
    some 1
  else
  some 0
def f_Mod_says_L35 : Nat → Int32 → Int32 → Int32 → Int32 → Mem → Option Mem
  | 0, _, _, _, _, _ => none
  | n + 1, x1, x3, x4, x5, M =>
    if M 103 7 ≤ x5 then
      bnd (f_Mod_sayOf M x1 2) fun v3 =>
      ck (inb v3 8) <|
      ck (inb v3 8) <|
      setM M 118 (ix v3) ((M 118 (ix v3)) ||| x4) fun M6 =>
      some M6
    else
    ck (inb (82 + x5) 375) <|
    nmI (x4 ||| (jshl ((jshr x3 (M 104 (ix (82 + x5)))) &&& 1) x5)) fun w8 =>
    f_Mod_says_L35 n x1 x3 w8 (x5 + 1) M
def f_Mod_says (x1 : Int32) (M : Mem) : Option Mem :=
  bnd (f_Mod_sayOf M x1 1) fun v2 =>
  ck (inb (82 + v2) 375) <|
  bnd (f_Mod_sayOf M x1 0) fun v5 =>
  bnd2 (f_Mod_heardOf (M 104 (ix (82 + v2))) v5 M) fun v7 M8 =>
  nmI (jshl 1 v2) fun w9 =>
  f_Mod_says_L35 1000 x1 v7 w9 0 M8
def f_Mod_nobodyKnows_L2 : Nat → Int32 → Mem → Option Mem
  | 0, _, _ => none
  | n + 1, x1, M =>
    if 8 ≤ x1 then
      some M
    else
    ck (inb x1 8) <|
    setM M 118 (ix x1) 0 fun M3 =>
    f_Mod_nobodyKnows_L2 n (x1 + 1) M3
def f_Mod_nobodyKnows (M : Mem) : Option Mem :=
  f_Mod_nobodyKnows_L2 1000 0 M
def f_Mod_whispers_L9 : Nat → Int32 → Int32 → Int32 → Int32 → Mem → Option (Int32 × Mem)
  | 0, _, _, _, _, _ => none
  | n + 1, x1, x2, x3, x4, M =>
    if x1 ≤ x4 then
      some (x3, M)
    else
    if x4 = x2 then
      f_Mod_whispers_L9 n x1 x2 x3 (x4 + 1) M
    else
    bnd (f_Mod_isSaid M x4) fun v4 =>
    if v4 = 0 then
      f_Mod_whispers_L9 n x1 x2 x3 (x4 + 1) M
    else
    bnd (f_Mod_says x4 M) fun M7 =>
    f_Mod_whispers_L9 n x1 x2 (x3 + 1) (x4 + 1) M7
def f_Mod_whispers (x1 : Int32) (x2 : Int32) (M : Mem) : Option (Int32 × Mem) :=
  bnd (f_Mod_nobodyKnows M) fun M2 =>
  f_Mod_whispers_L9 1000 x1 x2 0 0 M2
def f_Mod_lastHour (M : Mem)   : Option Int32 :=
  if M 104 (ix 88) = 0 then
    some 0
  else
  bnd (f_Mod_sayOf M ((M 104 (ix 88)) - 1) 0) fun v3 =>
  some v3
def f_Mod_isSecret (x0 : Int32)  : Option Int32 :=
  bnd (f_Mod_in x0.toInt64 0 7) fun v2 =>
  ck (isB v2) <|
  some v2
def f_Mod_say (x1 : Int32) (x2 : Int32) (x3 : Int32) (M : Mem) : Option (Int32 × Mem) :=
  bnd (f_Mod_lastHour M) fun v2 =>
  bnd (f_Mod_in x1.toInt64 v2.toInt64 11) fun v4 =>
  if v4 = 0 then
    some ((-1), M)
  else
  bnd (f_Mod_isOne M x2) fun v7 =>
  if v7 = 0 then
    some ((-1), M)
  else
  bnd (f_Mod_isSecret x3) fun v10 =>
  if v10 = 0 then
    some ((-1), M)
  else
  if M 104 (ix 88) = 12 then
    some ((-3), M)
  else
  nmI (89 + (3 * (M 104 (ix 88)))) fun w13 =>
  ck (inb w13 375) <|
  setM M 104 (ix w13) x1 fun M15 =>
  ck (inb (w13 + 1) 375) <|
  setM M15 104 (ix (w13 + 1)) x2 fun M17 =>
  ck (inb (w13 + 2) 375) <|
  setM M17 104 (ix (w13 + 2)) x3 fun M19 =>
  setM M19 104 (ix 88) ((M19 104 (ix 88)) + 1) fun M20 =>
  some (M20 104 (ix 88), M20)
def f_Mod_unsay (x1 : Int32) (M : Mem) : Option (Int32 × Mem) :=
  bnd (f_Mod_in x1.toInt64 0 ((M 104 (ix 88)).toInt64)) fun v2 =>
  if v2 = 0 then
    some ((-1), M)
  else
  nmI (M 104 (ix 88)) fun w4 =>
  setM M 104 (ix 88) x1 fun M5 =>
  some (w4, M5)
def f_Mod_isSay (M : Mem) (x1 : Int32)  : Option Int32 :=
  bnd (f_Mod_in x1.toInt64 0 (((M 104 (ix 88)) - 1).toInt64)) fun v2 =>
  ck (isB v2) <|
  some v2
def f_Mod_said (x1 : Int32) (x2 : Int32) (M : Mem) : Option (Int32 × Mem) :=
  bnd (f_Mod_isSay M x1) fun v2 =>
  if v2 = 0 then
    some ((-1), M)
  else
  bnd (f_Mod_in x2.toInt64 0 3) fun v5 =>
  if v5 = 0 then
    some ((-1), M)
  else
  if 3 ≤ x2 then
    bnd2 (f_Mod_whispers x1 (-4) M) fun v9 M10 =>
    bnd (f_Mod_isSaid M10 x1) fun v12 =>
    bnd (f_Mod_flag v12) fun v14 =>
    some (v14, M10)
  else
  bnd (f_Mod_sayOf M x1 x2) fun v16 =>
  some (v16, M)
def f_Mod_knows_L40 : Nat → Int32 → Int32 → Int32 → Mem → Option (Int32 × Mem)
  | 0, _, _, _, _ => none
  | n + 1, x1, x3, x4, M =>
    if 8 ≤ x4 then
      some (x3, M)
    else
    ck (inb x4 8) <|
    nmI (x3 ||| (jshl ((jshr (M 118 (ix x4)) x1) &&& 1) x4)) fun w3 =>
    f_Mod_knows_L40 n x1 w3 (x4 + 1) M
def f_Mod_knows (x1 : Int32) (x2 : Int32) (M : Mem) : Option (Int32 × Mem) :=
  bnd (f_Mod_isOne M x1) fun v2 =>
  if v2 = 0 then
    some ((-1), M)
  else
  bnd (f_Mod_in x2.toInt64 0 ((M 104 (ix 88)).toInt64)) fun v5 =>
  if v5 = 0 then
    some ((-1), M)
  else
  bnd2 (f_Mod_whispers x2 (-4) M) fun v8 M9 =>
  f_Mod_knows_L40 1000 x1 0 0 M9
def f_Mod_since_L19 : Nat → Int32 → Int32 → Int32 → Mem → Option (Int32 × Mem)
  | 0, _, _, _, _ => none
  | n + 1, x1, x2, x3, M =>
    if M 104 (ix 88) ≤ x3 then
      some ((-4), M)
    else
    bnd2 (f_Mod_whispers (x3 + 1) (-4) M) fun v3 M4 =>
    ck (inb x2 8) <|
    if (jshr (M4 118 (ix x2)) x1) &&& 1 = 1 then
      some (x3, M4)
    else
    f_Mod_since_L19 n x1 x2 (x3 + 1) M4
def f_Mod_since (x1 : Int32) (x2 : Int32) (M : Mem) : Option (Int32 × Mem) :=
  bnd (f_Mod_isOne M x1) fun v2 =>
  if v2 = 0 then
    some ((-1), M)
  else
  bnd (f_Mod_isSecret x2) fun v5 =>
  if v5 = 0 then
    some ((-1), M)
  else
  f_Mod_since_L19 1000 x1 x2 0 M
def f_Mod_leak_L42 : Nat → Int32 → Int32 → Int32 → Int32 → Mem → Option (Int32 × Mem)
  | 0, _, _, _, _, _ => none
  | n + 1, x1, x2, x3, x4, M =>
    if M 104 (ix 88) ≤ x4 then
      some ((-4), M)
    else
    bnd2 (f_Mod_whispers (x4 + 1) (-4) M) fun v3 M4 =>
    ck (inb x1 8) <|
    nmI ((M4 118 (ix x1)) &&& (x2 ^^^ (-1))) fun w6 =>
    if w6 = 0 then
      f_Mod_leak_L42 n x1 x2 x3 (x4 + 1) M4
    else
    if x3 = 0 then
      some (x4, M4)
    else
    if x3 = 1 then
      bnd (f_Mod_sayOf M4 x4 1) fun v11 =>
      some (v11, M4)
    else
    some (w6, M4)
def f_Mod_leak (x1 : Int32) (x2 : Int32) (x3 : Int32) (M : Mem) : Option (Int32 × Mem) :=
  bnd (f_Mod_isSecret x1) fun v2 =>
  if v2 = 0 then
    some ((-1), M)
  else
  bnd (f_Mod_in x2.toInt64 0 (((jshl 1 (M 103 7)) - 1).toInt64)) fun v5 =>
  if v5 = 0 then
    some ((-1), M)
  else
  bnd (f_Mod_in x3.toInt64 0 2) fun v8 =>
  if v8 = 0 then
    some ((-1), M)
  else
  f_Mod_leak_L42 1000 x1 x2 x3 0 M
def f_Mod_without (x1 : Int32) (M : Mem) : Option (Int32 × Mem) :=
  bnd (f_Mod_isSay M x1) fun v2 =>
  if v2 = 0 then
    some ((-1), M)
  else
  bnd (f_Mod_sayOf M x1 2) fun v5 =>
  bnd2 (f_Mod_whispers (M 104 (ix 88)) (-4) M) fun v7 M8 =>
  ck (inb v5 8) <|
  bnd (f_Mod_bitsOf (M8 118 (ix v5))) fun v11 =>
  bnd2 (f_Mod_whispers (M8 104 (ix 88)) x1 M8) fun v13 M14 =>
  ck (inb v5 8) <|
  bnd (f_Mod_bitsOf (M14 118 (ix v5))) fun v17 =>
  nmI (v11 - v17) fun w18 =>
  if 0 ≤ w18 then
    some (w18, M14)
  else
  some (w18 - 100, M14)
def f_Mod_murmur_L37 : Nat → Int32 → Int32 → Int32 → Int32 → Mem → Option (Int32 × Mem)
  | 0, _, _, _, _, _ => none
  | n + 1, x2, x3, x4, x5, M =>
    if x2 ≤ x5 then
      setM M 104 (ix 88) x2 fun M2 =>
      bnd2 (f_Mod_whispers x2 (-4) M2) fun v4 M5 =>
      some (v4, M5)
    else
    nmI (89 + (3 * x5)) fun w6 =>
    ck (inb w6 375) <|
    setM M 104 (ix w6) x3 fun M8 =>
    nmI ((x4 * 1103515245) + 12345) fun w9 =>
    if M8 103 7 = 0 then none else
    ck (inb (w6 + 1) 375) <|
    setM M8 104 (ix (w6 + 1)) (jrem ((jshr w9 16) &&& 32767) (M8 103 7)) fun M12 =>
    nmI ((w9 * 1103515245) + 12345) fun w13 =>
    ck (inb (w6 + 2) 375) <|
    setM M12 104 (ix (w6 + 2)) (jrem ((jshr w13 16) &&& 32767) 8) fun M15 =>
    f_Mod_murmur_L37 n x2 x3 w13 (x5 + 1) M15
def f_Mod_murmur (x1 : Int32) (x2 : Int32) (x3 : Int32) (M : Mem) : Option (Int32 × Mem) :=
  bnd (f_Mod_in x2.toInt64 1 12) fun v2 =>
  if v2 = 0 then
    some ((-1), M)
  else
  bnd (f_Mod_isHour x3) fun v5 =>
  if v5 = 0 then
    some ((-1), M)
  else
  if M 103 7 = 0 then
    some ((-2), M)
  else
  f_Mod_murmur_L37 1000 x2 x3 x1 0 M
def f_Mod_areBenches (M : Mem) (x1 : Int32)  : Option Int32 :=
  bnd (f_Mod_in x1.toInt64 0 (((jshl 1 (M 103 6)) - 1).toInt64)) fun v2 =>
  ck (isB v2) <|
  some v2
def f_Mod_from_J48 (k22 : Int32 → Int32 → Int32 → Int32 → Mem → Option (Int32 × Mem))   (x1 : Int32) (x2 : Int32) (x4 : Int32) (s0 : Int32) (s1 : Int32) (M : Mem) : Option (Int32 × Mem) :=
  bnd (f_Mod_flag s1) fun v2 =>
  nmI (s0 ||| (jshl v2 x4)) fun w3 =>
  k22 x1 x2 w3 (x4 + 1) M
def f_Mod_from_L22 : Nat → Int32 → Int32 → Int32 → Int32 → Mem → Option (Int32 × Mem)
  | 0, _, _, _, _, _ => none
  | n + 1, x1, x2, x3, x4, M =>
    if M 103 6 ≤ x4 then
      some (x3, M)
    else
    bnd2 (f_Mod_heardOf x4 x2 M) fun v3 M4 =>
    if v3 = x1 then
      f_Mod_from_J48 (f_Mod_from_L22 n) x1 x2 x4 x3 1 M4
    else
    f_Mod_from_J48 (f_Mod_from_L22 n) x1 x2 x4 x3 0 M4
def f_Mod_from (x1 : Int32) (x2 : Int32) (M : Mem) : Option (Int32 × Mem) :=
  bnd (f_Mod_areBenches M x1) fun v2 =>
  if v2 = 0 then
    some ((-1), M)
  else
  bnd (f_Mod_isHour x2) fun v5 =>
  if v5 = 0 then
    some ((-1), M)
  else
  f_Mod_from_L22 1000 x1 x2 0 0 M
def f_Mod_where_J154 (k48 : Int32 → Int32 → Int32 → Int32 → Int32 → Int32 → Int32 → Mem → Option (Int32 × Mem))   (x1 : Int32) (x2 : Int32) (x3 : Int32) (x4 : Int32) (x6 : Int32) (x7 : Int32) (x8 : Int32) (s0 : Int32) (M : Mem) : Option (Int32 × Mem) :=
  if x8 = (-4) then
    k48 x1 x2 x3 x4 s0 x6 (x7 + (-1)) M
  else
  k48 x1 x2 x3 x4 s0 x8 (x7 + (-1)) M
def f_Mod_where_J134 (k48 : Int32 → Int32 → Int32 → Int32 → Int32 → Int32 → Int32 → Mem → Option (Int32 × Mem))   (x1 : Int32) (x2 : Int32) (x3 : Int32) (x5 : Int32) (x6 : Int32) (x7 : Int32) (x8 : Int32) (s0 : Int32) (s1 : Int32) (M : Mem) : Option (Int32 × Mem) :=
  bnd (f_Mod_flag s1) fun v2 =>
  nmI (s0 + v2) fun w3 =>
  if x8 = (-4) then
    f_Mod_where_J154 k48 x1 x2 x3 w3 x6 x7 x8 x5 M
  else
  f_Mod_where_J154 k48 x1 x2 x3 w3 x6 x7 x8 x7 M
def f_Mod_where_J120 (k48 : Int32 → Int32 → Int32 → Int32 → Int32 → Int32 → Int32 → Mem → Option (Int32 × Mem))   (x1 : Int32) (x2 : Int32) (x3 : Int32) (x4 : Int32) (x5 : Int32) (x6 : Int32) (x7 : Int32) (x8 : Int32) (M : Mem) : Option (Int32 × Mem) :=
  if x8 = (-4) then
    f_Mod_where_J134 k48 x1 x2 x3 x5 x6 x7 x8 x4 0 M
  else
  f_Mod_where_J134 k48 x1 x2 x3 x5 x6 x7 x8 x4 1 M
def f_Mod_where_L61 (k48 : Int32 → Int32 → Int32 → Int32 → Int32 → Int32 → Int32 → Mem → Option (Int32 × Mem))   : Nat → Int32 → Int32 → Int32 → Int32 → Int32 → Int32 → Int32 → Int32 → Int32 → Mem → Option (Int32 × Mem)
  | 0, _, _, _, _, _, _, _, _, _, _ => none
  | n + 1, x1, x2, x3, x4, x5, x6, x7, x8, x9, M =>
    if x9 < 0 then
      f_Mod_where_J120 k48 x1 x2 x3 x4 x5 x6 x7 x8 M
    else
    bnd (f_Mod_isCell M x7) fun v3 =>
    if v3 = 0 then
      f_Mod_where_J120 k48 x1 x2 x3 x4 x5 x6 x7 x8 M
    else
    ck (inb x7 375) <|
    if M 104 (ix x7) = 0 then
      bnd (f_Mod_layPath x7 x9 0 M) fun M8 =>
      bnd (f_Mod_allTo M8 x2 (-4)) fun v10 =>
      if v10 = x1 then
        f_Mod_where_L61 k48 n x1 x2 x3 x4 x5 x6 x7 x9 (x9 + (-1)) M8
      else
      f_Mod_where_L61 k48 n x1 x2 x3 x4 x5 x6 x7 x8 (x9 + (-1)) M8
    else
    f_Mod_where_J120 k48 x1 x2 x3 x4 x5 x6 x7 x8 M
def f_Mod_where_L48 : Nat → Int32 → Int32 → Int32 → Int32 → Int32 → Int32 → Int32 → Mem → Option (Int32 × Mem)
  | 0, _, _, _, _, _, _, _, _ => none
  | n + 1, x1, x2, x3, x4, x5, x6, x7, M =>
    if x7 < 0 then
      if x3 = 0 then
        some (x4, M)
      else
      if x3 = 1 then
        some (x5, M)
      else
      some (x6, M)
    else
    f_Mod_where_L61 (f_Mod_where_L48 n) 1000 x1 x2 x3 x4 x5 x6 x7 (-4) 7 M
def f_Mod_where (x1 : Int32) (x2 : Int32) (x3 : Int32) (M : Mem) : Option (Int32 × Mem) :=
  bnd (f_Mod_areBenches M x1) fun v2 =>
  if v2 = 0 then
    some ((-1), M)
  else
  if x1 = 0 then
    some ((-1), M)
  else
  bnd (f_Mod_isHour x2) fun v6 =>
  if v6 = 0 then
    some ((-1), M)
  else
  bnd (f_Mod_in x3.toInt64 0 2) fun v9 =>
  if v9 = 0 then
    some ((-1), M)
  else
  f_Mod_where_L48 1000 x1 x2 x3 0 (-4) (-4) 80 M
def f_Mod_copies_L2 : Nat → Int32 → Int32 → Int32 → Mem → Option Mem
  | 0, _, _, _, _ => none
  | n + 1, x1, x2, x3, M =>
    if 125 ≤ x3 then
      some M
    else
    ck (inb (x2 + x3) 375) <|
    ck (inb (x1 + x3) 375) <|
    setM M 104 (ix (x1 + x3)) (M 104 (ix (x2 + x3))) fun M4 =>
    f_Mod_copies_L2 n x1 x2 (x3 + 1) M4
def f_Mod_copies (x1 : Int32) (x2 : Int32) (M : Mem) : Option Mem :=
  f_Mod_copies_L2 1000 x1 x2 0 M
def f_Mod_keep (x1 : Int32) (M : Mem) : Option (Int32 × Mem) :=
  bnd (f_Mod_in x1.toInt64 0 1) fun v2 =>
  if v2 = 0 then
    some ((-1), M)
  else
  ck (inb x1 2) <|
  bnd (f_Mod_flag (M 105 (ix x1))) fun v6 =>
  ck (inb x1 2) <|
  setM M 105 (ix x1) 1 fun M8 =>
  bnd (f_Mod_copies (125 * (x1 + 1)) 0 M8) fun M10 =>
  some (v6, M10)
def f_Mod_back (x1 : Int32) (M : Mem) : Option (Int32 × Mem) :=
  bnd (f_Mod_in x1.toInt64 0 1) fun v2 =>
  if v2 = 0 then
    some ((-1), M)
  else
  ck (inb x1 2) <|
  if M 105 (ix x1) = 0 then
    some ((-2), M)
  else
  bnd (f_Mod_copies 0 (125 * (x1 + 1)) M) fun M7 =>
  some (M7 104 (ix 88), M7)
def f_Mod_isSheet (x0 : Int32) (x1 : Int32)  : Option Int32 :=
  bnd (f_Mod_in x0.toInt64 0 3) fun v2 =>
  if v2 = 0 then
    some 0
  else
  bnd (f_Mod_in x1.toInt64 0 2) fun v5 =>
  if v5 = 0 then
    some 0
  else
  some 1
def f_Mod_sheet_L40 : Nat → Int32 → Int32 → Mem → Option (Int32 × Mem)
  | 0, _, _, _ => none
  | n + 1, x1, x4, M =>
    if 40 ≤ x4 then
      some (1, M)
    else
    ck (inb ((40 * x1) + x4) 160) <|
    setM M 121 (ix ((40 * x1) + x4)) 0 fun M3 =>
    f_Mod_sheet_L40 n x1 (x4 + 1) M3
def f_Mod_sheet (x1 : Int32) (x2 : Int32) (x3 : Int32) (M : Mem) : Option (Int32 × Mem) :=
  bnd (f_Mod_isSheet x1 x2) fun v2 =>
  if v2 = 0 then
    some ((-1), M)
  else
  if x3 ≤ 40 then
    if 0 ≤ x3 then
      ck (inb x1 4) <|
      setM M 119 (ix x1) x2 fun M7 =>
      ck (inb x1 4) <|
      setM M7 120 (ix x1) x3 fun M9 =>
      f_Mod_sheet_L40 1000 x1 0 M9
    else
    some ((-14), M)
  else
  some ((-1), M)
def f_Mod_lay_J85 (s1 : Int32) (s2 : Int32) (M : Mem) : Option (Int32 × Mem) :=
  ck (inb s1 160) <|
  setM M 121 (ix s1) s2 fun M2 =>
  some (1, M2)
def f_Mod_lay (x1 : Int32) (x2 : Int32) (x3 : Int32) (M : Mem) : Option (Int32 × Mem) :=
  bnd (f_Mod_isSheet x1 0) fun v2 =>
  if v2 = 0 then
    some ((-1), M)
  else
  ck (inb x1 4) <|
  if M 119 (ix x1) = (-4) then
    some ((-11), M)
  else
  ck (inb x1 4) <|
  bnd (f_Mod_in x2.toInt64 0 (((M 120 (ix x1)) - 1).toInt64)) fun v8 =>
  if v8 = 0 then
    some ((-12), M)
  else
  ck (inb x1 4) <|
  if M 119 (ix x1) = 0 then
    f_Mod_lay_J85 ((40 * x1) + x2) x3.toInt8.toInt32 M
  else
  ck (inb x1 4) <|
  if M 119 (ix x1) = 1 then
    f_Mod_lay_J85 ((40 * x1) + x2) x3.toInt16.toInt32 M
  else
  f_Mod_lay_J85 ((40 * x1) + x2) x3 M
def f_Mod_read_J217 (x6 : Int32) (x7 : Int32) (M : Mem) : Option (Int32 × Mem) :=
  setM M 103 43 x6 fun M1 =>
  some (x7, M1)
def f_Mod_read_J143 (k41 : Int32 → Int32 → Int32 → Int32 → Int32 → Int32 → Int32 → Int32 → Mem → Option (Int32 × Mem))   (x1 : Int32) (x2 : Int32) (x3 : Int32) (x4 : Int32) (x5 : Int32) (x6 : Int32) (x7 : Int32) (x8 : Int32) (M : Mem) : Option (Int32 × Mem) :=
  if x6 = 0 then
    nmI (((40 * x1) + x3) + (3 * x8)) fun w2 =>
    ck (inb w2 160) <|
    ck (inb (w2 + 1) 160) <|
    ck (inb (w2 + 2) 160) <|
    bnd2 (f_Mod_say (M 121 (ix w2)) (M 121 (ix (w2 + 1))) (M 121 (ix (w2 + 2))) M) fun v7 M8 =>
    if 0 ≤ v7 then
      k41 x1 x2 x3 x4 x5 x6 (x7 + 1) (x8 + 1) M8
    else
    setM M8 104 (ix 88) x5 fun M10 =>
    some ((-20) - x8, M10)
  else
  k41 x1 x2 x3 x4 x5 x6 x7 (x8 + 1) M
def f_Mod_read_L56 (k41 : Int32 → Int32 → Int32 → Int32 → Int32 → Int32 → Int32 → Int32 → Mem → Option (Int32 × Mem))   : Nat → Int32 → Int32 → Int32 → Int32 → Int32 → Int32 → Int32 → Int32 → Int32 → Mem → Option (Int32 × Mem)
  | 0, _, _, _, _, _, _, _, _, _, _ => none
  | n + 1, x1, x2, x3, x4, x5, x6, x7, x8, x9, M =>
    if 3 ≤ x9 then
      f_Mod_read_J143 k41 x1 x2 x3 x4 x5 x6 x7 x8 M
    else
    if x6 = 0 then
      nmL ((x3.toInt64 + ((3 * x8).toInt64)) + x9.toInt64) fun w3 =>
      ck (inb x1 4) <|
      if M 119 (ix x1) = (-4) then
        f_Mod_read_L56 k41 n x1 x2 x3 x4 x5 1 x7 x8 (x9 + 1) M
      else
      ck (inb x1 4) <|
      if M 119 (ix x1) = x2 then
        if lg_cmp w3 0 < 0 then
          f_Mod_read_L56 k41 n x1 x2 x3 x4 x5 2 x7 x8 (x9 + 1) M
        else
        ck (inb x1 4) <|
        if lg_cmp w3 ((M 120 (ix x1)).toInt64) < 0 then
          f_Mod_read_L56 k41 n x1 x2 x3 x4 x5 0 x7 x8 (x9 + 1) M
        else
        f_Mod_read_L56 k41 n x1 x2 x3 x4 x5 2 x7 x8 (x9 + 1) M
      else
      f_Mod_read_L56 k41 n x1 x2 x3 x4 x5 3 x7 x8 (x9 + 1) M
    else
    f_Mod_read_J143 k41 x1 x2 x3 x4 x5 x6 x7 x8 M
def f_Mod_read_L41 : Nat → Int32 → Int32 → Int32 → Int32 → Int32 → Int32 → Int32 → Int32 → Mem → Option (Int32 × Mem)
  | 0, _, _, _, _, _, _, _, _, _ => none
  | n + 1, x1, x2, x3, x4, x5, x6, x7, x8, M =>
    if x4 ≤ x8 then
      f_Mod_read_J217 x6 x7 M
    else
    if x6 = 0 then
      f_Mod_read_L56 (f_Mod_read_L41 n) 1000 x1 x2 x3 x4 x5 x6 x7 x8 0 M
    else
    f_Mod_read_J217 x6 x7 M
def f_Mod_read (x1 : Int32) (x2 : Int32) (x3 : Int32) (x4 : Int32) (M : Mem) : Option (Int32 × Mem) :=
  bnd (f_Mod_isSheet x1 x2) fun v2 =>
  if v2 = 0 then
    some ((-1), M)
  else
  bnd (f_Mod_in x4.toInt64 0 12) fun v5 =>
  if v5 = 0 then
    some ((-1), M)
  else
  nmI (M 104 (ix 88)) fun w7 =>
  f_Mod_read_L41 1000 x1 x2 x3 x4 w7 0 0 0 M
def f_Mod_torn (M : Mem)   : Option Int32 :=
  some (M 103 43)
def f_Mod_count_J25 (k4 : Int32 → Int32 → Int32 → Option Int32)  (M : Mem) (x1 : Int32) (x3 : Int32) (s0 : Int32) (s1 : Int32) : Option Int32 :=
  bnd (f_Mod_flag s1) fun v2 =>
  nmI (s0 + v2) fun w3 =>
  k4 x1 w3 (x3 + 1)
def f_Mod_count_L4 (M : Mem) : Nat → Int32 → Int32 → Int32 → Option Int32
  | 0, _, _, _ => none
  | n + 1, x1, x2, x3 =>
    if 81 ≤ x3 then
      if x1 = 0 then
        some (M 103 6)
      else if x1 = 1 then
        some (M 103 7)
      else if x1 = 2 then
        some x2
      else if x1 = 3 then
        some (M 103 8)
      else if x1 = 4 then
        some (M 104 (ix 88))
      else if x1 = 5 then
        bnd (f_Mod_flag (M 105 (ix 0))) fun v9 =>
        bnd (f_Mod_flag (M 105 (ix 1))) fun v11 =>
        some (v9 + v11)
      else if x1 = 6 then
        some (M 103 22)
      else if x1 = 7 then
        if M 119 (ix 0) = (-4) then
          some (-4)
        else
        some (M 120 (ix 0))
      else
      some (-1)
    else
    ck (inb x3 375) <|
    if M 104 (ix x3) ≤ 0 then
      f_Mod_count_J25 (f_Mod_count_L4 M n) M x1 x3 x2 0
    else
    f_Mod_count_J25 (f_Mod_count_L4 M n) M x1 x3 x2 1
def f_Mod_count (M : Mem) (x1 : Int32)  : Option Int32 :=
  f_Mod_count_L4 M 1000 x1 0 0
def f_Law_law_L18 (X : Sc)   : Nat → Int32 → Mem → Option Int32
  | 0, _, _ => none
  | n + 1, x3, M =>
    if (nI X.1) - 5 < x3 then
      some 1
    else
    ck (inb x3 X.1) <|
    if (X.2 (ix x3)) &&& 63 = 0 then
      ck (inb (x3 + 1) X.1) <|
      ck (inb (x3 + 2) X.1) <|
      bnd2 (f_Hal_feed ((jlshl ((X.2 (ix (x3 + 1))).toInt64) 32) ||| (((X.2 (ix (x3 + 2))).toInt64) &&& 4294967295)) M) fun v7 M8 =>
      ck (inb (x3 + 1) X.1) <|
      ck (inb (x3 + 2) X.1) <|
      bnd2 (f_Mod_feed ((jlshl ((X.2 (ix (x3 + 1))).toInt64) 32) ||| (((X.2 (ix (x3 + 2))).toInt64) &&& 4294967295)) M8) fun v12 M13 =>
      if v7 = v12 then
        f_Law_law_L18 X n (x3 + 5) M13
      else
      some 0
    else if (X.2 (ix x3)) &&& 63 = 1 then
      ck (inb (x3 + 1) X.1) <|
      bnd2 (f_Hal_end (X.2 (ix (x3 + 1))) M) fun v18 M19 =>
      ck (inb (x3 + 1) X.1) <|
      bnd2 (f_Mod_end (X.2 (ix (x3 + 1))) M19) fun v22 M23 =>
      if v18 = v22 then
        f_Law_law_L18 X n (x3 + 5) M23
      else
      some 0
    else if (X.2 (ix x3)) &&& 63 = 2 then
      bnd2 (f_Hal_text M) fun v27 M28 =>
      bnd2 (f_Mod_text M28) fun v30 M31 =>
      if v27 = v30 then
        f_Law_law_L18 X n (x3 + 5) M31
      else
      some 0
    else if (X.2 (ix x3)) &&& 63 = 3 then
      bnd (f_Hal_fault M) fun v35 =>
      bnd (f_Mod_fault M) fun v37 =>
      if v35 = v37 then
        f_Law_law_L18 X n (x3 + 5) M
      else
      some 0
    else if (X.2 (ix x3)) &&& 63 = 4 then
      ck (inb (x3 + 1) X.1) <|
      bnd (f_Hal_rule M (X.2 (ix (x3 + 1)))) fun v42 =>
      ck (inb (x3 + 1) X.1) <|
      bnd (f_Mod_rule M (X.2 (ix (x3 + 1)))) fun v45 =>
      if v42 = v45 then
        f_Law_law_L18 X n (x3 + 5) M
      else
      some 0
    else if (X.2 (ix x3)) &&& 63 = 5 then
      ck (inb (x3 + 1) X.1) <|
      bnd (f_Hal_cell M (X.2 (ix (x3 + 1)))) fun v50 =>
      ck (inb (x3 + 1) X.1) <|
      bnd (f_Mod_cell M (X.2 (ix (x3 + 1)))) fun v53 =>
      if v50 = v53 then
        f_Law_law_L18 X n (x3 + 5) M
      else
      some 0
    else if (X.2 (ix x3)) &&& 63 = 6 then
      ck (inb (x3 + 1) X.1) <|
      ck (inb (x3 + 2) X.1) <|
      ck (inb (x3 + 3) X.1) <|
      bnd (f_Hal_bench M (X.2 (ix (x3 + 1))) (X.2 (ix (x3 + 2))) (X.2 (ix (x3 + 3)))) fun v60 =>
      ck (inb (x3 + 1) X.1) <|
      ck (inb (x3 + 2) X.1) <|
      ck (inb (x3 + 3) X.1) <|
      bnd (f_Mod_bench M (X.2 (ix (x3 + 1))) (X.2 (ix (x3 + 2))) (X.2 (ix (x3 + 3)))) fun v65 =>
      if v60 = v65 then
        f_Law_law_L18 X n (x3 + 5) M
      else
      some 0
    else if (X.2 (ix x3)) &&& 63 = 7 then
      ck (inb (x3 + 1) X.1) <|
      ck (inb (x3 + 2) X.1) <|
      bnd (f_Hal_want M (X.2 (ix (x3 + 1))) (X.2 (ix (x3 + 2)))) fun v71 =>
      ck (inb (x3 + 1) X.1) <|
      ck (inb (x3 + 2) X.1) <|
      bnd (f_Mod_want M (X.2 (ix (x3 + 1))) (X.2 (ix (x3 + 2)))) fun v75 =>
      if v71 = v75 then
        f_Law_law_L18 X n (x3 + 5) M
      else
      some 0
    else if (X.2 (ix x3)) &&& 63 = 8 then
      ck (inb (x3 + 1) X.1) <|
      ck (inb (x3 + 2) X.1) <|
      bnd2 (f_Hal_hang (X.2 (ix (x3 + 1))) (X.2 (ix (x3 + 2))) M) fun v81 M82 =>
      ck (inb (x3 + 1) X.1) <|
      ck (inb (x3 + 2) X.1) <|
      bnd2 (f_Mod_hang (X.2 (ix (x3 + 1))) (X.2 (ix (x3 + 2))) M82) fun v86 M87 =>
      if v81 = v86 then
        f_Law_law_L18 X n (x3 + 5) M87
      else
      some 0
    else if (X.2 (ix x3)) &&& 63 = 9 then
      ck (inb (x3 + 1) X.1) <|
      bnd2 (f_Hal_warm (X.2 (ix (x3 + 1))) M) fun v92 M93 =>
      ck (inb (x3 + 1) X.1) <|
      bnd2 (f_Mod_warm (X.2 (ix (x3 + 1))) M93) fun v96 M97 =>
      if v92 = v96 then
        f_Law_law_L18 X n (x3 + 5) M97
      else
      some 0
    else if (X.2 (ix x3)) &&& 63 = 10 then
      ck (inb (x3 + 1) X.1) <|
      ck (inb (x3 + 2) X.1) <|
      bnd2 (f_Hal_sit (X.2 (ix (x3 + 1))) (X.2 (ix (x3 + 2))) M) fun v103 M104 =>
      ck (inb (x3 + 1) X.1) <|
      ck (inb (x3 + 2) X.1) <|
      bnd2 (f_Mod_sit (X.2 (ix (x3 + 1))) (X.2 (ix (x3 + 2))) M104) fun v108 M109 =>
      if v103 = v108 then
        f_Law_law_L18 X n (x3 + 5) M109
      else
      some 0
    else if (X.2 (ix x3)) &&& 63 = 11 then
      ck (inb (x3 + 1) X.1) <|
      ck (inb (x3 + 2) X.1) <|
      ck (inb (x3 + 3) X.1) <|
      bnd2 (f_Hal_way (X.2 (ix (x3 + 1))) (X.2 (ix (x3 + 2))) (X.2 (ix (x3 + 3))) M) fun v116 M117 =>
      ck (inb (x3 + 1) X.1) <|
      ck (inb (x3 + 2) X.1) <|
      ck (inb (x3 + 3) X.1) <|
      bnd2 (f_Mod_way (X.2 (ix (x3 + 1))) (X.2 (ix (x3 + 2))) (X.2 (ix (x3 + 3))) M117) fun v122 M123 =>
      if v116 = v122 then
        f_Law_law_L18 X n (x3 + 5) M123
      else
      some 0
    else if (X.2 (ix x3)) &&& 63 = 12 then
      ck (inb (x3 + 1) X.1) <|
      ck (inb (x3 + 2) X.1) <|
      bnd2 (f_Hal_steps (X.2 (ix (x3 + 1))) (X.2 (ix (x3 + 2))) M) fun v129 M130 =>
      ck (inb (x3 + 1) X.1) <|
      ck (inb (x3 + 2) X.1) <|
      bnd2 (f_Mod_steps (X.2 (ix (x3 + 1))) (X.2 (ix (x3 + 2))) M130) fun v134 M135 =>
      if v129 = v134 then
        f_Law_law_L18 X n (x3 + 5) M135
      else
      some 0
    else if (X.2 (ix x3)) &&& 63 = 13 then
      ck (inb (x3 + 1) X.1) <|
      ck (inb (x3 + 2) X.1) <|
      ck (inb (x3 + 3) X.1) <|
      ck (inb (x3 + 4) X.1) <|
      bnd2 (f_Hal_hears (X.2 (ix (x3 + 1))) (X.2 (ix (x3 + 2))) (X.2 (ix (x3 + 3))) (X.2 (ix (x3 + 4))) M) fun v143 M144 =>
      ck (inb (x3 + 1) X.1) <|
      ck (inb (x3 + 2) X.1) <|
      ck (inb (x3 + 3) X.1) <|
      ck (inb (x3 + 4) X.1) <|
      bnd2 (f_Mod_hears (X.2 (ix (x3 + 1))) (X.2 (ix (x3 + 2))) (X.2 (ix (x3 + 3))) (X.2 (ix (x3 + 4))) M144) fun v150 M151 =>
      if v143 = v150 then
        f_Law_law_L18 X n (x3 + 5) M151
      else
      some 0
    else if (X.2 (ix x3)) &&& 63 = 14 then
      ck (inb (x3 + 1) X.1) <|
      ck (inb (x3 + 2) X.1) <|
      bnd2 (f_Hal_heard (X.2 (ix (x3 + 1))) (X.2 (ix (x3 + 2))) M) fun v157 M158 =>
      ck (inb (x3 + 1) X.1) <|
      ck (inb (x3 + 2) X.1) <|
      bnd2 (f_Mod_heard (X.2 (ix (x3 + 1))) (X.2 (ix (x3 + 2))) M158) fun v162 M163 =>
      if v157 = v162 then
        f_Law_law_L18 X n (x3 + 5) M163
      else
      some 0
    else if (X.2 (ix x3)) &&& 63 = 15 then
      ck (inb (x3 + 1) X.1) <|
      ck (inb (x3 + 2) X.1) <|
      bnd2 (f_Hal_answer (X.2 (ix (x3 + 1))) (X.2 (ix (x3 + 2))) M) fun v169 M170 =>
      ck (inb (x3 + 1) X.1) <|
      ck (inb (x3 + 2) X.1) <|
      bnd2 (f_Mod_answer (X.2 (ix (x3 + 1))) (X.2 (ix (x3 + 2))) M170) fun v174 M175 =>
      if v169 = v174 then
        f_Law_law_L18 X n (x3 + 5) M175
      else
      some 0
    else if (X.2 (ix x3)) &&& 63 = 16 then
      ck (inb (x3 + 1) X.1) <|
      ck (inb (x3 + 2) X.1) <|
      ck (inb (x3 + 3) X.1) <|
      bnd2 (f_Hal_can (X.2 (ix (x3 + 1))) (X.2 (ix (x3 + 2))) (X.2 (ix (x3 + 3))) M) fun v182 M183 =>
      ck (inb (x3 + 1) X.1) <|
      ck (inb (x3 + 2) X.1) <|
      ck (inb (x3 + 3) X.1) <|
      bnd2 (f_Mod_can (X.2 (ix (x3 + 1))) (X.2 (ix (x3 + 2))) (X.2 (ix (x3 + 3))) M183) fun v188 M189 =>
      if v182 = v188 then
        f_Law_law_L18 X n (x3 + 5) M189
      else
      some 0
    else if (X.2 (ix x3)) &&& 63 = 17 then
      ck (inb (x3 + 1) X.1) <|
      bnd2 (f_Hal_broken (X.2 (ix (x3 + 1))) M) fun v194 M195 =>
      ck (inb (x3 + 1) X.1) <|
      bnd2 (f_Mod_broken (X.2 (ix (x3 + 1))) M195) fun v198 M199 =>
      if v194 = v198 then
        f_Law_law_L18 X n (x3 + 5) M199
      else
      some 0
    else if (X.2 (ix x3)) &&& 63 = 18 then
      ck (inb (x3 + 1) X.1) <|
      ck (inb (x3 + 2) X.1) <|
      bnd2 (f_Hal_seating (X.2 (ix (x3 + 1))) (X.2 (ix (x3 + 2))) M) fun v205 M206 =>
      ck (inb (x3 + 1) X.1) <|
      ck (inb (x3 + 2) X.1) <|
      bnd2 (f_Mod_seating (X.2 (ix (x3 + 1))) (X.2 (ix (x3 + 2))) M206) fun v210 M211 =>
      if v205 = v210 then
        f_Law_law_L18 X n (x3 + 5) M211
      else
      some 0
    else if (X.2 (ix x3)) &&& 63 = 19 then
      ck (inb (x3 + 1) X.1) <|
      ck (inb (x3 + 2) X.1) <|
      bnd2 (f_Hal_curtain (X.2 (ix (x3 + 1))) (X.2 (ix (x3 + 2))) M) fun v217 M218 =>
      ck (inb (x3 + 1) X.1) <|
      ck (inb (x3 + 2) X.1) <|
      bnd2 (f_Mod_curtain (X.2 (ix (x3 + 1))) (X.2 (ix (x3 + 2))) M218) fun v222 M223 =>
      if v217 = v222 then
        f_Law_law_L18 X n (x3 + 5) M223
      else
      some 0
    else if (X.2 (ix x3)) &&& 63 = 20 then
      ck (inb (x3 + 1) X.1) <|
      ck (inb (x3 + 2) X.1) <|
      bnd2 (f_Hal_clear (X.2 (ix (x3 + 1))) (X.2 (ix (x3 + 2))) M) fun v229 M230 =>
      ck (inb (x3 + 1) X.1) <|
      ck (inb (x3 + 2) X.1) <|
      bnd2 (f_Mod_clear (X.2 (ix (x3 + 1))) (X.2 (ix (x3 + 2))) M230) fun v234 M235 =>
      if v229 = v234 then
        f_Law_law_L18 X n (x3 + 5) M235
      else
      some 0
    else if (X.2 (ix x3)) &&& 63 = 21 then
      bnd2 (f_Hal_hours M) fun v239 M240 =>
      bnd2 (f_Mod_hours M240) fun v242 M243 =>
      if v239 = v242 then
        f_Law_law_L18 X n (x3 + 5) M243
      else
      some 0
    else if (X.2 (ix x3)) &&& 63 = 22 then
      ck (inb (x3 + 1) X.1) <|
      ck (inb (x3 + 2) X.1) <|
      ck (inb (x3 + 3) X.1) <|
      bnd2 (f_Hal_days (X.2 (ix (x3 + 1))) (X.2 (ix (x3 + 2))) (X.2 (ix (x3 + 3))) M) fun v250 M251 =>
      ck (inb (x3 + 1) X.1) <|
      ck (inb (x3 + 2) X.1) <|
      ck (inb (x3 + 3) X.1) <|
      bnd2 (f_Mod_days (X.2 (ix (x3 + 1))) (X.2 (ix (x3 + 2))) (X.2 (ix (x3 + 3))) M251) fun v256 M257 =>
      if v250 = v256 then
        f_Law_law_L18 X n (x3 + 5) M257
      else
      some 0
    else if (X.2 (ix x3)) &&& 63 = 23 then
      ck (inb (x3 + 1) X.1) <|
      ck (inb (x3 + 2) X.1) <|
      bnd2 (f_Hal_best (X.2 (ix (x3 + 1))) (X.2 (ix (x3 + 2))) M) fun v263 M264 =>
      ck (inb (x3 + 1) X.1) <|
      ck (inb (x3 + 2) X.1) <|
      bnd2 (f_Mod_best (X.2 (ix (x3 + 1))) (X.2 (ix (x3 + 2))) M264) fun v268 M269 =>
      if v263 = v268 then
        f_Law_law_L18 X n (x3 + 5) M269
      else
      some 0
    else if (X.2 (ix x3)) &&& 63 = 24 then
      ck (inb (x3 + 1) X.1) <|
      ck (inb (x3 + 2) X.1) <|
      ck (inb (x3 + 3) X.1) <|
      bnd2 (f_Hal_say (X.2 (ix (x3 + 1))) (X.2 (ix (x3 + 2))) (X.2 (ix (x3 + 3))) M) fun v276 M277 =>
      ck (inb (x3 + 1) X.1) <|
      ck (inb (x3 + 2) X.1) <|
      ck (inb (x3 + 3) X.1) <|
      bnd2 (f_Mod_say (X.2 (ix (x3 + 1))) (X.2 (ix (x3 + 2))) (X.2 (ix (x3 + 3))) M277) fun v282 M283 =>
      if v276 = v282 then
        f_Law_law_L18 X n (x3 + 5) M283
      else
      some 0
    else if (X.2 (ix x3)) &&& 63 = 25 then
      ck (inb (x3 + 1) X.1) <|
      bnd2 (f_Hal_unsay (X.2 (ix (x3 + 1))) M) fun v288 M289 =>
      ck (inb (x3 + 1) X.1) <|
      bnd2 (f_Mod_unsay (X.2 (ix (x3 + 1))) M289) fun v292 M293 =>
      if v288 = v292 then
        f_Law_law_L18 X n (x3 + 5) M293
      else
      some 0
    else if (X.2 (ix x3)) &&& 63 = 26 then
      ck (inb (x3 + 1) X.1) <|
      ck (inb (x3 + 2) X.1) <|
      bnd2 (f_Hal_said (X.2 (ix (x3 + 1))) (X.2 (ix (x3 + 2))) M) fun v299 M300 =>
      ck (inb (x3 + 1) X.1) <|
      ck (inb (x3 + 2) X.1) <|
      bnd2 (f_Mod_said (X.2 (ix (x3 + 1))) (X.2 (ix (x3 + 2))) M300) fun v304 M305 =>
      if v299 = v304 then
        f_Law_law_L18 X n (x3 + 5) M305
      else
      some 0
    else if (X.2 (ix x3)) &&& 63 = 27 then
      ck (inb (x3 + 1) X.1) <|
      ck (inb (x3 + 2) X.1) <|
      bnd2 (f_Hal_knows (X.2 (ix (x3 + 1))) (X.2 (ix (x3 + 2))) M) fun v311 M312 =>
      ck (inb (x3 + 1) X.1) <|
      ck (inb (x3 + 2) X.1) <|
      bnd2 (f_Mod_knows (X.2 (ix (x3 + 1))) (X.2 (ix (x3 + 2))) M312) fun v316 M317 =>
      if v311 = v316 then
        f_Law_law_L18 X n (x3 + 5) M317
      else
      some 0
    else if (X.2 (ix x3)) &&& 63 = 28 then
      ck (inb (x3 + 1) X.1) <|
      ck (inb (x3 + 2) X.1) <|
      bnd2 (f_Hal_since (X.2 (ix (x3 + 1))) (X.2 (ix (x3 + 2))) M) fun v323 M324 =>
      ck (inb (x3 + 1) X.1) <|
      ck (inb (x3 + 2) X.1) <|
      bnd2 (f_Mod_since (X.2 (ix (x3 + 1))) (X.2 (ix (x3 + 2))) M324) fun v328 M329 =>
      if v323 = v328 then
        f_Law_law_L18 X n (x3 + 5) M329
      else
      some 0
    else if (X.2 (ix x3)) &&& 63 = 29 then
      ck (inb (x3 + 1) X.1) <|
      ck (inb (x3 + 2) X.1) <|
      ck (inb (x3 + 3) X.1) <|
      bnd2 (f_Hal_leak (X.2 (ix (x3 + 1))) (X.2 (ix (x3 + 2))) (X.2 (ix (x3 + 3))) M) fun v336 M337 =>
      ck (inb (x3 + 1) X.1) <|
      ck (inb (x3 + 2) X.1) <|
      ck (inb (x3 + 3) X.1) <|
      bnd2 (f_Mod_leak (X.2 (ix (x3 + 1))) (X.2 (ix (x3 + 2))) (X.2 (ix (x3 + 3))) M337) fun v342 M343 =>
      if v336 = v342 then
        f_Law_law_L18 X n (x3 + 5) M343
      else
      some 0
    else if (X.2 (ix x3)) &&& 63 = 30 then
      ck (inb (x3 + 1) X.1) <|
      bnd2 (f_Hal_without (X.2 (ix (x3 + 1))) M) fun v348 M349 =>
      ck (inb (x3 + 1) X.1) <|
      bnd2 (f_Mod_without (X.2 (ix (x3 + 1))) M349) fun v352 M353 =>
      if v348 = v352 then
        f_Law_law_L18 X n (x3 + 5) M353
      else
      some 0
    else if (X.2 (ix x3)) &&& 63 = 31 then
      ck (inb (x3 + 1) X.1) <|
      ck (inb (x3 + 2) X.1) <|
      ck (inb (x3 + 3) X.1) <|
      bnd2 (f_Hal_murmur (X.2 (ix (x3 + 1))) (X.2 (ix (x3 + 2))) (X.2 (ix (x3 + 3))) M) fun v360 M361 =>
      ck (inb (x3 + 1) X.1) <|
      ck (inb (x3 + 2) X.1) <|
      ck (inb (x3 + 3) X.1) <|
      bnd2 (f_Mod_murmur (X.2 (ix (x3 + 1))) (X.2 (ix (x3 + 2))) (X.2 (ix (x3 + 3))) M361) fun v366 M367 =>
      if v360 = v366 then
        f_Law_law_L18 X n (x3 + 5) M367
      else
      some 0
    else if (X.2 (ix x3)) &&& 63 = 32 then
      ck (inb (x3 + 1) X.1) <|
      ck (inb (x3 + 2) X.1) <|
      bnd2 (f_Hal_from (X.2 (ix (x3 + 1))) (X.2 (ix (x3 + 2))) M) fun v373 M374 =>
      ck (inb (x3 + 1) X.1) <|
      ck (inb (x3 + 2) X.1) <|
      bnd2 (f_Mod_from (X.2 (ix (x3 + 1))) (X.2 (ix (x3 + 2))) M374) fun v378 M379 =>
      if v373 = v378 then
        f_Law_law_L18 X n (x3 + 5) M379
      else
      some 0
    else if (X.2 (ix x3)) &&& 63 = 33 then
      ck (inb (x3 + 1) X.1) <|
      ck (inb (x3 + 2) X.1) <|
      ck (inb (x3 + 3) X.1) <|
      bnd2 (f_Hal_where (X.2 (ix (x3 + 1))) (X.2 (ix (x3 + 2))) (X.2 (ix (x3 + 3))) M) fun v386 M387 =>
      ck (inb (x3 + 1) X.1) <|
      ck (inb (x3 + 2) X.1) <|
      ck (inb (x3 + 3) X.1) <|
      bnd2 (f_Mod_where (X.2 (ix (x3 + 1))) (X.2 (ix (x3 + 2))) (X.2 (ix (x3 + 3))) M387) fun v392 M393 =>
      if v386 = v392 then
        f_Law_law_L18 X n (x3 + 5) M393
      else
      some 0
    else if (X.2 (ix x3)) &&& 63 = 34 then
      ck (inb (x3 + 1) X.1) <|
      bnd2 (f_Hal_keep (X.2 (ix (x3 + 1))) M) fun v398 M399 =>
      ck (inb (x3 + 1) X.1) <|
      bnd2 (f_Mod_keep (X.2 (ix (x3 + 1))) M399) fun v402 M403 =>
      if v398 = v402 then
        f_Law_law_L18 X n (x3 + 5) M403
      else
      some 0
    else if (X.2 (ix x3)) &&& 63 = 35 then
      ck (inb (x3 + 1) X.1) <|
      bnd2 (f_Hal_back (X.2 (ix (x3 + 1))) M) fun v408 M409 =>
      ck (inb (x3 + 1) X.1) <|
      bnd2 (f_Mod_back (X.2 (ix (x3 + 1))) M409) fun v412 M413 =>
      if v408 = v412 then
        f_Law_law_L18 X n (x3 + 5) M413
      else
      some 0
    else if (X.2 (ix x3)) &&& 63 = 36 then
      ck (inb (x3 + 1) X.1) <|
      ck (inb (x3 + 2) X.1) <|
      ck (inb (x3 + 3) X.1) <|
      bnd2 (f_Hal_sheet (X.2 (ix (x3 + 1))) (X.2 (ix (x3 + 2))) (X.2 (ix (x3 + 3))) M) fun v420 M421 =>
      ck (inb (x3 + 1) X.1) <|
      ck (inb (x3 + 2) X.1) <|
      ck (inb (x3 + 3) X.1) <|
      bnd2 (f_Mod_sheet (X.2 (ix (x3 + 1))) (X.2 (ix (x3 + 2))) (X.2 (ix (x3 + 3))) M421) fun v426 M427 =>
      if v420 = v426 then
        f_Law_law_L18 X n (x3 + 5) M427
      else
      some 0
    else if (X.2 (ix x3)) &&& 63 = 37 then
      ck (inb (x3 + 1) X.1) <|
      ck (inb (x3 + 2) X.1) <|
      ck (inb (x3 + 3) X.1) <|
      bnd2 (f_Hal_lay (X.2 (ix (x3 + 1))) (X.2 (ix (x3 + 2))) (X.2 (ix (x3 + 3))) M) fun v434 M435 =>
      ck (inb (x3 + 1) X.1) <|
      ck (inb (x3 + 2) X.1) <|
      ck (inb (x3 + 3) X.1) <|
      bnd2 (f_Mod_lay (X.2 (ix (x3 + 1))) (X.2 (ix (x3 + 2))) (X.2 (ix (x3 + 3))) M435) fun v440 M441 =>
      if v434 = v440 then
        f_Law_law_L18 X n (x3 + 5) M441
      else
      some 0
    else if (X.2 (ix x3)) &&& 63 = 38 then
      ck (inb (x3 + 1) X.1) <|
      ck (inb (x3 + 2) X.1) <|
      ck (inb (x3 + 3) X.1) <|
      ck (inb (x3 + 4) X.1) <|
      bnd2 (f_Hal_read (X.2 (ix (x3 + 1))) (X.2 (ix (x3 + 2))) (X.2 (ix (x3 + 3))) (X.2 (ix (x3 + 4))) M) fun v449 M450 =>
      ck (inb (x3 + 1) X.1) <|
      ck (inb (x3 + 2) X.1) <|
      ck (inb (x3 + 3) X.1) <|
      ck (inb (x3 + 4) X.1) <|
      bnd2 (f_Mod_read (X.2 (ix (x3 + 1))) (X.2 (ix (x3 + 2))) (X.2 (ix (x3 + 3))) (X.2 (ix (x3 + 4))) M450) fun v456 M457 =>
      if v449 = v456 then
        f_Law_law_L18 X n (x3 + 5) M457
      else
      some 0
    else if (X.2 (ix x3)) &&& 63 = 39 then
      bnd (f_Hal_torn M) fun v461 =>
      bnd (f_Mod_torn M) fun v463 =>
      if v461 = v463 then
        f_Law_law_L18 X n (x3 + 5) M
      else
      some 0
    else if (X.2 (ix x3)) &&& 63 = 40 then
      ck (inb (x3 + 1) X.1) <|
      bnd (f_Hal_count M (X.2 (ix (x3 + 1)))) fun v468 =>
      ck (inb (x3 + 1) X.1) <|
      bnd (f_Mod_count M (X.2 (ix (x3 + 1)))) fun v471 =>
      if v468 = v471 then
        f_Law_law_L18 X n (x3 + 5) M
      else
      some 0
    else
    f_Law_law_L18 X n (x3 + 5) M
def f_Law_law (X : Sc)    (M : Mem) : Option Int32 :=
  f_Law_law_L18 X 1000 0 M
end
section
/-! pure: small facts of numbers, memory, options -/
theorem e_bnd {α β : Type} (v : β) (g : β → Option α) : bnd (some v) g = g v := rfl
theorem e_bnd2 {α β : Type} (v : β) (M : Mem) (g : β → Mem → Option α) : bnd2 (some (v, M)) g = g v M := rfl
theorem e_set {α : Type} (M : Mem) (a k : Nat) (x : Int32) (g : Mem → Option α) : setM M a k x g = g (upd2 M a k x) := rfl
theorem e_cpy {α : Type} (M : Mem) (a sp d dp n : Nat) (g : Mem → Option α) : cpyM M a sp d dp n g = g (cpy2 M a sp d dp n) := rfl
theorem e_nmI {α : Type} (x : Int32) (g : Int32 → Option α) : nmI x g = g x := rfl
theorem e_nmL {α : Type} (x : Int64) (g : Int64 → Option α) : nmL x g = g x := rfl
theorem inb_n {k n : Nat} (h : k < n) (hn : n ≤ 2147483648) : inb (nI k) n = true := by
  simp only [inb, nI_toInt (show k < 2 ^ 31 by omega), Bool.and_eq_true, decide_eq_true_eq]
  omega
theorem e_ck {α : Type} {c : Bool} {a : Option α} (h : c = true) : ck c a = a := if_pos h
theorem e_ckn {α : Type} {k n : Nat} {a : Option α} (h : k < n) (hn : n ≤ 2147483648) : ck (inb (nI k) n) a = a := e_ck (inb_n h hn)
theorem e_ckB0 {α : Type} {a : Option α} : ck (isB (nI 0)) a = a := e_ck (by decide)
theorem e_ckB1 {α : Type} {a : Option α} : ck (isB (nI 1)) a = a := e_ck (by decide)
theorem e_ix {k : Nat} (h : k < 2147483648) : (nI k).toNatClampNeg = k := nI_clamp h
theorem e_neg {k m : Nat} (hk : k < 2147483648) (h0 : 0 < m) (hm : m < 2147483648) : (nI k = -nI m) = False := by
  refine eq_false fun e => ?_
  have := congrArg Int32.toInt e
  rw [Int32.toInt_neg, nI_toInt (show k < 2 ^ 31 by omega), nI_toInt (show m < 2 ^ 31 by omega), Int.bmod_eq_of_le (by omega) (by omega)] at this
  omega
theorem l0 : (0 : Int32) = nI 0 := rfl
theorem l1 : (1 : Int32) = nI 1 := rfl
theorem l2 : (2 : Int32) = nI 2 := rfl
theorem l3 : (3 : Int32) = nI 3 := rfl
theorem l4 : (4 : Int32) = nI 4 := rfl
theorem l5 : (5 : Int32) = nI 5 := rfl
theorem l6 : (6 : Int32) = nI 6 := rfl
theorem l7 : (7 : Int32) = nI 7 := rfl
theorem l8 : (8 : Int32) = nI 8 := rfl
theorem l9 : (9 : Int32) = nI 9 := rfl
theorem l10 : (10 : Int32) = nI 10 := rfl
theorem l11 : (11 : Int32) = nI 11 := rfl
theorem l12 : (12 : Int32) = nI 12 := rfl
theorem l13 : (13 : Int32) = nI 13 := rfl
theorem l14 : (14 : Int32) = nI 14 := rfl
theorem l15 : (15 : Int32) = nI 15 := rfl
theorem l16 : (16 : Int32) = nI 16 := rfl
theorem l17 : (17 : Int32) = nI 17 := rfl
theorem l18 : (18 : Int32) = nI 18 := rfl
theorem l19 : (19 : Int32) = nI 19 := rfl
theorem l20 : (20 : Int32) = nI 20 := rfl
theorem l21 : (21 : Int32) = nI 21 := rfl
theorem l22 : (22 : Int32) = nI 22 := rfl
theorem l24 : (24 : Int32) = nI 24 := rfl
theorem l25 : (25 : Int32) = nI 25 := rfl
theorem l32 : (32 : Int32) = nI 32 := rfl
theorem l39 : (39 : Int32) = nI 39 := rfl
theorem l40 : (40 : Int32) = nI 40 := rfl
theorem l41 : (41 : Int32) = nI 41 := rfl
theorem l48 : (48 : Int32) = nI 48 := rfl
theorem l50 : (50 : Int32) = nI 50 := rfl
theorem l56 : (56 : Int32) = nI 56 := rfl
theorem l57 : (57 : Int32) = nI 57 := rfl
theorem l59 : (59 : Int32) = nI 59 := rfl
theorem l60 : (60 : Int32) = nI 60 := rfl
theorem l72 : (72 : Int32) = nI 72 := rfl
theorem l79 : (79 : Int32) = nI 79 := rfl
theorem l80 : (80 : Int32) = nI 80 := rfl
theorem l81 : (81 : Int32) = nI 81 := rfl
theorem l82 : (82 : Int32) = nI 82 := rfl
theorem l88 : (88 : Int32) = nI 88 := rfl
theorem l89 : (89 : Int32) = nI 89 := rfl
theorem l97 : (97 : Int32) = nI 97 := rfl
theorem l100 : (100 : Int32) = nI 100 := rfl
theorem l122 : (122 : Int32) = nI 122 := rfl
theorem l124 : (124 : Int32) = nI 124 := rfl
theorem l125 : (125 : Int32) = nI 125 := rfl
theorem l160 : (160 : Int32) = nI 160 := rfl
theorem l255 : (255 : Int32) = nI 255 := rfl
theorem l312 : (312 : Int32) = nI 312 := rfl
theorem l320 : (320 : Int32) = nI 320 := rfl
theorem l375 : (375 : Int32) = nI 375 := rfl
theorem l1000 : (1000 : Int32) = nI 1000 := rfl
theorem nI_iff (x : Int32) : (0 ≤ x ↔ 0 ≤ x.toInt) := by
  rw [Int32.le_iff_toInt_le]; rfl
theorem nI_self {x : Int32} (h : 0 ≤ x) : x = nI (ix x) ∧ ix x < 2147483648 := by
  rw [nI_iff] at h
  have hx := Int32.toInt_lt x
  have e : ix x = x.toInt.toNat := rfl
  refine ⟨Int32.toInt_inj.mp ?_, by omega⟩
  rw [nI_toInt (by omega)]
  omega
/-- a number between 0 and a bound -/
theorem nI_rng {x : Int32} {m : Nat} (hm : m < 2147483648) (h0 : 0 ≤ x) (h1 : x ≤ nI m) : ∃ k : Nat, k ≤ m ∧ x = nI k := by
  obtain ⟨e, h⟩ := nI_self h0
  rw [e, nI_leI h hm] at h1
  exact ⟨_, h1, e⟩
/-- .. below a count -/
theorem nI_rng1 {x : Int32} {m : Nat} (hm : m < 2147483648) (h0 : 0 ≤ x) (h1 : x ≤ nI m - 1) : ∃ k : Nat, k < m ∧ x = nI k := by
  obtain ⟨e, h⟩ := nI_self h0
  rw [e, Int32.le_iff_toInt_le, nI_toInt h, Int32.toInt_sub, nI_toInt hm, show (1 : Int32).toInt = 1 from rfl, Int.bmod_eq_of_le (by omega) (by omega)] at h1
  exact ⟨_, by omega, e⟩
theorem nI_in1 {k m : Nat} (hm : m < 2147483648) (hk : k < m) : 0 ≤ nI k ∧ nI k ≤ nI m - 1 := by
  rw [nI_iff, Int32.le_iff_toInt_le, nI_toInt (show k < 2 ^ 31 by omega), Int32.toInt_sub, nI_toInt (show m < 2 ^ 31 by omega), show (1 : Int32).toInt = 1 from rfl, Int.bmod_eq_of_le (by omega) (by omega)]
  omega
theorem w_in (x lo hi : Int32) : f_Hal_within x lo hi = some (if lo ≤ x ∧ x ≤ hi then nI 1 else nI 0) := by
  unfold f_Hal_within
  by_cases h1 : x < lo
  · rw [if_pos h1, if_neg (fun h => absurd h.1 (Int32.not_le.mpr h1))]; rfl
  · rw [if_neg h1]
    by_cases h2 : hi < x
    · rw [if_pos h2, if_neg (fun h => absurd h.2 (Int32.not_le.mpr h2))]; rfl
    · rw [if_neg h2, if_pos ⟨Int32.not_lt.mp h1, Int32.not_lt.mp h2⟩]; rfl
theorem m_inL (x lo hi : Int64) : f_Mod_in x lo hi = some (if lo ≤ x ∧ x ≤ hi then nI 1 else nI 0) := by
  unfold f_Mod_in
  by_cases h1 : lo ≤ x
  · rw [if_neg (Int32.not_lt.mpr ((lg_cmp_ge x lo).mpr h1))]
    by_cases h2 : x ≤ hi
    · rw [if_neg (Int32.not_lt.mpr ((lg_cmp_le x hi).mpr h2)), if_pos ⟨h1, h2⟩]; rfl
    · rw [if_pos (Int32.not_le.mp (fun h => h2 ((lg_cmp_le x hi).mp h))), if_neg (fun h => h2 h.2)]; rfl
  · rw [if_pos (Int32.not_le.mp (fun h => h1 ((lg_cmp_ge x lo).mp h))), if_neg (fun h => h1 h.1)]; rfl
theorem i64_le (x y : Int32) : x.toInt64 ≤ y.toInt64 ↔ x ≤ y := by
  rw [Int64.le_iff_toInt_le, Int32.toInt_toInt64, Int32.toInt_toInt64, Int32.le_iff_toInt_le]
theorem m_in (x lo hi : Int32) : f_Mod_in x.toInt64 lo.toInt64 hi.toInt64 = some (if lo ≤ x ∧ x ≤ hi then nI 1 else nI 0) := by
  rw [m_inL]
  simp only [i64_le]
theorem m_in0 (x : Int32) {a b : Int64} {lo hi : Int32} (ha : a = lo.toInt64) (hb : b = hi.toInt64) : f_Mod_in x.toInt64 a b = some (if lo ≤ x ∧ x ≤ hi then nI 1 else nI 0) := by
  subst ha; subst hb; exact m_in x lo hi
/-- signed numbers -/
def J (i : Int) : Int32 := Int32.ofInt i
theorem J_nI (k : Nat) : nI k = J k := by
  unfold nI J
  rw [Int32.ofInt_eq_ofNat]
theorem J_add (a b : Int) : J a + J b = J (a + b) := (Int32.ofInt_add a b).symm
theorem J_sub (a b : Int) : J a - J b = J (a - b) := (Int32.ofInt_sub a b).symm
theorem J_mul (a b : Int) : J a * J b = J (a * b) := (Int32.ofInt_mul a b).symm
theorem J_neg (a : Int) : -J a = J (-a) := (Int32.ofInt_neg a).symm
theorem J_toInt {a : Int} (h1 : -2147483648 ≤ a) (h2 : a < 2147483648) : (J a).toInt = a := Int32.toInt_ofInt_of_le h1 h2
theorem J_lt {a b : Int} (h1 : -2147483648 ≤ a) (h2 : a < 2147483648) (h3 : -2147483648 ≤ b) (h4 : b < 2147483648) : (J a < J b) = (a < b) := by
  rw [Int32.lt_iff_toInt_lt, J_toInt h1 h2, J_toInt h3 h4]
theorem J_le {a b : Int} (h1 : -2147483648 ≤ a) (h2 : a < 2147483648) (h3 : -2147483648 ≤ b) (h4 : b < 2147483648) : (J a ≤ J b) = (a ≤ b) := by
  rw [Int32.le_iff_toInt_le, J_toInt h1 h2, J_toInt h3 h4]
theorem J_eq {a b : Int} (h1 : -2147483648 ≤ a) (h2 : a < 2147483648) (h3 : -2147483648 ≤ b) (h4 : b < 2147483648) : (J a = J b) = (a = b) := by
  rw [← Int32.toInt_inj, J_toInt h1 h2, J_toInt h3 h4]
theorem J_nat {a : Int} (h : 0 ≤ a) : J a = nI a.toNat := by
  rw [J_nI]
  congr 1
  omega
theorem j_rem {a d : Nat} (ha : a < 2147483648) (h0 : 0 < d) (hd : d < 2147483648) : jrem (nI a) (nI d) = nI (a % d) := pk_rem ha h0 hd
/-! memory -/
theorem u_ne {M : Mem} {a a' k : Nat} {x : Int32} (h : a' ≠ a) : upd2 M a k x a' = M a' := by
  funext j; exact if_neg (fun q => h q.1)
theorem u_eq {M : Mem} {a k : Nat} {x : Int32} : upd2 M a k x a k = x := if_pos ⟨rfl, rfl⟩
theorem u_nk {M : Mem} {a k k' : Nat} {x : Int32} (h : k' ≠ k) : upd2 M a k x a k' = M a k' := if_neg (fun q => h q.2)
theorem u_at {M : Mem} {a k k' : Nat} {x : Int32} : upd2 M a k x a k' = if k' = k then x else M a k' := by
  by_cases h : k' = k
  · subst h; rw [if_pos rfl, u_eq]
  · rw [if_neg h, u_nk h]
theorem u_self {M : Mem} {a k : Nat} {x : Int32} (h : M a k = x) : upd2 M a k x = M := by
  funext i j
  by_cases q : i = a ∧ j = k
  · obtain ⟨rfl, rfl⟩ := q; rw [u_eq, h]
  · exact if_neg q
theorem u_u {M : Mem} {a k : Nat} {x y : Int32} : upd2 (upd2 M a k x) a k y = upd2 M a k y := by
  funext i j
  by_cases q : i = a ∧ j = k
  · obtain ⟨rfl, rfl⟩ := q; rw [u_eq, u_eq]
  · show (if _ then _ else _) = (if _ then _ else _)
    rw [if_neg q, if_neg q]
    exact if_neg q
theorem u_cm {M : Mem} {a k b j : Nat} {x y : Int32} (h : a ≠ b) : upd2 (upd2 M a k x) b j y = upd2 (upd2 M b j y) a k x := by
  funext i n
  by_cases q : i = a
  · subst q
    rw [u_ne h]
    by_cases r : n = k
    · subst r; rw [u_eq, u_eq]
    · rw [u_nk r, u_nk r, u_ne h]
  · rw [u_ne (M := upd2 M b j y) q]
    by_cases r : i = b
    · subst r
      by_cases t : n = j
      · subst t; rw [u_eq, u_eq]
      · rw [u_nk t, u_nk t, u_ne q]
    · rw [u_ne r, u_ne q, u_ne r]
/-- only the addresses from lo to hi may have changed -/
def Fr (lo hi : Nat) (M M' : Mem) : Prop := ∀ a, a < lo ∨ hi < a → M' a = M a
theorem Fr.rf {lo hi : Nat} {M : Mem} : Fr lo hi M M := fun _ _ => rfl
theorem Fr.tr {lo hi : Nat} {M M' M2 : Mem} (h : Fr lo hi M M') (g : Fr lo hi M' M2) : Fr lo hi M M2 := fun a q => (g a q).trans (h a q)
theorem Fr.up {lo hi lo' hi' : Nat} {M M' : Mem} (h : Fr lo' hi' M M') (h1 : lo ≤ lo') (h2 : hi' ≤ hi) : Fr lo hi M M' := fun a q => h a (by omega)
theorem Fr.set {lo hi : Nat} {M M' : Mem} {a k : Nat} {x : Int32} (h : Fr lo hi M M') (h1 : lo ≤ a) (h2 : a ≤ hi) : Fr lo hi M (upd2 M' a k x) := fun i q => by
  rw [u_ne (by omega), h i q]
/-- the reference's own: what only works anew (113 .. 118; of 103: 31, 35 .. 38) -/
def Frm (M M' : Mem) : Prop := ∀ a k, (a < 113 ∨ 118 < a) → (a = 103 → k ≠ 31 ∧ k ≠ 35 ∧ k ≠ 36 ∧ k ≠ 37 ∧ k ≠ 38) → M' a k = M a k
/-- .. the way alone -/
def Frp (M M' : Mem) : Prop := ∀ a k, a ≠ 113 → a ≠ 114 → (a = 103 → k ≠ 31) → M' a k = M a k
theorem Frp.rf {M : Mem} : Frp M M := fun _ _ _ _ _ => rfl
theorem Frp.tr {M M' M2 : Mem} (h : Frp M M') (g : Frp M' M2) : Frp M M2 := fun a k q r t => (g a k q r t).trans (h a k q r t)
theorem Frp.m {M M' : Mem} (h : Frp M M') : Frm M M' := fun a k q r => h a k (by omega) (by omega) (fun e => (r e).1)
theorem Frm.rf {M : Mem} : Frm M M := fun _ _ _ _ => rfl
theorem Frm.tr {M M' M2 : Mem} (h : Frm M M') (g : Frm M' M2) : Frm M M2 := fun a k q r => (g a k q r).trans (h a k q r)
theorem Frm.set {M M' : Mem} {a k : Nat} {x : Int32} (h : Frm M M') (h1 : 113 ≤ a) (h2 : a ≤ 118) : Frm M (upd2 M' a k x) := fun i j q r => by
  rw [u_ne (by omega), h i j q r]
theorem Frm.setF {M M' : Mem} {k : Nat} {x : Int32} (h : Frm M M') (h1 : k = 31 ∨ k = 35 ∨ k = 36 ∨ k = 37 ∨ k = 38) : Frm M (upd2 M' 103 k x) := fun i j q r => by
  by_cases e : i = 103
  · subst e
    rw [u_nk (by have := r rfl; omega), h _ j q r]
  · rw [u_ne e, h i j q r]
end
section
/-! pure: what is told, in numbers -/
abbrev Tn : Type := Nat → Nat → Nat
def On (T : Tn) (M : Mem) : Prop :=
  (∀ j, j < 6 → M 1 j = nI (T 1 j)) ∧ (∀ c, c < 81 → M 2 c = nI (T 2 c)) ∧ (∀ p, p < 6 → M 3 p = nI (T 3 p)) ∧ M 4 0 = nI (T 4 0) ∧ (∀ a, 5 ≤ a → a ≤ 9 → ∀ b, b < T 4 0 → M a b = nI (T a b)) ∧ M 10 0 = nI (T 10 0) ∧ (∀ a, 11 ≤ a → a ≤ 13 → ∀ i, i < T 10 0 → M a i = nI (T a i)) ∧ M 14 0 = nI (T 14 0) ∧ (∀ a, 15 ≤ a → a ≤ 17 → ∀ i, i < T 14 0 → M a i = nI (T a i))
def OnM (T : Tn) (M : Mem) : Prop :=
  (M 103 2 = nI (T 1 0) ∧ M 103 3 = nI (T 1 1) ∧ M 103 4 = nI (T 1 2) ∧ M 103 5 = nI (T 1 3) ∧ M 104 81 = nI (T 1 4) ∧ M 103 7 = nI (T 1 5)) ∧ (∀ c, c < 81 → M 104 c = nI (T 2 c)) ∧ (∀ p, p < 6 → M 104 (82 + p) = nI (T 3 p)) ∧ M 103 6 = nI (T 4 0) ∧ (∀ b, b < T 4 0 → M 106 (4 * b) = nI (9 * T 6 b + T 5 b) ∧ M 106 (4 * b + 1) = nI (T 7 b) ∧ M 106 (4 * b + 2) = nI (T 8 b) ∧ M 106 (4 * b + 3) = nI (T 9 b)) ∧
  M 103 8 = nI (T 10 0) ∧ (∀ i, i < T 10 0 → M 107 (3 * i) = nI (T 11 i) ∧ M 107 (3 * i + 1) = nI (T 12 i) ∧ M 107 (3 * i + 2) = nI (T 13 i)) ∧ M 104 88 = nI (T 14 0) ∧ (∀ i, i < T 14 0 → M 104 (89 + 3 * i) = nI (T 15 i) ∧ M 104 (89 + 3 * i + 1) = nI (T 16 i) ∧ M 104 (89 + 3 * i + 2) = nI (T 17 i))
def Good (T : Tn) : Prop :=
  (3 ≤ T 1 0 ∧ T 1 0 ≤ 9) ∧ (3 ≤ T 1 1 ∧ T 1 1 ≤ 9) ∧ T 1 2 ≤ 20 ∧ T 1 3 ≤ 50 ∧ T 1 4 ≤ 9 ∧ (T 1 5 ≤ 6 ∧ T 1 5 ≤ T 4 0 ∧ T 4 0 ≤ 8) ∧ (∀ c, c < 81 → T 2 c ≤ 2) ∧ (∀ p, p < T 1 5 → T 3 p < T 4 0) ∧ (∀ p q, p < T 1 5 → q < T 1 5 → T 3 p = T 3 q → p = q) ∧ (∀ b, b < T 4 0 → T 5 b < T 1 0 ∧ T 6 b < T 1 1 ∧ T 7 b < 8 ∧ 1 ≤ T 8 b ∧ T 8 b ≤ 100 ∧ T 9 b ≤ 4) ∧
  (T 10 0 ≤ 8 ∧ ∀ i, i < T 10 0 → T 11 i < T 1 5 ∧ T 12 i < T 1 5 ∧ T 13 i ≤ 1) ∧ (T 14 0 ≤ 12 ∧ ∀ i, i < T 14 0 → T 15 i < 12 ∧ T 16 i < T 1 5 ∧ T 17 i < 8)
section PT
variable {T : Tn} {M : Mem}
theorem On.s (h : On T M) {j : Nat} (hj : j < 6) : M 1 j = nI (T 1 j) := h.1 j hj
theorem On.s0 (h : On T M) : M 1 0 = nI (T 1 0) := h.1 0 (by decide)
theorem On.s1 (h : On T M) : M 1 1 = nI (T 1 1) := h.1 1 (by decide)
theorem On.s2 (h : On T M) : M 1 2 = nI (T 1 2) := h.1 2 (by decide)
theorem On.s3 (h : On T M) : M 1 3 = nI (T 1 3) := h.1 3 (by decide)
theorem On.s4 (h : On T M) : M 1 4 = nI (T 1 4) := h.1 4 (by decide)
theorem On.s5 (h : On T M) : M 1 5 = nI (T 1 5) := h.1 5 (by decide)
theorem On.c (h : On T M) {c : Nat} (hc : c < 81) : M 2 c = nI (T 2 c) := h.2.1 c hc
theorem On.p (h : On T M) {p : Nat} (hp : p < 6) : M 3 p = nI (T 3 p) := h.2.2.1 p hp
theorem On.nb (h : On T M) : M 4 0 = nI (T 4 0) := h.2.2.2.1
theorem On.b (h : On T M) {a b : Nat} (h1 : 5 ≤ a) (h2 : a ≤ 9) (hb : b < T 4 0) : M a b = nI (T a b) := h.2.2.2.2.1 a h1 h2 b hb
theorem On.b5 (h : On T M) {b : Nat} (hb : b < T 4 0) : M 5 b = nI (T 5 b) := h.b (by decide) (by decide) hb
theorem On.b6 (h : On T M) {b : Nat} (hb : b < T 4 0) : M 6 b = nI (T 6 b) := h.b (by decide) (by decide) hb
theorem On.b7 (h : On T M) {b : Nat} (hb : b < T 4 0) : M 7 b = nI (T 7 b) := h.b (by decide) (by decide) hb
theorem On.b8 (h : On T M) {b : Nat} (hb : b < T 4 0) : M 8 b = nI (T 8 b) := h.b (by decide) (by decide) hb
theorem On.b9 (h : On T M) {b : Nat} (hb : b < T 4 0) : M 9 b = nI (T 9 b) := h.b (by decide) (by decide) hb
theorem On.nw (h : On T M) : M 10 0 = nI (T 10 0) := h.2.2.2.2.2.1
theorem On.w (h : On T M) {a i : Nat} (h1 : 11 ≤ a) (h2 : a ≤ 13) (hi : i < T 10 0) : M a i = nI (T a i) := h.2.2.2.2.2.2.1 a h1 h2 i hi
theorem On.ns (h : On T M) : M 14 0 = nI (T 14 0) := h.2.2.2.2.2.2.2.1
theorem On.v (h : On T M) {a i : Nat} (h1 : 15 ≤ a) (h2 : a ≤ 17) (hi : i < T 14 0) : M a i = nI (T a i) := h.2.2.2.2.2.2.2.2 a h1 h2 i hi
theorem OnM.s0 (h : OnM T M) : M 103 2 = nI (T 1 0) := h.1.1
theorem OnM.s1 (h : OnM T M) : M 103 3 = nI (T 1 1) := h.1.2.1
theorem OnM.s2 (h : OnM T M) : M 103 4 = nI (T 1 2) := h.1.2.2.1
theorem OnM.s3 (h : OnM T M) : M 103 5 = nI (T 1 3) := h.1.2.2.2.1
theorem OnM.s4 (h : OnM T M) : M 104 81 = nI (T 1 4) := h.1.2.2.2.2.1
theorem OnM.s5 (h : OnM T M) : M 103 7 = nI (T 1 5) := h.1.2.2.2.2.2
theorem OnM.c (h : OnM T M) {c : Nat} (hc : c < 81) : M 104 c = nI (T 2 c) := h.2.1 c hc
theorem OnM.p (h : OnM T M) {p : Nat} (hp : p < 6) : M 104 (82 + p) = nI (T 3 p) := h.2.2.1 p hp
theorem OnM.nb (h : OnM T M) : M 103 6 = nI (T 4 0) := h.2.2.2.1
theorem OnM.b0 (h : OnM T M) {b : Nat} (hb : b < T 4 0) : M 106 (4 * b) = nI (9 * T 6 b + T 5 b) := (h.2.2.2.2.1 b hb).1
theorem OnM.b1 (h : OnM T M) {b : Nat} (hb : b < T 4 0) : M 106 (4 * b + 1) = nI (T 7 b) := (h.2.2.2.2.1 b hb).2.1
theorem OnM.b2 (h : OnM T M) {b : Nat} (hb : b < T 4 0) : M 106 (4 * b + 2) = nI (T 8 b) := (h.2.2.2.2.1 b hb).2.2.1
theorem OnM.b3 (h : OnM T M) {b : Nat} (hb : b < T 4 0) : M 106 (4 * b + 3) = nI (T 9 b) := (h.2.2.2.2.1 b hb).2.2.2
theorem OnM.nw (h : OnM T M) : M 103 8 = nI (T 10 0) := h.2.2.2.2.2.1
theorem OnM.w0 (h : OnM T M) {i : Nat} (hi : i < T 10 0) : M 107 (3 * i) = nI (T 11 i) := (h.2.2.2.2.2.2.1 i hi).1
theorem OnM.w1 (h : OnM T M) {i : Nat} (hi : i < T 10 0) : M 107 (3 * i + 1) = nI (T 12 i) := (h.2.2.2.2.2.2.1 i hi).2.1
theorem OnM.w2 (h : OnM T M) {i : Nat} (hi : i < T 10 0) : M 107 (3 * i + 2) = nI (T 13 i) := (h.2.2.2.2.2.2.1 i hi).2.2
theorem OnM.ns (h : OnM T M) : M 104 88 = nI (T 14 0) := h.2.2.2.2.2.2.2.1
theorem OnM.v0 (h : OnM T M) {i : Nat} (hi : i < T 14 0) : M 104 (89 + 3 * i) = nI (T 15 i) := (h.2.2.2.2.2.2.2.2 i hi).1
theorem OnM.v1 (h : OnM T M) {i : Nat} (hi : i < T 14 0) : M 104 (89 + 3 * i + 1) = nI (T 16 i) := (h.2.2.2.2.2.2.2.2 i hi).2.1
theorem OnM.v2 (h : OnM T M) {i : Nat} (hi : i < T 14 0) : M 104 (89 + 3 * i + 2) = nI (T 17 i) := (h.2.2.2.2.2.2.2.2 i hi).2.2
theorem Good.w (h : Good T) : 3 ≤ T 1 0 ∧ T 1 0 ≤ 9 := h.1
theorem Good.h (h : Good T) : 3 ≤ T 1 1 ∧ T 1 1 ≤ 9 := h.2.1
theorem Good.fade (h : Good T) : T 1 2 ≤ 20 := h.2.2.1
theorem Good.bounce (h : Good T) : T 1 3 ≤ 50 := h.2.2.2.1
theorem Good.warm (h : Good T) : T 1 4 ≤ 9 := h.2.2.2.2.1
theorem Good.n (h : Good T) : T 1 5 ≤ 6 ∧ T 1 5 ≤ T 4 0 ∧ T 4 0 ≤ 8 := h.2.2.2.2.2.1
theorem Good.c (h : Good T) {c : Nat} (hc : c < 81) : T 2 c ≤ 2 := h.2.2.2.2.2.2.1 c hc
theorem Good.p (h : Good T) {p : Nat} (hp : p < T 1 5) : T 3 p < T 4 0 := h.2.2.2.2.2.2.2.1 p hp
theorem Good.pi (h : Good T) {p q : Nat} (hp : p < T 1 5) (hq : q < T 1 5) (e : T 3 p = T 3 q) : p = q := h.2.2.2.2.2.2.2.2.1 p q hp hq e
theorem Good.b (h : Good T) {b : Nat} (hb : b < T 4 0) : T 5 b < T 1 0 ∧ T 6 b < T 1 1 ∧ T 7 b < 8 ∧ 1 ≤ T 8 b ∧ T 8 b ≤ 100 ∧ T 9 b ≤ 4 := h.2.2.2.2.2.2.2.2.2.1 b hb
theorem Good.nw (h : Good T) : T 10 0 ≤ 8 := h.2.2.2.2.2.2.2.2.2.2.1.1
theorem Good.wi (h : Good T) {i : Nat} (hi : i < T 10 0) : T 11 i < T 1 5 ∧ T 12 i < T 1 5 ∧ T 13 i ≤ 1 := h.2.2.2.2.2.2.2.2.2.2.1.2 i hi
theorem Good.ns (h : Good T) : T 14 0 ≤ 12 := h.2.2.2.2.2.2.2.2.2.2.2.1
theorem Good.v (h : Good T) {i : Nat} (hi : i < T 14 0) : T 15 i < 12 ∧ T 16 i < T 1 5 ∧ T 17 i < 8 := h.2.2.2.2.2.2.2.2.2.2.2.2 i hi
/-- what is told lies below 18 -/
theorem On.fr (h : On T M) {lo hi : Nat} {M' : Mem} (f : Fr lo hi M M') (hl : 18 ≤ lo) : On T M' := by
  have e : ∀ a, a < 18 → M' a = M a := fun a ha => f a (by omega)
  refine ⟨fun j hj => ?_, fun j hj => ?_, fun j hj => ?_, ?_, fun a h1 h2 j hj => ?_, ?_, fun a h1 h2 j hj => ?_, ?_, fun a h1 h2 j hj => ?_⟩
  · rw [e 1 (by decide)]; exact h.1 j hj
  · rw [e 2 (by decide)]; exact h.c hj
  · rw [e 3 (by decide)]; exact h.p hj
  · rw [e 4 (by decide)]; exact h.nb
  · rw [e a (by omega)]; exact h.b h1 h2 hj
  · rw [e 10 (by decide)]; exact h.nw
  · rw [e a (by omega)]; exact h.w h1 h2 hj
  · rw [e 14 (by decide)]; exact h.ns
  · rw [e a (by omega)]; exact h.v h1 h2 hj
theorem OnM.fr (h : OnM T M) {M' : Mem} (f : Frm M M') : OnM T M' := by
  have e3 : ∀ k, k ≤ 8 → M' 103 k = M 103 k := fun k hk => f 103 k (by decide) (fun _ => by omega)
  have e : ∀ a k, 104 ≤ a → a ≤ 107 → M' a k = M a k := fun a k h1 h2 => f a k (by omega) (fun q => by omega)
  refine ⟨⟨?_, ?_, ?_, ?_, ?_, ?_⟩, fun j hj => ?_, fun j hj => ?_, ?_, fun j hj => ⟨?_, ?_, ?_, ?_⟩, ?_, fun j hj => ⟨?_, ?_, ?_⟩, ?_, fun j hj => ⟨?_, ?_, ?_⟩⟩
  · rw [e3 _ (by decide)]; exact h.s0
  · rw [e3 _ (by decide)]; exact h.s1
  · rw [e3 _ (by decide)]; exact h.s2
  · rw [e3 _ (by decide)]; exact h.s3
  · rw [e _ _ (by decide) (by decide)]; exact h.s4
  · rw [e3 _ (by decide)]; exact h.s5
  · rw [e _ _ (by decide) (by decide)]; exact h.c hj
  · rw [e _ _ (by decide) (by decide)]; exact h.p hj
  · rw [e3 _ (by decide)]; exact h.nb
  · rw [e _ _ (by decide) (by decide)]; exact h.b0 hj
  · rw [e _ _ (by decide) (by decide)]; exact h.b1 hj
  · rw [e _ _ (by decide) (by decide)]; exact h.b2 hj
  · rw [e _ _ (by decide) (by decide)]; exact h.b3 hj
  · rw [e3 _ (by decide)]; exact h.nw
  · rw [e _ _ (by decide) (by decide)]; exact h.w0 hj
  · rw [e _ _ (by decide) (by decide)]; exact h.w1 hj
  · rw [e _ _ (by decide) (by decide)]; exact h.w2 hj
  · rw [e _ _ (by decide) (by decide)]; exact h.ns
  · rw [e _ _ (by decide) (by decide)]; exact h.v0 hj
  · rw [e _ _ (by decide) (by decide)]; exact h.v1 hj
  · rw [e _ _ (by decide) (by decide)]; exact h.v2 hj
/-! benches -/
def cel (T : Tn) (b h : Nat) : Nat := 9 * T 6 b + (if T 9 b = 2 then (T 5 b + h) % T 1 0 else T 5 b)
def fac (T : Tn) (b h : Nat) : Nat := if T 9 b = 1 ∨ T 9 b = 2 then (T 7 b + h) % 8 else T 7 b
def ear (T : Tn) (b : Nat) : Nat := if T 9 b = 4 then (if T 8 b / 2 ≤ 1 then 1 else T 8 b / 2) else T 8 b
theorem cel_lt (g : Good T) {b h : Nat} (hb : b < T 4 0) : cel T b h < 81 ∧ cel T b h % 9 < T 1 0 ∧ cel T b h / 9 < T 1 1 := by
  have h1 := g.b hb
  have h2 := g.w
  have h3 := g.h
  unfold cel
  have : (T 5 b + h) % T 1 0 < T 1 0 := Nat.mod_lt _ (by omega)
  split <;> omega
theorem fac_lt (g : Good T) {b h : Nat} (hb : b < T 4 0) : fac T b h < 8 := by
  have h1 := g.b hb
  unfold fac
  split <;> omega
theorem ear_lt (g : Good T) {b : Nat} (hb : b < T 4 0) : 1 ≤ ear T b ∧ ear T b ≤ 100 := by
  have h1 := g.b hb
  unfold ear
  split
  · split <;> omega
  · omega
theorem c_exists (o : On T M) (g : Good T) {b : Nat} (hb : b < T 4 0) : f_Ben_exists 4 M (nI b) = some (nI 1) := by
  have h1 := g.n
  simp (disch := omega) only [e_bnd, e_bnd2, e_set, e_cpy, e_nmI, e_nmL, e_ckn, e_ckB0, e_ckB1, l0, l1, l2, l3, l4, l5, l6, l7, l8, l9, l10, l11, l12, l13, l14, l15, l16, l17, l18, l19, l20, l21, l22, l24, l25, l32, l39, l40, l41, l48, l50, l56, l57, l59, l60, l72, l79, l80, l81, l82, l88, l89, l97, l100, l122, l124, l125, l160, l255, l312, l320, l375, l1000, nI_ltI, nI_leI, nI_eq, nI_add, pk_mul, e_ix, e_neg, if_true, if_false, if_pos, if_neg, f_Ben_exists, o.nb]
theorem c_cell (o : On T M) (g : Good T) {b h : Nat} (hb : b < T 4 0) (hh : h < 12) : f_Ben_cellIn 4 M (nI b) (nI h) (M 1 0) = some (nI (cel T b h)) := by
  have h1 := g.n
  have h2 := g.w
  have h3 := g.b hb
  by_cases hk : T 9 b = 2
  · simp (disch := omega) only [e_bnd, e_bnd2, e_set, e_cpy, e_nmI, e_nmL, e_ckn, e_ckB0, e_ckB1, l0, l1, l2, l3, l4, l5, l6, l7, l8, l9, l10, l11, l12, l13, l14, l15, l16, l17, l18, l19, l20, l21, l22, l24, l25, l32, l39, l40, l41, l48, l50, l56, l57, l59, l60, l72, l79, l80, l81, l82, l88, l89, l97, l100, l122, l124, l125, l160, l255, l312, l320, l375, l1000, nI_ltI, nI_leI, nI_eq, nI_add, pk_mul, e_ix, e_neg, if_true, if_false, if_pos, if_neg, f_Ben_cellIn, f_Ben_cellIn_J44, c_exists o g hb, Nat.reduceAdd, o.b9 hb, hk, o.s0, o.b5 hb, o.b6 hb, j_rem, cel]
  · simp (disch := omega) only [e_bnd, e_bnd2, e_set, e_cpy, e_nmI, e_nmL, e_ckn, e_ckB0, e_ckB1, l0, l1, l2, l3, l4, l5, l6, l7, l8, l9, l10, l11, l12, l13, l14, l15, l16, l17, l18, l19, l20, l21, l22, l24, l25, l32, l39, l40, l41, l48, l50, l56, l57, l59, l60, l72, l79, l80, l81, l82, l88, l89, l97, l100, l122, l124, l125, l160, l255, l312, l320, l375, l1000, nI_ltI, nI_leI, nI_eq, nI_add, pk_mul, e_ix, e_neg, if_true, if_false, if_pos, if_neg, f_Ben_cellIn, f_Ben_cellIn_J44, f_Ben_cellIn_J38, c_exists o g hb, Nat.reduceAdd, o.b9 hb, o.s0, o.b5 hb, o.b6 hb, j_rem, cel]
theorem c_fac (o : On T M) (g : Good T) {b h : Nat} (hb : b < T 4 0) (hh : h < 12) : f_Ben_facingIn 4 M (nI b) (nI h) = some (nI (fac T b h)) := by
  have h1 := g.n
  have h3 := g.b hb
  by_cases hk : T 9 b = 1
  · simp (disch := omega) only [e_bnd, e_bnd2, e_set, e_cpy, e_nmI, e_nmL, e_ckn, e_ckB0, e_ckB1, l0, l1, l2, l3, l4, l5, l6, l7, l8, l9, l10, l11, l12, l13, l14, l15, l16, l17, l18, l19, l20, l21, l22, l24, l25, l32, l39, l40, l41, l48, l50, l56, l57, l59, l60, l72, l79, l80, l81, l82, l88, l89, l97, l100, l122, l124, l125, l160, l255, l312, l320, l375, l1000, nI_ltI, nI_leI, nI_eq, nI_add, pk_mul, e_ix, e_neg, if_true, if_false, if_pos, if_neg, f_Ben_facingIn, f_Ben_facingIn_J36, f_Ben_facingIn_J31, c_exists o g hb, Nat.reduceAdd, o.b9 hb, hk, o.b7 hb, j_rem, fac, true_or]
  · by_cases hk2 : T 9 b = 2
    · simp (disch := omega) only [e_bnd, e_bnd2, e_set, e_cpy, e_nmI, e_nmL, e_ckn, e_ckB0, e_ckB1, l0, l1, l2, l3, l4, l5, l6, l7, l8, l9, l10, l11, l12, l13, l14, l15, l16, l17, l18, l19, l20, l21, l22, l24, l25, l32, l39, l40, l41, l48, l50, l56, l57, l59, l60, l72, l79, l80, l81, l82, l88, l89, l97, l100, l122, l124, l125, l160, l255, l312, l320, l375, l1000, nI_ltI, nI_leI, nI_eq, nI_add, pk_mul, e_ix, e_neg, if_true, if_false, if_pos, if_neg, f_Ben_facingIn, f_Ben_facingIn_J36, f_Ben_facingIn_J31, c_exists o g hb, Nat.reduceAdd, o.b9 hb, hk2, o.b7 hb, j_rem, fac, or_true]
    · simp (disch := omega) only [e_bnd, e_bnd2, e_set, e_cpy, e_nmI, e_nmL, e_ckn, e_ckB0, e_ckB1, l0, l1, l2, l3, l4, l5, l6, l7, l8, l9, l10, l11, l12, l13, l14, l15, l16, l17, l18, l19, l20, l21, l22, l24, l25, l32, l39, l40, l41, l48, l50, l56, l57, l59, l60, l72, l79, l80, l81, l82, l88, l89, l97, l100, l122, l124, l125, l160, l255, l312, l320, l375, l1000, nI_ltI, nI_leI, nI_eq, nI_add, pk_mul, e_ix, e_neg, if_true, if_false, if_pos, if_neg, f_Ben_facingIn, f_Ben_facingIn_J36, f_Ben_facingIn_J31, c_exists o g hb, Nat.reduceAdd, o.b9 hb, o.b7 hb, j_rem, fac]
theorem c_ear (o : On T M) (g : Good T) {b : Nat} (hb : b < T 4 0) : f_Ben_earOf 4 M (nI b) = some (nI (ear T b)) := by
  have h1 := g.n
  have h3 := g.b hb
  by_cases hk : T 9 b = 4
  · by_cases h5 : T 8 b / 2 ≤ 1
    · by_cases h6 : 1 < T 8 b / 2
      · omega
      · simp (disch := omega) only [e_bnd, e_bnd2, e_set, e_cpy, e_nmI, e_nmL, e_ckn, e_ckB0, e_ckB1, l0, l1, l2, l3, l4, l5, l6, l7, l8, l9, l10, l11, l12, l13, l14, l15, l16, l17, l18, l19, l20, l21, l22, l24, l25, l32, l39, l40, l41, l48, l50, l56, l57, l59, l60, l72, l79, l80, l81, l82, l88, l89, l97, l100, l122, l124, l125, l160, l255, l312, l320, l375, l1000, nI_ltI, nI_leI, nI_eq, nI_add, pk_mul, e_ix, e_neg, if_true, if_false, if_pos, if_neg, f_Ben_earOf, c_exists o g hb, Nat.reduceAdd, o.b9 hb, hk, o.b8 hb, pk_div, jmax, ear]
    · simp (disch := omega) only [e_bnd, e_bnd2, e_set, e_cpy, e_nmI, e_nmL, e_ckn, e_ckB0, e_ckB1, l0, l1, l2, l3, l4, l5, l6, l7, l8, l9, l10, l11, l12, l13, l14, l15, l16, l17, l18, l19, l20, l21, l22, l24, l25, l32, l39, l40, l41, l48, l50, l56, l57, l59, l60, l72, l79, l80, l81, l82, l88, l89, l97, l100, l122, l124, l125, l160, l255, l312, l320, l375, l1000, nI_ltI, nI_leI, nI_eq, nI_add, pk_mul, e_ix, e_neg, if_true, if_false, if_pos, if_neg, f_Ben_earOf, c_exists o g hb, Nat.reduceAdd, o.b9 hb, hk, o.b8 hb, pk_div, jmax, ear]
  · simp (disch := omega) only [e_bnd, e_bnd2, e_set, e_cpy, e_nmI, e_nmL, e_ckn, e_ckB0, e_ckB1, l0, l1, l2, l3, l4, l5, l6, l7, l8, l9, l10, l11, l12, l13, l14, l15, l16, l17, l18, l19, l20, l21, l22, l24, l25, l32, l39, l40, l41, l48, l50, l56, l57, l59, l60, l72, l79, l80, l81, l82, l88, l89, l97, l100, l122, l124, l125, l160, l255, l312, l320, l375, l1000, nI_ltI, nI_leI, nI_eq, nI_add, pk_mul, e_ix, e_neg, if_true, if_false, if_pos, if_neg, f_Ben_earOf, c_exists o g hb, Nat.reduceAdd, o.b9 hb, o.b8 hb, ear]
theorem c_kind (o : On T M) (g : Good T) {b : Nat} (hb : b < T 4 0) : f_Ben_kindOf 4 M (nI b) = some (nI (T 9 b)) := by
  have h1 := g.n
  simp (disch := omega) only [e_bnd, e_bnd2, e_set, e_cpy, e_nmI, e_nmL, e_ckn, e_ckB0, e_ckB1, l0, l1, l2, l3, l4, l5, l6, l7, l8, l9, l10, l11, l12, l13, l14, l15, l16, l17, l18, l19, l20, l21, l22, l24, l25, l32, l39, l40, l41, l48, l50, l56, l57, l59, l60, l72, l79, l80, l81, l82, l88, l89, l97, l100, l122, l124, l125, l160, l255, l312, l320, l375, l1000, nI_ltI, nI_leI, nI_eq, nI_add, pk_mul, e_ix, e_neg, if_true, if_false, if_pos, if_neg, f_Ben_kindOf, c_exists o g hb, Nat.reduceAdd, o.b9 hb]
theorem m_kind (o : OnM T M) (g : Good T) {b : Nat} (hb : b < T 4 0) : f_Mod_kindOf M (nI b) = some (nI (T 9 b)) := by
  have h1 := g.n
  simp (disch := omega) only [e_bnd, e_bnd2, e_set, e_cpy, e_nmI, e_nmL, e_ckn, e_ckB0, e_ckB1, l0, l1, l2, l3, l4, l5, l6, l7, l8, l9, l10, l11, l12, l13, l14, l15, l16, l17, l18, l19, l20, l21, l22, l24, l25, l32, l39, l40, l41, l48, l50, l56, l57, l59, l60, l72, l79, l80, l81, l82, l88, l89, l97, l100, l122, l124, l125, l160, l255, l312, l320, l375, l1000, nI_ltI, nI_leI, nI_eq, nI_add, pk_mul, e_ix, e_neg, if_true, if_false, if_pos, if_neg, f_Mod_kindOf, o.b3 hb]
theorem m_cell (o : OnM T M) (g : Good T) {b h : Nat} (hb : b < T 4 0) (hh : h < 12) : f_Mod_cellOf M (nI b) (nI h) = some (nI (cel T b h)) := by
  have h1 := g.n
  have h2 := g.w
  have h3 := g.b hb
  have h5 := g.h
  have h4 : (9 * T 6 b + T 5 b) % 9 = T 5 b := by omega
  by_cases hk : T 9 b = 2
  · simp (disch := omega) only [e_bnd, e_bnd2, e_set, e_cpy, e_nmI, e_nmL, e_ckn, e_ckB0, e_ckB1, l0, l1, l2, l3, l4, l5, l6, l7, l8, l9, l10, l11, l12, l13, l14, l15, l16, l17, l18, l19, l20, l21, l22, l24, l25, l32, l39, l40, l41, l48, l50, l56, l57, l59, l60, l72, l79, l80, l81, l82, l88, l89, l97, l100, l122, l124, l125, l160, l255, l312, l320, l375, l1000, nI_ltI, nI_leI, nI_eq, nI_add, pk_mul, e_ix, e_neg, if_true, if_false, if_pos, if_neg, f_Mod_cellOf, m_kind o g hb, o.b0 hb, hk, j_rem, h4, o.s0, cel, pk_sub, Nat.add_sub_cancel]
  · simp (disch := omega) only [e_bnd, e_bnd2, e_set, e_cpy, e_nmI, e_nmL, e_ckn, e_ckB0, e_ckB1, l0, l1, l2, l3, l4, l5, l6, l7, l8, l9, l10, l11, l12, l13, l14, l15, l16, l17, l18, l19, l20, l21, l22, l24, l25, l32, l39, l40, l41, l48, l50, l56, l57, l59, l60, l72, l79, l80, l81, l82, l88, l89, l97, l100, l122, l124, l125, l160, l255, l312, l320, l375, l1000, nI_ltI, nI_leI, nI_eq, nI_add, pk_mul, e_ix, e_neg, if_true, if_false, if_pos, if_neg, f_Mod_cellOf, m_kind o g hb, o.b0 hb, cel]
theorem m_fac (o : OnM T M) (g : Good T) {b h : Nat} (hb : b < T 4 0) (hh : h < 12) : f_Mod_facingOf M (nI b) (nI h) = some (nI (fac T b h)) := by
  have h1 := g.n
  have h3 := g.b hb
  have e : f_Mod_in (nI (T 9 b)).toInt64 1 2 = some (if (1 : Int32) ≤ nI (T 9 b) ∧ nI (T 9 b) ≤ 2 then nI 1 else nI 0) := m_in0 _ rfl rfl
  by_cases hk : T 9 b = 1 ∨ T 9 b = 2
  · simp (disch := omega) only [e_bnd, e_bnd2, e_set, e_cpy, e_nmI, e_nmL, e_ckn, e_ckB0, e_ckB1, l0, l1, l2, l3, l4, l5, l6, l7, l8, l9, l10, l11, l12, l13, l14, l15, l16, l17, l18, l19, l20, l21, l22, l24, l25, l32, l39, l40, l41, l48, l50, l56, l57, l59, l60, l72, l79, l80, l81, l82, l88, l89, l97, l100, l122, l124, l125, l160, l255, l312, l320, l375, l1000, nI_ltI, nI_leI, nI_eq, nI_add, pk_mul, e_ix, e_neg, if_true, if_false, if_pos, if_neg, f_Mod_facingOf, m_kind o g hb, e, o.b1 hb, j_rem, fac]
  · simp (disch := omega) only [e_bnd, e_bnd2, e_set, e_cpy, e_nmI, e_nmL, e_ckn, e_ckB0, e_ckB1, l0, l1, l2, l3, l4, l5, l6, l7, l8, l9, l10, l11, l12, l13, l14, l15, l16, l17, l18, l19, l20, l21, l22, l24, l25, l32, l39, l40, l41, l48, l50, l56, l57, l59, l60, l72, l79, l80, l81, l82, l88, l89, l97, l100, l122, l124, l125, l160, l255, l312, l320, l375, l1000, nI_ltI, nI_leI, nI_eq, nI_add, pk_mul, e_ix, e_neg, if_true, if_false, if_pos, if_neg, f_Mod_facingOf, m_kind o g hb, e, o.b1 hb, j_rem, fac]
theorem m_ear (o : OnM T M) (g : Good T) {b : Nat} (hb : b < T 4 0) : f_Mod_earOf M (nI b) = some (nI (ear T b)) := by
  have h1 := g.n
  have h3 := g.b hb
  by_cases hk : T 9 b = 4
  · by_cases h5 : T 8 b / 2 ≤ 1
    · simp (disch := omega) only [e_bnd, e_bnd2, e_set, e_cpy, e_nmI, e_nmL, e_ckn, e_ckB0, e_ckB1, l0, l1, l2, l3, l4, l5, l6, l7, l8, l9, l10, l11, l12, l13, l14, l15, l16, l17, l18, l19, l20, l21, l22, l24, l25, l32, l39, l40, l41, l48, l50, l56, l57, l59, l60, l72, l79, l80, l81, l82, l88, l89, l97, l100, l122, l124, l125, l160, l255, l312, l320, l375, l1000, nI_ltI, nI_leI, nI_eq, nI_add, pk_mul, e_ix, e_neg, if_true, if_false, if_pos, if_neg, f_Mod_earOf, m_kind o g hb, hk, o.b2 hb, pk_div, ear]
    · simp (disch := omega) only [e_bnd, e_bnd2, e_set, e_cpy, e_nmI, e_nmL, e_ckn, e_ckB0, e_ckB1, l0, l1, l2, l3, l4, l5, l6, l7, l8, l9, l10, l11, l12, l13, l14, l15, l16, l17, l18, l19, l20, l21, l22, l24, l25, l32, l39, l40, l41, l48, l50, l56, l57, l59, l60, l72, l79, l80, l81, l82, l88, l89, l97, l100, l122, l124, l125, l160, l255, l312, l320, l375, l1000, nI_ltI, nI_leI, nI_eq, nI_add, pk_mul, e_ix, e_neg, if_true, if_false, if_pos, if_neg, f_Mod_earOf, m_kind o g hb, hk, o.b2 hb, pk_div, ear]
  · simp (disch := omega) only [e_bnd, e_bnd2, e_set, e_cpy, e_nmI, e_nmL, e_ckn, e_ckB0, e_ckB1, l0, l1, l2, l3, l4, l5, l6, l7, l8, l9, l10, l11, l12, l13, l14, l15, l16, l17, l18, l19, l20, l21, l22, l24, l25, l32, l39, l40, l41, l48, l50, l56, l57, l59, l60, l72, l79, l80, l81, l82, l88, l89, l97, l100, l122, l124, l125, l160, l255, l312, l320, l375, l1000, nI_ltI, nI_leI, nI_eq, nI_add, pk_mul, e_ix, e_neg, if_true, if_false, if_pos, if_neg, f_Mod_earOf, m_kind o g hb, o.b2 hb, pk_div, ear]
/-! cells -/
def isC (T : Tn) (c : Nat) : Prop := c < 81 ∧ c % 9 < T 1 0 ∧ c / 9 < T 1 1
theorem c_isCell (o : On T M) (g : Good T) {c : Nat} (hc : c < 81) : f_Tol_isCell 1 M (nI c) = some (if c % 9 < T 1 0 ∧ c / 9 < T 1 1 then nI 1 else nI 0) := by
  have h2 := g.w
  have h3 := g.h
  by_cases h4 : T 1 0 ≤ c % 9
  · simp (disch := omega) only [e_bnd, e_bnd2, e_set, e_cpy, e_nmI, e_nmL, e_ckn, e_ckB0, e_ckB1, l0, l1, l2, l3, l4, l5, l6, l7, l8, l9, l10, l11, l12, l13, l14, l15, l16, l17, l18, l19, l20, l21, l22, l24, l25, l32, l39, l40, l41, l48, l50, l56, l57, l59, l60, l72, l79, l80, l81, l82, l88, l89, l97, l100, l122, l124, l125, l160, l255, l312, l320, l375, l1000, nI_ltI, nI_leI, nI_eq, nI_add, pk_mul, e_ix, e_neg, if_true, if_false, if_pos, if_neg, f_Tol_isCell, o.s0, o.s1, j_rem, pk_div]
  · by_cases h5 : T 1 1 ≤ c / 9
    · simp (disch := omega) only [e_bnd, e_bnd2, e_set, e_cpy, e_nmI, e_nmL, e_ckn, e_ckB0, e_ckB1, l0, l1, l2, l3, l4, l5, l6, l7, l8, l9, l10, l11, l12, l13, l14, l15, l16, l17, l18, l19, l20, l21, l22, l24, l25, l32, l39, l40, l41, l48, l50, l56, l57, l59, l60, l72, l79, l80, l81, l82, l88, l89, l97, l100, l122, l124, l125, l160, l255, l312, l320, l375, l1000, nI_ltI, nI_leI, nI_eq, nI_add, pk_mul, e_ix, e_neg, if_true, if_false, if_pos, if_neg, f_Tol_isCell, o.s0, o.s1, j_rem, pk_div]
    · simp (disch := omega) only [e_bnd, e_bnd2, e_set, e_cpy, e_nmI, e_nmL, e_ckn, e_ckB0, e_ckB1, l0, l1, l2, l3, l4, l5, l6, l7, l8, l9, l10, l11, l12, l13, l14, l15, l16, l17, l18, l19, l20, l21, l22, l24, l25, l32, l39, l40, l41, l48, l50, l56, l57, l59, l60, l72, l79, l80, l81, l82, l88, l89, l97, l100, l122, l124, l125, l160, l255, l312, l320, l375, l1000, nI_ltI, nI_leI, nI_eq, nI_add, pk_mul, e_ix, e_neg, if_true, if_false, if_pos, if_neg, f_Tol_isCell, o.s0, o.s1, j_rem, pk_div]
theorem c_state (o : On T M) {c : Nat} (hc : c < 81) : f_Tol_stateOf 1 M (nI c) = some (nI (T 2 c)) := by
  simp (disch := omega) only [e_bnd, e_bnd2, e_set, e_cpy, e_nmI, e_nmL, e_ckn, e_ckB0, e_ckB1, l0, l1, l2, l3, l4, l5, l6, l7, l8, l9, l10, l11, l12, l13, l14, l15, l16, l17, l18, l19, l20, l21, l22, l24, l25, l32, l39, l40, l41, l48, l50, l56, l57, l59, l60, l72, l79, l80, l81, l82, l88, l89, l97, l100, l122, l124, l125, l160, l255, l312, l320, l375, l1000, nI_ltI, nI_leI, nI_eq, nI_add, pk_mul, e_ix, e_neg, if_true, if_false, if_pos, if_neg, f_Tol_stateOf, Nat.reduceAdd, o.c hc]
theorem m_isCell (o : OnM T M) (g : Good T) {c : Nat} (hc : c < 81) : f_Mod_isCell M (nI c) = some (if c % 9 < T 1 0 ∧ c / 9 < T 1 1 then nI 1 else nI 0) := by
  have h2 := g.w
  have h3 := g.h
  have e : f_Mod_in (nI c).toInt64 0 80 = some (if (0 : Int32) ≤ nI c ∧ nI c ≤ 80 then nI 1 else nI 0) := m_in0 _ rfl rfl
  by_cases h4 : T 1 0 ≤ c % 9
  · simp (disch := omega) only [e_bnd, e_bnd2, e_set, e_cpy, e_nmI, e_nmL, e_ckn, e_ckB0, e_ckB1, l0, l1, l2, l3, l4, l5, l6, l7, l8, l9, l10, l11, l12, l13, l14, l15, l16, l17, l18, l19, l20, l21, l22, l24, l25, l32, l39, l40, l41, l48, l50, l56, l57, l59, l60, l72, l79, l80, l81, l82, l88, l89, l97, l100, l122, l124, l125, l160, l255, l312, l320, l375, l1000, nI_ltI, nI_leI, nI_eq, nI_add, pk_mul, e_ix, e_neg, if_true, if_false, if_pos, if_neg, f_Mod_isCell, e, o.s0, o.s1, j_rem, pk_div]
  · by_cases h5 : T 1 1 ≤ c / 9
    · simp (disch := omega) only [e_bnd, e_bnd2, e_set, e_cpy, e_nmI, e_nmL, e_ckn, e_ckB0, e_ckB1, l0, l1, l2, l3, l4, l5, l6, l7, l8, l9, l10, l11, l12, l13, l14, l15, l16, l17, l18, l19, l20, l21, l22, l24, l25, l32, l39, l40, l41, l48, l50, l56, l57, l59, l60, l72, l79, l80, l81, l82, l88, l89, l97, l100, l122, l124, l125, l160, l255, l312, l320, l375, l1000, nI_ltI, nI_leI, nI_eq, nI_add, pk_mul, e_ix, e_neg, if_true, if_false, if_pos, if_neg, f_Mod_isCell, e, o.s0, o.s1, j_rem, pk_div]
    · simp (disch := omega) only [e_bnd, e_bnd2, e_set, e_cpy, e_nmI, e_nmL, e_ckn, e_ckB0, e_ckB1, l0, l1, l2, l3, l4, l5, l6, l7, l8, l9, l10, l11, l12, l13, l14, l15, l16, l17, l18, l19, l20, l21, l22, l24, l25, l32, l39, l40, l41, l48, l50, l56, l57, l59, l60, l72, l79, l80, l81, l82, l88, l89, l97, l100, l122, l124, l125, l160, l255, l312, l320, l375, l1000, nI_ltI, nI_leI, nI_eq, nI_add, pk_mul, e_ix, e_neg, if_true, if_false, if_pos, if_neg, f_Mod_isCell, e, o.s0, o.s1, j_rem, pk_div]
theorem c_seat (o : On T M) (g : Good T) {p : Nat} (hp : p < T 1 5) : f_Tol_seatOf 1 M (nI p) = some (nI (T 3 p)) := by
  have h1 := g.n
  simp (disch := omega) only [e_bnd, e_bnd2, e_set, e_cpy, e_nmI, e_nmL, e_ckn, e_ckB0, e_ckB1, l0, l1, l2, l3, l4, l5, l6, l7, l8, l9, l10, l11, l12, l13, l14, l15, l16, l17, l18, l19, l20, l21, l22, l24, l25, l32, l39, l40, l41, l48, l50, l56, l57, l59, l60, l72, l79, l80, l81, l82, l88, l89, l97, l100, l122, l124, l125, l160, l255, l312, l320, l375, l1000, nI_ltI, nI_leI, nI_eq, nI_add, pk_mul, e_ix, e_neg, if_true, if_false, if_pos, if_neg, f_Tol_seatOf, o.s5, Nat.reduceAdd, o.p (show p < 6 by omega)]
end PT
end
section
/-! pure: the way of a whisper -/
abbrev PS : Type := Int × Int × Int × Int × Int
def dX (d : Nat) : Int := ([0, 1, 1, 1, 0, -1, -1, -1] : List Int).getD d 0
def dY (d : Nat) : Int := ([-1, -1, 0, 1, 1, 1, 0, -1] : List Int).getD d 0
def sx (w x dx n : Int) : Int × Int × Int := if x + dx < 0 ∨ w ≤ x + dx then (x + -dx, -dx, n + 1) else (x + dx, dx, n)
def sw (T : Tn) (k : Nat) (y : Int) : Int := if 0 < T 1 4 ∧ k % T 1 4 = 0 ∧ y + 1 < T 1 1 then y + 1 else y
def stp (T : Tn) (k : Nat) (q : PS) : PS :=
  ((sx (T 1 0) q.1 q.2.2.1 q.2.2.2.2).1, sw T k (sx (T 1 1) q.2.1 q.2.2.2.1 (sx (T 1 0) q.1 q.2.2.1 q.2.2.2.2).2.2).1, (sx (T 1 0) q.1 q.2.2.1 q.2.2.2.2).2.1, (sx (T 1 1) q.2.1 q.2.2.2.1 (sx (T 1 0) q.1 q.2.2.1 q.2.2.2.2).2.2).2.1, (sx (T 1 1) q.2.1 q.2.2.2.1 (sx (T 1 0) q.1 q.2.2.1 q.2.2.2.2).2.2).2.2)
def pc (x y : Int) : Nat := (9 * y + x).toNat
def pcq (q : PS) : Nat := pc q.1 q.2.1
def plo (T : Tn) (k : Nat) (n : Int) : Int := 100 - T 1 2 * k - T 1 3 * n
def pok (T : Tn) (r k : Nat) (x y n : Int) : Bool := decide (0 < plo T k n) && (decide (T 2 (pc x y) ≠ 1) && (decide (T 2 (pc x y) ≠ 2) || decide (r = 1)))
def pkq (T : Tn) (r k : Nat) (q : PS) : Bool := pok T r k q.1 q.2.1 q.2.2.2.2
def pst (T : Tn) (q : PS) : Nat → PS
  | 0 => q
  | k + 1 => stp T (k + 1) (pst T q k)
def pln (T : Tn) (r : Nat) (q : PS) : Nat → Nat
  | 0 => 0
  | k + 1 => if pln T r q k = k ∧ pkq T r (k + 1) (pst T q (k + 1)) = true then k + 1 else pln T r q k
def plen (T : Tn) (r : Nat) (q : PS) : Nat := pln T r q 40
def q0 (s d : Nat) : PS := (s % 9, s / 9, dX d, dY d, 0)
def pin (T : Tn) (k : Nat) (q : PS) : Prop := (0 ≤ q.1 ∧ q.1 < T 1 0) ∧ (0 ≤ q.2.1 ∧ q.2.1 < T 1 1) ∧ (-1 ≤ q.2.2.1 ∧ q.2.2.1 ≤ 1) ∧ (-1 ≤ q.2.2.2.1 ∧ q.2.2.2.1 ≤ 1) ∧ (0 ≤ q.2.2.2.2 ∧ q.2.2.2.2 ≤ 2 * k)
theorem sx_in {w x dx n : Int} (hw : 2 ≤ w) (h1 : 0 ≤ x) (h2 : x < w) (h3 : -1 ≤ dx) (h4 : dx ≤ 1) : (0 ≤ (sx w x dx n).1 ∧ (sx w x dx n).1 < w) ∧ (-1 ≤ (sx w x dx n).2.1 ∧ (sx w x dx n).2.1 ≤ 1) ∧ (n ≤ (sx w x dx n).2.2 ∧ (sx w x dx n).2.2 ≤ n + 1) := by
  unfold sx
  split
  · dsimp only
    omega
  · dsimp only
    omega
theorem stp_in {T : Tn} (g : Good T) {k : Nat} {q : PS} (h : pin T k q) : pin T (k + 1) (stp T (k + 1) q) := by
  obtain ⟨h1, h2, h3, h4, h5⟩ := h
  have gw := g.w
  have gh := g.h
  have a := sx_in (n := q.2.2.2.2) (show (2 : Int) ≤ T 1 0 by omega) h1.1 h1.2 h3.1 h3.2
  have b := sx_in (n := (sx (T 1 0) q.1 q.2.2.1 q.2.2.2.2).2.2) (show (2 : Int) ≤ T 1 1 by omega) h2.1 h2.2 h4.1 h4.2
  refine ⟨a.1, ?_, a.2.1, b.2.1, ?_, ?_⟩
  · show 0 ≤ sw _ _ _ ∧ sw _ _ _ < _
    unfold sw
    split
    · omega
    · exact b.1
  · show 0 ≤ (sx _ _ _ _).2.2
    omega
  · show (sx _ _ _ _).2.2 ≤ _
    omega
theorem pst_in {T : Tn} (g : Good T) {q : PS} (h : pin T 0 q) : ∀ k, pin T k (pst T q k)
  | 0 => h
  | k + 1 => stp_in g (pst_in g h k)
theorem q0_in {T : Tn} {s d : Nat} (hs : isC T s) (hd : d < 8) : pin T 0 (q0 s d) := by
  have hd2 : -1 ≤ dX d ∧ dX d ≤ 1 ∧ -1 ≤ dY d ∧ dY d ≤ 1 := by
    rcases (show d = 0 ∨ d = 1 ∨ d = 2 ∨ d = 3 ∨ d = 4 ∨ d = 5 ∨ d = 6 ∨ d = 7 by omega) with rfl | rfl | rfl | rfl | rfl | rfl | rfl | rfl <;> decide
  obtain ⟨h1, h2, h3⟩ := hs
  refine ⟨?_, ?_, ?_, ?_, ?_⟩
  · show 0 ≤ ((s : Int) % 9) ∧ ((s : Int) % 9) < _
    omega
  · show 0 ≤ ((s : Int) / 9) ∧ ((s : Int) / 9) < _
    omega
  · exact ⟨hd2.1, hd2.2.1⟩
  · exact ⟨hd2.2.2.1, hd2.2.2.2⟩
  · exact ⟨Int.le_refl 0, by show (0 : Int) ≤ _; omega⟩
theorem pln_le {T : Tn} {r : Nat} {q : PS} : ∀ k, pln T r q k ≤ k
  | 0 => Nat.le_refl 0
  | k + 1 => by
    have := pln_le (T := T) (r := r) (q := q) k
    unfold pln
    split <;> omega
theorem pln_stop {T : Tn} {r : Nat} {q : PS} {k : Nat} (h : pln T r q k < k) : ∀ m, pln T r q (k + m) = pln T r q k
  | 0 => rfl
  | m + 1 => by
    have h1 := pln_stop h m
    show (if pln T r q (k + m) = k + m ∧ _ then _ else _) = _
    rw [if_neg (by omega)]
    exact h1
theorem pln_yes {T : Tn} {r : Nat} {q : PS} {k : Nat} (h : pln T r q k = k) (hp : pkq T r (k + 1) (pst T q (k + 1)) = true) : pln T r q (k + 1) = k + 1 := if_pos ⟨h, hp⟩
theorem pln_no {T : Tn} {r : Nat} {q : PS} {k : Nat} (h : pln T r q k = k) (hk : k < 40) (hp : ¬ pkq T r (k + 1) (pst T q (k + 1)) = true) : plen T r q = k := by
  have h1 : pln T r q (k + 1) = k := by
    show (if _ then _ else _) = _
    rw [if_neg (fun e => hp e.2)]
    exact h
  have h2 := pln_stop (T := T) (r := r) (q := q) (k := k + 1) (by omega) (40 - (k + 1))
  rw [show k + 1 + (40 - (k + 1)) = 40 by omega] at h2
  exact h2.trans h1
theorem plen_le {T : Tn} {r : Nat} {q : PS} : plen T r q ≤ 40 := pln_le 40
theorem pc_lt {T : Tn} (g : Good T) {x y : Int} (h1 : 0 ≤ x ∧ x < T 1 0) (h2 : 0 ≤ y ∧ y < T 1 1) : isC T (pc x y) := by
  have gw := g.w
  have gh := g.h
  unfold pc isC
  omega
theorem pc_J {x y : Int} (h1 : 0 ≤ x) (h2 : 0 ≤ y) : 9 * J y + J x = nI (pc x y) := by
  rw [show (9 : Int32) = J 9 from rfl, J_mul, J_add, J_nat (by omega)]
  rfl
theorem lo_J (T : Tn) (k : Nat) (n : Int) : 100 - nI (T 1 2) * nI k - nI (T 1 3) * J n = J (plo T k n) := by
  rw [show (100 : Int32) = J 100 from rfl, J_nI, J_nI, J_nI, J_mul, J_mul, J_sub, J_sub]
  rfl
theorem plo_bd {T : Tn} (g : Good T) {k : Nat} {n : Int} (hk : k ≤ 40) (h0 : 0 ≤ n) (h1 : n ≤ 80) : -5000 ≤ plo T k n ∧ plo T k n ≤ 100 := by
  have a1 := g.fade
  have a2 := g.bounce
  have b1 : (T 1 2 : Int) * k ≤ 20 * 40 := by
    have : T 1 2 * k ≤ 20 * 40 := Nat.mul_le_mul a1 hk
    exact_mod_cast this
  have b2 : (T 1 3 : Int) * n ≤ 50 * 80 := by
    have h5 : T 1 3 * n.toNat ≤ 50 * 80 := Nat.mul_le_mul a2 (by omega)
    have h6 : ((T 1 3 * n.toNat : Nat) : Int) ≤ 50 * 80 := by exact_mod_cast h5
    rw [Int.natCast_mul, Int.toNat_of_nonneg h0] at h6
    exact h6
  have b3 : 0 ≤ (T 1 2 : Int) * k := Int.mul_nonneg (by omega) (by omega)
  have b4 : 0 ≤ (T 1 3 : Int) * n := Int.mul_nonneg (by omega) h0
  unfold plo
  omega
section PP
variable {T : Tn} {M : Mem} {c : Nat} {k63 : Int32 → Int32 → Int32 → Int32 → Int32 → Int32 → Int32 → Mem → Option Mem}
theorem r228 {x4 x5 x6 x7 x8 x9 x12 : Int32} {k : Nat} (hk : k ≤ 40) : f_Cou_run_J228 k63 c x4 x5 x6 x7 x8 x9 (nI k) x12 M = k63 x4 x5 x6 x7 x8 x9 (nI (k + 1)) (upd2 (upd2 (upd2 (upd2 M (c + 1) k (9 * x6 + x5)) (c + 2) k x12) (c + 3) k x9) c 0 (nI k)) := by
  simp (disch := omega) only [e_bnd, e_bnd2, e_set, e_cpy, e_nmI, e_nmL, e_ckn, e_ckB0, e_ckB1, l0, l1, l2, l3, l4, l5, l6, l7, l8, l9, l10, l11, l12, l13, l14, l15, l16, l17, l18, l19, l20, l21, l22, l24, l25, l32, l39, l40, l41, l48, l50, l56, l57, l59, l60, l72, l79, l80, l81, l82, l88, l89, l97, l100, l122, l124, l125, l160, l255, l312, l320, l375, l1000, nI_ltI, nI_leI, nI_eq, nI_add, pk_mul, e_ix, e_neg, if_true, if_false, if_pos, if_neg, f_Cou_run_J228]
theorem r171 (o : On T M) (g : Good T) {x y n : Int} {r k : Nat} {x7 x8 : Int32} (hx : 0 ≤ x ∧ x < T 1 0) (hy : 0 ≤ y ∧ y < T 1 1) (hn : 0 ≤ n ∧ n ≤ 80) (hk : k ≤ 40) (hr : r ≤ 1) :
    f_Cou_run_J171 k63 c (nI r) (J x) (J y) x7 x8 (J n) (nI k) M = if pok T r k x y n = true then k63 (nI r) (J x) (J y) x7 x8 (J n) (nI (k + 1)) (upd2 (upd2 (upd2 (upd2 M (c + 1) k (nI (pc x y))) (c + 2) k (J (plo T k n))) (c + 3) k (J n)) c 0 (nI k)) else some M := by
  have hc := (pc_lt g hx hy).1
  have hb := plo_bd g hk hn.1 hn.2
  have g2 := g.c hc
  unfold f_Cou_run_J171
  rw [pc_J hx.1 hy.1, c_state o hc, e_bnd, e_nmI, o.s2, o.s3, lo_J]
  by_cases h1 : plo T k n ≤ 0
  · rw [if_pos (by rw [show (0 : Int32) = J 0 from rfl, J_le (by omega) (by omega) (by omega) (by omega)]; exact h1), if_neg]
    simp [pok]
    omega
  · rw [if_neg (by rw [show (0 : Int32) = J 0 from rfl, J_le (by omega) (by omega) (by omega) (by omega)]; exact h1)]
    by_cases h2 : T 2 (pc x y) = 1
    · rw [h2, if_pos (show nI 1 = 1 from rfl), if_neg]
      simp [pok, h2]
    · rw [if_neg (by rw [l1, nI_eq (by omega) (by omega)]; exact h2)]
      by_cases h3 : T 2 (pc x y) = 2
      · rw [h3, if_pos (show nI 2 = 2 from rfl)]
        by_cases h4 : r = 0
        · rw [h4, if_pos (show nI 0 = 0 from rfl), if_neg]
          simp [pok, h3]
        · rw [if_neg (by rw [l0, nI_eq (by omega) (by omega)]; exact h4), r228 hk, if_pos, pc_J hx.1 hy.1]
          simp [pok, h3]
          omega
      · rw [if_neg (by rw [l2, nI_eq (by omega) (by omega)]; exact h3), r228 hk, if_pos, pc_J hx.1 hy.1]
        simp [pok, h2, h3]
        omega
theorem r126 (o : On T M) (g : Good T) {x y dx dy : Int} {k : Nat} {x4 x9 : Int32} (hy : -1 ≤ y + dy ∧ y + dy ≤ 9) (hk : k ≤ 40) :
    f_Cou_run_J126 k63 c x4 (J x) (J y) (J dx) (J dy) x9 (nI k) M = f_Cou_run_J171 k63 c x4 (J (x + dx)) (J (sw T k (y + dy))) (J dx) (J dy) x9 (nI k) M := by
  have g1 := g.warm
  have g2 := g.h
  unfold f_Cou_run_J126
  rw [J_add, J_add, e_nmI, e_nmI, o.s4, o.s1]
  by_cases h1 : T 1 4 = 0
  · rw [h1, if_pos (show nI 0 ≤ 0 from by decide), sw, if_neg (by omega)]
  · rw [if_neg (by rw [l0, nI_leI (by omega) (by omega)]; omega), if_neg (by rw [l0, nI_eq (by omega) (by omega)]; omega), j_rem (by omega) (by omega) (by omega)]
    have h9 : k % T 1 4 < T 1 4 := Nat.mod_lt _ (by omega)
    by_cases h2 : k % T 1 4 = 0
    · rw [h2, if_pos (show nI 0 = 0 from rfl), show (1 : Int32) = J 1 from rfl, J_add, J_nI (T 1 1)]
      by_cases h3 : y + dy + 1 < T 1 1
      · rw [if_neg (by rw [J_le (by omega) (by omega) (by omega) (by omega)]; omega), sw, if_pos (by omega)]
      · rw [if_pos (by rw [J_le (by omega) (by omega) (by omega) (by omega)]; omega), sw, if_neg (by omega)]
    · rw [if_neg (by rw [l0, nI_eq (by omega) (by omega)]; omega), sw, if_neg (by omega)]
theorem r98 (o : On T M) (g : Good T) {x y dx dy n : Int} {k : Nat} {x4 : Int32} (hy : 0 ≤ y ∧ y < T 1 1) (hd : -1 ≤ dy ∧ dy ≤ 1) (hk : k ≤ 40) :
    f_Cou_run_J98 k63 c x4 (J x) (J y) (J dx) (J dy) (J n) (nI k) M = f_Cou_run_J171 k63 c x4 (J (x + dx)) (J (sw T k (sx (T 1 1) y dy n).1)) (J dx) (J (sx (T 1 1) y dy n).2.1) (J (sx (T 1 1) y dy n).2.2) (nI k) M := by
  have g2 := g.h
  unfold f_Cou_run_J98 f_Cou_run_J118
  rw [J_add, o.s1, show (0 : Int32) = J 0 from rfl, show (1 : Int32) = J 1 from rfl, J_neg, J_add, e_nmI, J_nI (T 1 1)]
  simp (disch := omega) only [J_lt]
  by_cases h1 : y + dy < 0
  · rw [if_pos h1, r126 o g (by omega) hk, sx, if_pos (Or.inl h1)]
  · rw [if_neg h1]
    by_cases h2 : y + dy < T 1 1
    · rw [if_pos h2, r126 o g (by omega) hk, sx, if_neg (by omega)]
    · rw [if_neg h2, r126 o g (by omega) hk, sx, if_pos (by omega)]
/-- one step -/
theorem r63 (o : On T M) (g : Good T) {q : PS} {r k n : Nat} (hq : pin T k q) (hk : k < 40) (hr : r ≤ 1) :
    f_Cou_run_L63 c (n + 1) (nI r) (J q.1) (J q.2.1) (J q.2.2.1) (J q.2.2.2.1) (J q.2.2.2.2) (nI (k + 1)) M = if pkq T r (k + 1) (stp T (k + 1) q) = true then
      f_Cou_run_L63 c n (nI r) (J (stp T (k + 1) q).1) (J (stp T (k + 1) q).2.1) (J (stp T (k + 1) q).2.2.1) (J (stp T (k + 1) q).2.2.2.1) (J (stp T (k + 1) q).2.2.2.2) (nI (k + 1 + 1)) (upd2 (upd2 (upd2 (upd2 M (c + 1) (k + 1) (nI (pcq (stp T (k + 1) q)))) (c + 2) (k + 1) (J (plo T (k + 1) (stp T (k + 1) q).2.2.2.2))) (c + 3) (k + 1) (J (stp T (k + 1) q).2.2.2.2)) c 0 (nI (k + 1))) else some M := by
  have hs := stp_in g hq
  obtain ⟨h1, h2, h3, h4, h5⟩ := hq
  have g2 := g.w
  rw [f_Cou_run_L63, if_neg (by rw [l40, nI_ltI (by omega) (by omega)]; omega), J_add, o.s0, show (0 : Int32) = J 0 from rfl, J_nI (T 1 0)]
  simp (disch := omega) only [J_lt]
  have key : ∀ dx' n' : Int, sx (T 1 0) q.1 q.2.2.1 q.2.2.2.2 = (q.1 + dx', dx', n') → f_Cou_run_J98 (f_Cou_run_L63 c n) c (nI r) (J q.1) (J q.2.1) (J dx') (J q.2.2.2.1) (J n') (nI (k + 1)) M = if pkq T r (k + 1) (stp T (k + 1) q) = true then
      f_Cou_run_L63 c n (nI r) (J (stp T (k + 1) q).1) (J (stp T (k + 1) q).2.1) (J (stp T (k + 1) q).2.2.1) (J (stp T (k + 1) q).2.2.2.1) (J (stp T (k + 1) q).2.2.2.2) (nI (k + 1 + 1)) (upd2 (upd2 (upd2 (upd2 M (c + 1) (k + 1) (nI (pcq (stp T (k + 1) q)))) (c + 2) (k + 1) (J (plo T (k + 1) (stp T (k + 1) q).2.2.2.2))) (c + 3) (k + 1) (J (stp T (k + 1) q).2.2.2.2)) c 0 (nI (k + 1))) else some M := by
    intro dx' n' e
    have e1 : (stp T (k + 1) q).1 = q.1 + dx' := congrArg Prod.fst e
    have e2 : (stp T (k + 1) q).2.1 = sw T (k + 1) (sx (T 1 1) q.2.1 q.2.2.2.1 n').1 := by show sw _ _ (sx _ _ _ (sx _ _ _ _).2.2).1 = _; rw [e]
    have e3 : (stp T (k + 1) q).2.2.1 = dx' := by show (sx _ _ _ _).2.1 = _; rw [e]
    have e4 : (stp T (k + 1) q).2.2.2.1 = (sx (T 1 1) q.2.1 q.2.2.2.1 n').2.1 := by show (sx _ _ _ (sx _ _ _ _).2.2).2.1 = _; rw [e]
    have e5 : (stp T (k + 1) q).2.2.2.2 = (sx (T 1 1) q.2.1 q.2.2.2.1 n').2.2 := by show (sx _ _ _ (sx _ _ _ _).2.2).2.2 = _; rw [e]
    obtain ⟨i1, i2, i3, i4, i5⟩ := hs
    unfold pkq pcq
    rw [e1] at i1 ⊢
    rw [e2] at i2 ⊢
    rw [e3, e4]
    rw [e5] at i5 ⊢
    rw [r98 o g h2 h4 (by omega), r171 o g i1 i2 ⟨i5.1, by omega⟩ (by omega) hr]
  by_cases c1 : q.1 + q.2.2.1 < 0
  · rw [if_pos c1, f_Cou_run_J90, show (1 : Int32) = J 1 from rfl, J_neg, J_add, e_nmI]
    exact key _ _ (by rw [sx, if_pos (Or.inl c1)])
  · rw [if_neg c1]
    by_cases c2 : q.1 + q.2.2.1 < T 1 0
    · rw [if_pos c2]
      exact key _ _ (by rw [sx, if_neg (by omega)])
    · rw [if_neg c2, f_Cou_run_J90, show (1 : Int32) = J 1 from rfl, J_neg, J_add, e_nmI]
      exact key _ _ (by rw [sx, if_pos (by omega)])
/-- the rows of the way, up to step k -/
def Fil (c : Nat) (T : Tn) (q : PS) (k : Nat) (M : Mem) : Prop := ∀ j, 1 ≤ j → j ≤ k → M (c + 1) j = nI (pcq (pst T q j)) ∧ M (c + 2) j = J (plo T j (pst T q j).2.2.2.2) ∧ M (c + 3) j = J (pst T q j).2.2.2.2
def PthC (c : Nat) (T : Tn) (r s : Nat) (q : PS) (M : Mem) : Prop := M c 0 = nI (plen T r q) ∧ M (c + 1) 0 = nI s ∧ Fil c T q (plen T r q) M
theorem r63L (g : Good T) {q : PS} (hq : pin T 0 q) {r s : Nat} (hr : r ≤ 1) (hc : 18 ≤ c) : ∀ (m n k : Nat) (M : Mem), k + m = 40 → m < n → On T M → pln T r q k = k → M c 0 = nI k → M (c + 1) 0 = nI s → Fil c T q k M →
    ∃ M', f_Cou_run_L63 c n (nI r) (J (pst T q k).1) (J (pst T q k).2.1) (J (pst T q k).2.2.1) (J (pst T q k).2.2.2.1) (J (pst T q k).2.2.2.2) (nI (k + 1)) M = some M' ∧ Fr c (c + 3) M M' ∧ PthC c T r s q M' := by
  intro m
  induction m with
  | zero =>
    intro n k M hk hn o hp h1 h2 h3
    obtain ⟨n, rfl⟩ : ∃ z, n = z + 1 := ⟨n - 1, by omega⟩
    have e : k = 40 := by omega
    subst e
    rw [f_Cou_run_L63, if_pos (by rw [l40, nI_ltI (by omega) (by omega)]; omega)]
    have hp2 : plen T r q = 40 := hp
    refine ⟨M, rfl, Fr.rf, ?_, h2, ?_⟩
    · rw [hp2]; exact h1
    · rw [hp2]; exact h3
  | succ m ih =>
    intro n k M hk hn o hp h1 h2 h3
    obtain ⟨n, rfl⟩ : ∃ z, n = z + 1 := ⟨n - 1, by omega⟩
    rw [r63 o g (pst_in g hq k) (by omega) hr]
    by_cases hpk : pkq T r (k + 1) (stp T (k + 1) (pst T q k)) = true
    · rw [if_pos hpk]
      have f0 : Fr c (c + 3) M (upd2 (upd2 (upd2 (upd2 M (c + 1) (k + 1) (nI (pcq (stp T (k + 1) (pst T q k))))) (c + 2) (k + 1) (J (plo T (k + 1) (stp T (k + 1) (pst T q k)).2.2.2.2))) (c + 3) (k + 1) (J (stp T (k + 1) (pst T q k)).2.2.2.2)) c 0 (nI (k + 1))) := (((Fr.rf.set (by omega) (by omega)).set (by omega) (by omega)).set (by omega) (by omega)).set (Nat.le_refl c) (Nat.le_add_right c 3)
      generalize hM2 : upd2 (upd2 (upd2 (upd2 M (c + 1) (k + 1) (nI (pcq (stp T (k + 1) (pst T q k))))) (c + 2) (k + 1) (J (plo T (k + 1) (stp T (k + 1) (pst T q k)).2.2.2.2))) (c + 3) (k + 1) (J (stp T (k + 1) (pst T q k)).2.2.2.2)) c 0 (nI (k + 1)) = M2 at f0 ⊢
      have e0 : M2 c 0 = nI (k + 1) := by rw [← hM2]; exact u_eq
      have e1 : M2 (c + 1) 0 = nI s := by
        rw [← hM2, u_ne (by omega), u_ne (by omega), u_ne (by omega), u_nk (by omega)]
        exact h2
      have e2 : Fil c T q (k + 1) M2 := by
        intro j hj1 hj2
        rw [← hM2]
        by_cases hj : j = k + 1
        · subst hj
          refine ⟨?_, ?_, ?_⟩
          · rw [u_ne (by omega), u_ne (by omega), u_ne (by omega), u_eq]; rfl
          · rw [u_ne (by omega), u_ne (by omega), u_eq]; rfl
          · rw [u_ne (by omega), u_eq]; rfl
        · obtain ⟨b1, b2, b3⟩ := h3 j hj1 (by omega)
          refine ⟨?_, ?_, ?_⟩
          · rw [u_ne (by omega), u_ne (by omega), u_ne (by omega), u_nk (by omega)]; exact b1
          · rw [u_ne (by omega), u_ne (by omega), u_nk (by omega), u_ne (by omega)]; exact b2
          · rw [u_ne (by omega), u_nk (by omega), u_ne (by omega), u_ne (by omega)]; exact b3
      obtain ⟨M', a1, a2, a3⟩ := ih n (k + 1) M2 (by omega) (by omega) (o.fr f0 hc) (pln_yes hp hpk) e0 e1 e2
      exact ⟨M', a1, f0.tr a2, a3⟩
    · rw [if_neg hpk]
      have e := pln_no hp (by omega) hpk
      refine ⟨M, rfl, Fr.rf, ?_, h2, ?_⟩
      · rw [e]; exact h1
      · rw [e]; exact h3
theorem chX_J : ∀ d, d < 8 → chX d = J (dX d) := by decide +kernel
theorem chY_J : ∀ d, d < 8 → chY d = J (dY d) := by decide +kernel
theorem c_run (o : On T M) (g : Good T) {s d r : Nat} (hs : isC T s) (hd : d < 8) (hr : r ≤ 1) (hc : 18 ≤ c) : ∃ M', f_Cou_run c (nI s) (nI d) (nI r) M = some M' ∧ Fr c (c + 3) M M' ∧ PthC c T r s (q0 s d) M' := by
  have hs1 := hs.1
  have f0 : Fr c (c + 3) M (upd2 (upd2 M c 0 0) (c + 1) (ix 0) (nI s)) := (Fr.rf.set (Nat.le_refl c) (by omega)).set (by omega) (by omega)
  have o2 := o.fr f0 hc
  have hx : nI (s % 9) = J (pst T (q0 s d) 0).1 := by rw [J_nI]; rfl
  have hy : nI (s / 9) = J (pst T (q0 s d) 0).2.1 := by rw [J_nI]; rfl
  obtain ⟨M', a1, a2, a3⟩ := r63L g (q0_in hs hd) hr hc (s := s) 40 1000 0 _ rfl (by decide) o2 rfl (by rw [u_ne (by omega), u_eq]; rfl) u_eq (fun j h1 h2 => absurd h2 (by omega))
  refine ⟨M', ?_, f0.tr a2, a3⟩
  unfold f_Cou_run
  rw [e_set, e_set, c_isCell o2 g hs1, if_pos ⟨hs.2.1, hs.2.2⟩, e_bnd, if_neg (by decide), w_in, if_pos (by rw [l0, l7, nI_leI (by omega) (by omega), nI_leI (by omega) (by omega)]; omega), e_bnd, if_neg (by decide), e_nmI, e_nmI, e_ckn hd (by decide), e_nmI, e_ckn hd (by decide), e_nmI, l9, j_rem (by omega) (by omega) (by omega), pk_div (by omega) (by omega) (by omega), hx, hy]
  rw [show ix (nI d) = d from e_ix (by omega), chX_J d hd, chY_J d hd]
  exact a1
end PP
end
section
/-! pure: the way of a whisper, the reference's -/
theorem in_J {v : Int} {w : Nat} (hw : w ≤ 9) (h1 : -10 ≤ v) (h2 : v ≤ 20) : f_Mod_in (J v).toInt64 0 ((nI w - 1).toInt64) = some (if 0 ≤ v ∧ v < w then nI 1 else nI 0) := by
  have e : f_Mod_in (J v).toInt64 0 ((nI w - 1).toInt64) = some (if (0 : Int32) ≤ J v ∧ J v ≤ nI w - 1 then nI 1 else nI 0) := m_in0 _ rfl rfl
  rw [e, show (0 : Int32) = J 0 from rfl, show nI w - 1 = J ((w : Int) - 1) from by rw [J_nI, show (1 : Int32) = J 1 from rfl, J_sub]]
  simp (disch := omega) only [J_le]
  by_cases h : 0 ≤ v ∧ v < w
  · rw [if_pos h, if_pos (by omega)]
  · rw [if_neg h, if_neg (by omega)]
section PM
variable {T : Tn} {M : Mem} {k49 : Int32 → Int32 → Int32 → Int32 → Int32 → Int32 → Int32 → Mem → Option Mem}
theorem s179 (o : OnM T M) (g : Good T) {x y n : Int} {r k : Nat} {x6 x7 : Int32} (hx : 0 ≤ x ∧ x < T 1 0) (hy : 0 ≤ y ∧ y < T 1 1) (hn : 0 ≤ n ∧ n ≤ 80) (hk : k ≤ 40) (hr : r ≤ 1) :
    f_Mod_layPath_J179 k49 (nI r) (J x) (J y) x6 x7 (nI k) (J n) M = if pok T r k x y n = true then k49 (nI r) (J x) (J y) x6 x7 (nI 1) (nI (k + 1)) (upd2 (upd2 (upd2 M 113 k (nI (pc x y))) 114 k (J n)) 103 31 (nI k)) else k49 (nI r) (J x) (J y) x6 x7 (nI 0) (nI (k + 1)) M := by
  have hc := (pc_lt g hx hy).1
  have hb := plo_bd g hk hn.1 hn.2
  have g2 := g.c hc
  have yes : f_Mod_layPath_J236 k49 (nI r) (J x) (J y) x6 x7 (nI k) (J n) 1 M = k49 (nI r) (J x) (J y) x6 x7 (nI 1) (nI (k + 1)) (upd2 (upd2 (upd2 M 113 k (nI (pc x y))) 114 k (J n)) 103 31 (nI k)) := by
    unfold f_Mod_layPath_J236
    rw [if_neg (by decide), pc_J hx.1 hy.1]
    simp (disch := omega) only [e_bnd, e_bnd2, e_set, e_cpy, e_nmI, e_nmL, e_ckn, e_ckB0, e_ckB1, l0, l1, l2, l3, l4, l5, l6, l7, l8, l9, l10, l11, l12, l13, l14, l15, l16, l17, l18, l19, l20, l21, l22, l24, l25, l32, l39, l40, l41, l48, l50, l56, l57, l59, l60, l72, l79, l80, l81, l82, l88, l89, l97, l100, l122, l124, l125, l160, l255, l312, l320, l375, l1000, nI_ltI, nI_leI, nI_eq, nI_add, pk_mul, e_ix, e_neg, if_true, if_false, if_pos, if_neg]
  have no : f_Mod_layPath_J235 k49 (nI r) (J x) (J y) x6 x7 (nI k) (J n) M = k49 (nI r) (J x) (J y) x6 x7 (nI 0) (nI (k + 1)) M := by
    unfold f_Mod_layPath_J235 f_Mod_layPath_J236
    rw [if_pos rfl]
    simp (disch := omega) only [e_bnd, e_bnd2, e_set, e_cpy, e_nmI, e_nmL, e_ckn, e_ckB0, e_ckB1, l0, l1, l2, l3, l4, l5, l6, l7, l8, l9, l10, l11, l12, l13, l14, l15, l16, l17, l18, l19, l20, l21, l22, l24, l25, l32, l39, l40, l41, l48, l50, l56, l57, l59, l60, l72, l79, l80, l81, l82, l88, l89, l97, l100, l122, l124, l125, l160, l255, l312, l320, l375, l1000, nI_ltI, nI_leI, nI_eq, nI_add, pk_mul, e_ix, e_neg, if_true, if_false, if_pos, if_neg]
  have l210 : f_Mod_layPath_J210 k49 (nI r) (J x) (J y) x6 x7 (nI k) (J n) M = if 0 < plo T k n then k49 (nI r) (J x) (J y) x6 x7 (nI 1) (nI (k + 1)) (upd2 (upd2 (upd2 M 113 k (nI (pc x y))) 114 k (J n)) 103 31 (nI k)) else k49 (nI r) (J x) (J y) x6 x7 (nI 0) (nI (k + 1)) M := by
    unfold f_Mod_layPath_J210
    rw [o.s2, o.s3, lo_J, show (0 : Int32) = J 0 from rfl]
    simp (disch := omega) only [J_le]
    by_cases h1 : plo T k n ≤ 0
    · rw [if_pos h1, no, if_neg (by omega)]
    · rw [if_neg h1, if_pos (by omega)]
      exact yes
  unfold f_Mod_layPath_J179
  rw [pc_J hx.1 hy.1, e_ckn (by omega) (by decide), e_nmI, show ix (nI (pc x y)) = pc x y from e_ix (by omega), o.c hc]
  by_cases h2 : T 2 (pc x y) = 1
  · rw [h2, if_pos (show nI 1 = 1 from rfl), no, if_neg]
    simp [pok, h2]
  · rw [if_neg (by rw [l1, nI_eq (by omega) (by omega)]; exact h2)]
    by_cases h3 : T 2 (pc x y) = 2
    · rw [h3, if_pos (show nI 2 = 2 from rfl)]
      by_cases h4 : r = 0
      · rw [h4] at no ⊢
        rw [if_pos (show nI 0 = 0 from rfl), no, if_neg]
        simp [pok, h3]
      · rw [if_neg (by rw [l0, nI_eq (by omega) (by omega)]; exact h4), l210]
        have h5 : r = 1 := by omega
        by_cases h6 : 0 < plo T k n
        · rw [if_pos h6, if_pos (by simp [pok, h3, h5, h6])]
        · rw [if_neg h6, if_neg (by simp [pok, h6])]
    · rw [if_neg (by rw [l2, nI_eq (by omega) (by omega)]; exact h3), l210]
      by_cases h6 : 0 < plo T k n
      · rw [if_pos h6, if_pos (by simp [pok, h3, h2, h6])]
      · rw [if_neg h6, if_neg (by simp [pok, h6])]
theorem s128 (o : OnM T M) (g : Good T) {x y dx dy : Int} {k : Nat} {x3 x10 : Int32} (hy : -1 ≤ y + dy ∧ y + dy ≤ 9) (hk : k ≤ 40) :
    f_Mod_layPath_J128 k49 x3 (J x) (J y) (J dx) (J dy) (nI k) x10 M = f_Mod_layPath_J179 k49 x3 (J (x + dx)) (J (sw T k (y + dy))) (J dx) (J dy) (nI k) x10 M := by
  have g1 := g.warm
  have g2 := g.h
  unfold f_Mod_layPath_J128
  rw [J_add, J_add, e_nmI, e_nmI, show ix 81 = 81 from rfl, o.s4, o.s1]
  by_cases h1 : T 1 4 = 0
  · rw [h1, if_pos (show nI 0 ≤ 0 from by decide), sw, if_neg (by omega)]
  · rw [if_neg (by rw [l0, nI_leI (by omega) (by omega)]; omega), if_neg (by rw [l0, nI_eq (by omega) (by omega)]; omega), j_rem (by omega) (by omega) (by omega)]
    have h9 : k % T 1 4 < T 1 4 := Nat.mod_lt _ (by omega)
    by_cases h2 : k % T 1 4 = 0
    · rw [h2, if_pos (show nI 0 = 0 from rfl), show (1 : Int32) = J 1 from rfl, J_add, J_nI (T 1 1)]
      by_cases h3 : y + dy + 1 < T 1 1
      · rw [if_neg (by rw [J_le (by omega) (by omega) (by omega) (by omega)]; omega), sw, if_pos (by omega)]
      · rw [if_pos (by rw [J_le (by omega) (by omega) (by omega) (by omega)]; omega), sw, if_neg (by omega)]
    · rw [if_neg (by rw [l0, nI_eq (by omega) (by omega)]; omega), sw, if_neg (by omega)]
theorem s100 (o : OnM T M) (g : Good T) {x y dx dy n : Int} {k : Nat} {x3 : Int32} (hy : 0 ≤ y ∧ y < T 1 1) (hd : -1 ≤ dy ∧ dy ≤ 1) (hk : k ≤ 40) :
    f_Mod_layPath_J100 k49 x3 (J x) (J y) (J dx) (J dy) (nI k) (J n) M = f_Mod_layPath_J179 k49 x3 (J (x + dx)) (J (sw T k (sx (T 1 1) y dy n).1)) (J dx) (J (sx (T 1 1) y dy n).2.1) (nI k) (J (sx (T 1 1) y dy n).2.2) M := by
  have g2 := g.h
  unfold f_Mod_layPath_J100
  rw [J_add, o.s1, in_J (by omega) (by omega) (by omega), e_bnd, show (1 : Int32) = J 1 from rfl, J_neg, J_add, e_nmI]
  by_cases h1 : 0 ≤ y + dy ∧ y + dy < T 1 1
  · rw [if_pos h1, if_neg (by decide), s128 o g (by omega) hk, sx, if_neg (by omega)]
  · rw [if_neg h1, if_pos (by decide), s128 o g (by omega) hk, sx, if_pos (by omega)]
theorem s49 (o : OnM T M) (g : Good T) {q : PS} {r k n : Nat} (hq : pin T k q) (hk : k < 40) (hr : r ≤ 1) (hb : M 114 k = J q.2.2.2.2) :
    f_Mod_layPath_L49 (n + 1) (nI r) (J q.1) (J q.2.1) (J q.2.2.1) (J q.2.2.2.1) (nI 1) (nI (k + 1)) M = if pkq T r (k + 1) (stp T (k + 1) q) = true then
      f_Mod_layPath_L49 n (nI r) (J (stp T (k + 1) q).1) (J (stp T (k + 1) q).2.1) (J (stp T (k + 1) q).2.2.1) (J (stp T (k + 1) q).2.2.2.1) (nI 1) (nI (k + 1 + 1)) (upd2 (upd2 (upd2 M 113 (k + 1) (nI (pcq (stp T (k + 1) q)))) 114 (k + 1) (J (stp T (k + 1) q).2.2.2.2)) 103 31 (nI (k + 1))) else
      f_Mod_layPath_L49 n (nI r) (J (stp T (k + 1) q).1) (J (stp T (k + 1) q).2.1) (J (stp T (k + 1) q).2.2.1) (J (stp T (k + 1) q).2.2.2.1) (nI 0) (nI (k + 1 + 1)) M := by
  have hs := stp_in g hq
  obtain ⟨h1, h2, h3, h4, h5⟩ := hq
  have g2 := g.w
  rw [f_Mod_layPath_L49, if_neg (by rw [l40, nI_ltI (by omega) (by omega)]; omega), if_neg (by decide), nI_pred, e_ckn (by omega) (by decide), e_nmI, show ix (nI k) = k from e_ix (by omega), hb, J_add, o.s0, in_J (by omega) (by omega) (by omega), e_bnd]
  have key : ∀ dx' n' : Int, sx (T 1 0) q.1 q.2.2.1 q.2.2.2.2 = (q.1 + dx', dx', n') → f_Mod_layPath_J100 (f_Mod_layPath_L49 n) (nI r) (J q.1) (J q.2.1) (J dx') (J q.2.2.2.1) (nI (k + 1)) (J n') M = if pkq T r (k + 1) (stp T (k + 1) q) = true then
      f_Mod_layPath_L49 n (nI r) (J (stp T (k + 1) q).1) (J (stp T (k + 1) q).2.1) (J (stp T (k + 1) q).2.2.1) (J (stp T (k + 1) q).2.2.2.1) (nI 1) (nI (k + 1 + 1)) (upd2 (upd2 (upd2 M 113 (k + 1) (nI (pcq (stp T (k + 1) q)))) 114 (k + 1) (J (stp T (k + 1) q).2.2.2.2)) 103 31 (nI (k + 1))) else
      f_Mod_layPath_L49 n (nI r) (J (stp T (k + 1) q).1) (J (stp T (k + 1) q).2.1) (J (stp T (k + 1) q).2.2.1) (J (stp T (k + 1) q).2.2.2.1) (nI 0) (nI (k + 1 + 1)) M := by
    intro dx' n' e
    have e1 : (stp T (k + 1) q).1 = q.1 + dx' := congrArg Prod.fst e
    have e2 : (stp T (k + 1) q).2.1 = sw T (k + 1) (sx (T 1 1) q.2.1 q.2.2.2.1 n').1 := by show sw _ _ (sx _ _ _ (sx _ _ _ _).2.2).1 = _; rw [e]
    have e3 : (stp T (k + 1) q).2.2.1 = dx' := by show (sx _ _ _ _).2.1 = _; rw [e]
    have e4 : (stp T (k + 1) q).2.2.2.1 = (sx (T 1 1) q.2.1 q.2.2.2.1 n').2.1 := by show (sx _ _ _ (sx _ _ _ _).2.2).2.1 = _; rw [e]
    have e5 : (stp T (k + 1) q).2.2.2.2 = (sx (T 1 1) q.2.1 q.2.2.2.1 n').2.2 := by show (sx _ _ _ (sx _ _ _ _).2.2).2.2 = _; rw [e]
    obtain ⟨i1, i2, i3, i4, i5⟩ := hs
    unfold pkq pcq
    rw [e1] at i1 ⊢
    rw [e2] at i2 ⊢
    rw [e3, e4]
    rw [e5] at i5 ⊢
    rw [s100 o g h2 h4 (by omega), s179 o g i1 i2 ⟨i5.1, by omega⟩ (by omega) hr]
  by_cases c1 : 0 ≤ q.1 + q.2.2.1 ∧ q.1 + q.2.2.1 < T 1 0
  · rw [if_pos c1, if_neg (by decide)]
    exact key _ _ (by rw [sx, if_neg (by omega)])
  · rw [if_neg c1, if_pos (by decide), show (1 : Int32) = J 1 from rfl, J_neg, J_add, e_nmI]
    exact key _ _ (by rw [sx, if_pos (by omega)])
def FilM (T : Tn) (q : PS) (k : Nat) (M : Mem) : Prop := ∀ j, 1 ≤ j → j ≤ k → M 113 j = nI (pcq (pst T q j)) ∧ M 114 j = J (pst T q j).2.2.2.2
def PthM (T : Tn) (r s : Nat) (q : PS) (M : Mem) : Prop := M 103 31 = nI (plen T r q) ∧ M 113 0 = nI s ∧ FilM T q (plen T r q) M
theorem frp3 {M : Mem} {k j : Nat} {x y z : Int32} : Frp M (upd2 (upd2 (upd2 M 113 k x) 114 j y) 103 31 z) := fun a i h1 h2 h3 => by
  by_cases e : a = 103
  · subst e
    rw [u_nk (h3 rfl), u_ne (by omega), u_ne (by omega)]
  · rw [u_ne e, u_ne h2, u_ne h1]
theorem s49L (g : Good T) {q : PS} (hq : pin T 0 q) {r s : Nat} (hr : r ≤ 1) (hq0 : q.2.2.2.2 = 0) : ∀ (m n k : Nat) (M : Mem), k + m = 40 → m + 1 < n → OnM T M → pln T r q k = k → M 103 31 = nI k → M 113 0 = nI s → M 114 0 = J 0 → FilM T q k M →
    ∃ M', f_Mod_layPath_L49 n (nI r) (J (pst T q k).1) (J (pst T q k).2.1) (J (pst T q k).2.2.1) (J (pst T q k).2.2.2.1) (nI 1) (nI (k + 1)) M = some M' ∧ Frp M M' ∧ PthM T r s q M' := by
  intro m
  induction m with
  | zero =>
    intro n k M hk hn o hp h1 h2 h0 h3
    obtain ⟨n, rfl⟩ : ∃ z, n = z + 1 := ⟨n - 1, by omega⟩
    have e : k = 40 := by omega
    subst e
    rw [f_Mod_layPath_L49, if_pos (by rw [l40, nI_ltI (by omega) (by omega)]; omega)]
    have hp2 : plen T r q = 40 := hp
    refine ⟨M, rfl, Frp.rf, ?_, h2, ?_⟩
    · rw [hp2]; exact h1
    · rw [hp2]; exact h3
  | succ m ih =>
    intro n k M hk hn o hp h1 h2 h0 h3
    obtain ⟨n, rfl⟩ : ∃ z, n = z + 1 := ⟨n - 1, by omega⟩
    have hb : M 114 k = J (pst T q k).2.2.2.2 := by
      by_cases hk0 : k = 0
      · subst hk0
        show M 114 0 = J q.2.2.2.2
        rw [h0, hq0]
      · exact (h3 k (by omega) (Nat.le_refl k)).2
    rw [s49 o g (pst_in g hq k) (by omega) hr hb]
    by_cases hpk : pkq T r (k + 1) (stp T (k + 1) (pst T q k)) = true
    · rw [if_pos hpk]
      have f0 : Frp M (upd2 (upd2 (upd2 M 113 (k + 1) (nI (pcq (stp T (k + 1) (pst T q k))))) 114 (k + 1) (J (stp T (k + 1) (pst T q k)).2.2.2.2)) 103 31 (nI (k + 1))) := frp3
      generalize hM2 : upd2 (upd2 (upd2 M 113 (k + 1) (nI (pcq (stp T (k + 1) (pst T q k))))) 114 (k + 1) (J (stp T (k + 1) (pst T q k)).2.2.2.2)) 103 31 (nI (k + 1)) = M2 at f0 ⊢
      have e0 : M2 103 31 = nI (k + 1) := by rw [← hM2]; exact u_eq
      have e1 : M2 113 0 = nI s := by
        rw [← hM2, u_ne (by omega), u_ne (by omega), u_nk (by omega)]
        exact h2
      have e2 : M2 114 0 = J 0 := by
        rw [← hM2, u_ne (by omega), u_nk (by omega), u_ne (by omega)]
        exact h0
      have e3 : FilM T q (k + 1) M2 := by
        intro j hj1 hj2
        rw [← hM2]
        by_cases hj : j = k + 1
        · subst hj
          refine ⟨?_, ?_⟩
          · rw [u_ne (by omega), u_ne (by omega), u_eq]; rfl
          · rw [u_ne (by omega), u_eq]; rfl
        · obtain ⟨b1, b2⟩ := h3 j hj1 (by omega)
          refine ⟨?_, ?_⟩
          · rw [u_ne (by omega), u_ne (by omega), u_nk (by omega)]; exact b1
          · rw [u_ne (by omega), u_nk (by omega), u_ne (by omega)]; exact b2
      obtain ⟨M', a1, a2, a3⟩ := ih n (k + 1) M2 (by omega) (by omega) (o.fr f0.m) (pln_yes hp hpk) e0 e1 e2 e3
      exact ⟨M', a1, f0.tr a2, a3⟩
    · rw [if_neg hpk]
      obtain ⟨n, rfl⟩ : ∃ z, n = z + 1 := ⟨n - 1, by omega⟩
      have e := pln_no hp (by omega) hpk
      refine ⟨M, ?_, Frp.rf, ?_, h2, ?_⟩
      · rw [f_Mod_layPath_L49]
        by_cases h40 : (40 : Int32) < nI (k + 1 + 1)
        · rw [if_pos h40]
        · rw [if_neg h40, if_pos (by decide)]
      · rw [e]; exact h1
      · rw [e]; exact h3
theorem m_right : ∀ d, d < 8 → f_Mod_rightOf (nI d) = some (J (dX d)) := by decide +kernel
theorem m_down : ∀ d, d < 8 → f_Mod_downOf (nI d) = some (J (dY d)) := by decide +kernel
theorem m_path (o : OnM T M) (g : Good T) {s d r : Nat} (hs : isC T s) (hd : d < 8) (hr : r ≤ 1) : ∃ M', f_Mod_layPath (nI s) (nI d) (nI r) M = some M' ∧ Frp M M' ∧ PthM T r s (q0 s d) M' := by
  have hs1 := hs.1
  have o2 : OnM T (upd2 (upd2 (upd2 M 113 (ix 0) (nI s)) 114 (ix 0) 0) 103 31 0) := o.fr frp3.m
  have hx : nI (s % 9) = J (pst T (q0 s d) 0).1 := by rw [J_nI]; rfl
  have hy : nI (s / 9) = J (pst T (q0 s d) 0).2.1 := by rw [J_nI]; rfl
  obtain ⟨M', a1, a2, a3⟩ := s49L g (q0_in hs hd) hr (s := s) rfl 40 1000 0 _ rfl (by decide) o2 rfl u_eq (by rw [u_ne (by omega), u_ne (by omega)]; exact u_eq) (by rw [u_ne (by omega)]; exact u_eq) (fun j h1 h2 => absurd h2 (by omega))
  refine ⟨M', ?_, frp3.tr a2, a3⟩
  unfold f_Mod_layPath
  rw [l9, j_rem (by omega) (by omega) (by omega), pk_div (by omega) (by omega) (by omega), e_nmI, e_nmI, m_right d hd, e_bnd, m_down d hd, e_bnd, e_set, e_set, e_set, hx, hy]
  exact a1
end PM
end
section
/-! pure: bits -/
def orN (P : Nat → Bool) : Nat → Int32
  | 0 => 0
  | n + 1 => if P n = true then orN P n ||| jshl 1 (nI n) else orN P n
theorem orN_0 {P : Nat → Bool} : orN P 0 = 0 := rfl
theorem orN_s {P : Nat → Bool} {n : Nat} : orN P (n + 1) = if P n = true then orN P n ||| jshl 1 (nI n) else orN P n := rfl
theorem orN_cg {P Q : Nat → Bool} : ∀ {n : Nat}, (∀ i, i < n → P i = Q i) → orN P n = orN Q n
  | 0, _ => rfl
  | n + 1, h => by
    rw [orN_s, orN_s, orN_cg (fun i hi => h i (by omega)), h n (by omega)]
theorem b_and_or (a b m : Int32) : (a ||| b) &&& m = (a &&& m) ||| (b &&& m) := by
  apply Int32.toBitVec_inj.1
  simp only [Int32.toBitVec_and, Int32.toBitVec_or]
  exact BitVec.and_or_distrib_right
theorem b_or0 (a : Int32) : a ||| 0 = a := by
  apply Int32.toBitVec_inj.1
  simp
theorem b_0or (a : Int32) : 0 ||| a = a := by
  apply Int32.toBitVec_inj.1
  simp
theorem b_shr_or (a b s : Int32) : jshr (a ||| b) s = jshr a s ||| jshr b s := by
  unfold jshr
  apply Int32.toBitVec_inj.1
  simp only [Int32.toBitVec_shiftRight, Int32.toBitVec_or]
  exact BitVec.sshiftRight_or_distrib _ _ _
theorem b_bit_or (a b s : Int32) : jshr (a ||| b) s &&& 1 = (jshr a s &&& 1) ||| (jshr b s &&& 1) := by
  rw [b_shr_or, b_and_or]
theorem b_one : ∀ n, n < 12 → ∀ i, i < 12 → jshr (jshl 1 (nI n)) (nI i) &&& 1 = if n = i then nI 1 else nI 0 := by decide +kernel
theorem b_zero : ∀ i, i < 12 → jshr 0 (nI i) &&& 1 = nI 0 := by decide +kernel
theorem b_msk : ∀ n, n < 12 → ∀ i, i < 12 → jshl 1 (nI n) &&& (jshl 1 (nI i) ^^^ (-1)) = if n = i then 0 else jshl 1 (nI n) := by decide +kernel
theorem b_0and : ∀ i, i < 12 → (0 : Int32) &&& (jshl 1 (nI i) ^^^ (-1)) = 0 := by decide +kernel
theorem b_pow : ∀ n, n < 12 → ∀ a, a < 2 ^ n → nI a ||| jshl 1 (nI n) = nI (a + 2 ^ n) := by decide +kernel
theorem orN_bit {P : Nat → Bool} {i : Nat} (hi : i < 12) : ∀ {n : Nat}, n ≤ 12 → jshr (orN P n) (nI i) &&& 1 = if i < n ∧ P i = true then nI 1 else nI 0
  | 0, _ => by
    rw [if_neg (by omega), orN_0]
    exact b_zero i hi
  | n + 1, hn => by
    have ih := orN_bit (P := P) hi (n := n) (by omega)
    rw [orN_s]
    by_cases h : P n = true
    · rw [if_pos h, b_bit_or, ih, b_one n (by omega) i hi]
      by_cases e : n = i
      · subst e
        rw [if_pos rfl, if_neg (by omega), if_pos ⟨by omega, h⟩]
        rfl
      · rw [if_neg e]
        by_cases h2 : i < n ∧ P i = true
        · rw [if_pos h2, if_pos ⟨by omega, h2.2⟩]; rfl
        · rw [if_neg h2, if_neg (fun q => h2 ⟨by omega, q.2⟩)]; rfl
    · rw [if_neg h, ih]
      by_cases h2 : i < n ∧ P i = true
      · rw [if_pos h2, if_pos ⟨by omega, h2.2⟩]
      · rw [if_neg h2, if_neg (fun q => h2 ⟨by have : i ≠ n := fun e => h (e ▸ q.2); omega, q.2⟩)]
theorem orN_msk {P : Nat → Bool} {b : Nat} (hb : b < 12) : ∀ {n : Nat}, n ≤ 12 → orN P n &&& (jshl 1 (nI b) ^^^ (-1)) = orN (fun c => P c && decide (c ≠ b)) n
  | 0, _ => by
    rw [orN_0, orN_0]
    exact b_0and b hb
  | n + 1, hn => by
    have ih := orN_msk (P := P) hb (n := n) (by omega)
    rw [orN_s, orN_s]
    by_cases h : P n = true
    · rw [if_pos h, b_and_or, ih, b_msk n (by omega) b hb]
      by_cases e : n = b
      · subst e
        rw [if_pos rfl, b_or0, if_neg (by simp)]
      · rw [if_neg e, if_pos (by simp [h, e])]
    · rw [if_neg h, ih, if_neg (by simp [h])]
def bN (P : Nat → Bool) : Nat → Nat
  | 0 => 0
  | n + 1 => if P n = true then bN P n + 2 ^ n else bN P n
theorem bN_0 {P : Nat → Bool} : bN P 0 = 0 := rfl
theorem bN_s {P : Nat → Bool} {n : Nat} : bN P (n + 1) = if P n = true then bN P n + 2 ^ n else bN P n := rfl
theorem bN_lt {P : Nat → Bool} : ∀ n, bN P n < 2 ^ n
  | 0 => Nat.zero_lt_one
  | n + 1 => by
    have := bN_lt (P := P) n
    rw [bN_s, Nat.pow_succ]
    split <;> omega
theorem orN_bN {P : Nat → Bool} : ∀ {n : Nat}, n ≤ 12 → orN P n = nI (bN P n)
  | 0, _ => rfl
  | n + 1, hn => by
    rw [orN_s, bN_s, orN_bN (by omega)]
    by_cases h : P n = true
    · rw [if_pos h, if_pos h, b_pow n (by omega) _ (bN_lt n)]
    · rw [if_neg h, if_neg h]
def pcn (v : Nat) : Nat := v % 2 + v / 2 % 2 + v / 4 % 2 + v / 8 % 2 + v / 16 % 2 + v / 32 % 2 + v / 64 % 2 + v / 128 % 2 + v / 256 % 2 + v / 512 % 2 + v / 1024 % 2 + v / 2048 % 2
theorem bc_all : ∀ v, v < 256 → f_Int_bitCount (nI v) = some (nI (pcn v)) ∧ f_Mod_bitsOf (nI v) = some (nI (pcn v)) := by decide +kernel
def cntN (P : Nat → Bool) : Nat → Nat
  | 0 => 0
  | n + 1 => if P n = true then cntN P n + 1 else cntN P n
theorem cntN_0 {P : Nat → Bool} : cntN P 0 = 0 := rfl
theorem cntN_s {P : Nat → Bool} {n : Nat} : cntN P (n + 1) = if P n = true then cntN P n + 1 else cntN P n := rfl
theorem cntN_le {P : Nat → Bool} : ∀ n, cntN P n ≤ n
  | 0 => Nat.le_refl 0
  | n + 1 => by
    have := cntN_le (P := P) n
    rw [cntN_s]
    split <;> omega
theorem pcn_pow : ∀ n, n < 9 → ∀ a, a < 2 ^ n → pcn (a + 2 ^ n) = pcn a + 1 := by decide +kernel
theorem pcn_bN {P : Nat → Bool} : ∀ {n : Nat}, n ≤ 8 → pcn (bN P n) = cntN P n
  | 0, _ => by
    rw [bN_0, cntN_0]
    decide
  | n + 1, hn => by
    rw [bN_s, cntN_s]
    by_cases h : P n = true
    · rw [if_pos h, if_pos h, pcn_pow n (by omega) _ (bN_lt n), pcn_bN (by omega)]
    · rw [if_neg h, if_neg h, pcn_bN (by omega)]
theorem c_cnt {P : Nat → Bool} {n : Nat} (hn : n ≤ 8) : f_Int_bitCount (orN P n) = some (nI (cntN P n)) := by
  have h := bN_lt (P := P) n
  have h2 : 2 ^ n ≤ 2 ^ 8 := Nat.pow_le_pow_right (by decide) hn
  rw [orN_bN (by omega), (bc_all _ (by omega)).1, pcn_bN hn]
theorem m_cnt {P : Nat → Bool} {n : Nat} (hn : n ≤ 8) : f_Mod_bitsOf (orN P n) = some (nI (cntN P n)) := by
  have h := bN_lt (P := P) n
  have h2 : 2 ^ n ≤ 2 ^ 8 := Nat.pow_le_pow_right (by decide) hn
  rw [orN_bN (by omega), (bc_all _ (by omega)).2, pcn_bN hn]
/-! who hears -/
/-- the first of 1 .. n of which P says yes; 0: none -/
def fj (P : Nat → Bool) : Nat → Nat
  | 0 => 0
  | n + 1 => if fj P n = 0 then (if P (n + 1) = true then n + 1 else 0) else fj P n
theorem fj_is {P : Nat → Bool} : ∀ {n a : Nat}, (a = 0 ∧ ∀ j, 1 ≤ j → j ≤ n → P j = false) ∨ (1 ≤ a ∧ a ≤ n ∧ P a = true ∧ ∀ j, 1 ≤ j → j < a → P j = false) → fj P n = a
  | 0, a, h => by
    rcases h with h | h
    · exact h.1.symm
    · omega
  | n + 1, a, h => by
    unfold fj
    rcases h with ⟨rfl, h⟩ | ⟨h1, h2, h3, h4⟩
    · rw [fj_is (n := n) (a := 0) (Or.inl ⟨rfl, fun j a b => h j a (by omega)⟩), if_pos rfl, h (n + 1) (by omega) (by omega)]
      rfl
    · by_cases e : a = n + 1
      · subst e
        rw [fj_is (n := n) (a := 0) (Or.inl ⟨rfl, fun j a b => h4 j a (by omega)⟩), if_pos rfl, if_pos h3]
      · rw [fj_is (n := n) (a := a) (Or.inr ⟨h1, by omega, h3, h4⟩), if_neg (by omega)]
theorem fj_sp {P : Nat → Bool} : ∀ (n : Nat), (fj P n = 0 ∧ ∀ j, 1 ≤ j → j ≤ n → P j = false) ∨ (1 ≤ fj P n ∧ fj P n ≤ n ∧ P (fj P n) = true ∧ ∀ j, 1 ≤ j → j < fj P n → P j = false)
  | 0 => Or.inl ⟨rfl, fun j a b => by omega⟩
  | n + 1 => by
    unfold fj
    rcases fj_sp (P := P) n with ⟨h1, h2⟩ | ⟨h1, h2, h3, h4⟩
    · rw [if_pos h1]
      by_cases e : P (n + 1) = true
      · rw [if_pos e]
        exact Or.inr ⟨by omega, by omega, e, fun j a b => h2 j a (by omega)⟩
      · rw [if_neg e]
        refine Or.inl ⟨rfl, fun j a b => ?_⟩
        by_cases q : j = n + 1
        · subst q; exact Bool.eq_false_iff.mpr e
        · exact h2 j a (by omega)
    · rw [if_neg (by omega)]
      exact Or.inr ⟨h1, by omega, h3, h4⟩
def hP (T : Tn) (q : PS) (cell : Nat) : Nat → Bool := fun j => decide (pcq (pst T q j) = cell)
def hkf (T : Tn) (r : Nat) (q : PS) (cell : Nat) : Nat := fj (hP T q cell) (plen T r q)
def hst (T : Tn) (r : Nat) (q : PS) (cell e : Nat) : Nat := if hkf T r q cell ≠ 0 ∧ (e : Int) ≤ plo T (hkf T r q cell) (pst T q (hkf T r q cell)).2.2.2.2 then hkf T r q cell else 0
theorem hkf_le {T : Tn} {r : Nat} {q : PS} {cell : Nat} : hkf T r q cell ≤ 40 := by
  have h := plen_le (T := T) (r := r) (q := q)
  rcases fj_sp (P := hP T q cell) (plen T r q) with ⟨h1, -⟩ | ⟨-, h2, -⟩
  · unfold hkf; omega
  · unfold hkf; omega
theorem hst_le {T : Tn} {r : Nat} {q : PS} {cell e : Nat} : hst T r q cell e ≤ 40 := by
  have := hkf_le (T := T) (r := r) (q := q) (cell := cell)
  unfold hst
  split <;> omega
theorem lo_bd {T : Tn} (g : Good T) {q : PS} (hq : pin T 0 q) {j : Nat} (hj : j ≤ 40) : -5000 ≤ plo T j (pst T q j).2.2.2.2 ∧ plo T j (pst T q j).2.2.2.2 ≤ 100 := by
  obtain ⟨-, -, -, -, h1, h2⟩ := pst_in g hq j
  exact plo_bd g hj h1 (by omega)
theorem pcq_lt {T : Tn} (g : Good T) {q : PS} (hq : pin T 0 q) (j : Nat) : pcq (pst T q j) < 81 := by
  obtain ⟨h1, h2, -⟩ := pst_in g hq j
  exact (pc_lt g h1 h2).1
section HH
variable {T : Tn} {M : Mem} {c : Nat} {q : PS} {r s : Nat}
theorem c_stepL (g : Good T) (hq : pin T 0 q) (h : PthC c T r s q M) {cell e : Nat} (hc : cell < 81) (he : e ≤ 100) : ∀ (m n k : Nat), k + m = plen T r q + 1 → m < n → 1 ≤ k → (∀ j, 1 ≤ j → j < k → hP T q cell j = false) →
    f_Cou_stepHeardOn_L2 c M n (nI cell) (nI e) (nI k) = some (nI (hst T r q cell e)) := by
  have hl := plen_le (T := T) (r := r) (q := q)
  intro m
  induction m with
  | zero =>
    intro n k hk hn h1 h2
    obtain ⟨n, rfl⟩ : ∃ z, n = z + 1 := ⟨n - 1, by omega⟩
    rw [f_Cou_stepHeardOn_L2, h.1, if_pos (by rw [nI_ltI (by omega) (by omega)]; omega), hst, show hkf T r q cell = 0 from fj_is (Or.inl ⟨rfl, fun j a b => h2 j a (by omega)⟩), if_neg (by omega)]
    rfl
  | succ m ih =>
    intro n k hk hn h1 h2
    obtain ⟨n, rfl⟩ : ∃ z, n = z + 1 := ⟨n - 1, by omega⟩
    obtain ⟨b1, b2, b3⟩ := h.2.2 k h1 (by omega)
    have hp := pcq_lt g hq k
    have hb := lo_bd g hq (j := k) (by omega)
    rw [f_Cou_stepHeardOn_L2, h.1, if_neg (by rw [nI_ltI (by omega) (by omega)]; omega), if_neg (by rw [l40, nI_ltI (by omega) (by omega)]; omega), e_ckn (by omega) (by decide), e_ckn (by omega) (by decide), show ix (nI k) = k from e_ix (by omega), b1, b2]
    by_cases hm : pcq (pst T q k) = cell
    · rw [if_pos (by rw [hm])]
      have hkk : hkf T r q cell = k := fj_is (Or.inr ⟨h1, by omega, decide_eq_true hm, h2⟩)
      rw [J_nI, hst, hkk]
      by_cases h5 : (e : Int) ≤ plo T k (pst T q k).2.2.2.2
      · rw [if_neg (by rw [J_lt (by omega) (by omega) (by omega) (by omega)]; omega), if_pos ⟨by omega, h5⟩]
      · rw [if_pos (by rw [J_lt (by omega) (by omega) (by omega) (by omega)]; omega), if_neg (fun q => h5 q.2)]
        rfl
    · rw [if_neg (by rw [nI_eq (by omega) (by omega)]; exact hm), nI_1]
      refine ih n (k + 1) (by omega) (by omega) (by omega) (fun j a b => ?_)
      by_cases e2 : j = k
      · subst e2; exact decide_eq_false hm
      · exact h2 j a (by omega)
theorem c_step (g : Good T) (hq : pin T 0 q) (h : PthC c T r s q M) {cell e : Nat} (hc : cell < 81) (he : e ≤ 100) : f_Cou_stepHeardOn c M (nI cell) (nI e) = some (nI (hst T r q cell e)) := by
  have hl := plen_le (T := T) (r := r) (q := q)
  exact c_stepL g hq h hc he (plen T r q) 1000 1 (by omega) (by omega) (by omega) (fun j a b => by omega)
def enc (a : Nat) : Int32 := if a = 0 then -4 else nI a
theorem enc_4 {a : Nat} (ha : a < 1000) : (enc a = -4) = (a = 0) := by
  unfold enc
  by_cases h : a = 0
  · rw [if_pos h]; simp [h]
  · rw [if_neg h, l4, e_neg (by omega) (by omega) (by omega)]; simp [h]
theorem m_loud (o : OnM T M) (g : Good T) (hq : pin T 0 q) (h : PthM T r s q M) {k : Nat} (h1 : 1 ≤ k) (h2 : k ≤ plen T r q) : f_Mod_loudAt M (nI k) = some (J (plo T k (pst T q k).2.2.2.2)) := by
  have hl := plen_le (T := T) (r := r) (q := q)
  unfold f_Mod_loudAt
  rw [e_ckn (by omega) (by decide), show ix (nI k) = k from e_ix (by omega), (h.2.2 k h1 h2).2, o.s2, o.s3, lo_J]
theorem m_stepL (o : OnM T M) (g : Good T) (hq : pin T 0 q) (h : PthM T r s q M) {b hr : Nat} (hb : b < T 4 0) (hh : hr < 12) : ∀ (m n a : Nat), m < n → m ≤ plen T r q → ((a = 0 ∧ ∀ j, m < j → j ≤ plen T r q → hP T q (cel T b hr) j = false) ∨ (m < a ∧ a ≤ plen T r q ∧ hP T q (cel T b hr) a = true ∧ ∀ j, m < j → j < a → hP T q (cel T b hr) j = false)) →
    f_Mod_stepTo_L9 M n (nI b) (nI hr) (enc a) (nI m) = some (enc (hst T r q (cel T b hr) (ear T b))) := by
  have hl := plen_le (T := T) (r := r) (q := q)
  have hc := (cel_lt (h := hr) g hb).1
  have he := ear_lt g hb
  have hn9 := g.n
  intro m
  induction m with
  | zero =>
    intro n a hn h1 h2
    obtain ⟨n, rfl⟩ : ∃ z, n = z + 1 := ⟨n - 1, by omega⟩
    have ea : hkf T r q (cel T b hr) = a := by
      refine fj_is ?_
      rcases h2 with h2 | h2
      · exact Or.inl ⟨h2.1, fun j x y => h2.2 j (by omega) y⟩
      · exact Or.inr ⟨by omega, h2.2.1, h2.2.2.1, fun j x y => h2.2.2.2 j (by omega) y⟩
    have ha : a ≤ 40 := by rw [← ea]; exact hkf_le
    rw [f_Mod_stepTo_L9, if_pos (by decide), hst, ea]
    by_cases h0 : a = 0
    · subst h0
      rw [if_pos (by rfl), if_neg (by omega)]
      rfl
    · have h3 : 1 ≤ a ∧ a ≤ plen T r q := by
        rcases h2 with h2 | h2
        · exact absurd h2.1 h0
        · exact ⟨by omega, h2.2.1⟩
      have hbd := lo_bd g hq (j := a) (by omega)
      rw [if_neg (by rw [enc_4 (by omega)]; exact h0), show enc a = nI a from if_neg h0, m_loud o g hq h h3.1 h3.2, e_bnd, m_ear o g hb, e_bnd, J_nI (ear T b)]
      by_cases h5 : ((ear T b : Nat) : Int) ≤ plo T a (pst T q a).2.2.2.2
      · rw [if_neg (by rw [J_lt (by omega) (by omega) (by omega) (by omega)]; omega), if_pos ⟨h0, h5⟩, enc, if_neg h0]
      · rw [if_pos (by rw [J_lt (by omega) (by omega) (by omega) (by omega)]; omega), if_neg (fun q => h5 q.2)]
        rfl
  | succ m ih =>
    intro n a hn h1 h2
    obtain ⟨n, rfl⟩ : ∃ z, n = z + 1 := ⟨n - 1, by omega⟩
    have hp := pcq_lt g hq (m + 1)
    rw [f_Mod_stepTo_L9, if_neg (by rw [l0, nI_leI (by omega) (by omega)]; omega), e_ckn (by omega) (by decide), m_cell o g hb hh, e_bnd, show ix (nI (m + 1)) = m + 1 from e_ix (by omega), (h.2.2 (m + 1) (by omega) h1).1, pk_m1]
    by_cases hm : pcq (pst T q (m + 1)) = cel T b hr
    · rw [if_pos (by rw [hm]), show nI (m + 1) = enc (m + 1) from (if_neg (by omega)).symm]
      exact ih n (m + 1) (by omega) (by omega) (Or.inr ⟨by omega, h1, decide_eq_true hm, fun j x y => by omega⟩)
    · rw [if_neg (by rw [nI_eq (by omega) (by omega)]; exact hm)]
      have hf : hP T q (cel T b hr) (m + 1) = false := decide_eq_false hm
      refine ih n a (by omega) (by omega) ?_
      rcases h2 with h2 | h2
      · refine Or.inl ⟨h2.1, fun j x y => ?_⟩
        by_cases e2 : j = m + 1
        · subst e2; exact hf
        · exact h2.2 j (by omega) y
      · refine Or.inr ⟨by omega, h2.2.1, h2.2.2.1, fun j x y => ?_⟩
        by_cases e2 : j = m + 1
        · subst e2; exact hf
        · exact h2.2.2.2 j (by omega) y
theorem m_step (o : OnM T M) (g : Good T) (hq : pin T 0 q) (h : PthM T r s q M) {b hr : Nat} (hb : b < T 4 0) (hh : hr < 12) : f_Mod_stepTo M (nI b) (nI hr) = some (enc (hst T r q (cel T b hr) (ear T b))) := by
  have hl := plen_le (T := T) (r := r) (q := q)
  unfold f_Mod_stepTo
  rw [h.1, e_nmI]
  exact m_stepL o g hq h hb hh (plen T r q) 1000 0 (by omega) (Nat.le_refl _) (Or.inl ⟨rfl, fun j x y => by omega⟩)
end HH
end
section
/-! pure: who hears whom, what is broken -/
def Frb (M M' : Mem) : Prop := ∀ a k, (a < 113 ∨ 116 < a) → (a = 103 → k ≠ 31) → M' a k = M a k
theorem Frb.rf {M : Mem} : Frb M M := fun _ _ _ _ => rfl
theorem Frb.tr {M M' M2 : Mem} (h : Frb M M') (g : Frb M' M2) : Frb M M2 := fun a k q r => (g a k q r).trans (h a k q r)
theorem Frb.m {M M' : Mem} (h : Frb M M') : Frm M M' := fun a k q r => h a k (by omega) (fun e => (r e).1)
theorem Frp.b {M M' : Mem} (h : Frp M M') : Frb M M' := fun a k q r => h a k (by omega) (by omega) r
theorem Frb.set {M M' : Mem} {a k : Nat} {x : Int32} (h : Frb M M') (h1 : 113 ≤ a) (h2 : a ≤ 116) : Frb M (upd2 M' a k x) := fun i j q r => by
  rw [u_ne (by omega), h i j q r]
def rsd (T : Tn) (b : Nat) : Nat := if T 9 b = 3 then 1 else 0
def qb (T : Tn) (b h : Nat) : PS := q0 (cel T b h) (fac T b h)
def hrd (T : Tn) (b h c : Nat) : Bool := decide (hst T (rsd T b) (qb T b h) (cel T c h) (ear T c) ≠ 0)
def hrs (T : Tn) (b h : Nat) : Int32 := orN (fun c => hrd T b h c && decide (c ≠ b)) (T 4 0)
def hbN (T : Tn) (b c h : Nat) : Nat := if c < T 4 0 ∧ (hrd T b h c && decide (c ≠ b)) = true then 1 else 0
theorem hbN_le {T : Tn} {b c h : Nat} : hbN T b c h ≤ 1 := by
  unfold hbN
  split <;> omega
section HB
variable {T : Tn} {M : Mem}
theorem isC_cel (g : Good T) {b h : Nat} (hb : b < T 4 0) : isC T (cel T b h) := cel_lt g hb
theorem qb_in (g : Good T) {b h : Nat} (hb : b < T 4 0) : pin T 0 (qb T b h) := q0_in (isC_cel g hb) (fac_lt g hb)
theorem rsd_le {b : Nat} : rsd T b ≤ 1 := by
  unfold rsd
  split <;> omega
theorem hrs_bit (g : Good T) {b c h : Nat} (hc : c < T 4 0) : jshr (hrs T b h) (nI c) &&& 1 = nI (hbN T b c h) := by
  have h9 := g.n
  unfold hrs hbN
  rw [orN_bit (by omega) (by omega)]
  split <;> rfl
theorem c_whisper (o : On T M) (g : Good T) {gg b h : Nat} (hb : b < T 4 0) (hh : h < 12) (hg : 18 ≤ gg) : ∃ M', f_Hea_whisperFromBench gg (nI b) (nI h) M = some M' ∧ Fr (gg + 1) (gg + 4) M M' ∧ PthC (gg + 1) T (rsd T b) (cel T b h) (qb T b h) M' := by
  have h3 := g.b hb
  obtain ⟨M', a1, a2, a3⟩ := c_run (c := gg + 1) o g (isC_cel (h := h) g hb) (fac_lt (h := h) g hb) (rsd_le (T := T) (b := b)) (by omega)
  refine ⟨M', ?_, a2.up (by omega) (by omega), a3⟩
  unfold f_Hea_whisperFromBench f_Hea_whisperFromBench_J17
  rw [c_kind o g hb, e_bnd, c_cell o g hb hh, e_bnd, c_fac o g hb hh, e_bnd, e_bnd]
  unfold rsd at a1
  by_cases hk : T 9 b = 3
  · rw [if_pos hk] at a1
    rw [hk, if_pos (show nI 3 = 3 from rfl), show (1 : Int32) = nI 1 from rfl, a1, e_bnd]
  · rw [if_neg hk] at a1
    rw [if_neg (by rw [l3, nI_eq (by omega) (by omega)]; exact hk), e_bnd, show (0 : Int32) = nI 0 from rfl, a1, e_bnd]
theorem c_latestL (o : On T M) (g : Good T) {gg h r s : Nat} {q : PS} (hq : pin T 0 q) (hp : PthC (gg + 1) T r s q M) (hh : h < 12) : ∀ (m n k : Nat), k + m = T 4 0 → m < n → f_Hea_hearersOfLatest_L5 gg M n (nI h) (orN (fun c => decide (hst T r q (cel T c h) (ear T c) ≠ 0)) k) (nI k) = some (orN (fun c => decide (hst T r q (cel T c h) (ear T c) ≠ 0)) (T 4 0)) := by
  have h9 := g.n
  intro m
  induction m with
  | zero =>
    intro n k hk hn
    obtain ⟨n, rfl⟩ : ∃ z, n = z + 1 := ⟨n - 1, by omega⟩
    have e : k = T 4 0 := by omega
    subst e
    rw [f_Hea_hearersOfLatest_L5, o.nb, if_pos (by rw [nI_leI (by omega) (by omega)]; omega)]
  | succ m ih =>
    intro n k hk hn
    obtain ⟨n, rfl⟩ : ∃ z, n = z + 1 := ⟨n - 1, by omega⟩
    have hb : k < T 4 0 := by omega
    have hl := hst_le (T := T) (r := r) (q := q) (cell := cel T k h) (e := ear T k)
    rw [f_Hea_hearersOfLatest_L5, o.nb, if_neg (by rw [nI_leI (by omega) (by omega)]; omega), c_cell o g hb hh, e_bnd, c_ear o g hb, e_bnd, c_step g hq hp (cel_lt g hb).1 (ear_lt g hb).2, e_bnd, nI_1, e_nmI]
    have ih2 := ih n (k + 1) (by omega) (by omega)
    rw [orN_s] at ih2
    by_cases h0 : hst T r q (cel T k h) (ear T k) = 0
    · rw [if_pos (by rw [h0]; decide)]
      rw [if_neg (by simp [h0])] at ih2
      exact ih2
    · rw [if_neg (by rw [l0, nI_leI (by omega) (by omega)]; omega)]
      rw [if_pos (by simp [h0])] at ih2
      exact ih2
theorem c_latest (o : On T M) (g : Good T) {gg h r s : Nat} {q : PS} (hq : pin T 0 q) (hp : PthC (gg + 1) T r s q M) (hh : h < 12) : f_Hea_hearersOfLatest gg M (nI h) = some (orN (fun c => decide (hst T r q (cel T c h) (ear T c) ≠ 0)) (T 4 0)) := by
  have h9 := g.n
  exact c_latestL o g hq hp hh (T 4 0) 1000 0 (by omega) (by omega)
theorem c_hearers (o : On T M) (g : Good T) {gg b h : Nat} (hb : b < T 4 0) (hh : h < 12) (hg : 18 ≤ gg) : ∃ M', f_Hea_hearersOf gg (nI b) (nI h) M = some (hrs T b h, M') ∧ Fr (gg + 1) (gg + 4) M M' := by
  have h9 := g.n
  obtain ⟨M', a1, a2, a3⟩ := c_whisper (gg := gg) o g hb hh hg
  refine ⟨M', ?_, a2⟩
  unfold f_Hea_hearersOf
  rw [a1, e_bnd, c_latest (o.fr a2 (by omega)) g (qb_in g hb) a3 hh, e_bnd, orN_msk (by omega) (by omega)]
  rfl
theorem c_listenL (g : Good T) {gg h : Nat} (hh : h < 12) (hg : 18 ≤ gg) : ∀ (m n k : Nat) (M : Mem), On T M → k + m = T 4 0 → m < n → (∀ b, b < k → M (gg + 5) b = hrs T b h) → ∃ M', f_Hea_listenToAll_L2 gg n (nI h) (nI k) M = some M' ∧ Fr (gg + 1) (gg + 5) M M' ∧ ∀ b, b < T 4 0 → M' (gg + 5) b = hrs T b h := by
  have h9 := g.n
  intro m
  induction m with
  | zero =>
    intro n k M o hk hn hf
    obtain ⟨n, rfl⟩ : ∃ z, n = z + 1 := ⟨n - 1, by omega⟩
    have e : k = T 4 0 := by omega
    subst e
    rw [f_Hea_listenToAll_L2, o.nb, if_pos (by rw [nI_leI (by omega) (by omega)]; omega)]
    exact ⟨M, rfl, Fr.rf, hf⟩
  | succ m ih =>
    intro n k M o hk hn hf
    obtain ⟨n, rfl⟩ : ∃ z, n = z + 1 := ⟨n - 1, by omega⟩
    obtain ⟨M1, a1, a2⟩ := c_hearers (gg := gg) (b := k) o g (by omega) hh hg
    rw [f_Hea_listenToAll_L2, o.nb, if_neg (by rw [nI_leI (by omega) (by omega)]; omega), if_neg (by rw [l8, nI_leI (by omega) (by omega)]; omega), a1, e_bnd2, e_ckn (by omega) (by decide), e_set, nI_1, show ix (nI k) = k from e_ix (by omega)]
    have f1 : Fr (gg + 1) (gg + 5) M (upd2 M1 (gg + 5) k (hrs T k h)) := (a2.up (Nat.le_refl _) (by omega)).set (by omega) (Nat.le_refl _)
    obtain ⟨M', b1, b2, b3⟩ := ih n (k + 1) (upd2 M1 (gg + 5) k (hrs T k h)) (o.fr f1 (by omega)) (by omega) (by omega) (fun b hb => by
      by_cases e : b = k
      · subst e; exact u_eq
      · rw [u_nk e, a2 (gg + 5) (by omega)]
        exact hf b (by omega))
    exact ⟨M', b1, f1.tr b2, b3⟩
theorem c_listen (o : On T M) (g : Good T) {gg h : Nat} (hh : h < 12) (hg : 18 ≤ gg) : ∃ M', f_Hea_listenToAll gg (nI h) M = some M' ∧ Fr (gg + 1) (gg + 5) M M' ∧ ∀ b, b < T 4 0 → M' (gg + 5) b = hrs T b h := by
  have h9 := g.n
  exact c_listenL g hh hg (T 4 0) 1000 0 M o (by omega) (by omega) (fun b hb => by omega)
theorem c_heardBy (g : Good T) {gg h b c : Nat} (hL : ∀ b, b < T 4 0 → M (gg + 5) b = hrs T b h) (hb : b < T 4 0) (hc : c < T 4 0) : f_Hea_isHeardBy gg M (nI b) (nI c) = some (nI (hbN T b c h)) := by
  have h9 := g.n
  unfold f_Hea_isHeardBy f_Hal_bit
  rw [w_in, if_pos (by rw [l0, l7, nI_leI (by omega) (by omega), nI_leI (by omega) (by omega)]; omega), e_bnd, if_neg (by decide), w_in, if_pos (by rw [l0, l7, nI_leI (by omega) (by omega), nI_leI (by omega) (by omega)]; omega), e_bnd, if_neg (by decide), e_ckn (by omega) (by decide), show ix (nI b) = b from e_ix (by omega), hL b hb, hrs_bit g hc, e_bnd]
theorem c_want (o : On T M) (g : Good T) {i : Nat} (hi : i < T 10 0) : f_Tri_part 10 M (nI i) 0 = some (nI (T 11 i)) ∧ f_Tri_part 10 M (nI i) 1 = some (nI (T 12 i)) ∧ f_Tri_part 10 M (nI i) 2 = some (nI (T 13 i)) := by
  have h9 := g.nw
  refine ⟨?_, ?_, ?_⟩
  · simp (disch := omega) only [e_bnd, e_bnd2, e_set, e_cpy, e_nmI, e_nmL, e_ckn, e_ckB0, e_ckB1, l0, l1, l2, l3, l4, l5, l6, l7, l8, l9, l10, l11, l12, l13, l14, l15, l16, l17, l18, l19, l20, l21, l22, l24, l25, l32, l39, l40, l41, l48, l50, l56, l57, l59, l60, l72, l79, l80, l81, l82, l88, l89, l97, l100, l122, l124, l125, l160, l255, l312, l320, l375, l1000, nI_ltI, nI_leI, nI_eq, nI_add, pk_mul, e_ix, e_neg, if_true, if_false, if_pos, if_neg, f_Tri_part, o.nw, Nat.reduceAdd, o.w (a := 11) (by decide) (by decide) hi]
  · simp (disch := omega) only [e_bnd, e_bnd2, e_set, e_cpy, e_nmI, e_nmL, e_ckn, e_ckB0, e_ckB1, l0, l1, l2, l3, l4, l5, l6, l7, l8, l9, l10, l11, l12, l13, l14, l15, l16, l17, l18, l19, l20, l21, l22, l24, l25, l32, l39, l40, l41, l48, l50, l56, l57, l59, l60, l72, l79, l80, l81, l82, l88, l89, l97, l100, l122, l124, l125, l160, l255, l312, l320, l375, l1000, nI_ltI, nI_leI, nI_eq, nI_add, pk_mul, e_ix, e_neg, if_true, if_false, if_pos, if_neg, f_Tri_part, o.nw, Nat.reduceAdd, o.w (a := 12) (by decide) (by decide) hi]
  · simp (disch := omega) only [e_bnd, e_bnd2, e_set, e_cpy, e_nmI, e_nmL, e_ckn, e_ckB0, e_ckB1, l0, l1, l2, l3, l4, l5, l6, l7, l8, l9, l10, l11, l12, l13, l14, l15, l16, l17, l18, l19, l20, l21, l22, l24, l25, l32, l39, l40, l41, l48, l50, l56, l57, l59, l60, l72, l79, l80, l81, l82, l88, l89, l97, l100, l122, l124, l125, l160, l255, l312, l320, l375, l1000, nI_ltI, nI_leI, nI_eq, nI_add, pk_mul, e_ix, e_neg, if_true, if_false, if_pos, if_neg, f_Tri_part, o.nw, Nat.reduceAdd, o.w (a := 13) (by decide) (by decide) hi]
/-- the wants that are broken when one p sits on bench S p -/
def bkP (T : Tn) (S : Nat → Nat) (h : Nat) : Nat → Bool := fun i => decide (hbN T (S (T 11 i)) (S (T 12 i)) h ≠ T 13 i)
def brk (T : Tn) (h : Nat) : Int32 := orN (bkP T (fun p => T 3 p) h) (T 10 0)
theorem c_brokenL (o : On T M) (g : Good T) {gg h : Nat} (hL : ∀ b, b < T 4 0 → M (gg + 5) b = hrs T b h) : ∀ (m n k : Nat), k + m = T 10 0 → m < n → f_Hea_brokenWants_L11 gg n (orN (bkP T (fun p => T 3 p) h) k) (nI k) M = some (brk T h, M) := by
  have h9 := g.nw
  intro m
  induction m with
  | zero =>
    intro n k hk hn
    obtain ⟨n, rfl⟩ : ∃ z, n = z + 1 := ⟨n - 1, by omega⟩
    have e : k = T 10 0 := by omega
    subst e
    rw [f_Hea_brokenWants_L11, o.nw, if_pos (by rw [nI_leI (by omega) (by omega)]; omega)]
    rfl
  | succ m ih =>
    intro n k hk hn
    obtain ⟨n, rfl⟩ : ∃ z, n = z + 1 := ⟨n - 1, by omega⟩
    have hi : k < T 10 0 := by omega
    have hw := g.wi hi
    obtain ⟨c1, c2, c3⟩ := c_want o g hi
    have hle := hbN_le (T := T) (b := T 3 (T 11 k)) (c := T 3 (T 12 k)) (h := h)
    rw [f_Hea_brokenWants_L11, o.nw, if_neg (by rw [nI_leI (by omega) (by omega)]; omega), c1, e_bnd, c_seat o g hw.1, e_bnd, c2, e_bnd, c_seat o g hw.2.1, e_bnd, c_heardBy g hL (g.p hw.1) (g.p hw.2.1), e_bnd, c3, e_bnd, nI_1, e_nmI]
    have ih2 := ih n (k + 1) (by omega) (by omega)
    rw [orN_s] at ih2
    by_cases h0 : hbN T (T 3 (T 11 k)) (T 3 (T 12 k)) h = T 13 k
    · rw [if_pos (by rw [h0])]
      rw [if_neg (by simp [bkP, h0])] at ih2
      exact ih2
    · rw [if_neg (by rw [nI_eq (by omega) (by omega)]; exact h0)]
      rw [if_pos (by simp [bkP, h0])] at ih2
      exact ih2
theorem c_broken (o : On T M) (g : Good T) {gg h : Nat} (hh : h < 12) (hg : 18 ≤ gg) : ∃ M', f_Hea_brokenWants gg (nI h) M = some (brk T h, M') ∧ Fr (gg + 1) (gg + 5) M M' := by
  have h9 := g.nw
  obtain ⟨M', a1, a2, a3⟩ := c_listen (gg := gg) o g hh hg
  refine ⟨M', ?_, a2⟩
  unfold f_Hea_brokenWants
  rw [a1, e_bnd]
  exact c_brokenL (o.fr a2 (by omega)) g a3 (T 10 0) 1000 0 (by omega) (by omega)
/-! the reference's -/
theorem m_layOf (o : OnM T M) (g : Good T) {b h : Nat} (hb : b < T 4 0) (hh : h < 12) : ∃ M', f_Mod_layPathOf (nI b) (nI h) M = some M' ∧ Frp M M' ∧ PthM T (rsd T b) (cel T b h) (qb T b h) M' := by
  have h3 := g.b hb
  obtain ⟨M', a1, a2, a3⟩ := m_path o g (isC_cel (h := h) g hb) (fac_lt (h := h) g hb) (rsd_le (T := T) (b := b))
  refine ⟨M', ?_, a2, a3⟩
  unfold f_Mod_layPathOf f_Mod_layPathOf_J27
  rw [m_cell o g hb hh, e_bnd, m_fac o g hb hh, e_bnd, m_kind o g hb, e_bnd]
  unfold rsd at a1
  by_cases hk : T 9 b = 3
  · rw [if_pos hk] at a1
    rw [hk, if_pos (show nI 3 = 3 from rfl), show (1 : Int32) = nI 1 from rfl, a1, e_bnd]
  · rw [if_neg hk] at a1
    rw [if_neg (by rw [l3, nI_eq (by omega) (by omega)]; exact hk), show (0 : Int32) = nI 0 from rfl, a1, e_bnd]
theorem m_allL (o : OnM T M) (g : Good T) {h r s : Nat} {q : PS} {x2 : Int32} {bt : Nat → Bool} (hbt : ∀ c, c < T 4 0 → (nI c = x2 ↔ bt c = true)) (hq : pin T 0 q) (hp : PthM T r s q M) (hh : h < 12) : ∀ (m n k : Nat), k + m = T 4 0 → m < n → f_Mod_allTo_L5 M n (nI h) x2 (orN (fun c => decide (hst T r q (cel T c h) (ear T c) ≠ 0) && !bt c) k) (nI k) = some (orN (fun c => decide (hst T r q (cel T c h) (ear T c) ≠ 0) && !bt c) (T 4 0)) := by
  have h9 := g.n
  intro m
  induction m with
  | zero =>
    intro n k hk hn
    obtain ⟨n, rfl⟩ : ∃ z, n = z + 1 := ⟨n - 1, by omega⟩
    have e : k = T 4 0 := by omega
    subst e
    rw [f_Mod_allTo_L5, o.nb, if_pos (by rw [nI_leI (by omega) (by omega)]; omega)]
  | succ m ih =>
    intro n k hk hn
    obtain ⟨n, rfl⟩ : ∃ z, n = z + 1 := ⟨n - 1, by omega⟩
    have hb : k < T 4 0 := by omega
    have hl := hst_le (T := T) (r := r) (q := q) (cell := cel T k h) (e := ear T k)
    have ih2 := ih n (k + 1) (by omega) (by omega)
    rw [orN_s] at ih2
    rw [f_Mod_allTo_L5, o.nb, if_neg (by rw [nI_leI (by omega) (by omega)]; omega), nI_1, e_nmI, b_or0]
    by_cases hx : bt k = true
    · rw [if_pos ((hbt k hb).mpr hx)]
      rw [if_neg (by simp [hx])] at ih2
      exact ih2
    · rw [if_neg (fun e => hx ((hbt k hb).mp e)), m_step o g hq hp hb hh, e_bnd]
      by_cases h0 : hst T r q (cel T k h) (ear T k) = 0
      · rw [if_pos (by rw [h0]; rfl)]
        rw [if_neg (by simp [h0])] at ih2
        exact ih2
      · rw [if_neg (by rw [enc_4 (by omega)]; exact h0)]
        rw [if_pos (by simp [h0, hx])] at ih2
        exact ih2
theorem m_all (o : OnM T M) (g : Good T) {h r s : Nat} {q : PS} {x2 : Int32} {bt : Nat → Bool} (hbt : ∀ c, c < T 4 0 → (nI c = x2 ↔ bt c = true)) (hq : pin T 0 q) (hp : PthM T r s q M) (hh : h < 12) : f_Mod_allTo M (nI h) x2 = some (orN (fun c => decide (hst T r q (cel T c h) (ear T c) ≠ 0) && !bt c) (T 4 0)) := by
  have h9 := g.n
  exact m_allL o g hbt hq hp hh (T 4 0) 1000 0 (by omega) (by omega)
theorem m_heardOf (o : OnM T M) (g : Good T) {b h : Nat} (hb : b < T 4 0) (hh : h < 12) : ∃ M', f_Mod_heardOf (nI b) (nI h) M = some (hrs T b h, M') ∧ Frp M M' := by
  have h9 := g.n
  obtain ⟨M', a1, a2, a3⟩ := m_layOf o g hb hh
  refine ⟨M', ?_, a2⟩
  unfold f_Mod_heardOf
  rw [a1, e_bnd, m_all (bt := fun c => decide (c = b)) (o.fr a2.m) g (fun c hc => by rw [nI_eq (by omega) (by omega)]; simp) (qb_in g hb) a3 hh, e_bnd]
  have e : orN (fun c => decide (hst T (rsd T b) (qb T b h) (cel T c h) (ear T c) ≠ 0) && !decide (c = b)) (T 4 0) = hrs T b h := orN_cg (fun c _ => by simp [hrd])
  rw [e]
theorem m_findL (g : Good T) {h : Nat} (hh : h < 12) : ∀ (m n k : Nat) (M : Mem), OnM T M → k + m = T 4 0 → m < n → (∀ b, b < k → M 115 b = hrs T b h) → ∃ M', f_Mod_findHeards_L2 n (nI h) (nI k) M = some M' ∧ Frb M M' ∧ ∀ b, b < T 4 0 → M' 115 b = hrs T b h := by
  have h9 := g.n
  intro m
  induction m with
  | zero =>
    intro n k M o hk hn hf
    obtain ⟨n, rfl⟩ : ∃ z, n = z + 1 := ⟨n - 1, by omega⟩
    have e : k = T 4 0 := by omega
    subst e
    rw [f_Mod_findHeards_L2, o.nb, if_pos (by rw [nI_leI (by omega) (by omega)]; omega)]
    exact ⟨M, rfl, Frb.rf, hf⟩
  | succ m ih =>
    intro n k M o hk hn hf
    obtain ⟨n, rfl⟩ : ∃ z, n = z + 1 := ⟨n - 1, by omega⟩
    obtain ⟨M1, a1, a2⟩ := m_heardOf (b := k) o g (by omega) hh
    rw [f_Mod_findHeards_L2, o.nb, if_neg (by rw [nI_leI (by omega) (by omega)]; omega), a1, e_bnd2, e_ckn (by omega) (by decide), e_set, nI_1, show ix (nI k) = k from e_ix (by omega)]
    have f1 : Frb M (upd2 M1 115 k (hrs T k h)) := a2.b.set (by omega) (by omega)
    obtain ⟨M', b1, b2, b3⟩ := ih n (k + 1) (upd2 M1 115 k (hrs T k h)) (o.fr f1.m) (by omega) (by omega) (fun b hb => by
      by_cases e : b = k
      · subst e; exact u_eq
      · rw [u_nk e, a2 115 b (by omega) (by omega) (fun e => by omega)]
        exact hf b (by omega))
    exact ⟨M', b1, f1.tr b2, b3⟩
theorem m_find (o : OnM T M) (g : Good T) {h : Nat} (hh : h < 12) : ∃ M', f_Mod_findHeards (nI h) M = some M' ∧ Frb M M' ∧ ∀ b, b < T 4 0 → M' 115 b = hrs T b h := by
  have h9 := g.n
  exact m_findL g hh (T 4 0) 1000 0 M o (by omega) (by omega) (fun b hb => by omega)
theorem m_sitL : ∀ (m n k : Nat) (M : Mem), OnM T M → k + m = 6 → m < n → (∀ p, p < k → M 116 p = nI (T 3 p)) → ∃ M', f_Mod_sitsAsNow_L2 n (nI k) M = some M' ∧ (∀ a, a ≠ 116 → M' a = M a) ∧ ∀ p, p < 6 → M' 116 p = nI (T 3 p) := by
  intro m
  induction m with
  | zero =>
    intro n k M o hk hn hf
    obtain ⟨n, rfl⟩ : ∃ z, n = z + 1 := ⟨n - 1, by omega⟩
    have e : k = 6 := by omega
    subst e
    rw [f_Mod_sitsAsNow_L2, if_pos (by decide)]
    exact ⟨M, rfl, fun _ _ => rfl, hf⟩
  | succ m ih =>
    intro n k M o hk hn hf
    obtain ⟨n, rfl⟩ : ∃ z, n = z + 1 := ⟨n - 1, by omega⟩
    rw [f_Mod_sitsAsNow_L2, if_neg (by rw [l6, nI_leI (by omega) (by omega)]; omega), l82, nI_add, e_ckn (by omega) (by decide), e_ckn (by omega) (by decide), e_set, nI_1, show ix (nI k) = k from e_ix (by omega), show ix (nI (82 + k)) = 82 + k from e_ix (by omega), o.p (show k < 6 by omega)]
    obtain ⟨M', b1, b2, b3⟩ := ih n (k + 1) (upd2 M 116 k (nI (T 3 k))) (o.fr (Frm.rf.set (by omega) (by omega))) (by omega) (by omega) (fun p hp => by
      by_cases e : p = k
      · subst e; exact u_eq
      · rw [u_nk e]
        exact hf p (by omega))
    exact ⟨M', b1, fun a ha => by rw [b2 a ha, u_ne ha], b3⟩
theorem m_brokenByL (o : OnM T M) (g : Good T) {h : Nat} {S : Nat → Nat} (hL : ∀ b, b < T 4 0 → M 115 b = hrs T b h) (hS : ∀ p, p < T 1 5 → M 116 p = nI (S p) ∧ S p < T 4 0) : ∀ (m n k : Nat), k + m = T 10 0 → m < n → f_Mod_brokenBy_L4 M n (orN (bkP T S h) k) (nI k) = some (orN (bkP T S h) (T 10 0)) := by
  have h9 := g.nw
  have h8 := g.n
  intro m
  induction m with
  | zero =>
    intro n k hk hn
    obtain ⟨n, rfl⟩ : ∃ z, n = z + 1 := ⟨n - 1, by omega⟩
    have e : k = T 10 0 := by omega
    subst e
    rw [f_Mod_brokenBy_L4, o.nw, if_pos (by rw [nI_leI (by omega) (by omega)]; omega)]
  | succ m ih =>
    intro n k hk hn
    obtain ⟨n, rfl⟩ : ∃ z, n = z + 1 := ⟨n - 1, by omega⟩
    have hi : k < T 10 0 := by omega
    have hw := g.wi hi
    have s1 := hS _ hw.1
    have s2 := hS _ hw.2.1
    have hle := hbN_le (T := T) (b := S (T 11 k)) (c := S (T 12 k)) (h := h)
    have ih2 := ih n (k + 1) (by omega) (by omega)
    rw [orN_s] at ih2
    rw [f_Mod_brokenBy_L4, o.nw, if_neg (by rw [nI_leI (by omega) (by omega)]; omega)]
    simp (disch := omega) only [e_bnd, e_bnd2, e_set, e_cpy, e_nmI, e_nmL, e_ckn, e_ckB0, e_ckB1, l0, l1, l2, l3, l4, l5, l6, l7, l8, l9, l10, l11, l12, l13, l14, l15, l16, l17, l18, l19, l20, l21, l22, l24, l25, l32, l39, l40, l41, l48, l50, l56, l57, l59, l60, l72, l79, l80, l81, l82, l88, l89, l97, l100, l122, l124, l125, l160, l255, l312, l320, l375, l1000, nI_ltI, nI_leI, nI_eq, nI_add, pk_mul, e_ix, e_neg, if_true, if_false, if_pos, if_neg, pk_mul, o.w0 hi, o.w1 hi, o.w2 hi, s1.1, s2.1, hL _ s1.2]
    rw [← l1, hrs_bit g s2.2]
    by_cases h0 : hbN T (S (T 11 k)) (S (T 12 k)) h = T 13 k
    · rw [if_pos (by rw [h0]), f_Mod_brokenBy_J69, f_Mod_flag, if_pos (by rfl), e_bnd, e_nmI, nI_1]
      rw [if_neg (by simp [bkP, h0])] at ih2
      have e0 : ∀ i, i < 12 → jshl 0 (nI i) = 0 := by decide +kernel
      rw [e0 k (by omega), b_or0]
      exact ih2
    · rw [if_neg (by rw [nI_eq (by omega) (by omega)]; exact h0), f_Mod_brokenBy_J69, f_Mod_flag, if_neg (by decide), e_bnd, e_nmI, nI_1]
      rw [if_pos (by simp [bkP, h0])] at ih2
      exact ih2
theorem m_brokenBy (o : OnM T M) (g : Good T) {h : Nat} {S : Nat → Nat} (hL : ∀ b, b < T 4 0 → M 115 b = hrs T b h) (hS : ∀ p, p < T 1 5 → M 116 p = nI (S p) ∧ S p < T 4 0) : f_Mod_brokenBy M = some (orN (bkP T S h) (T 10 0)) := by
  have h9 := g.nw
  exact m_brokenByL o g hL hS (T 10 0) 1000 0 (by omega) (by omega)
theorem m_broken (o : OnM T M) (g : Good T) {h : Nat} (hh : h < 12) : ∃ M', f_Mod_brokenIn (nI h) M = some (brk T h, M') ∧ Frb M M' := by
  have h9 := g.n
  obtain ⟨M1, a1, a2, a3⟩ := m_find o g hh
  have o1 := o.fr a2.m
  obtain ⟨M2, b1, b2, b3⟩ := m_sitL 6 1000 0 M1 o1 rfl (by decide) (fun p hp => by omega)
  have f2 : Frb M1 M2 := fun a k q r => by rw [b2 a (by omega)]
  refine ⟨M2, ?_, a2.tr f2⟩
  unfold f_Mod_brokenIn
  rw [a1, e_bnd]
  show bnd (f_Mod_sitsAsNow_L2 1000 (nI 0) M1) _ = _
  rw [b1, e_bnd, m_brokenBy (h := h) (S := fun p => T 3 p) (o1.fr f2.m) g (fun b hb => by rw [b2 115 (by decide)]; exact a3 b hb) (fun p hp => ⟨b3 p (by omega), g.p hp⟩), e_bnd]
  rfl
end HB
end
section
/-! pure: the invariant of both -/
def tset (T : Tn) (a k v : Nat) : Tn := fun a' k' => if a' = a ∧ k' = k then v else T a' k'
theorem ts_eq {T : Tn} {a k v : Nat} : tset T a k v a k = v := if_pos ⟨rfl, rfl⟩
theorem ts_ne {T : Tn} {a k v a' k' : Nat} (h : a' ≠ a) : tset T a k v a' k' = T a' k' := if_neg (fun q => h q.1)
theorem ts_nk {T : Tn} {a k v a' k' : Nat} (h : k' ≠ k) : tset T a k v a' k' = T a' k' := if_neg (fun q => h q.2)
/-- what an image holds -/
def chg (a k : Nat) : Bool := a == 2 || a == 3 || (a == 14 || a == 15 || a == 16 || a == 17) || (a == 1 && k == 4)
def mix (T I : Tn) : Tn := fun a k => if chg a k = true then I a k else T a k
def Img (t o : Nat) (T I : Tn) (M : Mem) : Prop :=
  Good (mix T I) ∧ ((∀ c, c < 81 → M (t + 1) c = nI (I 2 c)) ∧ M t 4 = nI (I 1 4) ∧ (∀ p, p < 6 → M (t + 2) p = nI (I 3 p)) ∧ M (t + 13) 0 = nI (I 14 0) ∧ (∀ i, i < I 14 0 → M (t + 14) i = nI (I 15 i) ∧ M (t + 15) i = nI (I 16 i) ∧ M (t + 16) i = nI (I 17 i))) ∧
  ((∀ c, c < 81 → M 104 (o + c) = nI (I 2 c)) ∧ M 104 (o + 81) = nI (I 1 4) ∧ (∀ p, p < 6 → M 104 (o + (82 + p)) = nI (I 3 p)) ∧ M 104 (o + 88) = nI (I 14 0) ∧ (∀ i, i < I 14 0 → M 104 (o + (89 + 3 * i)) = nI (I 15 i) ∧ M 104 (o + (89 + 3 * i + 1)) = nI (I 16 i) ∧ M 104 (o + (89 + 3 * i + 2)) = nI (I 17 i)))
def InvI (T : Tn) (M : Mem) : Prop := ∃ k0 k1 : Nat, k0 ≤ 1 ∧ k1 ≤ 1 ∧ M 0 3 = nI (k0 + 2 * k1) ∧ M 105 0 = nI k0 ∧ M 105 1 = nI k1 ∧ (k0 = 1 → ∃ I, Img 18 125 T I M) ∧ (k1 = 1 → ∃ I, Img 35 250 T I M)
def She1 (M : Mem) (k : Nat) : Prop := (M 101 k = -1 ∧ M 119 k = -4) ∨ ∃ l n : Nat, l ≤ 2 ∧ n ≤ 40 ∧ M 101 k = nI l ∧ M 119 k = nI l ∧ M 102 k = nI n ∧ M 120 k = nI n ∧ ∀ i, i < 40 → M (97 + k) i = M 121 (40 * k + i)
def InvS (M : Mem) : Prop := (∀ k, k < 4 → She1 M k) ∧ M 0 9 = M 103 43
def InvT (M : Mem) : Prop := ∃ L : Nat, L ≤ 320 ∧ M 70 0 = nI L ∧ M 103 22 = nI L ∧ ∀ j, j < L → ∃ b : Nat, b < 256 ∧ M 112 j = nI b ∧ M 71 j = (nI b).toInt8.toInt32
def InvF (M : Mem) : Prop := M 70 4 = M 103 27
def InvA (T : Tn) (M : Mem) : Prop := On T M ∧ OnM T M ∧ Good T
def Inv (M : Mem) : Prop := ∃ T : Tn, InvA T M ∧ InvI T M ∧ InvS M ∧ InvT M ∧ InvF M
/-- what the images, sheets, tape, faults rest on is the same in both -/
def Kp (M M' : Mem) : Prop := ((∀ k, k ≠ 3 → k ≠ 9 → True) ∧ M' 0 3 = M 0 3 ∧ M' 0 9 = M 0 9) ∧ (∀ a, 18 ≤ a → a ≤ 51 → M' a = M a) ∧ (∀ a, 97 ≤ a → a ≤ 102 → M' a = M a) ∧ (M' 70 0 = M 70 0 ∧ M' 70 4 = M 70 4 ∧ M' 71 = M 71) ∧ (M' 103 22 = M 103 22 ∧ M' 103 27 = M 103 27 ∧ M' 103 43 = M 103 43) ∧ (∀ k, 125 ≤ k → M' 104 k = M 104 k) ∧ M' 105 = M 105 ∧ M' 112 = M 112 ∧ (∀ a, 119 ≤ a → a ≤ 121 → M' a = M a)
theorem Kp.rf {M : Mem} : Kp M M := ⟨⟨fun _ _ _ => trivial, rfl, rfl⟩, fun _ _ _ => rfl, fun _ _ _ => rfl, ⟨rfl, rfl, rfl⟩, ⟨rfl, rfl, rfl⟩, fun _ _ => rfl, rfl, rfl, fun _ _ _ => rfl⟩
theorem Kp.tr {M M' M2 : Mem} (h : Kp M M') (g : Kp M' M2) : Kp M M2 := by
  obtain ⟨⟨-, h1, h2⟩, h3, h4, ⟨h5, h6, h7⟩, ⟨h8, h9, h10⟩, h11, h12, h13, h14⟩ := h
  obtain ⟨⟨-, g1, g2⟩, g3, g4, ⟨g5, g6, g7⟩, ⟨g8, g9, g10⟩, g11, g12, g13, g14⟩ := g
  exact ⟨⟨fun _ _ _ => trivial, g1.trans h1, g2.trans h2⟩, fun a x y => (g3 a x y).trans (h3 a x y), fun a x y => (g4 a x y).trans (h4 a x y), ⟨g5.trans h5, g6.trans h6, g7.trans h7⟩, ⟨g8.trans h8, g9.trans h9, g10.trans h10⟩, fun k x => (g11 k x).trans (h11 k x), g12.trans h12, g13.trans h13, fun a x y => (g14 a x y).trans (h14 a x y)⟩
theorem Fr.kp {lo hi : Nat} {M M' : Mem} (f : Fr lo hi M M') (h1 : 72 ≤ lo) (h2 : hi ≤ 94) : Kp M M' := by
  have e : ∀ a, a < 72 ∨ 94 < a → M' a = M a := fun a h => f a (by omega)
  refine ⟨⟨fun _ _ _ => trivial, by rw [e 0 (by decide)], by rw [e 0 (by decide)]⟩, fun a x y => e a (by omega), fun a x y => e a (by omega), ⟨?_, ?_, e 71 (by decide)⟩, ⟨?_, ?_, ?_⟩, fun k _ => ?_, e 105 (by decide), e 112 (by decide), fun a x y => e a (by omega)⟩
  · rw [e 70 (by decide)]
  · rw [e 70 (by decide)]
  · rw [e 103 (by decide)]
  · rw [e 103 (by decide)]
  · rw [e 103 (by decide)]
  · rw [e 104 (by decide)]
theorem Frm.kp {M M' : Mem} (f : Frm M M') : Kp M M' := by
  have e : ∀ a, (a < 113 ∨ 118 < a) → a ≠ 103 → M' a = M a := fun a h q => funext fun k => f a k h (fun e => absurd e q)
  refine ⟨⟨fun _ _ _ => trivial, by rw [e 0 (by decide) (by decide)], by rw [e 0 (by decide) (by decide)]⟩, fun a x y => e a (by omega) (by omega), fun a x y => e a (by omega) (by omega), ⟨?_, ?_, e 71 (by decide) (by decide)⟩, ⟨f 103 22 (by decide) (fun _ => by decide), f 103 27 (by decide) (fun _ => by decide), f 103 43 (by decide) (fun _ => by decide)⟩, fun k _ => ?_, e 105 (by decide) (by decide), e 112 (by decide) (by decide), fun a x y => e a (by omega) (by omega)⟩
  · rw [e 70 (by decide) (by decide)]
  · rw [e 70 (by decide) (by decide)]
  · rw [e 104 (by decide) (by decide)]
/-- a cell of what is told, in both, is set -/
theorem Kp.set {M M' : Mem} {a k : Nat} {x : Int32} (h : Kp M M') (h1 : (1 ≤ a ∧ a ≤ 17) ∨ (a = 104 ∧ k < 125) ∨ (72 ≤ a ∧ a ≤ 94) ∨ (113 ≤ a ∧ a ≤ 118)) : Kp M (upd2 M' a k x) := by
  refine h.tr ⟨⟨fun _ _ _ => trivial, ?_, ?_⟩, fun b x y => u_ne (by omega), fun b x y => u_ne (by omega), ⟨?_, ?_, u_ne (by omega)⟩, ⟨?_, ?_, ?_⟩, fun j hj => ?_, u_ne (by omega), u_ne (by omega), fun b x y => u_ne (by omega)⟩
  · rw [u_ne (by omega)]
  · rw [u_ne (by omega)]
  · rw [u_ne (by omega)]
  · rw [u_ne (by omega)]
  · rw [u_ne (by omega)]
  · rw [u_ne (by omega)]
  · rw [u_ne (by omega)]
  · by_cases e : a = 104
    · subst e; rw [u_nk (by omega)]
    · rw [u_ne (fun q => e q.symm)]
theorem Img.kp {t o : Nat} {T I : Tn} {M M' : Mem} (h : Img t o T I M) (ht : t = 18 ∨ t = 35) (ho : 125 ≤ o) (k : Kp M M') : Img t o T I M' := by
  obtain ⟨-, h3, -, -, -, h11, -, -, -⟩ := k
  obtain ⟨g, ⟨a1, a2, a3, a4, a5⟩, ⟨b1, b2, b3, b4, b5⟩⟩ := h
  refine ⟨g, ⟨fun c hc => ?_, ?_, fun p hp => ?_, ?_, fun i hi => ⟨?_, ?_, ?_⟩⟩, ⟨fun c hc => ?_, ?_, fun p hp => ?_, ?_, fun i hi => ⟨?_, ?_, ?_⟩⟩⟩
  · rw [h3 _ (by omega) (by omega)]; exact a1 c hc
  · rw [h3 _ (by omega) (by omega)]; exact a2
  · rw [h3 _ (by omega) (by omega)]; exact a3 p hp
  · rw [h3 _ (by omega) (by omega)]; exact a4
  · rw [h3 _ (by omega) (by omega)]; exact (a5 i hi).1
  · rw [h3 _ (by omega) (by omega)]; exact (a5 i hi).2.1
  · rw [h3 _ (by omega) (by omega)]; exact (a5 i hi).2.2
  · rw [h11 _ (by omega)]; exact b1 c hc
  · rw [h11 _ (by omega)]; exact b2
  · rw [h11 _ (by omega)]; exact b3 p hp
  · rw [h11 _ (by omega)]; exact b4
  · rw [h11 _ (by omega)]; exact (b5 i hi).1
  · rw [h11 _ (by omega)]; exact (b5 i hi).2.1
  · rw [h11 _ (by omega)]; exact (b5 i hi).2.2
theorem mix_cg {T T' I : Tn} (h : ∀ a k, chg a k = false → T' a k = T a k) : mix T' I = mix T I := by
  funext a k
  unfold mix
  by_cases e : chg a k = true
  · rw [if_pos e, if_pos e]
  · rw [if_neg e, if_neg e]
    exact h a k (Bool.eq_false_iff.mpr e)
theorem InvI.kp {T T' : Tn} {M M' : Mem} (h : InvI T M) (k : Kp M M') (hT : ∀ a k, chg a k = false → T' a k = T a k) : InvI T' M' := by
  obtain ⟨k0, k1, c1, c2, c3, c4, c5, c6, c7⟩ := h
  have k' := k
  obtain ⟨⟨-, h1, h2⟩, h3, h4, -, -, h11, h12, -, -⟩ := k'
  refine ⟨k0, k1, c1, c2, by rw [h1]; exact c3, by rw [h12]; exact c4, by rw [h12]; exact c5, fun e => ?_, fun e => ?_⟩
  · obtain ⟨I, hI⟩ := c6 e
    have := hI.kp (Or.inl rfl) (by decide) k
    refine ⟨I, ?_, this.2⟩
    rw [mix_cg hT]
    exact this.1
  · obtain ⟨I, hI⟩ := c7 e
    have := hI.kp (Or.inr rfl) (by decide) k
    refine ⟨I, ?_, this.2⟩
    rw [mix_cg hT]
    exact this.1
theorem InvS.kp {M M' : Mem} (h : InvS M) (k : Kp M M') : InvS M' := by
  obtain ⟨⟨-, h1, h2⟩, h3, h4, -, ⟨h8, h9, h10⟩, -, -, -, h14⟩ := k
  refine ⟨fun j hj => ?_, by rw [h2, h10]; exact h.2⟩
  have e1 := h4 101 (by decide) (by decide)
  have e2 := h4 102 (by decide) (by decide)
  have e3 := h14 119 (by decide) (by decide)
  have e4 := h14 120 (by decide) (by decide)
  have e5 := h14 121 (by decide) (by decide)
  have e6 := h4 (97 + j) (by omega) (by omega)
  unfold She1
  rw [e1, e2, e3, e4, e5, e6]
  exact h.1 j hj
theorem InvT.kp {M M' : Mem} (h : InvT M) (k : Kp M M') : InvT M' := by
  obtain ⟨-, -, -, ⟨h5, h6, h7⟩, ⟨h8, h9, h10⟩, -, -, h13, -⟩ := k
  unfold InvT
  rw [h5, h7, h8, h13]
  exact h
theorem InvF.kp {M M' : Mem} (h : InvF M) (k : Kp M M') : InvF M' := by
  obtain ⟨-, -, -, ⟨h5, h6, h7⟩, ⟨h8, h9, h10⟩, -, -, h13, -⟩ := k
  unfold InvF
  rw [h6, h9]
  exact h
theorem Inv.to {T T' : Tn} {M M' : Mem} (hI : InvI T M) (hS : InvS M) (hT : InvT M) (hF : InvF M) (k : Kp M M') (ht : ∀ a k, chg a k = false → T' a k = T a k) (hA : InvA T' M') : Inv M' := ⟨T', hA, hI.kp k ht, hS.kp k, hT.kp k, hF.kp k⟩
theorem OnM.frc {T : Tn} {M M' : Mem} (h : OnM T M) {lo hi : Nat} (f : Fr lo hi M M') (h2 : hi ≤ 102) : OnM T M' := by
  have e : ∀ a, 102 < a → M' a = M a := fun a q => f a (by omega)
  unfold OnM
  rw [e 103 (by decide), e 104 (by decide), e 106 (by decide), e 107 (by decide)]
  exact h
theorem On.frm {T : Tn} {M M' : Mem} (h : On T M) (f : Frm M M') : On T M' := by
  have e : ∀ a, a < 103 → M' a = M a := fun a q => funext fun k => f a k (by omega) (fun e => by omega)
  unfold On
  rw [e 1 (by decide), e 2 (by decide), e 3 (by decide), e 4 (by decide), e 10 (by decide), e 14 (by decide)]
  refine ⟨h.1, h.2.1, h.2.2.1, h.2.2.2.1, fun a h1 h2 => ?_, h.2.2.2.2.2.1, fun a h1 h2 => ?_, h.2.2.2.2.2.2.2.1, fun a h1 h2 => ?_⟩
  · rw [e a (by omega)]; exact h.2.2.2.2.1 a h1 h2
  · rw [e a (by omega)]; exact h.2.2.2.2.2.2.1 a h1 h2
  · rw [e a (by omega)]; exact h.2.2.2.2.2.2.2.2 a h1 h2
theorem InvA.frc {T : Tn} {M M' : Mem} (h : InvA T M) {lo hi : Nat} (f : Fr lo hi M M') (h1 : 18 ≤ lo) (h2 : hi ≤ 102) : InvA T M' := ⟨h.1.fr f h1, h.2.1.frc f h2, h.2.2⟩
theorem InvA.frm {T : Tn} {M M' : Mem} (h : InvA T M) (f : Frm M M') : InvA T M' := ⟨h.1.frm f, h.2.1.fr f, h.2.2⟩
/-! what arguments may be -/
theorem hb_ck {α : Type} {v : Int32} {a : Option α} (h : v = nI 0 ∨ v = nI 1) : ck (isB v) a = a := by
  rcases h with h | h <;> subst h
  · exact e_ckB0
  · exact e_ckB1
theorem wi (x : Int32) {m : Nat} (hm : m < 2147483648) : (∃ k, k ≤ m ∧ x = nI k ∧ f_Hal_within x (nI 0) (nI m) = some (nI 1) ∧ f_Mod_in x.toInt64 0 (nI m).toInt64 = some (nI 1)) ∨ (f_Hal_within x (nI 0) (nI m) = some (nI 0) ∧ f_Mod_in x.toInt64 0 (nI m).toInt64 = some (nI 0) ∧ ¬ (0 ≤ x ∧ x ≤ nI m)) := by
  have e : f_Mod_in x.toInt64 0 (nI m).toInt64 = some (if 0 ≤ x ∧ x ≤ nI m then nI 1 else nI 0) := m_in0 x rfl rfl
  have e2 : f_Hal_within x (nI 0) (nI m) = some (if 0 ≤ x ∧ x ≤ nI m then nI 1 else nI 0) := w_in x 0 (nI m)
  by_cases h : 0 ≤ x ∧ x ≤ nI m
  · obtain ⟨k, hk, hx⟩ := nI_rng hm h.1 h.2
    exact Or.inl ⟨k, hk, hx, by rw [e2, if_pos h], by rw [e, if_pos h]⟩
  · exact Or.inr ⟨by rw [e2, if_neg h], by rw [e, if_neg h], h⟩
/-- below a count -/
theorem wi1 (x : Int32) {m : Nat} (hm : m < 2147483648) : (∃ k, k < m ∧ x = nI k ∧ f_Hal_within x (nI 0) (nI m - nI 1) = some (nI 1) ∧ f_Mod_in x.toInt64 0 (nI m - nI 1).toInt64 = some (nI 1)) ∨ (f_Hal_within x (nI 0) (nI m - nI 1) = some (nI 0) ∧ f_Mod_in x.toInt64 0 (nI m - nI 1).toInt64 = some (nI 0)) := by
  have e : f_Mod_in x.toInt64 0 (nI m - nI 1).toInt64 = some (if 0 ≤ x ∧ x ≤ nI m - 1 then nI 1 else nI 0) := m_in0 x rfl rfl
  have e2 : f_Hal_within x (nI 0) (nI m - nI 1) = some (if 0 ≤ x ∧ x ≤ nI m - 1 then nI 1 else nI 0) := w_in x 0 (nI m - 1)
  by_cases h : 0 ≤ x ∧ x ≤ nI m - 1
  · obtain ⟨k, hk, hx⟩ := nI_rng1 hm h.1 h.2
    exact Or.inl ⟨k, hk, hx, by rw [e2, if_pos h], by rw [e, if_pos h]⟩
  · exact Or.inr ⟨by rw [e2, if_neg h], by rw [e, if_neg h]⟩
theorem a_hour (x : Int32) : (∃ k, k < 12 ∧ x = nI k ∧ f_Hal_isHour x = some (nI 1) ∧ f_Mod_isHour x = some (nI 1)) ∨ (f_Hal_isHour x = some (nI 0) ∧ f_Mod_isHour x = some (nI 0)) := by
  have e11 : f_Mod_in x.toInt64 0 11 = f_Mod_in x.toInt64 0 (nI 11).toInt64 := rfl
  rcases wi x (m := 11) (by decide) with ⟨k, hk, hx, h1, h2⟩ | ⟨h1, h2, -⟩
  · refine Or.inl ⟨k, by omega, hx, ?_, ?_⟩
    · simp (disch := omega) only [e_bnd, e_bnd2, e_set, e_cpy, e_nmI, e_nmL, e_ckn, e_ckB0, e_ckB1, l0, l1, l2, l3, l4, l5, l6, l7, l8, l9, l10, l11, l12, l13, l14, l15, l16, l17, l18, l19, l20, l21, l22, l24, l25, l32, l39, l40, l41, l48, l50, l56, l57, l59, l60, l72, l79, l80, l81, l82, l88, l89, l97, l100, l122, l124, l125, l160, l255, l312, l320, l375, l1000, nI_ltI, nI_leI, nI_eq, nI_add, pk_mul, e_ix, e_neg, if_true, if_false, if_pos, if_neg, f_Hal_isHour, h1]
    · simp (disch := omega) only [e_bnd, e_bnd2, e_set, e_cpy, e_nmI, e_nmL, e_ckn, e_ckB0, e_ckB1, l0, l1, l2, l3, l4, l5, l6, l7, l8, l9, l10, l11, l12, l13, l14, l15, l16, l17, l18, l19, l20, l21, l22, l24, l25, l32, l39, l40, l41, l48, l50, l56, l57, l59, l60, l72, l79, l80, l81, l82, l88, l89, l97, l100, l122, l124, l125, l160, l255, l312, l320, l375, l1000, nI_ltI, nI_leI, nI_eq, nI_add, pk_mul, e_ix, e_neg, if_true, if_false, if_pos, if_neg, f_Mod_isHour, e11, h2]
  · refine Or.inr ⟨?_, ?_⟩
    · simp (disch := omega) only [e_bnd, e_bnd2, e_set, e_cpy, e_nmI, e_nmL, e_ckn, e_ckB0, e_ckB1, l0, l1, l2, l3, l4, l5, l6, l7, l8, l9, l10, l11, l12, l13, l14, l15, l16, l17, l18, l19, l20, l21, l22, l24, l25, l32, l39, l40, l41, l48, l50, l56, l57, l59, l60, l72, l79, l80, l81, l82, l88, l89, l97, l100, l122, l124, l125, l160, l255, l312, l320, l375, l1000, nI_ltI, nI_leI, nI_eq, nI_add, pk_mul, e_ix, e_neg, if_true, if_false, if_pos, if_neg, f_Hal_isHour, h1]
    · simp (disch := omega) only [e_bnd, e_bnd2, e_set, e_cpy, e_nmI, e_nmL, e_ckn, e_ckB0, e_ckB1, l0, l1, l2, l3, l4, l5, l6, l7, l8, l9, l10, l11, l12, l13, l14, l15, l16, l17, l18, l19, l20, l21, l22, l24, l25, l32, l39, l40, l41, l48, l50, l56, l57, l59, l60, l72, l79, l80, l81, l82, l88, l89, l97, l100, l122, l124, l125, l160, l255, l312, l320, l375, l1000, nI_ltI, nI_leI, nI_eq, nI_add, pk_mul, e_ix, e_neg, if_true, if_false, if_pos, if_neg, f_Mod_isHour, e11, h2]
theorem a_secret (x : Int32) : (∃ k, k < 8 ∧ x = nI k ∧ f_Hal_isSecret x = some (nI 1) ∧ f_Mod_isSecret x = some (nI 1)) ∨ (f_Hal_isSecret x = some (nI 0) ∧ f_Mod_isSecret x = some (nI 0)) := by
  have e7 : f_Mod_in x.toInt64 0 7 = f_Mod_in x.toInt64 0 (nI 7).toInt64 := rfl
  rcases wi x (m := 7) (by decide) with ⟨k, hk, hx, h1, h2⟩ | ⟨h1, h2, -⟩
  · refine Or.inl ⟨k, by omega, hx, ?_, ?_⟩
    · simp (disch := omega) only [e_bnd, e_bnd2, e_set, e_cpy, e_nmI, e_nmL, e_ckn, e_ckB0, e_ckB1, l0, l1, l2, l3, l4, l5, l6, l7, l8, l9, l10, l11, l12, l13, l14, l15, l16, l17, l18, l19, l20, l21, l22, l24, l25, l32, l39, l40, l41, l48, l50, l56, l57, l59, l60, l72, l79, l80, l81, l82, l88, l89, l97, l100, l122, l124, l125, l160, l255, l312, l320, l375, l1000, nI_ltI, nI_leI, nI_eq, nI_add, pk_mul, e_ix, e_neg, if_true, if_false, if_pos, if_neg, f_Hal_isSecret, h1]
    · simp (disch := omega) only [e_bnd, e_bnd2, e_set, e_cpy, e_nmI, e_nmL, e_ckn, e_ckB0, e_ckB1, l0, l1, l2, l3, l4, l5, l6, l7, l8, l9, l10, l11, l12, l13, l14, l15, l16, l17, l18, l19, l20, l21, l22, l24, l25, l32, l39, l40, l41, l48, l50, l56, l57, l59, l60, l72, l79, l80, l81, l82, l88, l89, l97, l100, l122, l124, l125, l160, l255, l312, l320, l375, l1000, nI_ltI, nI_leI, nI_eq, nI_add, pk_mul, e_ix, e_neg, if_true, if_false, if_pos, if_neg, f_Mod_isSecret, e7, h2]
  · refine Or.inr ⟨?_, ?_⟩
    · simp (disch := omega) only [e_bnd, e_bnd2, e_set, e_cpy, e_nmI, e_nmL, e_ckn, e_ckB0, e_ckB1, l0, l1, l2, l3, l4, l5, l6, l7, l8, l9, l10, l11, l12, l13, l14, l15, l16, l17, l18, l19, l20, l21, l22, l24, l25, l32, l39, l40, l41, l48, l50, l56, l57, l59, l60, l72, l79, l80, l81, l82, l88, l89, l97, l100, l122, l124, l125, l160, l255, l312, l320, l375, l1000, nI_ltI, nI_leI, nI_eq, nI_add, pk_mul, e_ix, e_neg, if_true, if_false, if_pos, if_neg, f_Hal_isSecret, h1]
    · simp (disch := omega) only [e_bnd, e_bnd2, e_set, e_cpy, e_nmI, e_nmL, e_ckn, e_ckB0, e_ckB1, l0, l1, l2, l3, l4, l5, l6, l7, l8, l9, l10, l11, l12, l13, l14, l15, l16, l17, l18, l19, l20, l21, l22, l24, l25, l32, l39, l40, l41, l48, l50, l56, l57, l59, l60, l72, l79, l80, l81, l82, l88, l89, l97, l100, l122, l124, l125, l160, l255, l312, l320, l375, l1000, nI_ltI, nI_leI, nI_eq, nI_add, pk_mul, e_ix, e_neg, if_true, if_false, if_pos, if_neg, f_Mod_isSecret, e7, h2]
theorem a_bench {T : Tn} (g : Good T) (x : Int32) : (∃ b, b < T 4 0 ∧ x = nI b ∧ (∀ M, On T M → f_Hal_isBench M x = some (nI 1)) ∧ ∀ M, OnM T M → f_Mod_isBench M x = some (nI 1)) ∨ ((∀ M, On T M → f_Hal_isBench M x = some (nI 0)) ∧ ∀ M, OnM T M → f_Mod_isBench M x = some (nI 0)) := by
  have h9 := g.n
  rcases wi1 x (m := T 4 0) (by omega) with ⟨k, hk, hx, h1, h2⟩ | ⟨h1, h2⟩
  · refine Or.inl ⟨k, hk, hx, fun M o => ?_, fun M o => ?_⟩
    · simp (disch := omega) only [e_bnd, e_bnd2, e_set, e_cpy, e_nmI, e_nmL, e_ckn, e_ckB0, e_ckB1, l0, l1, l2, l3, l4, l5, l6, l7, l8, l9, l10, l11, l12, l13, l14, l15, l16, l17, l18, l19, l20, l21, l22, l24, l25, l32, l39, l40, l41, l48, l50, l56, l57, l59, l60, l72, l79, l80, l81, l82, l88, l89, l97, l100, l122, l124, l125, l160, l255, l312, l320, l375, l1000, nI_ltI, nI_leI, nI_eq, nI_add, pk_mul, e_ix, e_neg, if_true, if_false, if_pos, if_neg, f_Hal_isBench, o.nb, h1]
    · simp (disch := omega) only [e_bnd, e_bnd2, e_set, e_cpy, e_nmI, e_nmL, e_ckn, e_ckB0, e_ckB1, l0, l1, l2, l3, l4, l5, l6, l7, l8, l9, l10, l11, l12, l13, l14, l15, l16, l17, l18, l19, l20, l21, l22, l24, l25, l32, l39, l40, l41, l48, l50, l56, l57, l59, l60, l72, l79, l80, l81, l82, l88, l89, l97, l100, l122, l124, l125, l160, l255, l312, l320, l375, l1000, nI_ltI, nI_leI, nI_eq, nI_add, pk_mul, e_ix, e_neg, if_true, if_false, if_pos, if_neg, f_Mod_isBench, o.nb, h2]
  · refine Or.inr ⟨fun M o => ?_, fun M o => ?_⟩
    · simp (disch := omega) only [e_bnd, e_bnd2, e_set, e_cpy, e_nmI, e_nmL, e_ckn, e_ckB0, e_ckB1, l0, l1, l2, l3, l4, l5, l6, l7, l8, l9, l10, l11, l12, l13, l14, l15, l16, l17, l18, l19, l20, l21, l22, l24, l25, l32, l39, l40, l41, l48, l50, l56, l57, l59, l60, l72, l79, l80, l81, l82, l88, l89, l97, l100, l122, l124, l125, l160, l255, l312, l320, l375, l1000, nI_ltI, nI_leI, nI_eq, nI_add, pk_mul, e_ix, e_neg, if_true, if_false, if_pos, if_neg, f_Hal_isBench, o.nb, h1]
    · simp (disch := omega) only [e_bnd, e_bnd2, e_set, e_cpy, e_nmI, e_nmL, e_ckn, e_ckB0, e_ckB1, l0, l1, l2, l3, l4, l5, l6, l7, l8, l9, l10, l11, l12, l13, l14, l15, l16, l17, l18, l19, l20, l21, l22, l24, l25, l32, l39, l40, l41, l48, l50, l56, l57, l59, l60, l72, l79, l80, l81, l82, l88, l89, l97, l100, l122, l124, l125, l160, l255, l312, l320, l375, l1000, nI_ltI, nI_leI, nI_eq, nI_add, pk_mul, e_ix, e_neg, if_true, if_false, if_pos, if_neg, f_Mod_isBench, o.nb, h2]
theorem a_one {T : Tn} (g : Good T) (x : Int32) : (∃ b, b < T 1 5 ∧ x = nI b ∧ (∀ M, On T M → f_Hal_isOne M x = some (nI 1)) ∧ ∀ M, OnM T M → f_Mod_isOne M x = some (nI 1)) ∨ ((∀ M, On T M → f_Hal_isOne M x = some (nI 0)) ∧ ∀ M, OnM T M → f_Mod_isOne M x = some (nI 0)) := by
  have h9 := g.n
  rcases wi1 x (m := T 1 5) (by omega) with ⟨k, hk, hx, h1, h2⟩ | ⟨h1, h2⟩
  · refine Or.inl ⟨k, hk, hx, fun M o => ?_, fun M o => ?_⟩
    · simp (disch := omega) only [e_bnd, e_bnd2, e_set, e_cpy, e_nmI, e_nmL, e_ckn, e_ckB0, e_ckB1, l0, l1, l2, l3, l4, l5, l6, l7, l8, l9, l10, l11, l12, l13, l14, l15, l16, l17, l18, l19, l20, l21, l22, l24, l25, l32, l39, l40, l41, l48, l50, l56, l57, l59, l60, l72, l79, l80, l81, l82, l88, l89, l97, l100, l122, l124, l125, l160, l255, l312, l320, l375, l1000, nI_ltI, nI_leI, nI_eq, nI_add, pk_mul, e_ix, e_neg, if_true, if_false, if_pos, if_neg, f_Hal_isOne, o.s5, h1]
    · simp (disch := omega) only [e_bnd, e_bnd2, e_set, e_cpy, e_nmI, e_nmL, e_ckn, e_ckB0, e_ckB1, l0, l1, l2, l3, l4, l5, l6, l7, l8, l9, l10, l11, l12, l13, l14, l15, l16, l17, l18, l19, l20, l21, l22, l24, l25, l32, l39, l40, l41, l48, l50, l56, l57, l59, l60, l72, l79, l80, l81, l82, l88, l89, l97, l100, l122, l124, l125, l160, l255, l312, l320, l375, l1000, nI_ltI, nI_leI, nI_eq, nI_add, pk_mul, e_ix, e_neg, if_true, if_false, if_pos, if_neg, f_Mod_isOne, o.s5, h2]
  · refine Or.inr ⟨fun M o => ?_, fun M o => ?_⟩
    · simp (disch := omega) only [e_bnd, e_bnd2, e_set, e_cpy, e_nmI, e_nmL, e_ckn, e_ckB0, e_ckB1, l0, l1, l2, l3, l4, l5, l6, l7, l8, l9, l10, l11, l12, l13, l14, l15, l16, l17, l18, l19, l20, l21, l22, l24, l25, l32, l39, l40, l41, l48, l50, l56, l57, l59, l60, l72, l79, l80, l81, l82, l88, l89, l97, l100, l122, l124, l125, l160, l255, l312, l320, l375, l1000, nI_ltI, nI_leI, nI_eq, nI_add, pk_mul, e_ix, e_neg, if_true, if_false, if_pos, if_neg, f_Hal_isOne, o.s5, h1]
    · simp (disch := omega) only [e_bnd, e_bnd2, e_set, e_cpy, e_nmI, e_nmL, e_ckn, e_ckB0, e_ckB1, l0, l1, l2, l3, l4, l5, l6, l7, l8, l9, l10, l11, l12, l13, l14, l15, l16, l17, l18, l19, l20, l21, l22, l24, l25, l32, l39, l40, l41, l48, l50, l56, l57, l59, l60, l72, l79, l80, l81, l82, l88, l89, l97, l100, l122, l124, l125, l160, l255, l312, l320, l375, l1000, nI_ltI, nI_leI, nI_eq, nI_add, pk_mul, e_ix, e_neg, if_true, if_false, if_pos, if_neg, f_Mod_isOne, o.s5, h2]
theorem a_say {T : Tn} (g : Good T) (x : Int32) : (∃ b, b < T 14 0 ∧ x = nI b ∧ (∀ M, On T M → f_Hal_isWhisper M x = some (nI 1)) ∧ ∀ M, OnM T M → f_Mod_isSay M x = some (nI 1)) ∨ ((∀ M, On T M → f_Hal_isWhisper M x = some (nI 0)) ∧ ∀ M, OnM T M → f_Mod_isSay M x = some (nI 0)) := by
  have h9 := g.ns
  rcases wi1 x (m := T 14 0) (by omega) with ⟨k, hk, hx, h1, h2⟩ | ⟨h1, h2⟩
  · refine Or.inl ⟨k, hk, hx, fun M o => ?_, fun M o => ?_⟩
    · simp (disch := omega) only [e_bnd, e_bnd2, e_set, e_cpy, e_nmI, e_nmL, e_ckn, e_ckB0, e_ckB1, l0, l1, l2, l3, l4, l5, l6, l7, l8, l9, l10, l11, l12, l13, l14, l15, l16, l17, l18, l19, l20, l21, l22, l24, l25, l32, l39, l40, l41, l48, l50, l56, l57, l59, l60, l72, l79, l80, l81, l82, l88, l89, l97, l100, l122, l124, l125, l160, l255, l312, l320, l375, l1000, nI_ltI, nI_leI, nI_eq, nI_add, pk_mul, e_ix, e_neg, if_true, if_false, if_pos, if_neg, f_Hal_isWhisper, o.ns, h1]
    · simp (disch := omega) only [e_bnd, e_bnd2, e_set, e_cpy, e_nmI, e_nmL, e_ckn, e_ckB0, e_ckB1, l0, l1, l2, l3, l4, l5, l6, l7, l8, l9, l10, l11, l12, l13, l14, l15, l16, l17, l18, l19, l20, l21, l22, l24, l25, l32, l39, l40, l41, l48, l50, l56, l57, l59, l60, l72, l79, l80, l81, l82, l88, l89, l97, l100, l122, l124, l125, l160, l255, l312, l320, l375, l1000, nI_ltI, nI_leI, nI_eq, nI_add, pk_mul, e_ix, e_neg, if_true, if_false, if_pos, if_neg, f_Mod_isSay, o.ns, h2]
  · refine Or.inr ⟨fun M o => ?_, fun M o => ?_⟩
    · simp (disch := omega) only [e_bnd, e_bnd2, e_set, e_cpy, e_nmI, e_nmL, e_ckn, e_ckB0, e_ckB1, l0, l1, l2, l3, l4, l5, l6, l7, l8, l9, l10, l11, l12, l13, l14, l15, l16, l17, l18, l19, l20, l21, l22, l24, l25, l32, l39, l40, l41, l48, l50, l56, l57, l59, l60, l72, l79, l80, l81, l82, l88, l89, l97, l100, l122, l124, l125, l160, l255, l312, l320, l375, l1000, nI_ltI, nI_leI, nI_eq, nI_add, pk_mul, e_ix, e_neg, if_true, if_false, if_pos, if_neg, f_Hal_isWhisper, o.ns, h1]
    · simp (disch := omega) only [e_bnd, e_bnd2, e_set, e_cpy, e_nmI, e_nmL, e_ckn, e_ckB0, e_ckB1, l0, l1, l2, l3, l4, l5, l6, l7, l8, l9, l10, l11, l12, l13, l14, l15, l16, l17, l18, l19, l20, l21, l22, l24, l25, l32, l39, l40, l41, l48, l50, l56, l57, l59, l60, l72, l79, l80, l81, l82, l88, l89, l97, l100, l122, l124, l125, l160, l255, l312, l320, l375, l1000, nI_ltI, nI_leI, nI_eq, nI_add, pk_mul, e_ix, e_neg, if_true, if_false, if_pos, if_neg, f_Mod_isSay, o.ns, h2]
theorem a_cell {T : Tn} (g : Good T) (x : Int32) : (∃ c, isC T c ∧ x = nI c ∧ (∀ M, On T M → f_Tol_isCell 1 M x = some (nI 1)) ∧ ∀ M, OnM T M → f_Mod_isCell M x = some (nI 1)) ∨ ((∀ M, On T M → f_Tol_isCell 1 M x = some (nI 0)) ∧ ∀ M, OnM T M → f_Mod_isCell M x = some (nI 0)) := by
  have e80 : f_Mod_in x.toInt64 0 80 = f_Mod_in x.toInt64 0 (nI 80).toInt64 := rfl
  rcases wi x (m := 80) (by decide) with ⟨k, hk, rfl, h1, h2⟩ | ⟨h1, h2, h3⟩
  · by_cases hc : k % 9 < T 1 0 ∧ k / 9 < T 1 1
    · refine Or.inl ⟨k, ⟨by omega, hc⟩, rfl, fun M o => ?_, fun M o => ?_⟩
      · rw [c_isCell o g (by omega), if_pos hc]
      · rw [m_isCell o g (by omega), if_pos hc]
    · refine Or.inr ⟨fun M o => ?_, fun M o => ?_⟩
      · rw [c_isCell o g (by omega), if_neg hc]
      · rw [m_isCell o g (by omega), if_neg hc]
  · refine Or.inr ⟨fun M o => ?_, fun M o => ?_⟩
    · unfold f_Tol_isCell
      by_cases q : x < 0
      · rw [if_pos q]; rfl
      · rw [if_neg q, if_pos]
        · rfl
        · have h4 : ¬ x ≤ nI 80 := fun e => h3 ⟨Int32.not_lt.mp q, e⟩
          obtain ⟨e1, e2⟩ := nI_self (Int32.not_lt.mp q)
          rw [e1, nI_leI (by omega) (by omega)] at h4
          rw [e1, l81, nI_leI (by omega) (by omega)]
          omega
    · simp (disch := omega) only [e_bnd, e_bnd2, e_set, e_cpy, e_nmI, e_nmL, e_ckn, e_ckB0, e_ckB1, l0, l1, l2, l3, l4, l5, l6, l7, l8, l9, l10, l11, l12, l13, l14, l15, l16, l17, l18, l19, l20, l21, l22, l24, l25, l32, l39, l40, l41, l48, l50, l56, l57, l59, l60, l72, l79, l80, l81, l82, l88, l89, l97, l100, l122, l124, l125, l160, l255, l312, l320, l375, l1000, nI_ltI, nI_leI, nI_eq, nI_add, pk_mul, e_ix, e_neg, if_true, if_false, if_pos, if_neg, f_Mod_isCell, e80, h2]
end
section
/-! pure: calls that ask, one by one -/
def Sim (f m : Mem → Option (Int32 × Mem)) : Prop := ∀ M, Inv M → ∃ v M1 M2, f M = some (v, M1) ∧ m M1 = some (v, M2) ∧ Inv M2
def SimR (f m : Mem → Option Int32) : Prop := ∀ M, Inv M → ∃ v, f M = some v ∧ m M = some v
theorem ix_81 : Int32.toNatClampNeg 81 = 81 := rfl
theorem ix_88 : Int32.toNatClampNeg 88 = 88 := rfl
theorem ix_0 : Int32.toNatClampNeg 0 = 0 := rfl
theorem ix_1 : Int32.toNatClampNeg 1 = 1 := rfl
theorem s_fault : SimR f_Hal_fault f_Mod_fault := fun M ⟨T, hA, hI, hS, hT, hF⟩ => ⟨M 70 4, rfl, by unfold f_Mod_fault; rw [← hF]⟩
theorem s_torn : SimR f_Hal_torn f_Mod_torn := fun M ⟨T, hA, hI, hS, hT, hF⟩ => ⟨M 0 9, rfl, by unfold f_Mod_torn; rw [← hS.2]⟩
theorem s_rule (x : Int32) : SimR (fun M => f_Hal_rule M x) (fun M => f_Mod_rule M x) := by
  intro M ⟨T, ⟨o, om, g⟩, hI, hS, hT, hF⟩
  dsimp only
  unfold f_Hal_rule f_Mod_rule
  rw [o.s0, o.s1, o.s2, o.s3, o.s4, om.s0, om.s1, om.s2, om.s3, show M 104 (ix 81) = nI (T 1 4) from om.s4]
  repeat' split
  all_goals exact ⟨_, rfl, rfl⟩
theorem s_cell (x : Int32) : SimR (fun M => f_Hal_cell M x) (fun M => f_Mod_cell M x) := by
  intro M ⟨T, ⟨o, om, g⟩, hI, hS, hT, hF⟩
  dsimp only
  rcases a_cell g x with ⟨c, hc, rfl, e1, e2⟩ | ⟨e1, e2⟩
  · have hc1 := hc.1
    refine ⟨nI (T 2 c), ?_, ?_⟩
    · simp (disch := omega) only [e_bnd, e_bnd2, e_set, e_cpy, e_nmI, e_nmL, e_ckn, e_ckB0, e_ckB1, l0, l1, l2, l3, l4, l5, l6, l7, l8, l9, l10, l11, l12, l13, l14, l15, l16, l17, l18, l19, l20, l21, l22, l24, l25, l32, l39, l40, l41, l48, l50, l56, l57, l59, l60, l72, l79, l80, l81, l82, l88, l89, l97, l100, l122, l124, l125, l160, l255, l312, l320, l375, l1000, nI_ltI, nI_leI, nI_eq, nI_add, pk_mul, e_ix, e_neg, if_true, if_false, if_pos, if_neg, f_Hal_cell, e1 M o, c_state o hc1]
    · simp (disch := omega) only [e_bnd, e_bnd2, e_set, e_cpy, e_nmI, e_nmL, e_ckn, e_ckB0, e_ckB1, l0, l1, l2, l3, l4, l5, l6, l7, l8, l9, l10, l11, l12, l13, l14, l15, l16, l17, l18, l19, l20, l21, l22, l24, l25, l32, l39, l40, l41, l48, l50, l56, l57, l59, l60, l72, l79, l80, l81, l82, l88, l89, l97, l100, l122, l124, l125, l160, l255, l312, l320, l375, l1000, nI_ltI, nI_leI, nI_eq, nI_add, pk_mul, e_ix, e_neg, if_true, if_false, if_pos, if_neg, f_Mod_cell, e2 M om, om.c hc1]
  · refine ⟨-1, ?_, ?_⟩
    · simp (disch := omega) only [e_bnd, e_bnd2, e_set, e_cpy, e_nmI, e_nmL, e_ckn, e_ckB0, e_ckB1, l0, l1, l2, l3, l4, l5, l6, l7, l8, l9, l10, l11, l12, l13, l14, l15, l16, l17, l18, l19, l20, l21, l22, l24, l25, l32, l39, l40, l41, l48, l50, l56, l57, l59, l60, l72, l79, l80, l81, l82, l88, l89, l97, l100, l122, l124, l125, l160, l255, l312, l320, l375, l1000, nI_ltI, nI_leI, nI_eq, nI_add, pk_mul, e_ix, e_neg, if_true, if_false, if_pos, if_neg, f_Hal_cell, e1 M o]
    · simp (disch := omega) only [e_bnd, e_bnd2, e_set, e_cpy, e_nmI, e_nmL, e_ckn, e_ckB0, e_ckB1, l0, l1, l2, l3, l4, l5, l6, l7, l8, l9, l10, l11, l12, l13, l14, l15, l16, l17, l18, l19, l20, l21, l22, l24, l25, l32, l39, l40, l41, l48, l50, l56, l57, l59, l60, l72, l79, l80, l81, l82, l88, l89, l97, l100, l122, l124, l125, l160, l255, l312, l320, l375, l1000, nI_ltI, nI_leI, nI_eq, nI_add, pk_mul, e_ix, e_neg, if_true, if_false, if_pos, if_neg, f_Mod_cell, e2 M om]
/-- who sits there -/
theorem sitL (T : Tn) (M : Mem) (o : On T M) (g : Good T) {b : Nat} (hb : b < T 4 0) : ∀ (m n k : Nat), k + m = T 1 5 → m < n → (∀ p, p < k → T 3 p ≠ b) → (∃ p, p < T 1 5 ∧ T 3 p = b ∧ f_Tol_sitterOn_L2 1 M n (nI b) (nI k) = some (nI p)) ∨ ((∀ p, p < T 1 5 → T 3 p ≠ b) ∧ f_Tol_sitterOn_L2 1 M n (nI b) (nI k) = some (-4)) := by
  have h9 := g.n
  intro m
  induction m with
  | zero =>
    intro n k hk hn hf
    obtain ⟨n, rfl⟩ : ∃ z, n = z + 1 := ⟨n - 1, by omega⟩
    refine Or.inr ⟨fun p hp => hf p (by omega), ?_⟩
    rw [f_Tol_sitterOn_L2]
    simp (disch := omega) only [e_bnd, e_bnd2, e_set, e_cpy, e_nmI, e_nmL, e_ckn, e_ckB0, e_ckB1, l0, l1, l2, l3, l4, l5, l6, l7, l8, l9, l10, l11, l12, l13, l14, l15, l16, l17, l18, l19, l20, l21, l22, l24, l25, l32, l39, l40, l41, l48, l50, l56, l57, l59, l60, l72, l79, l80, l81, l82, l88, l89, l97, l100, l122, l124, l125, l160, l255, l312, l320, l375, l1000, nI_ltI, nI_leI, nI_eq, nI_add, pk_mul, e_ix, e_neg, if_true, if_false, if_pos, if_neg, o.s5]
  | succ m ih =>
    intro n k hk hn hf
    obtain ⟨n, rfl⟩ : ∃ z, n = z + 1 := ⟨n - 1, by omega⟩
    have hp := g.p (show k < T 1 5 by omega)
    rw [f_Tol_sitterOn_L2]
    by_cases e : T 3 k = b
    · refine Or.inl ⟨k, by omega, e, ?_⟩
      simp (disch := omega) only [e_bnd, e_bnd2, e_set, e_cpy, e_nmI, e_nmL, e_ckn, e_ckB0, e_ckB1, l0, l1, l2, l3, l4, l5, l6, l7, l8, l9, l10, l11, l12, l13, l14, l15, l16, l17, l18, l19, l20, l21, l22, l24, l25, l32, l39, l40, l41, l48, l50, l56, l57, l59, l60, l72, l79, l80, l81, l82, l88, l89, l97, l100, l122, l124, l125, l160, l255, l312, l320, l375, l1000, nI_ltI, nI_leI, nI_eq, nI_add, pk_mul, e_ix, e_neg, if_true, if_false, if_pos, if_neg, o.s5, c_seat o g (show k < T 1 5 by omega)]
    · simp (disch := omega) only [e_bnd, e_bnd2, e_set, e_cpy, e_nmI, e_nmL, e_ckn, e_ckB0, e_ckB1, l0, l1, l2, l3, l4, l5, l6, l7, l8, l9, l10, l11, l12, l13, l14, l15, l16, l17, l18, l19, l20, l21, l22, l24, l25, l32, l39, l40, l41, l48, l50, l56, l57, l59, l60, l72, l79, l80, l81, l82, l88, l89, l97, l100, l122, l124, l125, l160, l255, l312, l320, l375, l1000, nI_ltI, nI_leI, nI_eq, nI_add, pk_mul, e_ix, e_neg, if_true, if_false, if_pos, if_neg, o.s5, c_seat o g (show k < T 1 5 by omega)]
      exact ih n (k + 1) (by omega) (by omega) (fun p hp => by
        by_cases q : p = k
        · subst q; exact e
        · exact hf p (by omega))
theorem c_sitter (T : Tn) (M : Mem) (o : On T M) (g : Good T) {b : Nat} (hb : b < T 4 0) : (∃ p, p < T 1 5 ∧ T 3 p = b ∧ f_Tol_sitterOn 1 M (nI b) = some (nI p)) ∨ ((∀ p, p < T 1 5 → T 3 p ≠ b) ∧ f_Tol_sitterOn 1 M (nI b) = some (-4)) := by
  have h9 := g.n
  exact sitL T M o g hb (T 1 5) 1000 0 (by omega) (by omega) (fun p hp => by omega)
theorem whoL (T : Tn) (M : Mem) (o : OnM T M) (g : Good T) {b : Nat} (hb : b < T 4 0) {w : Int32} (hw : (∃ p, p < T 1 5 ∧ T 3 p = b ∧ w = nI p) ∨ ((∀ p, p < T 1 5 → T 3 p ≠ b) ∧ w = -4)) : ∀ (m n k : Nat) (x : Int32), k + m = T 1 5 → m < n → (∀ p, p < T 1 5 → T 3 p = b → p < k → x = nI p) → ((∀ p, p < T 1 5 → T 3 p = b → k ≤ p) → x = -4) → f_Mod_whoOn_L5 M n (nI b) x (nI k) = some w := by
  have h9 := g.n
  intro m
  induction m with
  | zero =>
    intro n k x hk hn h1 h2
    obtain ⟨n, rfl⟩ : ∃ z, n = z + 1 := ⟨n - 1, by omega⟩
    rw [f_Mod_whoOn_L5, o.s5, if_pos (by rw [nI_leI (by omega) (by omega)]; omega)]
    rcases hw with ⟨p, hp, e, rfl⟩ | ⟨h, rfl⟩
    · rw [h1 p hp e (by omega)]
    · rw [h2 (fun p hp e => absurd e (h p hp))]
  | succ m ih =>
    intro n k x hk hn h1 h2
    obtain ⟨n, rfl⟩ : ∃ z, n = z + 1 := ⟨n - 1, by omega⟩
    have hkp : k < T 1 5 := by omega
    have hp := g.p hkp
    rw [f_Mod_whoOn_L5, o.s5, if_neg (by rw [nI_leI (by omega) (by omega)]; omega), l82, nI_add, e_ckn (by omega) (by decide), show ix (nI (82 + k)) = 82 + k from e_ix (by omega), o.p (show k < 6 by omega), nI_1]
    by_cases e : T 3 k = b
    · rw [if_pos (by rw [e])]
      refine ih n (k + 1) _ (by omega) (by omega) (fun p hp2 e2 h3 => ?_) (fun h3 => absurd (h3 k hkp e) (by omega))
      rw [g.pi hp2 hkp (e2.trans e.symm)]
    · rw [if_neg (by rw [nI_eq (by omega) (by omega)]; exact e)]
      refine ih n (k + 1) x (by omega) (by omega) (fun p hp2 e2 h3 => ?_) (fun h3 => h2 (fun p hp2 e2 => ?_))
      · by_cases q : p = k
        · subst q; exact absurd e2 e
        · exact h1 p hp2 e2 (by omega)
      · have := h3 p hp2 e2
        omega
theorem m_who (T : Tn) (M : Mem) (o : OnM T M) (g : Good T) {b : Nat} (hb : b < T 4 0) {w : Int32} (hw : (∃ p, p < T 1 5 ∧ T 3 p = b ∧ w = nI p) ∨ ((∀ p, p < T 1 5 → T 3 p ≠ b) ∧ w = -4)) : f_Mod_whoOn M (nI b) = some w := by
  have h9 := g.n
  exact whoL T M o g hb hw (T 1 5) 1000 0 (-4) (by omega) (by omega) (fun p _ _ h => by omega) (fun _ => rfl)
theorem sitw {T : Tn} {M : Mem} {b : Nat} (o : On T M) (g : Good T) (hb : b < T 4 0) : ∃ w, f_Tol_sitterOn 1 M (nI b) = some w ∧ ((∃ p, p < T 1 5 ∧ T 3 p = b ∧ w = nI p) ∨ ((∀ p, p < T 1 5 → T 3 p ≠ b) ∧ w = -4)) := by
  rcases c_sitter T M o g hb with ⟨p, h1, h2, h3⟩ | ⟨h1, h2⟩
  · exact ⟨_, h3, Or.inl ⟨p, h1, h2, rfl⟩⟩
  · exact ⟨_, h2, Or.inr ⟨h1, rfl⟩⟩
theorem s_bench (x y z : Int32) : SimR (fun M => f_Hal_bench M x y z) (fun M => f_Mod_bench M x y z) := by
  intro M ⟨T, ⟨o, om, g⟩, hI, hS, hT, hF⟩
  dsimp only
  rcases a_bench g x with ⟨b, hb, rfl, e1, e2⟩ | ⟨e1, e2⟩
  · rcases a_hour y with ⟨h, hh, rfl, e3, e4⟩ | ⟨e3, e4⟩
    · obtain ⟨w, hw1, hw2⟩ := sitw o g hb
      have hw3 := m_who T M om g hb hw2
      unfold f_Hal_bench f_Mod_bench
      rw [e1 M o, e2 M om, e3, e4, c_cell o g hb hh, m_cell om g hb hh, c_fac o g hb hh, m_fac om g hb hh, c_ear o g hb, m_ear om g hb, c_kind o g hb, m_kind om g hb, hw1, hw3]
      simp only [e_bnd, show (nI 1 = (0 : Int32)) = False from by decide, if_false]
      repeat' split
      all_goals exact ⟨_, rfl, rfl⟩
    · refine ⟨-1, ?_, ?_⟩
      · simp (disch := omega) only [e_bnd, e_bnd2, e_set, e_cpy, e_nmI, e_nmL, e_ckn, e_ckB0, e_ckB1, l0, l1, l2, l3, l4, l5, l6, l7, l8, l9, l10, l11, l12, l13, l14, l15, l16, l17, l18, l19, l20, l21, l22, l24, l25, l32, l39, l40, l41, l48, l50, l56, l57, l59, l60, l72, l79, l80, l81, l82, l88, l89, l97, l100, l122, l124, l125, l160, l255, l312, l320, l375, l1000, nI_ltI, nI_leI, nI_eq, nI_add, pk_mul, e_ix, e_neg, if_true, if_false, if_pos, if_neg, f_Hal_bench, e1 M o, e3]
      · simp (disch := omega) only [e_bnd, e_bnd2, e_set, e_cpy, e_nmI, e_nmL, e_ckn, e_ckB0, e_ckB1, l0, l1, l2, l3, l4, l5, l6, l7, l8, l9, l10, l11, l12, l13, l14, l15, l16, l17, l18, l19, l20, l21, l22, l24, l25, l32, l39, l40, l41, l48, l50, l56, l57, l59, l60, l72, l79, l80, l81, l82, l88, l89, l97, l100, l122, l124, l125, l160, l255, l312, l320, l375, l1000, nI_ltI, nI_leI, nI_eq, nI_add, pk_mul, e_ix, e_neg, if_true, if_false, if_pos, if_neg, f_Mod_bench, e2 M om, e4]
  · refine ⟨-1, ?_, ?_⟩
    · simp (disch := omega) only [e_bnd, e_bnd2, e_set, e_cpy, e_nmI, e_nmL, e_ckn, e_ckB0, e_ckB1, l0, l1, l2, l3, l4, l5, l6, l7, l8, l9, l10, l11, l12, l13, l14, l15, l16, l17, l18, l19, l20, l21, l22, l24, l25, l32, l39, l40, l41, l48, l50, l56, l57, l59, l60, l72, l79, l80, l81, l82, l88, l89, l97, l100, l122, l124, l125, l160, l255, l312, l320, l375, l1000, nI_ltI, nI_leI, nI_eq, nI_add, pk_mul, e_ix, e_neg, if_true, if_false, if_pos, if_neg, f_Hal_bench, e1 M o]
    · simp (disch := omega) only [e_bnd, e_bnd2, e_set, e_cpy, e_nmI, e_nmL, e_ckn, e_ckB0, e_ckB1, l0, l1, l2, l3, l4, l5, l6, l7, l8, l9, l10, l11, l12, l13, l14, l15, l16, l17, l18, l19, l20, l21, l22, l24, l25, l32, l39, l40, l41, l48, l50, l56, l57, l59, l60, l72, l79, l80, l81, l82, l88, l89, l97, l100, l122, l124, l125, l160, l255, l312, l320, l375, l1000, nI_ltI, nI_leI, nI_eq, nI_add, pk_mul, e_ix, e_neg, if_true, if_false, if_pos, if_neg, f_Mod_bench, e2 M om]
theorem s_want (x y : Int32) : SimR (fun M => f_Hal_want M x y) (fun M => f_Mod_want M x y) := by
  intro M ⟨T, ⟨o, om, g⟩, hI, hS, hT, hF⟩
  have h9 := g.nw
  have e2 : f_Mod_in y.toInt64 0 2 = f_Mod_in y.toInt64 0 (nI 2).toInt64 := rfl
  dsimp only
  rcases wi1 x (m := T 10 0) (by omega) with ⟨i, hi, rfl, -, h2⟩ | ⟨h1, h2⟩
  · obtain ⟨c1, c2, c3⟩ := c_want o g hi
    rcases wi y (m := 2) (by decide) with ⟨k, hk, rfl, -, h4⟩ | ⟨-, h4, h5⟩
    · rcases (show k = 0 ∨ k = 1 ∨ k = 2 by omega) with rfl | rfl | rfl
      · refine ⟨nI (T 11 i), ?_, ?_⟩
        · unfold f_Hal_want
          rw [show (nI 0) = 0 from rfl, c1, e_bnd]
        · simp (disch := omega) only [e_bnd, e_bnd2, e_set, e_cpy, e_nmI, e_nmL, e_ckn, e_ckB0, e_ckB1, l0, l1, l2, l3, l4, l5, l6, l7, l8, l9, l10, l11, l12, l13, l14, l15, l16, l17, l18, l19, l20, l21, l22, l24, l25, l32, l39, l40, l41, l48, l50, l56, l57, l59, l60, l72, l79, l80, l81, l82, l88, l89, l97, l100, l122, l124, l125, l160, l255, l312, l320, l375, l1000, nI_ltI, nI_leI, nI_eq, nI_add, pk_mul, e_ix, e_neg, if_true, if_false, if_pos, if_neg, f_Mod_want, om.nw, h2, e2, h4, om.w0 hi, Nat.add_zero]
      · refine ⟨nI (T 12 i), ?_, ?_⟩
        · unfold f_Hal_want
          rw [show (nI 1) = 1 from rfl, c2, e_bnd]
        · simp (disch := omega) only [e_bnd, e_bnd2, e_set, e_cpy, e_nmI, e_nmL, e_ckn, e_ckB0, e_ckB1, l0, l1, l2, l3, l4, l5, l6, l7, l8, l9, l10, l11, l12, l13, l14, l15, l16, l17, l18, l19, l20, l21, l22, l24, l25, l32, l39, l40, l41, l48, l50, l56, l57, l59, l60, l72, l79, l80, l81, l82, l88, l89, l97, l100, l122, l124, l125, l160, l255, l312, l320, l375, l1000, nI_ltI, nI_leI, nI_eq, nI_add, pk_mul, e_ix, e_neg, if_true, if_false, if_pos, if_neg, f_Mod_want, om.nw, h2, e2, h4, om.w1 hi]
      · refine ⟨nI (T 13 i), ?_, ?_⟩
        · unfold f_Hal_want
          rw [show (nI 2) = 2 from rfl, c3, e_bnd]
        · simp (disch := omega) only [e_bnd, e_bnd2, e_set, e_cpy, e_nmI, e_nmL, e_ckn, e_ckB0, e_ckB1, l0, l1, l2, l3, l4, l5, l6, l7, l8, l9, l10, l11, l12, l13, l14, l15, l16, l17, l18, l19, l20, l21, l22, l24, l25, l32, l39, l40, l41, l48, l50, l56, l57, l59, l60, l72, l79, l80, l81, l82, l88, l89, l97, l100, l122, l124, l125, l160, l255, l312, l320, l375, l1000, nI_ltI, nI_leI, nI_eq, nI_add, pk_mul, e_ix, e_neg, if_true, if_false, if_pos, if_neg, f_Mod_want, om.nw, h2, e2, h4, om.w2 hi]
    · have n0 : (y = nI 0) = False := eq_false (fun e => h5 (by subst e; decide))
      have n1 : (y = nI 1) = False := eq_false (fun e => h5 (by subst e; decide))
      have n2 : (y = nI 2) = False := eq_false (fun e => h5 (by subst e; decide))
      refine ⟨-1, ?_, ?_⟩
      · simp (disch := omega) only [e_bnd, e_bnd2, e_set, e_cpy, e_nmI, e_nmL, e_ckn, e_ckB0, e_ckB1, l0, l1, l2, l3, l4, l5, l6, l7, l8, l9, l10, l11, l12, l13, l14, l15, l16, l17, l18, l19, l20, l21, l22, l24, l25, l32, l39, l40, l41, l48, l50, l56, l57, l59, l60, l72, l79, l80, l81, l82, l88, l89, l97, l100, l122, l124, l125, l160, l255, l312, l320, l375, l1000, nI_ltI, nI_leI, nI_eq, nI_add, pk_mul, e_ix, e_neg, if_true, if_false, if_pos, if_neg, f_Hal_want, f_Tri_part, o.nw, n0, n1, n2]
      · simp (disch := omega) only [e_bnd, e_bnd2, e_set, e_cpy, e_nmI, e_nmL, e_ckn, e_ckB0, e_ckB1, l0, l1, l2, l3, l4, l5, l6, l7, l8, l9, l10, l11, l12, l13, l14, l15, l16, l17, l18, l19, l20, l21, l22, l24, l25, l32, l39, l40, l41, l48, l50, l56, l57, l59, l60, l72, l79, l80, l81, l82, l88, l89, l97, l100, l122, l124, l125, l160, l255, l312, l320, l375, l1000, nI_ltI, nI_leI, nI_eq, nI_add, pk_mul, e_ix, e_neg, if_true, if_false, if_pos, if_neg, f_Mod_want, om.nw, h2, e2, h4]
  · refine ⟨-1, ?_, ?_⟩
    · unfold f_Hal_want f_Tri_part
      by_cases q : x < 0
      · rw [if_pos q]; rfl
      · rw [if_neg q]
        obtain ⟨z1, z2⟩ := nI_self (Int32.not_lt.mp q)
        have z3 : f_Hal_within x (nI 0) (nI (T 10 0) - nI 1) = some (if 0 ≤ x ∧ x ≤ nI (T 10 0) - 1 then nI 1 else nI 0) := w_in _ _ _
        rw [z3] at h1
        have z4 : ¬ ix x < T 10 0 := fun h => by
          rw [z1, if_pos (nI_in1 (by omega) h)] at h1
          exact absurd h1 (by decide)
        rw [o.nw, if_pos (by rw [z1, nI_leI (by omega) (by omega)]; omega)]
        rfl
    · simp (disch := omega) only [e_bnd, e_bnd2, e_set, e_cpy, e_nmI, e_nmL, e_ckn, e_ckB0, e_ckB1, l0, l1, l2, l3, l4, l5, l6, l7, l8, l9, l10, l11, l12, l13, l14, l15, l16, l17, l18, l19, l20, l21, l22, l24, l25, l32, l39, l40, l41, l48, l50, l56, l57, l59, l60, l72, l79, l80, l81, l82, l88, l89, l97, l100, l122, l124, l125, l160, l255, l312, l320, l375, l1000, nI_ltI, nI_leI, nI_eq, nI_add, pk_mul, e_ix, e_neg, if_true, if_false, if_pos, if_neg, f_Mod_want, om.nw, h2]
/-! counts -/
def dfP (T : Tn) : Nat → Bool := fun c => decide (T 2 c ≠ 0)
theorem c_deafL {T : Tn} {M : Mem} (o : On T M) (g : Good T) : ∀ (m n k : Nat), k + m = 81 → m < n → f_Tol_deafCells_L4 1 M n (nI (cntN (dfP T) k)) (nI k) = some (nI (cntN (dfP T) 81)) := by
  intro m
  induction m with
  | zero =>
    intro n k hk hn
    obtain ⟨n, rfl⟩ : ∃ z, n = z + 1 := ⟨n - 1, by omega⟩
    have e : k = 81 := by omega
    subst e
    rw [f_Tol_deafCells_L4, if_pos (by decide)]
  | succ m ih =>
    intro n k hk hn
    obtain ⟨n, rfl⟩ : ∃ z, n = z + 1 := ⟨n - 1, by omega⟩
    have hc := g.c (show k < 81 by omega)
    have ih2 := ih n (k + 1) (by omega) (by omega)
    rw [cntN_s] at ih2
    rw [f_Tol_deafCells_L4]
    by_cases h : T 2 k = 0
    · rw [if_neg (by simp [dfP, h])] at ih2
      simp (disch := omega) only [e_bnd, e_bnd2, e_set, e_cpy, e_nmI, e_nmL, e_ckn, e_ckB0, e_ckB1, l0, l1, l2, l3, l4, l5, l6, l7, l8, l9, l10, l11, l12, l13, l14, l15, l16, l17, l18, l19, l20, l21, l22, l24, l25, l32, l39, l40, l41, l48, l50, l56, l57, l59, l60, l72, l79, l80, l81, l82, l88, l89, l97, l100, l122, l124, l125, l160, l255, l312, l320, l375, l1000, nI_ltI, nI_leI, nI_eq, nI_add, pk_mul, e_ix, e_neg, if_true, if_false, if_pos, if_neg, c_state o (show k < 81 by omega), Nat.add_zero]
      exact ih2
    · rw [if_pos (by simp [dfP, h])] at ih2
      simp (disch := omega) only [e_bnd, e_bnd2, e_set, e_cpy, e_nmI, e_nmL, e_ckn, e_ckB0, e_ckB1, l0, l1, l2, l3, l4, l5, l6, l7, l8, l9, l10, l11, l12, l13, l14, l15, l16, l17, l18, l19, l20, l21, l22, l24, l25, l32, l39, l40, l41, l48, l50, l56, l57, l59, l60, l72, l79, l80, l81, l82, l88, l89, l97, l100, l122, l124, l125, l160, l255, l312, l320, l375, l1000, nI_ltI, nI_leI, nI_eq, nI_add, pk_mul, e_ix, e_neg, if_true, if_false, if_pos, if_neg, c_state o (show k < 81 by omega)]
      exact ih2
theorem m_countL {T : Tn} {M : Mem} (o : OnM T M) (g : Good T) {x : Int32} : ∀ (m n k : Nat), k + m = 81 → m < n → f_Mod_count_L4 M n x (nI (cntN (dfP T) k)) (nI k) = f_Mod_count_L4 M 1 x (nI (cntN (dfP T) 81)) (nI 81) := by
  intro m
  induction m with
  | zero =>
    intro n k hk hn
    obtain ⟨n, rfl⟩ : ∃ z, n = z + 1 := ⟨n - 1, by omega⟩
    have e : k = 81 := by omega
    subst e
    rw [f_Mod_count_L4, if_pos (show (81 : Int32) ≤ nI 81 by decide), f_Mod_count_L4, if_pos (show (81 : Int32) ≤ nI 81 by decide)]
  | succ m ih =>
    intro n k hk hn
    obtain ⟨n, rfl⟩ : ∃ z, n = z + 1 := ⟨n - 1, by omega⟩
    have hc := g.c (show k < 81 by omega)
    have ih2 := ih n (k + 1) (by omega) (by omega)
    rw [cntN_s] at ih2
    rw [← ih2]
    conv => lhs; rw [f_Mod_count_L4]
    rw [if_neg (by rw [l81, nI_leI (by omega) (by omega)]; omega), e_ckn (by omega) (by decide), show ix (nI k) = k from e_ix (by omega), o.c (by omega)]
    by_cases h : T 2 k = 0
    · rw [if_neg (show ¬ dfP T k = true by simp [dfP, h]), h, if_pos (by decide), f_Mod_count_J25, f_Mod_flag, if_pos rfl, e_bnd, e_nmI, nI_1, l0, nI_add, Nat.add_zero]
    · rw [if_pos (show dfP T k = true by simp [dfP, h]), if_neg (by rw [l0, nI_leI (by omega) (by omega)]; omega), f_Mod_count_J25, f_Mod_flag, if_neg (by decide), e_bnd, e_nmI, nI_1, nI_1]
theorem s_count (x : Int32) : SimR (fun M => f_Hal_count M x) (fun M => f_Mod_count M x) := by
  intro M ⟨T, ⟨o, om, g⟩, hI, hS, hT, hF⟩
  dsimp only
  obtain ⟨k0, k1, c1, c2, c3, c4, c5, -⟩ := hI
  obtain ⟨L, hL, t1, t2, -⟩ := hT
  have hd : f_Tol_deafCells 1 M = some (nI (cntN (dfP T) 81)) := c_deafL o g 81 1000 0 rfl (by decide)
  have hm : f_Mod_count M x = f_Mod_count_L4 M 1 x (nI (cntN (dfP T) 81)) (nI 81) := m_countL om g 81 1000 0 rfl (by decide)
  have hb : f_Int_bitCount (M 0 3) = some (nI (k0 + k1)) := by
    rw [c3, (bc_all _ (by omega)).1]
    congr 2
    rcases (show k0 = 0 ∨ k0 = 1 by omega) with rfl | rfl <;> rcases (show k1 = 0 ∨ k1 = 1 by omega) with rfl | rfl <;> rfl
  have hf : ∀ k, k ≤ 1 → f_Mod_flag (nI k) = some (nI k) := fun k hk => by
    rcases (show k = 0 ∨ k = 1 by omega) with rfl | rfl <;> rfl
  have hs : ∃ w, f_She_cellsOf M 0 = some w ∧ (if M 119 (ix 0) = (-4) then some (-4) else some (M 120 (ix 0))) = some w := by
    have he : f_She_isSheet 0 = some 1 := by decide +kernel
    unfold f_She_cellsOf
    rw [he, e_bnd, if_neg (by decide), e_ck (by decide), e_ck (by decide), show ix 0 = 0 from rfl]
    rcases hS.1 0 (by decide) with ⟨a1, a2⟩ | ⟨l, n, a1, a2, a3, a4, a5, a6, -⟩
    · rw [a1, a2, if_pos rfl, if_pos rfl]
      exact ⟨_, rfl, rfl⟩
    · rw [a3, a4, a5, a6, if_neg (by rw [l1, e_neg (by omega) (by omega) (by omega)]; exact id), if_neg (by rw [l4, e_neg (by omega) (by omega) (by omega)]; exact id)]
      exact ⟨_, rfl, rfl⟩
  obtain ⟨w, hs1, hs2⟩ := hs
  rw [hm, f_Mod_count_L4, if_pos (by decide)]
  unfold f_Hal_count
  rw [o.nb, o.s5, o.nw, o.ns, hd, hb, t1, hs1, om.nb, om.s5, om.nw, show M 104 (ix 88) = nI (T 14 0) from om.ns, show M 105 (ix 0) = nI k0 from c4, show M 105 (ix 1) = nI k1 from c5, t2, hf _ c1, hf _ c2, hs2]
  simp only [e_bnd, nI_add]
  repeat' split
  all_goals exact ⟨_, rfl, rfl⟩
end
section
/-! pure: what is changed; a whisper's way -/
theorem w_yes {k m : Nat} (h : k ≤ m) (hm : m < 2147483648) : f_Hal_within (nI k) (nI 0) (nI m) = some (nI 1) := by
  rw [w_in, if_pos]
  rw [nI_leI (by omega) (by omega), nI_leI (by omega) (by omega)]
  omega
theorem pw {T : Tn} {M : Mem} {a k v i j : Nat} (h : M i j = nI (T i j)) : upd2 M a k (nI v) i j = nI (tset T a k v i j) := by
  by_cases e : i = a ∧ j = k
  · obtain ⟨rfl, rfl⟩ := e
    rw [u_eq, ts_eq]
  · rw [show upd2 M a k (nI v) i j = M i j from if_neg e, show tset T a k v i j = T i j from if_neg e, h]
theorem On.tset {T : Tn} {M : Mem} {a k v : Nat} (o : On T M) (h : a = 1 ∨ a = 2 ∨ a = 3) : On (tset T a k v) (upd2 M a k (nI v)) := by
  have e4 : Jvm.Pilot.CHallAnswersLaw_law_r2429_030bd8.tset T a k v 4 = T 4 := funext fun j => ts_ne (by omega)
  have e10 : Jvm.Pilot.CHallAnswersLaw_law_r2429_030bd8.tset T a k v 10 = T 10 := funext fun j => ts_ne (by omega)
  have e14 : Jvm.Pilot.CHallAnswersLaw_law_r2429_030bd8.tset T a k v 14 = T 14 := funext fun j => ts_ne (by omega)
  refine ⟨fun j hj => pw (o.s hj), fun j hj => pw (o.c hj), fun j hj => pw (o.p hj), pw o.nb, fun b h1 h2 j hj => pw (o.b h1 h2 ?_), pw o.nw, fun b h1 h2 j hj => pw (o.w h1 h2 ?_), pw o.ns, fun b h1 h2 j hj => pw (o.v h1 h2 ?_)⟩
  · rw [e4] at hj; exact hj
  · rw [e10] at hj; exact hj
  · rw [e14] at hj; exact hj
theorem qw {T : Tn} {M : Mem} {a k v i j A K : Nat} (h : M A K = nI (T i j)) (hq : (A = 104 ∧ K = k) ↔ (i = a ∧ j = v)) {x : Nat} : upd2 M 104 k (nI x) A K = nI (tset T a v x i j) := by
  by_cases e : i = a ∧ j = v
  · obtain ⟨e1, e2⟩ := hq.mpr e
    subst e1; subst e2
    obtain ⟨rfl, rfl⟩ := e
    rw [u_eq, ts_eq]
  · rw [show upd2 M 104 k (nI x) A K = M A K from if_neg (fun q => e (hq.mp q)), show tset T a v x i j = T i j from if_neg e, h]
/-- the reference keeps warm, cells and seats in one row: place k of it is T a v -/
theorem OnM.tset {T : Tn} {M : Mem} {a k v x : Nat} (o : OnM T M) (h : (a = 1 ∧ v = 4 ∧ k = 81) ∨ (a = 2 ∧ v = k ∧ k < 81) ∨ (a = 3 ∧ k = 82 + v ∧ v < 6)) : OnM (tset T a v x) (upd2 M 104 k (nI x)) := by
  have en : ∀ b, 4 ≤ b → Jvm.Pilot.CHallAnswersLaw_law_r2429_030bd8.tset T a v x b = T b := fun b hb => funext fun j => ts_ne (by omega)
  have e1 : ∀ j, j ≠ 4 → Jvm.Pilot.CHallAnswersLaw_law_r2429_030bd8.tset T a v x 1 j = T 1 j := fun j hj => if_neg (by omega)
  have eM : ∀ b, b ≠ 104 → upd2 M 104 k (nI x) b = M b := fun b hb => u_ne hb
  refine ⟨⟨?_, ?_, ?_, ?_, qw o.s4 (by omega), ?_⟩, fun c hc => qw (o.c hc) (by omega), fun p hp => qw (o.p hp) (by omega), ?_, fun b hb => ?_, ?_, fun i hi => ?_, ?_, fun i hi => ⟨?_, ?_, ?_⟩⟩
  · rw [eM _ (by decide), e1 _ (by decide)]; exact o.s0
  · rw [eM _ (by decide), e1 _ (by decide)]; exact o.s1
  · rw [eM _ (by decide), e1 _ (by decide)]; exact o.s2
  · rw [eM _ (by decide), e1 _ (by decide)]; exact o.s3
  · rw [eM _ (by decide), e1 _ (by decide)]; exact o.s5
  · rw [eM _ (by decide), en _ (by decide)]; exact o.nb
  · rw [en 4 (by decide)] at hb
    rw [eM _ (by decide), en _ (by decide), en _ (by decide), en _ (by decide), en _ (by decide), en _ (by decide)]
    exact ⟨o.b0 hb, o.b1 hb, o.b2 hb, o.b3 hb⟩
  · rw [eM _ (by decide), en _ (by decide)]; exact o.nw
  · rw [en 10 (by decide)] at hi
    rw [eM _ (by decide), en _ (by decide), en _ (by decide), en _ (by decide)]
    exact ⟨o.w0 hi, o.w1 hi, o.w2 hi⟩
  · rw [en _ (by decide), u_nk (by omega)]; exact o.ns
  · rw [en 14 (by decide)] at hi
    rw [en _ (by decide), u_nk (by omega)]; exact o.v0 hi
  · rw [en 14 (by decide)] at hi
    rw [en _ (by decide), u_nk (by omega)]; exact o.v1 hi
  · rw [en 14 (by decide)] at hi
    rw [en _ (by decide), u_nk (by omega)]; exact o.v2 hi
theorem Good.setW {T : Tn} (g : Good T) {v : Nat} (hv : v ≤ 9) : Good (tset T 1 4 v) := ⟨g.w, g.h, g.fade, g.bounce, hv, g.n, fun c hc => g.c hc, fun p hp => g.p hp, fun p q hp hq e => g.pi hp hq e, fun b hb => g.b hb, ⟨g.nw, fun i hi => g.wi hi⟩, ⟨g.ns, fun i hi => g.v hi⟩⟩
theorem Good.setC {T : Tn} (g : Good T) {c v : Nat} (hv : v ≤ 2) : Good (tset T 2 c v) := ⟨g.w, g.h, g.fade, g.bounce, g.warm, g.n, fun d hd => by
  by_cases e : d = c
  · subst e; rw [ts_eq]; exact hv
  · rw [ts_nk e]; exact g.c hd, fun p hp => g.p hp, fun p q hp hq e => g.pi hp hq e, fun b hb => g.b hb, ⟨g.nw, fun i hi => g.wi hi⟩, ⟨g.ns, fun i hi => g.v hi⟩⟩
theorem chg_ts {T : Tn} {a k v : Nat} (h : chg a k = true) : ∀ a' k', chg a' k' = false → tset T a k v a' k' = T a' k' := fun a' k' h2 => if_neg (fun e => by
  obtain ⟨rfl, rfl⟩ := e
  rw [h] at h2
  exact absurd h2 (by decide))
theorem ts_self {T : Tn} {a k : Nat} : tset T a k (T a k) = T := by
  funext i j
  by_cases e : i = a ∧ j = k
  · obtain ⟨rfl, rfl⟩ := e; exact ts_eq
  · exact if_neg e
theorem ts_ts {T : Tn} {a k v w : Nat} : tset (tset T a k v) a k w = tset T a k w := by
  funext i j
  by_cases e : i = a ∧ j = k
  · obtain ⟨rfl, rfl⟩ := e; rw [ts_eq, ts_eq]
  · show (if _ then _ else _) = (if _ then _ else _)
    rw [if_neg e, if_neg e]
    exact if_neg e
theorem s_warm (x : Int32) : Sim (f_Hal_warm x) (f_Mod_warm x) := by
  intro M ⟨T, hA, hI, hS, hT, hF⟩
  obtain ⟨o, om, g⟩ := hA
  have e9 : f_Mod_in x.toInt64 0 9 = f_Mod_in x.toInt64 0 (nI 9).toInt64 := rfl
  rcases wi x (m := 9) (by decide) with ⟨k, hk, rfl, h1, h2⟩ | ⟨h1, h2, -⟩
  · have om1 : OnM T (upd2 M 1 4 (nI k)) := om.frc (Fr.rf.set (lo := 1) (hi := 1) (by decide) (by decide)) (by decide)
    have o2 : On (tset T 1 4 k) (upd2 (upd2 M 1 4 (nI k)) 104 81 (nI k)) := (On.tset o (Or.inl rfl)).fr (Fr.rf.set (lo := 104) (hi := 104) (by decide) (by decide)) (by decide)
    refine ⟨nI (T 1 4), upd2 M 1 4 (nI k), upd2 (upd2 M 1 4 (nI k)) 104 81 (nI k), ?_, ?_, Inv.to (T := T) hI hS hT hF ((Kp.rf.set (by omega)).set (by omega)) (chg_ts (by decide)) ⟨o2, om1.tset (Or.inl ⟨rfl, rfl, rfl⟩), g.setW (by omega)⟩⟩
    · simp (disch := omega) only [e_bnd, e_bnd2, e_set, e_cpy, e_nmI, e_nmL, e_ckn, e_ckB0, e_ckB1, l0, l1, l2, l3, l4, l5, l6, l7, l8, l9, l10, l11, l12, l13, l14, l15, l16, l17, l18, l19, l20, l21, l22, l24, l25, l32, l39, l40, l41, l48, l50, l56, l57, l59, l60, l72, l79, l80, l81, l82, l88, l89, l97, l100, l122, l124, l125, l160, l255, l312, l320, l375, l1000, nI_ltI, nI_leI, nI_eq, nI_add, pk_mul, e_ix, e_neg, if_true, if_false, if_pos, if_neg, f_Hal_warm, h1, o.s4]
    · simp (disch := omega) only [e_bnd, e_bnd2, e_set, e_cpy, e_nmI, e_nmL, e_ckn, e_ckB0, e_ckB1, l0, l1, l2, l3, l4, l5, l6, l7, l8, l9, l10, l11, l12, l13, l14, l15, l16, l17, l18, l19, l20, l21, l22, l24, l25, l32, l39, l40, l41, l48, l50, l56, l57, l59, l60, l72, l79, l80, l81, l82, l88, l89, l97, l100, l122, l124, l125, l160, l255, l312, l320, l375, l1000, nI_ltI, nI_leI, nI_eq, nI_add, pk_mul, e_ix, e_neg, if_true, if_false, if_pos, if_neg, f_Mod_warm, e9, h2, ix_81, om1.s4]
  · refine ⟨-1, M, M, ?_, ?_, ⟨T, ⟨o, om, g⟩, hI, hS, hT, hF⟩⟩
    · simp (disch := omega) only [e_bnd, e_bnd2, e_set, e_cpy, e_nmI, e_nmL, e_ckn, e_ckB0, e_ckB1, l0, l1, l2, l3, l4, l5, l6, l7, l8, l9, l10, l11, l12, l13, l14, l15, l16, l17, l18, l19, l20, l21, l22, l24, l25, l32, l39, l40, l41, l48, l50, l56, l57, l59, l60, l72, l79, l80, l81, l82, l88, l89, l97, l100, l122, l124, l125, l160, l255, l312, l320, l375, l1000, nI_ltI, nI_leI, nI_eq, nI_add, pk_mul, e_ix, e_neg, if_true, if_false, if_pos, if_neg, f_Hal_warm, h1]
    · simp (disch := omega) only [e_bnd, e_bnd2, e_set, e_cpy, e_nmI, e_nmL, e_ckn, e_ckB0, e_ckB1, l0, l1, l2, l3, l4, l5, l6, l7, l8, l9, l10, l11, l12, l13, l14, l15, l16, l17, l18, l19, l20, l21, l22, l24, l25, l32, l39, l40, l41, l48, l50, l56, l57, l59, l60, l72, l79, l80, l81, l82, l88, l89, l97, l100, l122, l124, l125, l160, l255, l312, l320, l375, l1000, nI_ltI, nI_leI, nI_eq, nI_add, pk_mul, e_ix, e_neg, if_true, if_false, if_pos, if_neg, f_Mod_warm, e9, h2]
/-- whether a bench was put on cell c -/
def anyB (T : Tn) (c : Nat) : Nat → Bool
  | 0 => false
  | n + 1 => anyB T c n || decide (9 * T 6 n + T 5 n = c)
theorem anyB_t {T : Tn} {c : Nat} : ∀ {n b : Nat}, b < n → 9 * T 6 b + T 5 b = c → anyB T c n = true
  | n + 1, b, h, e => by
    unfold anyB
    by_cases q : b = n
    · subst q; simp [e]
    · rw [anyB_t (show b < n by omega) e]; rfl
theorem anyB_f {T : Tn} {c : Nat} : ∀ {n : Nat}, (∀ b, b < n → 9 * T 6 b + T 5 b ≠ c) → anyB T c n = false
  | 0, _ => rfl
  | n + 1, h => by
    unfold anyB
    rw [anyB_f (fun b hb => h b (by omega))]
    simp [h n (by omega)]
theorem c_anyL {T : Tn} {M : Mem} (o : On T M) (g : Good T) {c : Nat} (hc : c < 81) : ∀ (m n k : Nat), k + m = T 4 0 → m < n → (∀ b, b < k → 9 * T 6 b + T 5 b ≠ c) → f_Ben_anyPutOn_L2 4 M n (nI c) (nI k) = some (nI (if anyB T c (T 4 0) = true then 1 else 0)) := by
  have h9 := g.n
  have hw := g.w
  have hh := g.h
  intro m
  induction m with
  | zero =>
    intro n k hk hn hf
    obtain ⟨n, rfl⟩ : ∃ z, n = z + 1 := ⟨n - 1, by omega⟩
    have e : k = T 4 0 := by omega
    subst e
    rw [f_Ben_anyPutOn_L2, o.nb, if_pos (by rw [nI_leI (by omega) (by omega)]; omega), anyB_f hf]
    rfl
  | succ m ih =>
    intro n k hk hn hf
    obtain ⟨n, rfl⟩ : ∃ z, n = z + 1 := ⟨n - 1, by omega⟩
    have hb : k < T 4 0 := by omega
    have hg := g.b hb
    rw [f_Ben_anyPutOn_L2]
    by_cases e : 9 * T 6 k + T 5 k = c
    · rw [anyB_t hb e]
      simp (disch := omega) only [e_bnd, e_bnd2, e_set, e_cpy, e_nmI, e_nmL, e_ckn, e_ckB0, e_ckB1, l0, l1, l2, l3, l4, l5, l6, l7, l8, l9, l10, l11, l12, l13, l14, l15, l16, l17, l18, l19, l20, l21, l22, l24, l25, l32, l39, l40, l41, l48, l50, l56, l57, l59, l60, l72, l79, l80, l81, l82, l88, l89, l97, l100, l122, l124, l125, l160, l255, l312, l320, l375, l1000, nI_ltI, nI_leI, nI_eq, nI_add, pk_mul, e_ix, e_neg, if_true, if_false, if_pos, if_neg, o.nb, Nat.reduceAdd, o.b5 hb, o.b6 hb]
    · simp (disch := omega) only [e_bnd, e_bnd2, e_set, e_cpy, e_nmI, e_nmL, e_ckn, e_ckB0, e_ckB1, l0, l1, l2, l3, l4, l5, l6, l7, l8, l9, l10, l11, l12, l13, l14, l15, l16, l17, l18, l19, l20, l21, l22, l24, l25, l32, l39, l40, l41, l48, l50, l56, l57, l59, l60, l72, l79, l80, l81, l82, l88, l89, l97, l100, l122, l124, l125, l160, l255, l312, l320, l375, l1000, nI_ltI, nI_leI, nI_eq, nI_add, pk_mul, e_ix, e_neg, if_true, if_false, if_pos, if_neg, o.nb, Nat.reduceAdd, o.b5 hb, o.b6 hb]
      refine Eq.trans (ih n (k + 1) (by omega) (by omega) (fun b h => ?_)) ?_
      · by_cases q : b = k
        · subst q; exact e
        · exact hf b (by omega)
      · rfl
theorem c_any {T : Tn} {M : Mem} (o : On T M) (g : Good T) {c : Nat} (hc : c < 81) : f_Ben_anyPutOn 4 M (nI c) = some (nI (if anyB T c (T 4 0) = true then 1 else 0)) := by
  have h9 := g.n
  exact c_anyL o g hc (T 4 0) 1000 0 (by omega) (by omega) (fun b hb => by omega)
theorem m_hangL {T : Tn} {M : Mem} (o : OnM T M) (g : Good T) {c w : Nat} (hc : c < 81) (hw : w ≤ 2) : ∀ (m n k : Nat), k + m = T 4 0 → m < n → (∀ b, b < k → 9 * T 6 b + T 5 b ≠ c ∨ w = 0) → f_Mod_hang_L24 n (nI c) (nI w) (nI k) M = if w ≠ 0 ∧ anyB T c (T 4 0) = true then some (-2, M) else some (nI (T 2 c), upd2 M 104 c (nI w)) := by
  have h9 := g.n
  have hw := g.w
  have hh := g.h
  intro m
  induction m with
  | zero =>
    intro n k hk hn hf
    obtain ⟨n, rfl⟩ : ∃ z, n = z + 1 := ⟨n - 1, by omega⟩
    have e : k = T 4 0 := by omega
    subst e
    rw [f_Mod_hang_L24, o.nb, if_pos (by rw [nI_leI (by omega) (by omega)]; omega), e_ckn (by omega) (by decide), e_nmI, e_ckn (by omega) (by decide), e_set, show ix (nI c) = c from e_ix (by omega), o.c hc, if_neg]
    intro ⟨h1, h2⟩
    rw [anyB_f (fun b hb => (hf b hb).resolve_right h1)] at h2
    exact absurd h2 (by decide)
  | succ m ih =>
    intro n k hk hn hf
    obtain ⟨n, rfl⟩ : ∃ z, n = z + 1 := ⟨n - 1, by omega⟩
    have hb : k < T 4 0 := by omega
    have hg := g.b hb
    rw [f_Mod_hang_L24]
    by_cases e : 9 * T 6 k + T 5 k = c
    · by_cases w0 : w = 0
      · simp (disch := omega) only [e_bnd, e_bnd2, e_set, e_cpy, e_nmI, e_nmL, e_ckn, e_ckB0, e_ckB1, l0, l1, l2, l3, l4, l5, l6, l7, l8, l9, l10, l11, l12, l13, l14, l15, l16, l17, l18, l19, l20, l21, l22, l24, l25, l32, l39, l40, l41, l48, l50, l56, l57, l59, l60, l72, l79, l80, l81, l82, l88, l89, l97, l100, l122, l124, l125, l160, l255, l312, l320, l375, l1000, nI_ltI, nI_leI, nI_eq, nI_add, pk_mul, e_ix, e_neg, if_true, if_false, if_pos, if_neg, o.nb, o.b0 hb]
        refine Eq.trans (ih n (k + 1) (by omega) (by omega) (fun b h => Or.inr w0)) ?_
        simp (disch := omega) only [e_bnd, e_bnd2, e_set, e_cpy, e_nmI, e_nmL, e_ckn, e_ckB0, e_ckB1, l0, l1, l2, l3, l4, l5, l6, l7, l8, l9, l10, l11, l12, l13, l14, l15, l16, l17, l18, l19, l20, l21, l22, l24, l25, l32, l39, l40, l41, l48, l50, l56, l57, l59, l60, l72, l79, l80, l81, l82, l88, l89, l97, l100, l122, l124, l125, l160, l255, l312, l320, l375, l1000, nI_ltI, nI_leI, nI_eq, nI_add, pk_mul, e_ix, e_neg, if_true, if_false, if_pos, if_neg]
      · rw [if_pos (show w ≠ 0 ∧ anyB T c (T 4 0) = true from ⟨w0, anyB_t hb e⟩)]
        simp (disch := omega) only [e_bnd, e_bnd2, e_set, e_cpy, e_nmI, e_nmL, e_ckn, e_ckB0, e_ckB1, l0, l1, l2, l3, l4, l5, l6, l7, l8, l9, l10, l11, l12, l13, l14, l15, l16, l17, l18, l19, l20, l21, l22, l24, l25, l32, l39, l40, l41, l48, l50, l56, l57, l59, l60, l72, l79, l80, l81, l82, l88, l89, l97, l100, l122, l124, l125, l160, l255, l312, l320, l375, l1000, nI_ltI, nI_leI, nI_eq, nI_add, pk_mul, e_ix, e_neg, if_true, if_false, if_pos, if_neg, o.nb, o.b0 hb]
    · simp (disch := omega) only [e_bnd, e_bnd2, e_set, e_cpy, e_nmI, e_nmL, e_ckn, e_ckB0, e_ckB1, l0, l1, l2, l3, l4, l5, l6, l7, l8, l9, l10, l11, l12, l13, l14, l15, l16, l17, l18, l19, l20, l21, l22, l24, l25, l32, l39, l40, l41, l48, l50, l56, l57, l59, l60, l72, l79, l80, l81, l82, l88, l89, l97, l100, l122, l124, l125, l160, l255, l312, l320, l375, l1000, nI_ltI, nI_leI, nI_eq, nI_add, pk_mul, e_ix, e_neg, if_true, if_false, if_pos, if_neg, o.nb, o.b0 hb]
      refine Eq.trans (ih n (k + 1) (by omega) (by omega) (fun b h => ?_)) ?_
      · by_cases q : b = k
        · subst q; exact Or.inl e
        · exact hf b (by omega)
      · simp (disch := omega) only [e_bnd, e_bnd2, e_set, e_cpy, e_nmI, e_nmL, e_ckn, e_ckB0, e_ckB1, l0, l1, l2, l3, l4, l5, l6, l7, l8, l9, l10, l11, l12, l13, l14, l15, l16, l17, l18, l19, l20, l21, l22, l24, l25, l32, l39, l40, l41, l48, l50, l56, l57, l59, l60, l72, l79, l80, l81, l82, l88, l89, l97, l100, l122, l124, l125, l160, l255, l312, l320, l375, l1000, nI_ltI, nI_leI, nI_eq, nI_add, pk_mul, e_ix, e_neg, if_true, if_false, if_pos, if_neg]
theorem s_hang (x y : Int32) : Sim (f_Hal_hang x y) (f_Mod_hang x y) := by
  intro M ⟨T, hA, hI, hS, hT, hF⟩
  obtain ⟨o, om, g⟩ := hA
  have h9 := g.n
  have e2 : f_Mod_in y.toInt64 0 2 = f_Mod_in y.toInt64 0 (nI 2).toInt64 := rfl
  rcases a_cell g x with ⟨c, hc, rfl, a1, a2⟩ | ⟨a1, a2⟩
  · have hc1 := hc.1
    rcases wi y (m := 2) (by decide) with ⟨w, hw, rfl, h1, h2⟩ | ⟨h1, h2, -⟩
    · by_cases hq : w ≠ 0 ∧ anyB T c (T 4 0) = true
      · refine ⟨-2, M, M, ?_, ?_, ⟨T, ⟨o, om, g⟩, hI, hS, hT, hF⟩⟩
        · have q1 := hq.1
          simp (disch := omega) only [e_bnd, e_bnd2, e_set, e_cpy, e_nmI, e_nmL, e_ckn, e_ckB0, e_ckB1, l0, l1, l2, l3, l4, l5, l6, l7, l8, l9, l10, l11, l12, l13, l14, l15, l16, l17, l18, l19, l20, l21, l22, l24, l25, l32, l39, l40, l41, l48, l50, l56, l57, l59, l60, l72, l79, l80, l81, l82, l88, l89, l97, l100, l122, l124, l125, l160, l255, l312, l320, l375, l1000, nI_ltI, nI_leI, nI_eq, nI_add, pk_mul, e_ix, e_neg, if_true, if_false, if_pos, if_neg, f_Hal_hang, a1 M o, h1, c_any o g hc1, hq.2]
        · have e := m_hangL om g hc1 hw (T 4 0) 1000 0 (by omega) (by omega) (fun b hb => by omega)
          rw [if_pos hq] at e
          unfold f_Mod_hang
          rw [a2 M om, e_bnd, if_neg (by decide), e2, h2, e_bnd, if_neg (by decide)]
          exact e
      · have om1 : OnM T (upd2 M 2 c (nI w)) := om.frc (Fr.rf.set (lo := 2) (hi := 2) (by decide) (by decide)) (by decide)
        have o2 : On (tset T 2 c w) (upd2 (upd2 M 2 c (nI w)) 104 c (nI w)) := (On.tset o (Or.inr (Or.inl rfl))).fr (Fr.rf.set (lo := 104) (hi := 104) (by decide) (by decide)) (by decide)
        refine ⟨nI (T 2 c), upd2 M 2 c (nI w), upd2 (upd2 M 2 c (nI w)) 104 c (nI w), ?_, ?_, Inv.to (T := T) hI hS hT hF ((Kp.rf.set (by omega)).set (by omega)) (chg_ts rfl) ⟨o2, om1.tset (Or.inr (Or.inl ⟨rfl, rfl, hc1⟩)), g.setC hw⟩⟩
        · by_cases w0 : w = 0
          · simp (disch := omega) only [e_bnd, e_bnd2, e_set, e_cpy, e_nmI, e_nmL, e_ckn, e_ckB0, e_ckB1, l0, l1, l2, l3, l4, l5, l6, l7, l8, l9, l10, l11, l12, l13, l14, l15, l16, l17, l18, l19, l20, l21, l22, l24, l25, l32, l39, l40, l41, l48, l50, l56, l57, l59, l60, l72, l79, l80, l81, l82, l88, l89, l97, l100, l122, l124, l125, l160, l255, l312, l320, l375, l1000, nI_ltI, nI_leI, nI_eq, nI_add, pk_mul, e_ix, e_neg, if_true, if_false, if_pos, if_neg, f_Hal_hang, f_Hal_hang_J43, f_Tol_setState, a1 M o, h1, c_state o hc1, Nat.reduceAdd]
          · have q2 : ¬ anyB T c (T 4 0) = true := fun e => hq ⟨w0, e⟩
            have q3 : anyB T c (T 4 0) = false := Bool.eq_false_iff.mpr q2
            simp (disch := omega) only [e_bnd, e_bnd2, e_set, e_cpy, e_nmI, e_nmL, e_ckn, e_ckB0, e_ckB1, l0, l1, l2, l3, l4, l5, l6, l7, l8, l9, l10, l11, l12, l13, l14, l15, l16, l17, l18, l19, l20, l21, l22, l24, l25, l32, l39, l40, l41, l48, l50, l56, l57, l59, l60, l72, l79, l80, l81, l82, l88, l89, l97, l100, l122, l124, l125, l160, l255, l312, l320, l375, l1000, nI_ltI, nI_leI, nI_eq, nI_add, pk_mul, e_ix, e_neg, if_true, if_false, if_pos, if_neg, f_Hal_hang, f_Hal_hang_J43, f_Tol_setState, a1 M o, h1, c_state o hc1, Nat.reduceAdd, c_any o g hc1, q3, Bool.false_eq_true]
        · have e := m_hangL om1 g hc1 hw (T 4 0) 1000 0 (by omega) (by omega) (fun b hb => by omega)
          rw [if_neg hq] at e
          unfold f_Mod_hang
          rw [a2 _ om1, e_bnd, if_neg (by decide), e2, h2, e_bnd, if_neg (by decide)]
          exact e
    · refine ⟨-1, M, M, ?_, ?_, ⟨T, ⟨o, om, g⟩, hI, hS, hT, hF⟩⟩
      · simp (disch := omega) only [e_bnd, e_bnd2, e_set, e_cpy, e_nmI, e_nmL, e_ckn, e_ckB0, e_ckB1, l0, l1, l2, l3, l4, l5, l6, l7, l8, l9, l10, l11, l12, l13, l14, l15, l16, l17, l18, l19, l20, l21, l22, l24, l25, l32, l39, l40, l41, l48, l50, l56, l57, l59, l60, l72, l79, l80, l81, l82, l88, l89, l97, l100, l122, l124, l125, l160, l255, l312, l320, l375, l1000, nI_ltI, nI_leI, nI_eq, nI_add, pk_mul, e_ix, e_neg, if_true, if_false, if_pos, if_neg, f_Hal_hang, a1 M o, h1]
      · simp (disch := omega) only [e_bnd, e_bnd2, e_set, e_cpy, e_nmI, e_nmL, e_ckn, e_ckB0, e_ckB1, l0, l1, l2, l3, l4, l5, l6, l7, l8, l9, l10, l11, l12, l13, l14, l15, l16, l17, l18, l19, l20, l21, l22, l24, l25, l32, l39, l40, l41, l48, l50, l56, l57, l59, l60, l72, l79, l80, l81, l82, l88, l89, l97, l100, l122, l124, l125, l160, l255, l312, l320, l375, l1000, nI_ltI, nI_leI, nI_eq, nI_add, pk_mul, e_ix, e_neg, if_true, if_false, if_pos, if_neg, f_Mod_hang, a2 M om, e2, h2]
  · refine ⟨-1, M, M, ?_, ?_, ⟨T, ⟨o, om, g⟩, hI, hS, hT, hF⟩⟩
    · simp (disch := omega) only [e_bnd, e_bnd2, e_set, e_cpy, e_nmI, e_nmL, e_ckn, e_ckB0, e_ckB1, l0, l1, l2, l3, l4, l5, l6, l7, l8, l9, l10, l11, l12, l13, l14, l15, l16, l17, l18, l19, l20, l21, l22, l24, l25, l32, l39, l40, l41, l48, l50, l56, l57, l59, l60, l72, l79, l80, l81, l82, l88, l89, l97, l100, l122, l124, l125, l160, l255, l312, l320, l375, l1000, nI_ltI, nI_leI, nI_eq, nI_add, pk_mul, e_ix, e_neg, if_true, if_false, if_pos, if_neg, f_Hal_hang, a1 M o]
    · simp (disch := omega) only [e_bnd, e_bnd2, e_set, e_cpy, e_nmI, e_nmL, e_ckn, e_ckB0, e_ckB1, l0, l1, l2, l3, l4, l5, l6, l7, l8, l9, l10, l11, l12, l13, l14, l15, l16, l17, l18, l19, l20, l21, l22, l24, l25, l32, l39, l40, l41, l48, l50, l56, l57, l59, l60, l72, l79, l80, l81, l82, l88, l89, l97, l100, l122, l124, l125, l160, l255, l312, l320, l375, l1000, nI_ltI, nI_leI, nI_eq, nI_add, pk_mul, e_ix, e_neg, if_true, if_false, if_pos, if_neg, f_Mod_hang, a2 M om]

theorem s_sit (x y : Int32) : Sim (f_Hal_sit x y) (f_Mod_sit x y) := by
  intro M ⟨T, hA, hI, hS, hT, hF⟩
  obtain ⟨o, om, g⟩ := hA
  have h9 := g.n
  rcases a_one g x with ⟨p, hp, rfl, a1, a2⟩ | ⟨a1, a2⟩
  · rcases a_bench g y with ⟨b, hb, rfl, b1, b2⟩ | ⟨b1, b2⟩
    · have hpT := g.p hp
      obtain ⟨w, hw1, hw2⟩ := sitw o g hb
      have c1 := c_seat o g hp
      rcases hw2 with ⟨q, hq, eq, rfl⟩ | ⟨hn, rfl⟩
      · have hw3 : ∀ N, OnM T N → f_Mod_whoOn N (nI b) = some (nI q) := fun N oN => m_who T N oN g hb (Or.inl ⟨q, hq, eq, rfl⟩)
        have M1d : ∃ M1, M1 = upd2 (upd2 M 3 q (nI (T 3 p))) 3 p (nI b) := ⟨_, rfl⟩
        obtain ⟨M1, hM1⟩ := M1d
        have o1 : On (tset (tset T 3 q (T 3 p)) 3 p b) M1 := by
          rw [hM1]
          exact On.tset (On.tset o (Or.inr (Or.inr rfl))) (Or.inr (Or.inr rfl))
        have f1 : Fr 3 3 M M1 := by
          rw [hM1]
          exact (Fr.rf.set (by decide) (by decide)).set (by decide) (by decide)
        have om1 : OnM T M1 := om.frc f1 (by decide)
        have o2 : On (tset (tset T 3 q (T 3 p)) 3 p b) (upd2 (upd2 M1 104 (82 + q) (nI (T 3 p))) 104 (82 + p) (nI b)) := o1.fr ((Fr.rf.set (lo := 104) (hi := 104) (by decide) (by decide)).set (by decide) (by decide)) (by decide)
        have om2 : OnM (tset (tset T 3 q (T 3 p)) 3 p b) (upd2 (upd2 M1 104 (82 + q) (nI (T 3 p))) 104 (82 + p) (nI b)) := (om1.tset (Or.inr (Or.inr ⟨rfl, rfl, by omega⟩))).tset (Or.inr (Or.inr ⟨rfl, rfl, by omega⟩))
        have kk : Kp M (upd2 (upd2 M1 104 (82 + q) (nI (T 3 p))) 104 (82 + p) (nI b)) := by
          rw [hM1]
          exact (((Kp.rf.set (by omega)).set (by omega)).set (by omega)).set (by omega)
        have v3 : ∀ r, tset (tset T 3 q (T 3 p)) 3 p b 3 r = if r = p then b else if r = q then T 3 p else T 3 r := fun r => by
          by_cases r1 : r = p
          · subst r1; rw [ts_eq, if_pos rfl]
          · rw [ts_nk r1, if_neg r1]
            by_cases r2 : r = q
            · subst r2; rw [ts_eq, if_pos rfl]
            · rw [ts_nk r2, if_neg r2]
        have g2 : Good (tset (tset T 3 q (T 3 p)) 3 p b) := ⟨g.w, g.h, g.fade, g.bounce, g.warm, g.n, fun c hc => g.c hc, fun r hr => by
          have := g.p (show r < T 1 5 from hr)
          rw [v3]
          show (if r = p then b else if r = q then T 3 p else T 3 r) < T 4 0
          split
          · exact hb
          · split
            · exact hpT
            · exact this, fun r s hr hs e => by
          rw [v3, v3] at e
          have i1 := g.pi (show r < T 1 5 from hr) (show s < T 1 5 from hs)
          have i2 := g.pi (show r < T 1 5 from hr) hq
          have i3 := g.pi (show s < T 1 5 from hs) hq
          have i4 := g.pi (show r < T 1 5 from hr) hp
          have i5 := g.pi (show s < T 1 5 from hs) hp
          by_cases r1 : r = p
          · rw [if_pos r1] at e
            by_cases s1 : s = p
            · omega
            · rw [if_neg s1] at e
              by_cases s2 : s = q
              · rw [if_pos s2] at e
                have := g.pi hp hq (by omega)
                omega
              · rw [if_neg s2] at e
                have := i3 (by omega)
                omega
          · rw [if_neg r1] at e
            by_cases r2 : r = q
            · rw [if_pos r2] at e
              by_cases s1 : s = p
              · rw [if_pos s1] at e
                have := g.pi hp hq (by omega)
                omega
              · rw [if_neg s1] at e
                by_cases s2 : s = q
                · omega
                · rw [if_neg s2] at e
                  have := i5 (by omega)
                  omega
            · rw [if_neg r2] at e
              by_cases s1 : s = p
              · rw [if_pos s1] at e
                have := i2 (by omega)
                omega
              · rw [if_neg s1] at e
                by_cases s2 : s = q
                · rw [if_pos s2] at e
                  have := i4 (by omega)
                  omega
                · rw [if_neg s2] at e
                  exact i1 e, fun b hb => g.b hb, ⟨g.nw, fun i hi => g.wi hi⟩, ⟨g.ns, fun i hi => g.v hi⟩⟩
        refine ⟨nI (T 3 p), M1, _, ?_, ?_, Inv.to (T := T) hI hS hT hF kk (fun a k h => ?_) ⟨o2, om2, g2⟩⟩
        · rw [hM1]
          have w1 : f_Hal_within (nI q) (nI 0) (nI 5) = some (nI 1) := w_yes (by omega) (by omega)
          have w2 : f_Hal_within (nI p) (nI 0) (nI 5) = some (nI 1) := w_yes (by omega) (by omega)
          simp (disch := omega) only [e_bnd, e_bnd2, e_set, e_cpy, e_nmI, e_nmL, e_ckn, e_ckB0, e_ckB1, l0, l1, l2, l3, l4, l5, l6, l7, l8, l9, l10, l11, l12, l13, l14, l15, l16, l17, l18, l19, l20, l21, l22, l24, l25, l32, l39, l40, l41, l48, l50, l56, l57, l59, l60, l72, l79, l80, l81, l82, l88, l89, l97, l100, l122, l124, l125, l160, l255, l312, l320, l375, l1000, nI_ltI, nI_leI, nI_eq, nI_add, pk_mul, e_ix, e_neg, if_true, if_false, if_pos, if_neg, f_Hal_sit, f_Tol_seatOn, f_Tol_seatOn_J30, a1 M o, b1 M o, hw1, c1, w1, w2, Nat.reduceAdd]
        · simp (disch := omega) only [e_bnd, e_bnd2, e_set, e_cpy, e_nmI, e_nmL, e_ckn, e_ckB0, e_ckB1, l0, l1, l2, l3, l4, l5, l6, l7, l8, l9, l10, l11, l12, l13, l14, l15, l16, l17, l18, l19, l20, l21, l22, l24, l25, l32, l39, l40, l41, l48, l50, l56, l57, l59, l60, l72, l79, l80, l81, l82, l88, l89, l97, l100, l122, l124, l125, l160, l255, l312, l320, l375, l1000, nI_ltI, nI_leI, nI_eq, nI_add, pk_mul, e_ix, e_neg, if_true, if_false, if_pos, if_neg, f_Mod_sit, f_Mod_sit_J53, a2 M1 om1, b2 M1 om1, hw3 M1 om1, om1.p (show p < 6 by omega)]
        · rw [chg_ts (T := tset T 3 q (T 3 p)) (a := 3) (k := p) rfl a k h, chg_ts (a := 3) (k := q) rfl a k h]
      · have hw3 : ∀ N, OnM T N → f_Mod_whoOn N (nI b) = some (-4) := fun N oN => m_who T N oN g hb (Or.inr ⟨hn, rfl⟩)
        have f1 : Fr 3 3 M (upd2 M 3 p (nI b)) := Fr.rf.set (by decide) (by decide)
        have om1 : OnM T (upd2 M 3 p (nI b)) := om.frc f1 (by decide)
        have o2 : On (tset T 3 p b) (upd2 (upd2 M 3 p (nI b)) 104 (82 + p) (nI b)) := (On.tset o (Or.inr (Or.inr rfl))).fr (Fr.rf.set (lo := 104) (hi := 104) (by decide) (by decide)) (by decide)
        have om2 : OnM (tset T 3 p b) (upd2 (upd2 M 3 p (nI b)) 104 (82 + p) (nI b)) := om1.tset (Or.inr (Or.inr ⟨rfl, rfl, by omega⟩))
        have v3 : ∀ r, tset T 3 p b 3 r = if r = p then b else T 3 r := fun r => by
          by_cases r1 : r = p
          · subst r1; rw [ts_eq, if_pos rfl]
          · rw [ts_nk r1, if_neg r1]
        have g2 : Good (tset T 3 p b) := ⟨g.w, g.h, g.fade, g.bounce, g.warm, g.n, fun c hc => g.c hc, fun r hr => by
          have := g.p (show r < T 1 5 from hr)
          rw [v3]
          show (if r = p then b else T 3 r) < T 4 0
          split
          · exact hb
          · exact this, fun r s hr hs e => by
          rw [v3, v3] at e
          have i1 := g.pi (show r < T 1 5 from hr) (show s < T 1 5 from hs)
          have i2 := hn r hr
          have i3 := hn s hs
          by_cases r1 : r = p
          · rw [if_pos r1] at e
            by_cases s1 : s = p
            · omega
            · rw [if_neg s1] at e
              omega
          · rw [if_neg r1] at e
            by_cases s1 : s = p
            · rw [if_pos s1] at e
              omega
            · rw [if_neg s1] at e
              exact i1 e, fun b hb => g.b hb, ⟨g.nw, fun i hi => g.wi hi⟩, ⟨g.ns, fun i hi => g.v hi⟩⟩
        refine ⟨nI (T 3 p), upd2 M 3 p (nI b), _, ?_, ?_, Inv.to (T := T) hI hS hT hF ((Kp.rf.set (by omega)).set (by omega)) (chg_ts rfl) ⟨o2, om2, g2⟩⟩
        · have w1 : f_Hal_within (-nI 4) (nI 0) (nI 5) = some (nI 0) := by decide +kernel
          have w2 : f_Hal_within (nI p) (nI 0) (nI 5) = some (nI 1) := w_yes (by omega) (by omega)
          simp (disch := omega) only [e_bnd, e_bnd2, e_set, e_cpy, e_nmI, e_nmL, e_ckn, e_ckB0, e_ckB1, l0, l1, l2, l3, l4, l5, l6, l7, l8, l9, l10, l11, l12, l13, l14, l15, l16, l17, l18, l19, l20, l21, l22, l24, l25, l32, l39, l40, l41, l48, l50, l56, l57, l59, l60, l72, l79, l80, l81, l82, l88, l89, l97, l100, l122, l124, l125, l160, l255, l312, l320, l375, l1000, nI_ltI, nI_leI, nI_eq, nI_add, pk_mul, e_ix, e_neg, if_true, if_false, if_pos, if_neg, f_Hal_sit, f_Tol_seatOn, f_Tol_seatOn_J30, a1 M o, b1 M o, hw1, c1, w1, w2, Nat.reduceAdd]
        · simp (disch := omega) only [e_bnd, e_bnd2, e_set, e_cpy, e_nmI, e_nmL, e_ckn, e_ckB0, e_ckB1, l0, l1, l2, l3, l4, l5, l6, l7, l8, l9, l10, l11, l12, l13, l14, l15, l16, l17, l18, l19, l20, l21, l22, l24, l25, l32, l39, l40, l41, l48, l50, l56, l57, l59, l60, l72, l79, l80, l81, l82, l88, l89, l97, l100, l122, l124, l125, l160, l255, l312, l320, l375, l1000, nI_ltI, nI_leI, nI_eq, nI_add, pk_mul, e_ix, e_neg, if_true, if_false, if_pos, if_neg, f_Mod_sit, f_Mod_sit_J53, a2 _ om1, b2 _ om1, hw3 _ om1, om1.p (show p < 6 by omega)]
    · refine ⟨-1, M, M, ?_, ?_, ⟨T, ⟨o, om, g⟩, hI, hS, hT, hF⟩⟩
      · simp (disch := omega) only [e_bnd, e_bnd2, e_set, e_cpy, e_nmI, e_nmL, e_ckn, e_ckB0, e_ckB1, l0, l1, l2, l3, l4, l5, l6, l7, l8, l9, l10, l11, l12, l13, l14, l15, l16, l17, l18, l19, l20, l21, l22, l24, l25, l32, l39, l40, l41, l48, l50, l56, l57, l59, l60, l72, l79, l80, l81, l82, l88, l89, l97, l100, l122, l124, l125, l160, l255, l312, l320, l375, l1000, nI_ltI, nI_leI, nI_eq, nI_add, pk_mul, e_ix, e_neg, if_true, if_false, if_pos, if_neg, f_Hal_sit, a1 M o, b1 M o]
      · simp (disch := omega) only [e_bnd, e_bnd2, e_set, e_cpy, e_nmI, e_nmL, e_ckn, e_ckB0, e_ckB1, l0, l1, l2, l3, l4, l5, l6, l7, l8, l9, l10, l11, l12, l13, l14, l15, l16, l17, l18, l19, l20, l21, l22, l24, l25, l32, l39, l40, l41, l48, l50, l56, l57, l59, l60, l72, l79, l80, l81, l82, l88, l89, l97, l100, l122, l124, l125, l160, l255, l312, l320, l375, l1000, nI_ltI, nI_leI, nI_eq, nI_add, pk_mul, e_ix, e_neg, if_true, if_false, if_pos, if_neg, f_Mod_sit, a2 M om, b2 M om]
  · refine ⟨-1, M, M, ?_, ?_, ⟨T, ⟨o, om, g⟩, hI, hS, hT, hF⟩⟩
    · simp (disch := omega) only [e_bnd, e_bnd2, e_set, e_cpy, e_nmI, e_nmL, e_ckn, e_ckB0, e_ckB1, l0, l1, l2, l3, l4, l5, l6, l7, l8, l9, l10, l11, l12, l13, l14, l15, l16, l17, l18, l19, l20, l21, l22, l24, l25, l32, l39, l40, l41, l48, l50, l56, l57, l59, l60, l72, l79, l80, l81, l82, l88, l89, l97, l100, l122, l124, l125, l160, l255, l312, l320, l375, l1000, nI_ltI, nI_leI, nI_eq, nI_add, pk_mul, e_ix, e_neg, if_true, if_false, if_pos, if_neg, f_Hal_sit, a1 M o]
    · simp (disch := omega) only [e_bnd, e_bnd2, e_set, e_cpy, e_nmI, e_nmL, e_ckn, e_ckB0, e_ckB1, l0, l1, l2, l3, l4, l5, l6, l7, l8, l9, l10, l11, l12, l13, l14, l15, l16, l17, l18, l19, l20, l21, l22, l24, l25, l32, l39, l40, l41, l48, l50, l56, l57, l59, l60, l72, l79, l80, l81, l82, l88, l89, l97, l100, l122, l124, l125, l160, l255, l312, l320, l375, l1000, nI_ltI, nI_leI, nI_eq, nI_add, pk_mul, e_ix, e_neg, if_true, if_false, if_pos, if_neg, f_Mod_sit, a2 M om]
end
section
/-! pure: a whisper's way, asked -/
theorem hst_in {T : Tn} {r : Nat} {q : PS} {cell e : Nat} (h : hst T r q cell e ≠ 0) : 1 ≤ hst T r q cell e ∧ hst T r q cell e ≤ plen T r q := by
  unfold hst at h ⊢
  split at h
  · next h2 =>
    rw [if_pos h2]
    rcases fj_sp (P := hP T q cell) (plen T r q) with ⟨h1, -⟩ | ⟨h1, h3, -⟩
    · exact absurd h1 h2.1
    · exact ⟨h1, h3⟩
  · exact absurd rfl h
section QQ
variable {T : Tn} {M : Mem}
theorem c_reach {c r s : Nat} {q : PS} (h : PthC c T r s q M) {k : Nat} (hk : k ≤ 40) : f_Cou_reaches c M (nI k) = some (nI (if k ≤ plen T r q then 1 else 0)) := by
  have hl := plen_le (T := T) (r := r) (q := q)
  by_cases h1 : k ≤ plen T r q
  · simp (disch := omega) only [e_bnd, e_bnd2, e_set, e_cpy, e_nmI, e_nmL, e_ckn, e_ckB0, e_ckB1, l0, l1, l2, l3, l4, l5, l6, l7, l8, l9, l10, l11, l12, l13, l14, l15, l16, l17, l18, l19, l20, l21, l22, l24, l25, l32, l39, l40, l41, l48, l50, l56, l57, l59, l60, l72, l79, l80, l81, l82, l88, l89, l97, l100, l122, l124, l125, l160, l255, l312, l320, l375, l1000, nI_ltI, nI_leI, nI_eq, nI_add, pk_mul, e_ix, e_neg, if_true, if_false, if_pos, if_neg, f_Cou_reaches, h.1]
  · simp (disch := omega) only [e_bnd, e_bnd2, e_set, e_cpy, e_nmI, e_nmL, e_ckn, e_ckB0, e_ckB1, l0, l1, l2, l3, l4, l5, l6, l7, l8, l9, l10, l11, l12, l13, l14, l15, l16, l17, l18, l19, l20, l21, l22, l24, l25, l32, l39, l40, l41, l48, l50, l56, l57, l59, l60, l72, l79, l80, l81, l82, l88, l89, l97, l100, l122, l124, l125, l160, l255, l312, l320, l375, l1000, nI_ltI, nI_leI, nI_eq, nI_add, pk_mul, e_ix, e_neg, if_true, if_false, if_pos, if_neg, f_Cou_reaches, h.1]
theorem c_cellAt (g : Good T) {c r s : Nat} {q : PS} (h : PthC c T r s q M) {k : Nat} (hk : k ≤ 40) : f_Cou_cellAt c M (nI k) = some (if k ≤ plen T r q then (if k = 0 then nI s else nI (pcq (pst T q k))) else -4) := by
  have hl := plen_le (T := T) (r := r) (q := q)
  by_cases h1 : k ≤ plen T r q
  · by_cases h0 : k = 0
    · subst h0
      simp (disch := omega) only [e_bnd, e_bnd2, e_set, e_cpy, e_nmI, e_nmL, e_ckn, e_ckB0, e_ckB1, l0, l1, l2, l3, l4, l5, l6, l7, l8, l9, l10, l11, l12, l13, l14, l15, l16, l17, l18, l19, l20, l21, l22, l24, l25, l32, l39, l40, l41, l48, l50, l56, l57, l59, l60, l72, l79, l80, l81, l82, l88, l89, l97, l100, l122, l124, l125, l160, l255, l312, l320, l375, l1000, nI_ltI, nI_leI, nI_eq, nI_add, pk_mul, e_ix, e_neg, if_true, if_false, if_pos, if_neg, f_Cou_cellAt, c_reach h hk, h.2.1]
    · simp (disch := omega) only [e_bnd, e_bnd2, e_set, e_cpy, e_nmI, e_nmL, e_ckn, e_ckB0, e_ckB1, l0, l1, l2, l3, l4, l5, l6, l7, l8, l9, l10, l11, l12, l13, l14, l15, l16, l17, l18, l19, l20, l21, l22, l24, l25, l32, l39, l40, l41, l48, l50, l56, l57, l59, l60, l72, l79, l80, l81, l82, l88, l89, l97, l100, l122, l124, l125, l160, l255, l312, l320, l375, l1000, nI_ltI, nI_leI, nI_eq, nI_add, pk_mul, e_ix, e_neg, if_true, if_false, if_pos, if_neg, f_Cou_cellAt, c_reach h hk, (h.2.2 k (by omega) h1).1]
  · simp (disch := omega) only [e_bnd, e_bnd2, e_set, e_cpy, e_nmI, e_nmL, e_ckn, e_ckB0, e_ckB1, l0, l1, l2, l3, l4, l5, l6, l7, l8, l9, l10, l11, l12, l13, l14, l15, l16, l17, l18, l19, l20, l21, l22, l24, l25, l32, l39, l40, l41, l48, l50, l56, l57, l59, l60, l72, l79, l80, l81, l82, l88, l89, l97, l100, l122, l124, l125, l160, l255, l312, l320, l375, l1000, nI_ltI, nI_leI, nI_eq, nI_add, pk_mul, e_ix, e_neg, if_true, if_false, if_pos, if_neg, f_Cou_cellAt, c_reach h hk]
theorem c_loudAt {c r s : Nat} {q : PS} (h : PthC c T r s q M) {k : Nat} (h0 : 1 ≤ k) (h1 : k ≤ plen T r q) : f_Cou_loudAt c M (nI k) = some (J (plo T k (pst T q k).2.2.2.2)) := by
  have hl := plen_le (T := T) (r := r) (q := q)
  simp (disch := omega) only [e_bnd, e_bnd2, e_set, e_cpy, e_nmI, e_nmL, e_ckn, e_ckB0, e_ckB1, l0, l1, l2, l3, l4, l5, l6, l7, l8, l9, l10, l11, l12, l13, l14, l15, l16, l17, l18, l19, l20, l21, l22, l24, l25, l32, l39, l40, l41, l48, l50, l56, l57, l59, l60, l72, l79, l80, l81, l82, l88, l89, l97, l100, l122, l124, l125, l160, l255, l312, l320, l375, l1000, nI_ltI, nI_leI, nI_eq, nI_add, pk_mul, e_ix, e_neg, if_true, if_false, if_pos, if_neg, f_Cou_loudAt, c_reach h (show k ≤ 40 by omega), (h.2.2 k h0 h1).2.1]
theorem c_bounceAt {c r s : Nat} {q : PS} (h : PthC c T r s q M) {k : Nat} (h0 : 1 ≤ k) (h1 : k ≤ plen T r q) : f_Cou_bouncesAt c M (nI k) = some (J (pst T q k).2.2.2.2) := by
  have hl := plen_le (T := T) (r := r) (q := q)
  simp (disch := omega) only [e_bnd, e_bnd2, e_set, e_cpy, e_nmI, e_nmL, e_ckn, e_ckB0, e_ckB1, l0, l1, l2, l3, l4, l5, l6, l7, l8, l9, l10, l11, l12, l13, l14, l15, l16, l17, l18, l19, l20, l21, l22, l24, l25, l32, l39, l40, l41, l48, l50, l56, l57, l59, l60, l72, l79, l80, l81, l82, l88, l89, l97, l100, l122, l124, l125, l160, l255, l312, l320, l375, l1000, nI_ltI, nI_leI, nI_eq, nI_add, pk_mul, e_ix, e_neg, if_true, if_false, if_pos, if_neg, f_Cou_bouncesAt, c_reach h (show k ≤ 40 by omega), (h.2.2 k h0 h1).2.2]
end QQ
theorem s_way (x y z : Int32) : Sim (f_Hal_way x y z) (f_Mod_way x y z) := by
  intro M ⟨T, hA, hI, hS, hT, hF⟩
  obtain ⟨o, om, g⟩ := id hA
  have e40 : f_Mod_in z.toInt64 0 40 = f_Mod_in z.toInt64 0 (nI 40).toInt64 := rfl
  rcases a_bench g x with ⟨b, hb, rfl, a1, a2⟩ | ⟨a1, a2⟩
  · rcases a_hour y with ⟨h, hh, rfl, b1, b2⟩ | ⟨b1, b2⟩
    · rcases wi z (m := 40) (by decide) with ⟨i, hi, rfl, d1, d2⟩ | ⟨d1, d2, -⟩
      · obtain ⟨M1, p1, p2, p3⟩ := c_whisper (gg := 72) o g hb hh (by decide)
        have hA1 := hA.frc p2 (by decide) (by decide)
        obtain ⟨M2, q1, q2, q3⟩ := m_layOf (h := h) hA1.2.1 g hb hh
        refine ⟨if i ≤ plen T (rsd T b) (qb T b h) then (if i = 0 then nI (cel T b h) else nI (pcq (pst T (qb T b h) i))) else -4, M1, M2, ?_, ?_, Inv.to hI hS hT hF ((p2.kp (by decide) (by decide)).tr q2.m.kp) (fun _ _ _ => rfl) (hA1.frm q2.m)⟩
        · unfold f_Hal_way
          rw [a1 M o, e_bnd, if_neg (by decide), b1, e_bnd, if_neg (by decide), show (0 : Int32) = nI 0 from rfl, show (40 : Int32) = nI 40 from rfl, d1, e_bnd, if_neg (by decide), p1, e_bnd, c_cellAt g p3 hi, e_bnd]
        · have hl := plen_le (T := T) (r := rsd T b) (q := qb T b h)
          by_cases h1 : i ≤ plen T (rsd T b) (qb T b h)
          · by_cases h0 : i = 0
            · subst h0
              simp (disch := omega) only [e_bnd, e_bnd2, e_set, e_cpy, e_nmI, e_nmL, e_ckn, e_ckB0, e_ckB1, l0, l1, l2, l3, l4, l5, l6, l7, l8, l9, l10, l11, l12, l13, l14, l15, l16, l17, l18, l19, l20, l21, l22, l24, l25, l32, l39, l40, l41, l48, l50, l56, l57, l59, l60, l72, l79, l80, l81, l82, l88, l89, l97, l100, l122, l124, l125, l160, l255, l312, l320, l375, l1000, nI_ltI, nI_leI, nI_eq, nI_add, pk_mul, e_ix, e_neg, if_true, if_false, if_pos, if_neg, f_Mod_way, a2 M1 hA1.2.1, b2, e40, d2, q1, q3.1, q3.2.1]
            · simp (disch := omega) only [e_bnd, e_bnd2, e_set, e_cpy, e_nmI, e_nmL, e_ckn, e_ckB0, e_ckB1, l0, l1, l2, l3, l4, l5, l6, l7, l8, l9, l10, l11, l12, l13, l14, l15, l16, l17, l18, l19, l20, l21, l22, l24, l25, l32, l39, l40, l41, l48, l50, l56, l57, l59, l60, l72, l79, l80, l81, l82, l88, l89, l97, l100, l122, l124, l125, l160, l255, l312, l320, l375, l1000, nI_ltI, nI_leI, nI_eq, nI_add, pk_mul, e_ix, e_neg, if_true, if_false, if_pos, if_neg, f_Mod_way, a2 M1 hA1.2.1, b2, e40, d2, q1, q3.1, (q3.2.2 i (by omega) h1).1]
          · simp (disch := omega) only [e_bnd, e_bnd2, e_set, e_cpy, e_nmI, e_nmL, e_ckn, e_ckB0, e_ckB1, l0, l1, l2, l3, l4, l5, l6, l7, l8, l9, l10, l11, l12, l13, l14, l15, l16, l17, l18, l19, l20, l21, l22, l24, l25, l32, l39, l40, l41, l48, l50, l56, l57, l59, l60, l72, l79, l80, l81, l82, l88, l89, l97, l100, l122, l124, l125, l160, l255, l312, l320, l375, l1000, nI_ltI, nI_leI, nI_eq, nI_add, pk_mul, e_ix, e_neg, if_true, if_false, if_pos, if_neg, f_Mod_way, a2 M1 hA1.2.1, b2, e40, d2, q1, q3.1]
      · refine ⟨-1, M, M, ?_, ?_, ⟨T, hA, hI, hS, hT, hF⟩⟩
        · simp (disch := omega) only [e_bnd, e_bnd2, e_set, e_cpy, e_nmI, e_nmL, e_ckn, e_ckB0, e_ckB1, l0, l1, l2, l3, l4, l5, l6, l7, l8, l9, l10, l11, l12, l13, l14, l15, l16, l17, l18, l19, l20, l21, l22, l24, l25, l32, l39, l40, l41, l48, l50, l56, l57, l59, l60, l72, l79, l80, l81, l82, l88, l89, l97, l100, l122, l124, l125, l160, l255, l312, l320, l375, l1000, nI_ltI, nI_leI, nI_eq, nI_add, pk_mul, e_ix, e_neg, if_true, if_false, if_pos, if_neg, f_Hal_way, a1 M o, b1, d1]
        · simp (disch := omega) only [e_bnd, e_bnd2, e_set, e_cpy, e_nmI, e_nmL, e_ckn, e_ckB0, e_ckB1, l0, l1, l2, l3, l4, l5, l6, l7, l8, l9, l10, l11, l12, l13, l14, l15, l16, l17, l18, l19, l20, l21, l22, l24, l25, l32, l39, l40, l41, l48, l50, l56, l57, l59, l60, l72, l79, l80, l81, l82, l88, l89, l97, l100, l122, l124, l125, l160, l255, l312, l320, l375, l1000, nI_ltI, nI_leI, nI_eq, nI_add, pk_mul, e_ix, e_neg, if_true, if_false, if_pos, if_neg, f_Mod_way, a2 M om, b2, e40, d2]
    · refine ⟨-1, M, M, ?_, ?_, ⟨T, hA, hI, hS, hT, hF⟩⟩
      · simp (disch := omega) only [e_bnd, e_bnd2, e_set, e_cpy, e_nmI, e_nmL, e_ckn, e_ckB0, e_ckB1, l0, l1, l2, l3, l4, l5, l6, l7, l8, l9, l10, l11, l12, l13, l14, l15, l16, l17, l18, l19, l20, l21, l22, l24, l25, l32, l39, l40, l41, l48, l50, l56, l57, l59, l60, l72, l79, l80, l81, l82, l88, l89, l97, l100, l122, l124, l125, l160, l255, l312, l320, l375, l1000, nI_ltI, nI_leI, nI_eq, nI_add, pk_mul, e_ix, e_neg, if_true, if_false, if_pos, if_neg, f_Hal_way, a1 M o, b1]
      · simp (disch := omega) only [e_bnd, e_bnd2, e_set, e_cpy, e_nmI, e_nmL, e_ckn, e_ckB0, e_ckB1, l0, l1, l2, l3, l4, l5, l6, l7, l8, l9, l10, l11, l12, l13, l14, l15, l16, l17, l18, l19, l20, l21, l22, l24, l25, l32, l39, l40, l41, l48, l50, l56, l57, l59, l60, l72, l79, l80, l81, l82, l88, l89, l97, l100, l122, l124, l125, l160, l255, l312, l320, l375, l1000, nI_ltI, nI_leI, nI_eq, nI_add, pk_mul, e_ix, e_neg, if_true, if_false, if_pos, if_neg, f_Mod_way, a2 M om, b2]
  · refine ⟨-1, M, M, ?_, ?_, ⟨T, hA, hI, hS, hT, hF⟩⟩
    · simp (disch := omega) only [e_bnd, e_bnd2, e_set, e_cpy, e_nmI, e_nmL, e_ckn, e_ckB0, e_ckB1, l0, l1, l2, l3, l4, l5, l6, l7, l8, l9, l10, l11, l12, l13, l14, l15, l16, l17, l18, l19, l20, l21, l22, l24, l25, l32, l39, l40, l41, l48, l50, l56, l57, l59, l60, l72, l79, l80, l81, l82, l88, l89, l97, l100, l122, l124, l125, l160, l255, l312, l320, l375, l1000, nI_ltI, nI_leI, nI_eq, nI_add, pk_mul, e_ix, e_neg, if_true, if_false, if_pos, if_neg, f_Hal_way, a1 M o]
    · simp (disch := omega) only [e_bnd, e_bnd2, e_set, e_cpy, e_nmI, e_nmL, e_ckn, e_ckB0, e_ckB1, l0, l1, l2, l3, l4, l5, l6, l7, l8, l9, l10, l11, l12, l13, l14, l15, l16, l17, l18, l19, l20, l21, l22, l24, l25, l32, l39, l40, l41, l48, l50, l56, l57, l59, l60, l72, l79, l80, l81, l82, l88, l89, l97, l100, l122, l124, l125, l160, l255, l312, l320, l375, l1000, nI_ltI, nI_leI, nI_eq, nI_add, pk_mul, e_ix, e_neg, if_true, if_false, if_pos, if_neg, f_Mod_way, a2 M om]
theorem s_steps (x y : Int32) : Sim (f_Hal_steps x y) (f_Mod_steps x y) := by
  intro M ⟨T, hA, hI, hS, hT, hF⟩
  obtain ⟨o, om, g⟩ := id hA
  rcases a_bench g x with ⟨b, hb, rfl, a1, a2⟩ | ⟨a1, a2⟩
  · rcases a_hour y with ⟨h, hh, rfl, b1, b2⟩ | ⟨b1, b2⟩
    · obtain ⟨M1, p1, p2, p3⟩ := c_whisper (gg := 72) o g hb hh (by decide)
      have hA1 := hA.frc p2 (by decide) (by decide)
      obtain ⟨M2, q1, q2, q3⟩ := m_layOf (h := h) hA1.2.1 g hb hh
      refine ⟨nI (plen T (rsd T b) (qb T b h)), M1, M2, ?_, ?_, Inv.to hI hS hT hF ((p2.kp (by decide) (by decide)).tr q2.m.kp) (fun _ _ _ => rfl) (hA1.frm q2.m)⟩
      · simp (disch := omega) only [e_bnd, e_bnd2, e_set, e_cpy, e_nmI, e_nmL, e_ckn, e_ckB0, e_ckB1, l0, l1, l2, l3, l4, l5, l6, l7, l8, l9, l10, l11, l12, l13, l14, l15, l16, l17, l18, l19, l20, l21, l22, l24, l25, l32, l39, l40, l41, l48, l50, l56, l57, l59, l60, l72, l79, l80, l81, l82, l88, l89, l97, l100, l122, l124, l125, l160, l255, l312, l320, l375, l1000, nI_ltI, nI_leI, nI_eq, nI_add, pk_mul, e_ix, e_neg, if_true, if_false, if_pos, if_neg, f_Hal_steps, a1 M o, b1, p1, show M1 73 0 = nI (plen T (rsd T b) (qb T b h)) from p3.1]
      · simp (disch := omega) only [e_bnd, e_bnd2, e_set, e_cpy, e_nmI, e_nmL, e_ckn, e_ckB0, e_ckB1, l0, l1, l2, l3, l4, l5, l6, l7, l8, l9, l10, l11, l12, l13, l14, l15, l16, l17, l18, l19, l20, l21, l22, l24, l25, l32, l39, l40, l41, l48, l50, l56, l57, l59, l60, l72, l79, l80, l81, l82, l88, l89, l97, l100, l122, l124, l125, l160, l255, l312, l320, l375, l1000, nI_ltI, nI_leI, nI_eq, nI_add, pk_mul, e_ix, e_neg, if_true, if_false, if_pos, if_neg, f_Mod_steps, a2 M1 hA1.2.1, b2, q1, q3.1]
    · refine ⟨-1, M, M, ?_, ?_, ⟨T, hA, hI, hS, hT, hF⟩⟩
      · simp (disch := omega) only [e_bnd, e_bnd2, e_set, e_cpy, e_nmI, e_nmL, e_ckn, e_ckB0, e_ckB1, l0, l1, l2, l3, l4, l5, l6, l7, l8, l9, l10, l11, l12, l13, l14, l15, l16, l17, l18, l19, l20, l21, l22, l24, l25, l32, l39, l40, l41, l48, l50, l56, l57, l59, l60, l72, l79, l80, l81, l82, l88, l89, l97, l100, l122, l124, l125, l160, l255, l312, l320, l375, l1000, nI_ltI, nI_leI, nI_eq, nI_add, pk_mul, e_ix, e_neg, if_true, if_false, if_pos, if_neg, f_Hal_steps, a1 M o, b1]
      · simp (disch := omega) only [e_bnd, e_bnd2, e_set, e_cpy, e_nmI, e_nmL, e_ckn, e_ckB0, e_ckB1, l0, l1, l2, l3, l4, l5, l6, l7, l8, l9, l10, l11, l12, l13, l14, l15, l16, l17, l18, l19, l20, l21, l22, l24, l25, l32, l39, l40, l41, l48, l50, l56, l57, l59, l60, l72, l79, l80, l81, l82, l88, l89, l97, l100, l122, l124, l125, l160, l255, l312, l320, l375, l1000, nI_ltI, nI_leI, nI_eq, nI_add, pk_mul, e_ix, e_neg, if_true, if_false, if_pos, if_neg, f_Mod_steps, a2 M om, b2]
  · refine ⟨-1, M, M, ?_, ?_, ⟨T, hA, hI, hS, hT, hF⟩⟩
    · simp (disch := omega) only [e_bnd, e_bnd2, e_set, e_cpy, e_nmI, e_nmL, e_ckn, e_ckB0, e_ckB1, l0, l1, l2, l3, l4, l5, l6, l7, l8, l9, l10, l11, l12, l13, l14, l15, l16, l17, l18, l19, l20, l21, l22, l24, l25, l32, l39, l40, l41, l48, l50, l56, l57, l59, l60, l72, l79, l80, l81, l82, l88, l89, l97, l100, l122, l124, l125, l160, l255, l312, l320, l375, l1000, nI_ltI, nI_leI, nI_eq, nI_add, pk_mul, e_ix, e_neg, if_true, if_false, if_pos, if_neg, f_Hal_steps, a1 M o]
    · simp (disch := omega) only [e_bnd, e_bnd2, e_set, e_cpy, e_nmI, e_nmL, e_ckn, e_ckB0, e_ckB1, l0, l1, l2, l3, l4, l5, l6, l7, l8, l9, l10, l11, l12, l13, l14, l15, l16, l17, l18, l19, l20, l21, l22, l24, l25, l32, l39, l40, l41, l48, l50, l56, l57, l59, l60, l72, l79, l80, l81, l82, l88, l89, l97, l100, l122, l124, l125, l160, l255, l312, l320, l375, l1000, nI_ltI, nI_leI, nI_eq, nI_add, pk_mul, e_ix, e_neg, if_true, if_false, if_pos, if_neg, f_Mod_steps, a2 M om]
theorem s_hears (x c y z : Int32) : Sim (f_Hal_hears x c y z) (f_Mod_hears x c y z) := by
  intro M ⟨T, hA, hI, hS, hT, hF⟩
  obtain ⟨o, om, g⟩ := id hA
  have h9 := g.n
  have e2 : f_Mod_in z.toInt64 0 2 = f_Mod_in z.toInt64 0 (nI 2).toInt64 := rfl
  rcases a_bench g x with ⟨b, hb, rfl, a1, a2⟩ | ⟨a1, a2⟩
  · rcases a_bench g c with ⟨d, hd, rfl, d1, d2⟩ | ⟨d1, d2⟩
    · by_cases hbd : b = d
      · refine ⟨-1, M, M, ?_, ?_, ⟨T, hA, hI, hS, hT, hF⟩⟩
        · simp (disch := omega) only [e_bnd, e_bnd2, e_set, e_cpy, e_nmI, e_nmL, e_ckn, e_ckB0, e_ckB1, l0, l1, l2, l3, l4, l5, l6, l7, l8, l9, l10, l11, l12, l13, l14, l15, l16, l17, l18, l19, l20, l21, l22, l24, l25, l32, l39, l40, l41, l48, l50, l56, l57, l59, l60, l72, l79, l80, l81, l82, l88, l89, l97, l100, l122, l124, l125, l160, l255, l312, l320, l375, l1000, nI_ltI, nI_leI, nI_eq, nI_add, pk_mul, e_ix, e_neg, if_true, if_false, if_pos, if_neg, f_Hal_hears, a1 M o, d1 M o]
        · simp (disch := omega) only [e_bnd, e_bnd2, e_set, e_cpy, e_nmI, e_nmL, e_ckn, e_ckB0, e_ckB1, l0, l1, l2, l3, l4, l5, l6, l7, l8, l9, l10, l11, l12, l13, l14, l15, l16, l17, l18, l19, l20, l21, l22, l24, l25, l32, l39, l40, l41, l48, l50, l56, l57, l59, l60, l72, l79, l80, l81, l82, l88, l89, l97, l100, l122, l124, l125, l160, l255, l312, l320, l375, l1000, nI_ltI, nI_leI, nI_eq, nI_add, pk_mul, e_ix, e_neg, if_true, if_false, if_pos, if_neg, f_Mod_hears, a2 M om, d2 M om]
      · rcases a_hour y with ⟨h, hh, rfl, b1, b2⟩ | ⟨b1, b2⟩
        · rcases wi z (m := 2) (by decide) with ⟨i, hi, rfl, f1, f2⟩ | ⟨f1, f2, -⟩
          · obtain ⟨M1, p1, p2, p3⟩ := c_whisper (gg := 72) o g hb hh (by decide)
            have hA1 := hA.frc p2 (by decide) (by decide)
            obtain ⟨M2, q1, q2, q3⟩ := m_layOf (h := h) hA1.2.1 g hb hh
            have hA2 := hA1.frm q2.m
            have hq := qb_in (h := h) g hb
            have st1 : f_Hea_stepOfHearing 72 M1 (nI d) (nI h) = some (nI (hst T (rsd T b) (qb T b h) (cel T d h) (ear T d))) := by
              unfold f_Hea_stepOfHearing
              rw [c_cell hA1.1 g hd hh, e_bnd, c_ear hA1.1 g hd, e_bnd, c_step g hq p3 (cel_lt g hd).1 (ear_lt g hd).2, e_bnd]
            have st2 := m_step hA2.2.1 g hq q3 hd hh
            have kk : Kp M M2 := (p2.kp (by decide) (by decide)).tr q2.m.kp
            have hl := hst_le (T := T) (r := rsd T b) (q := qb T b h) (cell := cel T d h) (e := ear T d)
            have hpl := plen_le (T := T) (r := rsd T b) (q := qb T b h)
            have hin := hst_in (T := T) (r := rsd T b) (q := qb T b h) (cell := cel T d h) (e := ear T d)
            generalize hk : hst T (rsd T b) (qb T b h) (cel T d h) (ear T d) = k at st1 st2 hl hin
            by_cases h0 : k = 0
            · refine ⟨-4, M1, M2, ?_, ?_, Inv.to hI hS hT hF kk (fun _ _ _ => rfl) hA2⟩
              · simp (disch := omega) only [e_bnd, e_bnd2, e_set, e_cpy, e_nmI, e_nmL, e_ckn, e_ckB0, e_ckB1, l0, l1, l2, l3, l4, l5, l6, l7, l8, l9, l10, l11, l12, l13, l14, l15, l16, l17, l18, l19, l20, l21, l22, l24, l25, l32, l39, l40, l41, l48, l50, l56, l57, l59, l60, l72, l79, l80, l81, l82, l88, l89, l97, l100, l122, l124, l125, l160, l255, l312, l320, l375, l1000, nI_ltI, nI_leI, nI_eq, nI_add, pk_mul, e_ix, e_neg, if_true, if_false, if_pos, if_neg, f_Hal_hears, a1 M o, d1 M o, b1, f1, p1, st1]
              · unfold f_Mod_hears
                rw [a2 M1 hA1.2.1, e_bnd, if_neg (by decide), d2 M1 hA1.2.1, e_bnd, if_neg (by decide), if_neg (by rw [nI_eq (by omega) (by omega)]; exact hbd), b2, e_bnd, if_neg (by decide), e2, f2, e_bnd, if_neg (by decide), q1, e_bnd, st2, e_bnd, if_pos (by rw [enc_4 (by omega)]; exact h0)]
            · have hin2 := hin h0
              have enk : enc k = nI k := if_neg h0
              have enk4 : ¬ (nI k = -nI 4) := by rw [e_neg (by omega) (by omega) (by omega)]; exact id
              rw [enk] at st2
              rcases (show i = 0 ∨ i = 1 ∨ i = 2 by omega) with rfl | rfl | rfl
              · refine ⟨J (plo T k (pst T (qb T b h) k).2.2.2.2), M1, M2, ?_, ?_, Inv.to hI hS hT hF kk (fun _ _ _ => rfl) hA2⟩
                · simp (disch := omega) only [e_bnd, e_bnd2, e_set, e_cpy, e_nmI, e_nmL, e_ckn, e_ckB0, e_ckB1, l0, l1, l2, l3, l4, l5, l6, l7, l8, l9, l10, l11, l12, l13, l14, l15, l16, l17, l18, l19, l20, l21, l22, l24, l25, l32, l39, l40, l41, l48, l50, l56, l57, l59, l60, l72, l79, l80, l81, l82, l88, l89, l97, l100, l122, l124, l125, l160, l255, l312, l320, l375, l1000, nI_ltI, nI_leI, nI_eq, nI_add, pk_mul, e_ix, e_neg, if_true, if_false, if_pos, if_neg, f_Hal_hears, a1 M o, d1 M o, b1, f1, p1, st1, c_loudAt p3 hin2.1 hin2.2]
                · simp (disch := omega) only [e_bnd, e_bnd2, e_set, e_cpy, e_nmI, e_nmL, e_ckn, e_ckB0, e_ckB1, l0, l1, l2, l3, l4, l5, l6, l7, l8, l9, l10, l11, l12, l13, l14, l15, l16, l17, l18, l19, l20, l21, l22, l24, l25, l32, l39, l40, l41, l48, l50, l56, l57, l59, l60, l72, l79, l80, l81, l82, l88, l89, l97, l100, l122, l124, l125, l160, l255, l312, l320, l375, l1000, nI_ltI, nI_leI, nI_eq, nI_add, pk_mul, e_ix, e_neg, if_true, if_false, if_pos, if_neg, f_Mod_hears, a2 M1 hA1.2.1, d2 M1 hA1.2.1, b2, e2, f2, q1, st2, m_loud hA2.2.1 g hq q3 hin2.1 hin2.2]
              · refine ⟨nI k, M1, M2, ?_, ?_, Inv.to hI hS hT hF kk (fun _ _ _ => rfl) hA2⟩
                · simp (disch := omega) only [e_bnd, e_bnd2, e_set, e_cpy, e_nmI, e_nmL, e_ckn, e_ckB0, e_ckB1, l0, l1, l2, l3, l4, l5, l6, l7, l8, l9, l10, l11, l12, l13, l14, l15, l16, l17, l18, l19, l20, l21, l22, l24, l25, l32, l39, l40, l41, l48, l50, l56, l57, l59, l60, l72, l79, l80, l81, l82, l88, l89, l97, l100, l122, l124, l125, l160, l255, l312, l320, l375, l1000, nI_ltI, nI_leI, nI_eq, nI_add, pk_mul, e_ix, e_neg, if_true, if_false, if_pos, if_neg, f_Hal_hears, a1 M o, d1 M o, b1, f1, p1, st1]
                · simp (disch := omega) only [e_bnd, e_bnd2, e_set, e_cpy, e_nmI, e_nmL, e_ckn, e_ckB0, e_ckB1, l0, l1, l2, l3, l4, l5, l6, l7, l8, l9, l10, l11, l12, l13, l14, l15, l16, l17, l18, l19, l20, l21, l22, l24, l25, l32, l39, l40, l41, l48, l50, l56, l57, l59, l60, l72, l79, l80, l81, l82, l88, l89, l97, l100, l122, l124, l125, l160, l255, l312, l320, l375, l1000, nI_ltI, nI_leI, nI_eq, nI_add, pk_mul, e_ix, e_neg, if_true, if_false, if_pos, if_neg, f_Mod_hears, a2 M1 hA1.2.1, d2 M1 hA1.2.1, b2, e2, f2, q1, st2]
              · refine ⟨J (pst T (qb T b h) k).2.2.2.2, M1, M2, ?_, ?_, Inv.to hI hS hT hF kk (fun _ _ _ => rfl) hA2⟩
                · simp (disch := omega) only [e_bnd, e_bnd2, e_set, e_cpy, e_nmI, e_nmL, e_ckn, e_ckB0, e_ckB1, l0, l1, l2, l3, l4, l5, l6, l7, l8, l9, l10, l11, l12, l13, l14, l15, l16, l17, l18, l19, l20, l21, l22, l24, l25, l32, l39, l40, l41, l48, l50, l56, l57, l59, l60, l72, l79, l80, l81, l82, l88, l89, l97, l100, l122, l124, l125, l160, l255, l312, l320, l375, l1000, nI_ltI, nI_leI, nI_eq, nI_add, pk_mul, e_ix, e_neg, if_true, if_false, if_pos, if_neg, f_Hal_hears, a1 M o, d1 M o, b1, f1, p1, st1, c_bounceAt p3 hin2.1 hin2.2]
                · simp (disch := omega) only [e_bnd, e_bnd2, e_set, e_cpy, e_nmI, e_nmL, e_ckn, e_ckB0, e_ckB1, l0, l1, l2, l3, l4, l5, l6, l7, l8, l9, l10, l11, l12, l13, l14, l15, l16, l17, l18, l19, l20, l21, l22, l24, l25, l32, l39, l40, l41, l48, l50, l56, l57, l59, l60, l72, l79, l80, l81, l82, l88, l89, l97, l100, l122, l124, l125, l160, l255, l312, l320, l375, l1000, nI_ltI, nI_leI, nI_eq, nI_add, pk_mul, e_ix, e_neg, if_true, if_false, if_pos, if_neg, f_Mod_hears, a2 M1 hA1.2.1, d2 M1 hA1.2.1, b2, e2, f2, q1, st2, (q3.2.2 k hin2.1 hin2.2).2]
          · refine ⟨-1, M, M, ?_, ?_, ⟨T, hA, hI, hS, hT, hF⟩⟩
            · simp (disch := omega) only [e_bnd, e_bnd2, e_set, e_cpy, e_nmI, e_nmL, e_ckn, e_ckB0, e_ckB1, l0, l1, l2, l3, l4, l5, l6, l7, l8, l9, l10, l11, l12, l13, l14, l15, l16, l17, l18, l19, l20, l21, l22, l24, l25, l32, l39, l40, l41, l48, l50, l56, l57, l59, l60, l72, l79, l80, l81, l82, l88, l89, l97, l100, l122, l124, l125, l160, l255, l312, l320, l375, l1000, nI_ltI, nI_leI, nI_eq, nI_add, pk_mul, e_ix, e_neg, if_true, if_false, if_pos, if_neg, f_Hal_hears, a1 M o, d1 M o, b1, f1]
            · simp (disch := omega) only [e_bnd, e_bnd2, e_set, e_cpy, e_nmI, e_nmL, e_ckn, e_ckB0, e_ckB1, l0, l1, l2, l3, l4, l5, l6, l7, l8, l9, l10, l11, l12, l13, l14, l15, l16, l17, l18, l19, l20, l21, l22, l24, l25, l32, l39, l40, l41, l48, l50, l56, l57, l59, l60, l72, l79, l80, l81, l82, l88, l89, l97, l100, l122, l124, l125, l160, l255, l312, l320, l375, l1000, nI_ltI, nI_leI, nI_eq, nI_add, pk_mul, e_ix, e_neg, if_true, if_false, if_pos, if_neg, f_Mod_hears, a2 M om, d2 M om, b2, e2, f2]
        · refine ⟨-1, M, M, ?_, ?_, ⟨T, hA, hI, hS, hT, hF⟩⟩
          · simp (disch := omega) only [e_bnd, e_bnd2, e_set, e_cpy, e_nmI, e_nmL, e_ckn, e_ckB0, e_ckB1, l0, l1, l2, l3, l4, l5, l6, l7, l8, l9, l10, l11, l12, l13, l14, l15, l16, l17, l18, l19, l20, l21, l22, l24, l25, l32, l39, l40, l41, l48, l50, l56, l57, l59, l60, l72, l79, l80, l81, l82, l88, l89, l97, l100, l122, l124, l125, l160, l255, l312, l320, l375, l1000, nI_ltI, nI_leI, nI_eq, nI_add, pk_mul, e_ix, e_neg, if_true, if_false, if_pos, if_neg, f_Hal_hears, a1 M o, d1 M o, b1]
          · simp (disch := omega) only [e_bnd, e_bnd2, e_set, e_cpy, e_nmI, e_nmL, e_ckn, e_ckB0, e_ckB1, l0, l1, l2, l3, l4, l5, l6, l7, l8, l9, l10, l11, l12, l13, l14, l15, l16, l17, l18, l19, l20, l21, l22, l24, l25, l32, l39, l40, l41, l48, l50, l56, l57, l59, l60, l72, l79, l80, l81, l82, l88, l89, l97, l100, l122, l124, l125, l160, l255, l312, l320, l375, l1000, nI_ltI, nI_leI, nI_eq, nI_add, pk_mul, e_ix, e_neg, if_true, if_false, if_pos, if_neg, f_Mod_hears, a2 M om, d2 M om, b2]
    · refine ⟨-1, M, M, ?_, ?_, ⟨T, hA, hI, hS, hT, hF⟩⟩
      · simp (disch := omega) only [e_bnd, e_bnd2, e_set, e_cpy, e_nmI, e_nmL, e_ckn, e_ckB0, e_ckB1, l0, l1, l2, l3, l4, l5, l6, l7, l8, l9, l10, l11, l12, l13, l14, l15, l16, l17, l18, l19, l20, l21, l22, l24, l25, l32, l39, l40, l41, l48, l50, l56, l57, l59, l60, l72, l79, l80, l81, l82, l88, l89, l97, l100, l122, l124, l125, l160, l255, l312, l320, l375, l1000, nI_ltI, nI_leI, nI_eq, nI_add, pk_mul, e_ix, e_neg, if_true, if_false, if_pos, if_neg, f_Hal_hears, a1 M o, d1 M o]
      · simp (disch := omega) only [e_bnd, e_bnd2, e_set, e_cpy, e_nmI, e_nmL, e_ckn, e_ckB0, e_ckB1, l0, l1, l2, l3, l4, l5, l6, l7, l8, l9, l10, l11, l12, l13, l14, l15, l16, l17, l18, l19, l20, l21, l22, l24, l25, l32, l39, l40, l41, l48, l50, l56, l57, l59, l60, l72, l79, l80, l81, l82, l88, l89, l97, l100, l122, l124, l125, l160, l255, l312, l320, l375, l1000, nI_ltI, nI_leI, nI_eq, nI_add, pk_mul, e_ix, e_neg, if_true, if_false, if_pos, if_neg, f_Mod_hears, a2 M om, d2 M om]
  · refine ⟨-1, M, M, ?_, ?_, ⟨T, hA, hI, hS, hT, hF⟩⟩
    · simp (disch := omega) only [e_bnd, e_bnd2, e_set, e_cpy, e_nmI, e_nmL, e_ckn, e_ckB0, e_ckB1, l0, l1, l2, l3, l4, l5, l6, l7, l8, l9, l10, l11, l12, l13, l14, l15, l16, l17, l18, l19, l20, l21, l22, l24, l25, l32, l39, l40, l41, l48, l50, l56, l57, l59, l60, l72, l79, l80, l81, l82, l88, l89, l97, l100, l122, l124, l125, l160, l255, l312, l320, l375, l1000, nI_ltI, nI_leI, nI_eq, nI_add, pk_mul, e_ix, e_neg, if_true, if_false, if_pos, if_neg, f_Hal_hears, a1 M o]
    · simp (disch := omega) only [e_bnd, e_bnd2, e_set, e_cpy, e_nmI, e_nmL, e_ckn, e_ckB0, e_ckB1, l0, l1, l2, l3, l4, l5, l6, l7, l8, l9, l10, l11, l12, l13, l14, l15, l16, l17, l18, l19, l20, l21, l22, l24, l25, l32, l39, l40, l41, l48, l50, l56, l57, l59, l60, l72, l79, l80, l81, l82, l88, l89, l97, l100, l122, l124, l125, l160, l255, l312, l320, l375, l1000, nI_ltI, nI_leI, nI_eq, nI_add, pk_mul, e_ix, e_neg, if_true, if_false, if_pos, if_neg, f_Mod_hears, a2 M om]
theorem s_heard (x y : Int32) : Sim (f_Hal_heard x y) (f_Mod_heard x y) := by
  intro M ⟨T, hA, hI, hS, hT, hF⟩
  obtain ⟨o, om, g⟩ := id hA
  rcases a_bench g x with ⟨b, hb, rfl, a1, a2⟩ | ⟨a1, a2⟩
  · rcases a_hour y with ⟨h, hh, rfl, b1, b2⟩ | ⟨b1, b2⟩
    · obtain ⟨M1, p1, p2⟩ := c_hearers (gg := 72) o g hb hh (by decide)
      have hA1 := hA.frc p2 (by decide) (by decide)
      obtain ⟨M2, q1, q2⟩ := m_heardOf (h := h) hA1.2.1 g hb hh
      refine ⟨hrs T b h, M1, M2, ?_, ?_, Inv.to hI hS hT hF ((p2.kp (by decide) (by decide)).tr q2.m.kp) (fun _ _ _ => rfl) (hA1.frm q2.m)⟩
      · simp (disch := omega) only [e_bnd, e_bnd2, e_set, e_cpy, e_nmI, e_nmL, e_ckn, e_ckB0, e_ckB1, l0, l1, l2, l3, l4, l5, l6, l7, l8, l9, l10, l11, l12, l13, l14, l15, l16, l17, l18, l19, l20, l21, l22, l24, l25, l32, l39, l40, l41, l48, l50, l56, l57, l59, l60, l72, l79, l80, l81, l82, l88, l89, l97, l100, l122, l124, l125, l160, l255, l312, l320, l375, l1000, nI_ltI, nI_leI, nI_eq, nI_add, pk_mul, e_ix, e_neg, if_true, if_false, if_pos, if_neg, f_Hal_heard, a1 M o, b1, p1]
      · simp (disch := omega) only [e_bnd, e_bnd2, e_set, e_cpy, e_nmI, e_nmL, e_ckn, e_ckB0, e_ckB1, l0, l1, l2, l3, l4, l5, l6, l7, l8, l9, l10, l11, l12, l13, l14, l15, l16, l17, l18, l19, l20, l21, l22, l24, l25, l32, l39, l40, l41, l48, l50, l56, l57, l59, l60, l72, l79, l80, l81, l82, l88, l89, l97, l100, l122, l124, l125, l160, l255, l312, l320, l375, l1000, nI_ltI, nI_leI, nI_eq, nI_add, pk_mul, e_ix, e_neg, if_true, if_false, if_pos, if_neg, f_Mod_heard, a2 M1 hA1.2.1, b2, q1]
    · refine ⟨-1, M, M, ?_, ?_, ⟨T, hA, hI, hS, hT, hF⟩⟩
      · simp (disch := omega) only [e_bnd, e_bnd2, e_set, e_cpy, e_nmI, e_nmL, e_ckn, e_ckB0, e_ckB1, l0, l1, l2, l3, l4, l5, l6, l7, l8, l9, l10, l11, l12, l13, l14, l15, l16, l17, l18, l19, l20, l21, l22, l24, l25, l32, l39, l40, l41, l48, l50, l56, l57, l59, l60, l72, l79, l80, l81, l82, l88, l89, l97, l100, l122, l124, l125, l160, l255, l312, l320, l375, l1000, nI_ltI, nI_leI, nI_eq, nI_add, pk_mul, e_ix, e_neg, if_true, if_false, if_pos, if_neg, f_Hal_heard, a1 M o, b1]
      · simp (disch := omega) only [e_bnd, e_bnd2, e_set, e_cpy, e_nmI, e_nmL, e_ckn, e_ckB0, e_ckB1, l0, l1, l2, l3, l4, l5, l6, l7, l8, l9, l10, l11, l12, l13, l14, l15, l16, l17, l18, l19, l20, l21, l22, l24, l25, l32, l39, l40, l41, l48, l50, l56, l57, l59, l60, l72, l79, l80, l81, l82, l88, l89, l97, l100, l122, l124, l125, l160, l255, l312, l320, l375, l1000, nI_ltI, nI_leI, nI_eq, nI_add, pk_mul, e_ix, e_neg, if_true, if_false, if_pos, if_neg, f_Mod_heard, a2 M om, b2]
  · refine ⟨-1, M, M, ?_, ?_, ⟨T, hA, hI, hS, hT, hF⟩⟩
    · simp (disch := omega) only [e_bnd, e_bnd2, e_set, e_cpy, e_nmI, e_nmL, e_ckn, e_ckB0, e_ckB1, l0, l1, l2, l3, l4, l5, l6, l7, l8, l9, l10, l11, l12, l13, l14, l15, l16, l17, l18, l19, l20, l21, l22, l24, l25, l32, l39, l40, l41, l48, l50, l56, l57, l59, l60, l72, l79, l80, l81, l82, l88, l89, l97, l100, l122, l124, l125, l160, l255, l312, l320, l375, l1000, nI_ltI, nI_leI, nI_eq, nI_add, pk_mul, e_ix, e_neg, if_true, if_false, if_pos, if_neg, f_Hal_heard, a1 M o]
    · simp (disch := omega) only [e_bnd, e_bnd2, e_set, e_cpy, e_nmI, e_nmL, e_ckn, e_ckB0, e_ckB1, l0, l1, l2, l3, l4, l5, l6, l7, l8, l9, l10, l11, l12, l13, l14, l15, l16, l17, l18, l19, l20, l21, l22, l24, l25, l32, l39, l40, l41, l48, l50, l56, l57, l59, l60, l72, l79, l80, l81, l82, l88, l89, l97, l100, l122, l124, l125, l160, l255, l312, l320, l375, l1000, nI_ltI, nI_leI, nI_eq, nI_add, pk_mul, e_ix, e_neg, if_true, if_false, if_pos, if_neg, f_Mod_heard, a2 M om]
theorem answerL {T : Tn} (g : Good T) {b h : Nat} (hb : b < T 4 0) (hh : h < 12) {w : Int32} : ∀ (m n n' k : Nat) (M : Mem), On T M → k + m = T 4 0 → m < n → m < n' → ∃ v M', f_Hal_answer_L34 n (nI b) (nI h) w (nI k) M = some (v, M') ∧ Fr 73 76 M M' ∧ ∀ N, OnM T N → ∃ N', f_Mod_answer_L27 n' (nI b) (nI h) w (nI k) N = some (v, N') ∧ Frp N N' := by
  have h9 := g.n
  intro m
  induction m with
  | zero =>
    intro n n' k M o hk hn hn'
    obtain ⟨n, rfl⟩ : ∃ z, n = z + 1 := ⟨n - 1, by omega⟩
    obtain ⟨n', rfl⟩ : ∃ z, n' = z + 1 := ⟨n' - 1, by omega⟩
    refine ⟨-4, M, ?_, Fr.rf, fun N oN => ⟨N, ?_, Frp.rf⟩⟩
    · rw [f_Hal_answer_L34, o.nb, if_pos (by rw [nI_leI (by omega) (by omega)]; omega)]
    · rw [f_Mod_answer_L27, oN.nb, if_pos (by rw [nI_leI (by omega) (by omega)]; omega)]
  | succ m ih =>
    intro n n' k M o hk hn hn'
    obtain ⟨n, rfl⟩ : ∃ z, n = z + 1 := ⟨n - 1, by omega⟩
    obtain ⟨n', rfl⟩ : ∃ z, n' = z + 1 := ⟨n' - 1, by omega⟩
    have hkb : k < T 4 0 := by omega
    have ne : ¬ nI (T 4 0) ≤ nI k := by rw [nI_leI (by omega) (by omega)]; omega
    by_cases hw : w = jshl 1 (nI k)
    · obtain ⟨M1, p1, p2⟩ := c_hearers (gg := 72) (h := h) o g hkb hh (by decide)
      refine ⟨if hrs T k h = jshl 1 (nI b) then nI k else -4, M1, ?_, p2, fun N oN => ?_⟩
      · rw [f_Hal_answer_L34, o.nb, if_neg ne, if_pos hw, p1, e_bnd2]
        split <;> rfl
      · obtain ⟨N', q1, q2⟩ := m_heardOf (h := h) oN g hkb hh
        refine ⟨N', ?_, q2⟩
        rw [f_Mod_answer_L27, oN.nb, if_neg ne, if_pos hw, q1, e_bnd2]
        split <;> rfl
    · obtain ⟨v, M', a1, a2, a3⟩ := ih n n' (k + 1) M o (by omega) (by omega) (by omega)
      refine ⟨v, M', ?_, a2, fun N oN => ?_⟩
      · rw [f_Hal_answer_L34, o.nb, if_neg ne, if_neg hw, nI_1]
        exact a1
      · obtain ⟨N', b1, b2⟩ := a3 N oN
        refine ⟨N', ?_, b2⟩
        rw [f_Mod_answer_L27, oN.nb, if_neg ne, if_neg hw, nI_1]
        exact b1
theorem s_answer (x y : Int32) : Sim (f_Hal_answer x y) (f_Mod_answer x y) := by
  intro M ⟨T, hA, hI, hS, hT, hF⟩
  obtain ⟨o, om, g⟩ := id hA
  have h9 := g.n
  rcases a_bench g x with ⟨b, hb, rfl, a1, a2⟩ | ⟨a1, a2⟩
  · rcases a_hour y with ⟨h, hh, rfl, b1, b2⟩ | ⟨b1, b2⟩
    · obtain ⟨M1, p1, p2⟩ := c_hearers (gg := 72) o g hb hh (by decide)
      have hA1 := hA.frc p2 (by decide) (by decide)
      obtain ⟨v, M2, r1, r2, r3⟩ := answerL g hb hh (w := hrs T b h) (T 4 0) 1000 1000 0 M1 hA1.1 (by omega) (by omega) (by omega)
      have hA2 := hA1.frc r2 (by decide) (by decide)
      obtain ⟨M3, q1, q2⟩ := m_heardOf (h := h) hA2.2.1 g hb hh
      have hA3 := hA2.frm q2.m
      obtain ⟨M4, s1, s2⟩ := r3 M3 hA3.2.1
      refine ⟨v, M2, M4, ?_, ?_, Inv.to hI hS hT hF ((((p2.kp (by decide) (by decide)).tr (r2.kp (by decide) (by decide))).tr q2.m.kp).tr s2.m.kp) (fun _ _ _ => rfl) (hA3.frm s2.m)⟩
      · unfold f_Hal_answer
        rw [a1 M o, e_bnd, if_neg (by decide), b1, e_bnd, if_neg (by decide), p1, e_bnd2]
        exact r1
      · unfold f_Mod_answer
        rw [a2 M2 hA2.2.1, e_bnd, if_neg (by decide), b2, e_bnd, if_neg (by decide), q1, e_bnd2]
        exact s1
    · refine ⟨-1, M, M, ?_, ?_, ⟨T, hA, hI, hS, hT, hF⟩⟩
      · simp (disch := omega) only [e_bnd, e_bnd2, e_set, e_cpy, e_nmI, e_nmL, e_ckn, e_ckB0, e_ckB1, l0, l1, l2, l3, l4, l5, l6, l7, l8, l9, l10, l11, l12, l13, l14, l15, l16, l17, l18, l19, l20, l21, l22, l24, l25, l32, l39, l40, l41, l48, l50, l56, l57, l59, l60, l72, l79, l80, l81, l82, l88, l89, l97, l100, l122, l124, l125, l160, l255, l312, l320, l375, l1000, nI_ltI, nI_leI, nI_eq, nI_add, pk_mul, e_ix, e_neg, if_true, if_false, if_pos, if_neg, f_Hal_answer, a1 M o, b1]
      · simp (disch := omega) only [e_bnd, e_bnd2, e_set, e_cpy, e_nmI, e_nmL, e_ckn, e_ckB0, e_ckB1, l0, l1, l2, l3, l4, l5, l6, l7, l8, l9, l10, l11, l12, l13, l14, l15, l16, l17, l18, l19, l20, l21, l22, l24, l25, l32, l39, l40, l41, l48, l50, l56, l57, l59, l60, l72, l79, l80, l81, l82, l88, l89, l97, l100, l122, l124, l125, l160, l255, l312, l320, l375, l1000, nI_ltI, nI_leI, nI_eq, nI_add, pk_mul, e_ix, e_neg, if_true, if_false, if_pos, if_neg, f_Mod_answer, a2 M om, b2]
  · refine ⟨-1, M, M, ?_, ?_, ⟨T, hA, hI, hS, hT, hF⟩⟩
    · simp (disch := omega) only [e_bnd, e_bnd2, e_set, e_cpy, e_nmI, e_nmL, e_ckn, e_ckB0, e_ckB1, l0, l1, l2, l3, l4, l5, l6, l7, l8, l9, l10, l11, l12, l13, l14, l15, l16, l17, l18, l19, l20, l21, l22, l24, l25, l32, l39, l40, l41, l48, l50, l56, l57, l59, l60, l72, l79, l80, l81, l82, l88, l89, l97, l100, l122, l124, l125, l160, l255, l312, l320, l375, l1000, nI_ltI, nI_leI, nI_eq, nI_add, pk_mul, e_ix, e_neg, if_true, if_false, if_pos, if_neg, f_Hal_answer, a1 M o]
    · simp (disch := omega) only [e_bnd, e_bnd2, e_set, e_cpy, e_nmI, e_nmL, e_ckn, e_ckB0, e_ckB1, l0, l1, l2, l3, l4, l5, l6, l7, l8, l9, l10, l11, l12, l13, l14, l15, l16, l17, l18, l19, l20, l21, l22, l24, l25, l32, l39, l40, l41, l48, l50, l56, l57, l59, l60, l72, l79, l80, l81, l82, l88, l89, l97, l100, l122, l124, l125, l160, l255, l312, l320, l375, l1000, nI_ltI, nI_leI, nI_eq, nI_add, pk_mul, e_ix, e_neg, if_true, if_false, if_pos, if_neg, f_Mod_answer, a2 M om]
/-- the people who hear one p -/
def ppl (T : Tn) (p h : Nat) : Int32 := orN (fun q => decide (hbN T (T 3 p) (T 3 q) h = 1)) (T 1 5)
theorem c_pplL {T : Tn} {M : Mem} (o : On T M) (g : Good T) {gg p h : Nat} (hp : p < T 1 5) : ∀ (m n k : Nat), k + m = T 1 5 → m < n → f_Hea_peopleHearing_L34 gg n (hrs T (T 3 p) h) (orN (fun q => decide (hbN T (T 3 p) (T 3 q) h = 1)) k) (nI k) M = some (ppl T p h, M) := by
  have h9 := g.n
  intro m
  induction m with
  | zero =>
    intro n k hk hn
    obtain ⟨n, rfl⟩ : ∃ z, n = z + 1 := ⟨n - 1, by omega⟩
    have e : k = T 1 5 := by omega
    subst e
    rw [f_Hea_peopleHearing_L34, o.s5, if_pos (by rw [nI_leI (by omega) (by omega)]; omega)]
    rfl
  | succ m ih =>
    intro n k hk hn
    obtain ⟨n, rfl⟩ : ∃ z, n = z + 1 := ⟨n - 1, by omega⟩
    have hkp : k < T 1 5 := by omega
    have hs := g.p hkp
    have hle := hbN_le (T := T) (b := T 3 p) (c := T 3 k) (h := h)
    have ih2 := ih n (k + 1) (by omega) (by omega)
    rw [orN_s] at ih2
    rw [f_Hea_peopleHearing_L34, o.s5, if_neg (by rw [nI_leI (by omega) (by omega)]; omega), c_seat o g hkp, e_bnd, if_neg (by rw [l4, e_neg (by omega) (by omega) (by omega)]; exact id), f_Hal_bit, hrs_bit g hs, e_bnd, nI_1, e_nmI]
    by_cases h1 : hbN T (T 3 p) (T 3 k) h = 1
    · rw [if_pos (by rw [h1]; rfl)]
      rw [if_pos (by simp [h1])] at ih2
      exact ih2
    · rw [if_neg (by rw [l1, nI_eq (by omega) (by omega)]; exact h1)]
      rw [if_neg (by simp [h1])] at ih2
      exact ih2
theorem c_ppl {T : Tn} {M : Mem} (o : On T M) (g : Good T) {gg p h : Nat} (hp : p < T 1 5) (hh : h < 12) (hg : 18 ≤ gg) : ∃ M', f_Hea_peopleHearing gg (nI p) (nI h) M = some (ppl T p h, M') ∧ Fr (gg + 1) (gg + 4) M M' := by
  have h9 := g.n
  have hs := g.p hp
  obtain ⟨M1, p1, p2⟩ := c_hearers (gg := gg) (h := h) o g hs hh hg
  refine ⟨M1, ?_, p2⟩
  unfold f_Hea_peopleHearing f_Hea_peopleHearing_J26
  rw [c_seat o g hp, e_bnd, if_neg (by rw [l4, e_neg (by omega) (by omega) (by omega)]; exact id), p1, e_bnd2]
  exact c_pplL (o.fr p2 (by omega)) g hp (T 1 5) 1000 0 (by omega) (by omega)
theorem s_can (x y z : Int32) : Sim (f_Hal_can x y z) (f_Mod_can x y z) := by
  intro M ⟨T, hA, hI, hS, hT, hF⟩
  obtain ⟨o, om, g⟩ := id hA
  have h9 := g.n
  rcases a_one g x with ⟨p, hp, rfl, a1, a2⟩ | ⟨a1, a2⟩
  · rcases a_one g y with ⟨q, hq, rfl, d1, d2⟩ | ⟨d1, d2⟩
    · by_cases hpq : p = q
      · refine ⟨-1, M, M, ?_, ?_, ⟨T, hA, hI, hS, hT, hF⟩⟩
        · simp (disch := omega) only [e_bnd, e_bnd2, e_set, e_cpy, e_nmI, e_nmL, e_ckn, e_ckB0, e_ckB1, l0, l1, l2, l3, l4, l5, l6, l7, l8, l9, l10, l11, l12, l13, l14, l15, l16, l17, l18, l19, l20, l21, l22, l24, l25, l32, l39, l40, l41, l48, l50, l56, l57, l59, l60, l72, l79, l80, l81, l82, l88, l89, l97, l100, l122, l124, l125, l160, l255, l312, l320, l375, l1000, nI_ltI, nI_leI, nI_eq, nI_add, pk_mul, e_ix, e_neg, if_true, if_false, if_pos, if_neg, f_Hal_can, a1 M o, d1 M o]
        · simp (disch := omega) only [e_bnd, e_bnd2, e_set, e_cpy, e_nmI, e_nmL, e_ckn, e_ckB0, e_ckB1, l0, l1, l2, l3, l4, l5, l6, l7, l8, l9, l10, l11, l12, l13, l14, l15, l16, l17, l18, l19, l20, l21, l22, l24, l25, l32, l39, l40, l41, l48, l50, l56, l57, l59, l60, l72, l79, l80, l81, l82, l88, l89, l97, l100, l122, l124, l125, l160, l255, l312, l320, l375, l1000, nI_ltI, nI_leI, nI_eq, nI_add, pk_mul, e_ix, e_neg, if_true, if_false, if_pos, if_neg, f_Mod_can, a2 M om, d2 M om]
      · rcases a_hour z with ⟨h, hh, rfl, b1, b2⟩ | ⟨b1, b2⟩
        · obtain ⟨M1, p1, p2⟩ := c_ppl (gg := 72) (h := h) o g hp hh (by decide)
          have hA1 := hA.frc p2 (by decide) (by decide)
          obtain ⟨M2, q1, q2⟩ := m_heardOf (h := h) hA1.2.1 g (g.p hp) hh
          have hA2 := hA1.frm q2.m
          have hle := hbN_le (T := T) (b := T 3 p) (c := T 3 q) (h := h)
          refine ⟨nI (hbN T (T 3 p) (T 3 q) h), M1, M2, ?_, ?_, Inv.to hI hS hT hF ((p2.kp (by decide) (by decide)).tr q2.m.kp) (fun _ _ _ => rfl) hA2⟩
          · have e : jshr (ppl T p h) (nI q) &&& 1 = nI (hbN T (T 3 p) (T 3 q) h) := by
              unfold ppl
              rw [orN_bit (by omega) (by omega)]
              by_cases h1 : hbN T (T 3 p) (T 3 q) h = 1
              · rw [if_pos ⟨hq, by simp [h1]⟩, h1]
              · rw [if_neg (by simp [h1]), show hbN T (T 3 p) (T 3 q) h = 0 by omega]
            unfold f_Hal_can f_Hal_bit
            rw [a1 M o, e_bnd, if_neg (by decide), d1 M o, e_bnd, if_neg (by decide), if_neg (by rw [nI_eq (by omega) (by omega)]; exact hpq), b1, e_bnd, if_neg (by decide), p1, e_bnd2, e, e_bnd]
          · have e := hrs_bit (b := T 3 p) (h := h) g (g.p hq)
            unfold f_Mod_can
            rw [a2 M1 hA1.2.1, e_bnd, if_neg (by decide), d2 M1 hA1.2.1, e_bnd, if_neg (by decide), if_neg (by rw [nI_eq (by omega) (by omega)]; exact hpq), b2, e_bnd, if_neg (by decide), l82, nI_add, nI_add, e_ckn (by omega) (by decide), show ix (nI (82 + p)) = 82 + p from e_ix (by omega), hA1.2.1.p (by omega), q1, e_bnd2, e_ckn (by omega) (by decide), show ix (nI (82 + q)) = 82 + q from e_ix (by omega), hA2.2.1.p (by omega), e]
        · refine ⟨-1, M, M, ?_, ?_, ⟨T, hA, hI, hS, hT, hF⟩⟩
          · simp (disch := omega) only [e_bnd, e_bnd2, e_set, e_cpy, e_nmI, e_nmL, e_ckn, e_ckB0, e_ckB1, l0, l1, l2, l3, l4, l5, l6, l7, l8, l9, l10, l11, l12, l13, l14, l15, l16, l17, l18, l19, l20, l21, l22, l24, l25, l32, l39, l40, l41, l48, l50, l56, l57, l59, l60, l72, l79, l80, l81, l82, l88, l89, l97, l100, l122, l124, l125, l160, l255, l312, l320, l375, l1000, nI_ltI, nI_leI, nI_eq, nI_add, pk_mul, e_ix, e_neg, if_true, if_false, if_pos, if_neg, f_Hal_can, a1 M o, d1 M o, b1]
          · simp (disch := omega) only [e_bnd, e_bnd2, e_set, e_cpy, e_nmI, e_nmL, e_ckn, e_ckB0, e_ckB1, l0, l1, l2, l3, l4, l5, l6, l7, l8, l9, l10, l11, l12, l13, l14, l15, l16, l17, l18, l19, l20, l21, l22, l24, l25, l32, l39, l40, l41, l48, l50, l56, l57, l59, l60, l72, l79, l80, l81, l82, l88, l89, l97, l100, l122, l124, l125, l160, l255, l312, l320, l375, l1000, nI_ltI, nI_leI, nI_eq, nI_add, pk_mul, e_ix, e_neg, if_true, if_false, if_pos, if_neg, f_Mod_can, a2 M om, d2 M om, b2]
    · refine ⟨-1, M, M, ?_, ?_, ⟨T, hA, hI, hS, hT, hF⟩⟩
      · simp (disch := omega) only [e_bnd, e_bnd2, e_set, e_cpy, e_nmI, e_nmL, e_ckn, e_ckB0, e_ckB1, l0, l1, l2, l3, l4, l5, l6, l7, l8, l9, l10, l11, l12, l13, l14, l15, l16, l17, l18, l19, l20, l21, l22, l24, l25, l32, l39, l40, l41, l48, l50, l56, l57, l59, l60, l72, l79, l80, l81, l82, l88, l89, l97, l100, l122, l124, l125, l160, l255, l312, l320, l375, l1000, nI_ltI, nI_leI, nI_eq, nI_add, pk_mul, e_ix, e_neg, if_true, if_false, if_pos, if_neg, f_Hal_can, a1 M o, d1 M o]
      · simp (disch := omega) only [e_bnd, e_bnd2, e_set, e_cpy, e_nmI, e_nmL, e_ckn, e_ckB0, e_ckB1, l0, l1, l2, l3, l4, l5, l6, l7, l8, l9, l10, l11, l12, l13, l14, l15, l16, l17, l18, l19, l20, l21, l22, l24, l25, l32, l39, l40, l41, l48, l50, l56, l57, l59, l60, l72, l79, l80, l81, l82, l88, l89, l97, l100, l122, l124, l125, l160, l255, l312, l320, l375, l1000, nI_ltI, nI_leI, nI_eq, nI_add, pk_mul, e_ix, e_neg, if_true, if_false, if_pos, if_neg, f_Mod_can, a2 M om, d2 M om]
  · refine ⟨-1, M, M, ?_, ?_, ⟨T, hA, hI, hS, hT, hF⟩⟩
    · simp (disch := omega) only [e_bnd, e_bnd2, e_set, e_cpy, e_nmI, e_nmL, e_ckn, e_ckB0, e_ckB1, l0, l1, l2, l3, l4, l5, l6, l7, l8, l9, l10, l11, l12, l13, l14, l15, l16, l17, l18, l19, l20, l21, l22, l24, l25, l32, l39, l40, l41, l48, l50, l56, l57, l59, l60, l72, l79, l80, l81, l82, l88, l89, l97, l100, l122, l124, l125, l160, l255, l312, l320, l375, l1000, nI_ltI, nI_leI, nI_eq, nI_add, pk_mul, e_ix, e_neg, if_true, if_false, if_pos, if_neg, f_Hal_can, a1 M o]
    · simp (disch := omega) only [e_bnd, e_bnd2, e_set, e_cpy, e_nmI, e_nmL, e_ckn, e_ckB0, e_ckB1, l0, l1, l2, l3, l4, l5, l6, l7, l8, l9, l10, l11, l12, l13, l14, l15, l16, l17, l18, l19, l20, l21, l22, l24, l25, l32, l39, l40, l41, l48, l50, l56, l57, l59, l60, l72, l79, l80, l81, l82, l88, l89, l97, l100, l122, l124, l125, l160, l255, l312, l320, l375, l1000, nI_ltI, nI_leI, nI_eq, nI_add, pk_mul, e_ix, e_neg, if_true, if_false, if_pos, if_neg, f_Mod_can, a2 M om]
theorem s_broken (y : Int32) : Sim (f_Hal_broken y) (f_Mod_broken y) := by
  intro M ⟨T, hA, hI, hS, hT, hF⟩
  obtain ⟨o, om, g⟩ := id hA
  rcases a_hour y with ⟨h, hh, rfl, b1, b2⟩ | ⟨b1, b2⟩
  · obtain ⟨M1, p1, p2⟩ := c_broken (gg := 72) (h := h) o g hh (by decide)
    have hA1 := hA.frc p2 (by decide) (by decide)
    obtain ⟨M2, q1, q2⟩ := m_broken (h := h) hA1.2.1 g hh
    refine ⟨brk T h, M1, M2, ?_, ?_, Inv.to hI hS hT hF ((p2.kp (by decide) (by decide)).tr q2.m.kp) (fun _ _ _ => rfl) (hA1.frm q2.m)⟩
    · simp (disch := omega) only [e_bnd, e_bnd2, e_set, e_cpy, e_nmI, e_nmL, e_ckn, e_ckB0, e_ckB1, l0, l1, l2, l3, l4, l5, l6, l7, l8, l9, l10, l11, l12, l13, l14, l15, l16, l17, l18, l19, l20, l21, l22, l24, l25, l32, l39, l40, l41, l48, l50, l56, l57, l59, l60, l72, l79, l80, l81, l82, l88, l89, l97, l100, l122, l124, l125, l160, l255, l312, l320, l375, l1000, nI_ltI, nI_leI, nI_eq, nI_add, pk_mul, e_ix, e_neg, if_true, if_false, if_pos, if_neg, f_Hal_broken, b1, p1]
    · simp (disch := omega) only [e_bnd, e_bnd2, e_set, e_cpy, e_nmI, e_nmL, e_ckn, e_ckB0, e_ckB1, l0, l1, l2, l3, l4, l5, l6, l7, l8, l9, l10, l11, l12, l13, l14, l15, l16, l17, l18, l19, l20, l21, l22, l24, l25, l32, l39, l40, l41, l48, l50, l56, l57, l59, l60, l72, l79, l80, l81, l82, l88, l89, l97, l100, l122, l124, l125, l160, l255, l312, l320, l375, l1000, nI_ltI, nI_leI, nI_eq, nI_add, pk_mul, e_ix, e_neg, if_true, if_false, if_pos, if_neg, f_Mod_broken, b2, q1]
  · refine ⟨-1, M, M, ?_, ?_, ⟨T, hA, hI, hS, hT, hF⟩⟩
    · simp (disch := omega) only [e_bnd, e_bnd2, e_set, e_cpy, e_nmI, e_nmL, e_ckn, e_ckB0, e_ckB1, l0, l1, l2, l3, l4, l5, l6, l7, l8, l9, l10, l11, l12, l13, l14, l15, l16, l17, l18, l19, l20, l21, l22, l24, l25, l32, l39, l40, l41, l48, l50, l56, l57, l59, l60, l72, l79, l80, l81, l82, l88, l89, l97, l100, l122, l124, l125, l160, l255, l312, l320, l375, l1000, nI_ltI, nI_leI, nI_eq, nI_add, pk_mul, e_ix, e_neg, if_true, if_false, if_pos, if_neg, f_Hal_broken, b1]
    · simp (disch := omega) only [e_bnd, e_bnd2, e_set, e_cpy, e_nmI, e_nmL, e_ckn, e_ckB0, e_ckB1, l0, l1, l2, l3, l4, l5, l6, l7, l8, l9, l10, l11, l12, l13, l14, l15, l16, l17, l18, l19, l20, l21, l22, l24, l25, l32, l39, l40, l41, l48, l50, l56, l57, l59, l60, l72, l79, l80, l81, l82, l88, l89, l97, l100, l122, l124, l125, l160, l255, l312, l320, l375, l1000, nI_ltI, nI_leI, nI_eq, nI_add, pk_mul, e_ix, e_neg, if_true, if_false, if_pos, if_neg, f_Mod_broken, b2]
def ubP (T : Tn) : Nat → Bool := fun h => decide (brk T h = 0)
theorem c_hoursL {T : Tn} (g : Good T) : ∀ (m n k : Nat) (M : Mem), On T M → k + m = 12 → m < n → ∃ M', f_Hal_hours_L4 n (orN (ubP T) k) (nI k) M = some (orN (ubP T) 12, M') ∧ Fr 73 77 M M' := by
  intro m
  induction m with
  | zero =>
    intro n k M o hk hn
    obtain ⟨n, rfl⟩ : ∃ z, n = z + 1 := ⟨n - 1, by omega⟩
    have e : k = 12 := by omega
    subst e
    exact ⟨M, by rw [f_Hal_hours_L4, if_pos (by decide)], Fr.rf⟩
  | succ m ih =>
    intro n k M o hk hn
    obtain ⟨n, rfl⟩ : ∃ z, n = z + 1 := ⟨n - 1, by omega⟩
    obtain ⟨M1, p1, p2⟩ := c_broken (gg := 72) (h := k) o g (by omega) (by decide)
    obtain ⟨M', r1, r2⟩ := ih n (k + 1) M1 (o.fr p2 (by decide)) (by omega) (by omega)
    rw [orN_s] at r1
    refine ⟨M', ?_, p2.tr r2⟩
    rw [f_Hal_hours_L4, if_neg (by rw [l12, nI_leI (by omega) (by omega)]; omega), p1, e_bnd2, nI_1, e_nmI]
    by_cases h0 : brk T k = 0
    · rw [if_pos h0]
      rw [if_pos (by simp [ubP, h0])] at r1
      exact r1
    · rw [if_neg h0]
      rw [if_neg (by simp [ubP, h0])] at r1
      exact r1
theorem jshl_0 : ∀ i, i < 32 → jshl 0 (nI i) = 0 := by decide +kernel
theorem m_hoursL {T : Tn} (g : Good T) : ∀ (m n k : Nat) (M : Mem), OnM T M → k + m = 12 → m < n → ∃ M', f_Mod_hours_L4 n (orN (ubP T) k) (nI k) M = some (orN (ubP T) 12, M') ∧ Frb M M' := by
  intro m
  induction m with
  | zero =>
    intro n k M o hk hn
    obtain ⟨n, rfl⟩ : ∃ z, n = z + 1 := ⟨n - 1, by omega⟩
    have e : k = 12 := by omega
    subst e
    exact ⟨M, by rw [f_Mod_hours_L4, if_pos (by decide)], Frb.rf⟩
  | succ m ih =>
    intro n k M o hk hn
    obtain ⟨n, rfl⟩ : ∃ z, n = z + 1 := ⟨n - 1, by omega⟩
    obtain ⟨M1, p1, p2⟩ := m_broken (h := k) o g (by omega)
    obtain ⟨M', r1, r2⟩ := ih n (k + 1) M1 (o.fr p2.m) (by omega) (by omega)
    rw [orN_s] at r1
    refine ⟨M', ?_, p2.tr r2⟩
    rw [f_Mod_hours_L4, if_neg (by rw [l12, nI_leI (by omega) (by omega)]; omega), p1, e_bnd2]
    by_cases h0 : brk T k = 0
    · rw [if_pos h0, f_Mod_hours_J24, f_Mod_flag, if_neg (by decide), e_bnd, nI_1, e_nmI]
      rw [if_pos (by simp [ubP, h0])] at r1
      exact r1
    · rw [if_neg h0, f_Mod_hours_J24, f_Mod_flag, if_pos rfl, e_bnd, nI_1, e_nmI, jshl_0 k (by omega), b_or0]
      rw [if_neg (by simp [ubP, h0])] at r1
      exact r1
theorem s_hours : Sim f_Hal_hours f_Mod_hours := by
  intro M ⟨T, hA, hI, hS, hT, hF⟩
  obtain ⟨o, om, g⟩ := id hA
  obtain ⟨M1, p1, p2⟩ := c_hoursL g 12 1000 0 M o rfl (by decide)
  have hA1 := hA.frc p2 (by decide) (by decide)
  obtain ⟨M2, q1, q2⟩ := m_hoursL g 12 1000 0 M1 hA1.2.1 rfl (by decide)
  exact ⟨orN (ubP T) 12, M1, M2, p1, q1, Inv.to hI hS hT hF ((p2.kp (by decide) (by decide)).tr q2.m.kp) (fun _ _ _ => rfl) (hA1.frm q2.m)⟩
end
section
/-! pure: curtain, clear -/
theorem On.low {T : Tn} {M M' : Mem} (h : On T M) (e : ∀ a, a < 103 → M' a = M a) : On T M' := by
  unfold On
  rw [e 1 (by decide), e 2 (by decide), e 3 (by decide), e 4 (by decide), e 10 (by decide), e 14 (by decide)]
  refine ⟨h.1, h.2.1, h.2.2.1, h.2.2.2.1, fun a h1 h2 => ?_, h.2.2.2.2.2.1, fun a h1 h2 => ?_, h.2.2.2.2.2.2.2.1, fun a h1 h2 => ?_⟩
  · rw [e a (by omega)]; exact h.2.2.2.2.1 a h1 h2
  · rw [e a (by omega)]; exact h.2.2.2.2.2.2.1 a h1 h2
  · rw [e a (by omega)]; exact h.2.2.2.2.2.2.2.2 a h1 h2
def cntB (T : Tn) (h : Nat) : Nat := cntN (bkP T (fun p => T 3 p) h) (T 10 0)
theorem cntB_le {T : Tn} (g : Good T) {h : Nat} : cntB T h ≤ 8 := Nat.le_trans (cntN_le _) g.nw
theorem c_cntB {T : Tn} (g : Good T) {h : Nat} : f_Int_bitCount (brk T h) = some (nI (cntB T h)) := c_cnt g.nw
theorem m_cntB {T : Tn} (g : Good T) {h : Nat} : f_Mod_bitsOf (brk T h) = some (nI (cntB T h)) := m_cnt g.nw
def anyC (T : Tn) (c h : Nat) : Nat → Bool
  | 0 => false
  | n + 1 => anyC T c h n || decide (cel T n h = c)
theorem anyC_t {T : Tn} {c h : Nat} : ∀ {n b : Nat}, b < n → cel T b h = c → anyC T c h n = true
  | n + 1, b, q, e => by
    unfold anyC
    by_cases r : b = n
    · subst r; simp [e]
    · rw [anyC_t (show b < n by omega) e]; rfl
theorem anyC_s {T : Tn} {c h n : Nat} : anyC T c h (n + 1) = (anyC T c h n || decide (cel T n h = c)) := rfl
theorem anyC_f {T : Tn} {c h : Nat} : ∀ {n : Nat}, (∀ b, b < n → cel T b h ≠ c) → anyC T c h n = false
  | 0, _ => rfl
  | n + 1, q => by
    rw [anyC_s, anyC_f (fun b hb => q b (by omega))]
    simp [q n (by omega)]
theorem c_onL {T : Tn} {M : Mem} (o : On T M) (g : Good T) {c h : Nat} (hc : c < 81) (hh : h < 12) : ∀ (m n k : Nat), k + m = T 4 0 → m < n → (∀ b, b < k → cel T b h ≠ c) → f_Tol_anyBenchOn_L2 1 M n (nI c) (nI h) (nI k) = some (nI (if anyC T c h (T 4 0) = true then 1 else 0)) := by
  have h9 := g.n
  intro m
  induction m with
  | zero =>
    intro n k hk hn hf
    obtain ⟨n, rfl⟩ : ∃ z, n = z + 1 := ⟨n - 1, by omega⟩
    have e : k = T 4 0 := by omega
    subst e
    rw [f_Tol_anyBenchOn_L2, show 1 + 3 = 4 from rfl, o.nb, if_pos (by rw [nI_leI (by omega) (by omega)]; omega), anyC_f hf]
    rfl
  | succ m ih =>
    intro n k hk hn hf
    obtain ⟨n, rfl⟩ : ∃ z, n = z + 1 := ⟨n - 1, by omega⟩
    have hb : k < T 4 0 := by omega
    have hl := (cel_lt (h := h) g hb).1
    rw [f_Tol_anyBenchOn_L2, show 1 + 3 = 4 from rfl, o.nb, if_neg (by rw [nI_leI (by omega) (by omega)]; omega), c_cell o g hb hh, e_bnd, nI_1]
    by_cases e : cel T k h = c
    · rw [anyC_t hb e, if_pos (by rw [e])]
      rfl
    · rw [if_neg (by rw [nI_eq (by omega) (by omega)]; exact e)]
      exact ih n (k + 1) (by omega) (by omega) (fun b q => by
        by_cases r : b = k
        · subst r; exact e
        · exact hf b (by omega))
theorem c_on {T : Tn} {M : Mem} (o : On T M) (g : Good T) {c h : Nat} (hc : c < 81) (hh : h < 12) : f_Tol_anyBenchOn 1 M (nI c) (nI h) = some (nI (if anyC T c h (T 4 0) = true then 1 else 0)) := by
  have h9 := g.n
  exact c_onL o g hc hh (T 4 0) 1000 0 (by omega) (by omega) (fun b hb => by omega)
theorem m_onL {T : Tn} {M : Mem} (o : OnM T M) (g : Good T) {c h : Nat} (hc : c < 81) (hh : h < 12) : ∀ (m n k : Nat), k + m = T 4 0 → m < n → f_Mod_hasBench_L5 M n (nI c) (nI h) (nI (if anyC T c h k = true then 1 else 0)) (nI k) = some (nI (if anyC T c h (T 4 0) = true then 1 else 0)) := by
  have h9 := g.n
  intro m
  induction m with
  | zero =>
    intro n k hk hn
    obtain ⟨n, rfl⟩ : ∃ z, n = z + 1 := ⟨n - 1, by omega⟩
    have e : k = T 4 0 := by omega
    subst e
    rw [f_Mod_hasBench_L5, o.nb, if_pos (by rw [nI_leI (by omega) (by omega)]; omega)]
    split
    · exact e_ckB1
    · exact e_ckB0
  | succ m ih =>
    intro n k hk hn
    obtain ⟨n, rfl⟩ : ∃ z, n = z + 1 := ⟨n - 1, by omega⟩
    have hb : k < T 4 0 := by omega
    have hl := (cel_lt (h := h) g hb).1
    have ih2 := ih n (k + 1) (by omega) (by omega)
    rw [anyC_s] at ih2
    rw [f_Mod_hasBench_L5, o.nb, if_neg (by rw [nI_leI (by omega) (by omega)]; omega), m_cell o g hb hh, e_bnd, nI_1]
    by_cases h0 : anyC T c h k = true
    · rw [if_pos h0, if_neg (by decide)]
      rw [if_pos (by simp [h0])] at ih2
      exact ih2
    · rw [if_neg h0, if_pos (by rfl)]
      by_cases e : cel T k h = c
      · rw [if_pos (by rw [e])]
        rw [if_pos (by simp [e])] at ih2
        exact ih2
      · rw [if_neg (by rw [nI_eq (by omega) (by omega)]; exact e)]
        rw [if_neg (by simp [h0, e])] at ih2
        exact ih2
theorem m_on {T : Tn} {M : Mem} (o : OnM T M) (g : Good T) {c h : Nat} (hc : c < 81) (hh : h < 12) : f_Mod_hasBench M (nI c) (nI h) = some (nI (if anyC T c h (T 4 0) = true then 1 else 0)) := by
  have h9 := g.n
  exact m_onL o g hc hh (T 4 0) 1000 0 (by omega) (by omega)
/-- whether cell c may become s in hour h (s 0: freed; 2: a curtain) -/
def may (T : Tn) (s h c : Nat) : Bool := decide (c % 9 < T 1 0 ∧ c / 9 < T 1 1) && (if s = 0 then decide (T 2 c ≠ 0) else (decide (T 2 c = 0) && !anyC T c h (T 4 0)))
def bcf (T : Tn) (s h : Nat) : Nat → Int32 × Nat
  | 0 => (-4, cntB T h)
  | k + 1 => if may T s h k = true ∧ cntB (tset T 2 k s) h < (bcf T s h k).2 then (nI k, cntB (tset T 2 k s) h) else bcf T s h k
theorem bcf_s {T : Tn} {s h k : Nat} : bcf T s h (k + 1) = if may T s h k = true ∧ cntB (tset T 2 k s) h < (bcf T s h k).2 then (nI k, cntB (tset T 2 k s) h) else bcf T s h k := rfl
theorem bcf_le {T : Tn} (g : Good T) {s h : Nat} : ∀ k, (bcf T s h k).2 ≤ 8
  | 0 => cntB_le g
  | k + 1 => by
    rw [bcf_s]
    split
    · next h2 => have := bcf_le g (s := s) (h := h) k; omega
    · exact bcf_le g k
theorem bcf_4 {T : Tn} {s h : Nat} : ∀ k, k ≤ 81 → (bcf T s h k).1 = -4 ∨ ∃ j, j < 81 ∧ (bcf T s h k).1 = nI j
  | 0, _ => Or.inl rfl
  | k + 1, hk => by
    rw [bcf_s]
    split
    · exact Or.inr ⟨k, by omega, rfl⟩
    · exact bcf_4 k (by omega)
theorem c_may {T : Tn} {M : Mem} (o : On T M) (g : Good T) {c h s : Nat} (hc : c < 81) (hh : h < 12) (hs : s = 0 ∨ s = 2) : f_Hal_mayBecome M (nI c) (nI s) (nI h) = some (nI (if may T s h c = true then 1 else 0)) := by
  have h2 := g.c hc
  have e1 := c_isCell o g hc
  have e2 := c_state o hc
  have e3 := c_on o g hc hh
  unfold f_Hal_mayBecome f_Tol_isFree
  rw [e1, e2, e3]
  by_cases q : c % 9 < T 1 0 ∧ c / 9 < T 1 1
  · rw [if_pos q]
    rcases hs with rfl | rfl
    · by_cases r : T 2 c = 0
      · have hm : may T 0 h c = false := by simp [may, r]
        rw [hm, r]
        rfl
      · have hm : may T 0 h c = true := by simp [may, r, q]
        rw [hm]
        simp (disch := omega) only [e_bnd, e_bnd2, e_set, e_cpy, e_nmI, e_nmL, e_ckn, e_ckB0, e_ckB1, l0, l1, l2, l3, l4, l5, l6, l7, l8, l9, l10, l11, l12, l13, l14, l15, l16, l17, l18, l19, l20, l21, l22, l24, l25, l32, l39, l40, l41, l48, l50, l56, l57, l59, l60, l72, l79, l80, l81, l82, l88, l89, l97, l100, l122, l124, l125, l160, l255, l312, l320, l375, l1000, nI_ltI, nI_leI, nI_eq, nI_add, pk_mul, e_ix, e_neg, if_true, if_false, if_pos, if_neg]
    · by_cases r : T 2 c = 0
      · by_cases a : anyC T c h (T 4 0) = true
        · have hm : may T 2 h c = false := by simp [may, r, a]
          rw [hm, r, a]
          rfl
        · have hm : may T 2 h c = true := by simp [may, r, a, q]
          rw [hm, r, if_neg a]
          rfl
      · have hm : may T 2 h c = false := by simp [may, r]
        rw [hm]
        simp (disch := omega) only [e_bnd, e_bnd2, e_set, e_cpy, e_nmI, e_nmL, e_ckn, e_ckB0, e_ckB1, l0, l1, l2, l3, l4, l5, l6, l7, l8, l9, l10, l11, l12, l13, l14, l15, l16, l17, l18, l19, l20, l21, l22, l24, l25, l32, l39, l40, l41, l48, l50, l56, l57, l59, l60, l72, l79, l80, l81, l82, l88, l89, l97, l100, l122, l124, l125, l160, l255, l312, l320, l375, l1000, nI_ltI, nI_leI, nI_eq, nI_add, pk_mul, e_ix, e_neg, if_true, if_false, if_pos, if_neg, Bool.false_eq_true]
  · rw [if_neg q]
    have hm : may T s h c = false := by simp [may, q]
    rw [hm]
    rcases hs with rfl | rfl <;> rfl
theorem c_bestL {T : Tn} (g : Good T) {h w s : Nat} (hh : h < 12) (hs : s = 0 ∨ s = 2) (hw : w ≤ 1) : ∀ (m n k : Nat) (M : Mem), On T M → k + m = 81 → m < n → ∃ M', f_Hal_bestChange_L24 n (nI h) (nI w) (nI s) (bcf T s h k).1 (nI (bcf T s h k).2) (nI k) M = some (if (bcf T s h 81).1 = -4 then (bcf T s h 81).1 else if w = 0 then (bcf T s h 81).1 else nI (bcf T s h 81).2, M') ∧ On T M' ∧ Fr 2 77 M M' ∧ Kp M M' := by
  intro m
  induction m with
  | zero =>
    intro n k M o hk hn
    obtain ⟨n, rfl⟩ : ∃ z, n = z + 1 := ⟨n - 1, by omega⟩
    have e : k = 81 := by omega
    subst e
    refine ⟨M, ?_, o, Fr.rf, Kp.rf⟩
    rw [f_Hal_bestChange_L24, if_pos (show (81 : Int32) ≤ nI 81 by decide)]
    by_cases h4 : (bcf T s h 81).1 = -4
    · rw [if_pos h4, if_pos h4]
    · rw [if_neg h4, if_neg h4]
      by_cases hw0 : w = 0
      · subst hw0
        rw [if_pos (show nI 0 = 0 from rfl), if_pos rfl]
      · rw [if_neg (by rw [l0, nI_eq (by omega) (by omega)]; exact hw0), if_neg hw0]
  | succ m ih =>
    intro n k M o hk hn
    obtain ⟨n, rfl⟩ : ∃ z, n = z + 1 := ⟨n - 1, by omega⟩
    have hc : k < 81 := by omega
    have hle := bcf_le g (s := s) (h := h) k
    rw [f_Hal_bestChange_L24, if_neg (by rw [l81, nI_leI (by omega) (by omega)]; omega), c_may o g hc hh hs, e_bnd, nI_1]
    by_cases hm : may T s h k = true
    · have g1 : Good (tset T 2 k s) := g.setC (by omega)
      have o1 : On (tset T 2 k s) (upd2 M 2 k (nI s)) := On.tset o (Or.inr (Or.inl rfl))
      obtain ⟨M2, p1, p2⟩ := c_broken (gg := 72) (h := h) o1 g1 hh (by decide)
      have o2 : On (tset T 2 k s) M2 := o1.fr p2 (by decide)
      have o3 : On T (upd2 M2 2 k (nI (T 2 k))) := by
        have := On.tset (a := 2) (k := k) (v := T 2 k) o2 (Or.inr (Or.inl rfl))
        rw [ts_ts, ts_self] at this
        exact this
      have f1 : Fr 2 77 M (upd2 M2 2 k (nI (T 2 k))) := (((Fr.rf.set (by decide) (by decide)).tr (p2.up (by decide) (by decide))).set (by decide) (by decide))
      have k1 : Kp M (upd2 M2 2 k (nI (T 2 k))) := ((Kp.rf.set (by omega)).tr (p2.kp (by decide) (by decide))).set (by omega)
      have cl := cntB_le g1 (h := h)
      have e1 : f_Tol_setState 1 (nI k) (nI s) M = some (upd2 M 2 k (nI s)) := by
        simp (disch := omega) only [e_bnd, e_bnd2, e_set, e_cpy, e_nmI, e_nmL, e_ckn, e_ckB0, e_ckB1, l0, l1, l2, l3, l4, l5, l6, l7, l8, l9, l10, l11, l12, l13, l14, l15, l16, l17, l18, l19, l20, l21, l22, l24, l25, l32, l39, l40, l41, l48, l50, l56, l57, l59, l60, l72, l79, l80, l81, l82, l88, l89, l97, l100, l122, l124, l125, l160, l255, l312, l320, l375, l1000, nI_ltI, nI_leI, nI_eq, nI_add, pk_mul, e_ix, e_neg, if_true, if_false, if_pos, if_neg, f_Tol_setState, Nat.reduceAdd]
      have e2 : f_Tol_setState 1 (nI k) (nI (T 2 k)) M2 = some (upd2 M2 2 k (nI (T 2 k))) := by
        simp (disch := omega) only [e_bnd, e_bnd2, e_set, e_cpy, e_nmI, e_nmL, e_ckn, e_ckB0, e_ckB1, l0, l1, l2, l3, l4, l5, l6, l7, l8, l9, l10, l11, l12, l13, l14, l15, l16, l17, l18, l19, l20, l21, l22, l24, l25, l32, l39, l40, l41, l48, l50, l56, l57, l59, l60, l72, l79, l80, l81, l82, l88, l89, l97, l100, l122, l124, l125, l160, l255, l312, l320, l375, l1000, nI_ltI, nI_leI, nI_eq, nI_add, pk_mul, e_ix, e_neg, if_true, if_false, if_pos, if_neg, f_Tol_setState, Nat.reduceAdd]
      obtain ⟨M', r1, r2, r3, r4⟩ := ih n (k + 1) _ o3 (by omega) (by omega)
      refine ⟨M', ?_, r2, f1.tr r3, k1.tr r4⟩
      rw [if_pos hm, if_neg (by decide), c_state o hc, e_bnd, e1, e_bnd, p1, e_bnd2, c_cntB g1, e_bnd, e2, e_bnd]
      rw [bcf_s] at r1
      by_cases hlt : cntB (tset T 2 k s) h < (bcf T s h k).2
      · rw [if_neg (by rw [nI_leI (by omega) (by omega)]; omega)]
        rw [if_pos ⟨hm, hlt⟩] at r1
        exact r1
      · rw [if_pos (by rw [nI_leI (by omega) (by omega)]; omega)]
        rw [if_neg (fun q => hlt q.2)] at r1
        exact r1
    · obtain ⟨M', r1, r2, r3, r4⟩ := ih n (k + 1) _ o (by omega) (by omega)
      refine ⟨M', ?_, r2, r3, r4⟩
      rw [if_neg hm, if_pos (by rfl)]
      rw [bcf_s, if_neg (fun q => hm q.1)] at r1
      exact r1
theorem m_bestL {T : Tn} (g : Good T) {h f s : Nat} (hh : h < 12) (hs : (s = 0 ∧ f = 0) ∨ (s = 2 ∧ f = 1)) : ∀ (m n k : Nat) (M : Mem), OnM T M → k + m = 81 → m < n → M 103 37 = (bcf T s h k).1 → M 103 38 = nI (bcf T s h k).2 → ∃ M', f_Mod_findBetter_L20 n (nI h) (nI f) (nI k) M = some M' ∧ OnM T M' ∧ (∀ a, a < 103 → M' a = M a) ∧ Kp M M' ∧ M' 103 37 = (bcf T s h 81).1 ∧ M' 103 38 = nI (bcf T s h 81).2 := by
  intro m
  induction m with
  | zero =>
    intro n k M o hk hn h1 h2
    obtain ⟨n, rfl⟩ : ∃ z, n = z + 1 := ⟨n - 1, by omega⟩
    have e : k = 81 := by omega
    subst e
    exact ⟨M, by rw [f_Mod_findBetter_L20, if_pos (by decide)], o, fun _ _ => rfl, Kp.rf, h1, h2⟩
  | succ m ih =>
    intro n k M o hk hn h1 h2
    obtain ⟨n, rfl⟩ : ∃ z, n = z + 1 := ⟨n - 1, by omega⟩
    have hc : k < 81 := by omega
    have hle := bcf_le g (s := s) (h := h) k
    have hT := g.c hc
    have no : may T s h k = false → ∃ M', f_Mod_findBetter_L20 n (nI h) (nI f) (nI (k + 1)) M = some M' ∧ OnM T M' ∧ (∀ a, a < 103 → M' a = M a) ∧ Kp M M' ∧ M' 103 37 = (bcf T s h 81).1 ∧ M' 103 38 = nI (bcf T s h 81).2 := fun hm => by
      have hb : bcf T s h (k + 1) = bcf T s h k := by rw [bcf_s, if_neg (by simp [hm])]
      exact ih n (k + 1) M o (by omega) (by omega) (by rw [hb]; exact h1) (by rw [hb]; exact h2)
    have yes : may T s h k = true → ∃ M', f_Mod_findBetter_J68 (f_Mod_findBetter_L20 n) (nI h) (nI f) (nI k) M = some M' ∧ OnM T M' ∧ (∀ a, a < 103 → M' a = M a) ∧ Kp M M' ∧ M' 103 37 = (bcf T s h 81).1 ∧ M' 103 38 = nI (bcf T s h 81).2 := fun hm => by
      have g1 : Good (tset T 2 k s) := g.setC (by omega)
      have o1 : OnM (tset T 2 k s) (upd2 M 104 k (nI s)) := o.tset (Or.inr (Or.inl ⟨rfl, rfl, hc⟩))
      obtain ⟨M2, p1, p2⟩ := m_broken (h := h) o1 g1 hh
      have o2 : OnM (tset T 2 k s) M2 := o1.fr p2.m
      have o3 : OnM T (upd2 M2 104 k (nI (T 2 k))) := by
        have := OnM.tset (a := 2) (k := k) (v := k) (x := T 2 k) o2 (Or.inr (Or.inl ⟨rfl, rfl, hc⟩))
        rw [ts_ts, ts_self] at this
        exact this
      have k1 : Kp M (upd2 M2 104 k (nI (T 2 k))) := ((Kp.rf.set (by omega)).tr p2.m.kp).set (by omega)
      have cl := cntB_le g1 (h := h)
      have q37 : upd2 M2 104 k (nI (T 2 k)) 103 37 = (bcf T s h k).1 := by rw [u_ne (by decide), p2 103 37 (by decide) (fun _ => by decide), u_ne (by decide)]; exact h1
      have q38 : upd2 M2 104 k (nI (T 2 k)) 103 38 = nI (bcf T s h k).2 := by rw [u_ne (by decide), p2 103 38 (by decide) (fun _ => by decide), u_ne (by decide)]; exact h2
      have qa : ∀ a, a < 103 → upd2 M2 104 k (nI (T 2 k)) a = M a := fun a ha => by
        rw [u_ne (by omega)]
        funext j
        rw [p2 a j (by omega) (fun e => by omega), u_ne (by omega)]
      have eJ : f_Mod_findBetter_J68 (f_Mod_findBetter_L20 n) (nI h) (nI f) (nI k) M = f_Mod_findBetter_J90 (f_Mod_findBetter_L20 n) (nI h) (nI f) (nI k) (nI (T 2 k)) (nI k) (nI s) M := by
        unfold f_Mod_findBetter_J68
        rw [e_ckn (by omega) (by decide), show ix (nI k) = k from e_ix (by omega), o.c hc, e_nmI]
        rcases hs with ⟨rfl, rfl⟩ | ⟨rfl, rfl⟩
        · rw [if_pos (by rfl)]; rfl
        · rw [if_neg (by decide)]; rfl
      generalize hM3 : upd2 M2 104 k (nI (T 2 k)) = M3 at o3 k1 q37 q38 qa
      have kf : ∀ x y : Int32, Kp M3 (upd2 (upd2 M3 103 37 x) 103 38 y) := fun x y => by
        refine Frm.kp ((Frm.rf.setF (by omega)).setF (by omega))
      have of : ∀ x y : Int32, OnM T (upd2 (upd2 M3 103 37 x) 103 38 y) := fun x y => o3.fr ((Frm.rf.setF (by omega)).setF (by omega))
      rw [eJ]
      unfold f_Mod_findBetter_J90 f_Mod_findBetter_J127 f_Mod_findBetter_J149
      rw [e_ckn (by omega) (by decide), e_set, show ix (nI k) = k from e_ix (by omega), p1, e_bnd2, m_cntB g1, e_bnd, e_ckn (by omega) (by decide), e_set, hM3, e_set, e_set, q37, q38]
      simp only [u_nk (show (38 : Nat) ≠ 37 by decide), q38, e_set, nI_1]
      by_cases hlt : cntB (tset T 2 k s) h < (bcf T s h k).2
      · have hb : bcf T s h (k + 1) = (nI k, cntB (tset T 2 k s) h) := by rw [bcf_s, if_pos ⟨hm, hlt⟩]
        have nle : ¬ nI (bcf T s h k).2 ≤ nI (cntB (tset T 2 k s) h) := by rw [nI_leI (by omega) (by omega)]; omega
        rw [if_neg nle, if_neg nle]
        obtain ⟨M', r1, r2, r3, r4, r5, r6⟩ := ih n (k + 1) (upd2 (upd2 M3 103 37 (nI k)) 103 38 (nI (cntB (tset T 2 k s) h))) (of _ _) (by omega) (by omega) (by rw [hb, u_nk (by decide), u_eq]) (by rw [hb, u_eq])
        exact ⟨M', r1, r2, fun a ha => by rw [r3 a ha, u_ne (by omega), u_ne (by omega), qa a ha], (k1.tr (kf _ _)).tr r4, r5, r6⟩
      · have hb : bcf T s h (k + 1) = bcf T s h k := by rw [bcf_s, if_neg (fun q => hlt q.2)]
        have le : nI (bcf T s h k).2 ≤ nI (cntB (tset T 2 k s) h) := by rw [nI_leI (by omega) (by omega)]; omega
        rw [if_pos le, if_pos le]
        obtain ⟨M', r1, r2, r3, r4, r5, r6⟩ := ih n (k + 1) (upd2 (upd2 M3 103 37 (bcf T s h k).1) 103 38 (nI (bcf T s h k).2)) (of _ _) (by omega) (by omega) (by rw [hb, u_nk (by decide), u_eq]) (by rw [hb, u_eq])
        exact ⟨M', r1, r2, fun a ha => by rw [r3 a ha, u_ne (by omega), u_ne (by omega), qa a ha], (k1.tr (kf _ _)).tr r4, r5, r6⟩
    rw [f_Mod_findBetter_L20, if_neg (by rw [l81, nI_leI (by omega) (by omega)]; omega), m_isCell o g hc, e_bnd, nI_1, e_ckn (by omega) (by decide), show ix (nI k) = k from e_ix (by omega), o.c hc, m_on o g hc hh, e_bnd]
    by_cases q : k % 9 < T 1 0 ∧ k / 9 < T 1 1
    · rw [if_pos q, if_neg (by decide)]
      rcases hs with ⟨rfl, rfl⟩ | ⟨rfl, rfl⟩
      · rw [if_pos (show nI 0 = 0 from rfl)]
        by_cases r : T 2 k = 0
        · rw [r, if_pos (show nI 0 ≤ 0 from by decide)]
          exact no (by simp [may, r])
        · rw [if_neg (by rw [l0, nI_leI (by omega) (by omega)]; omega)]
          exact yes (by simp [may, r, q])
      · rw [if_neg (by decide), e_ckn (by omega) (by decide)]
        by_cases r : T 2 k = 0
        · rw [r, if_pos (show nI 0 = 0 from rfl)]
          by_cases a : anyC T k h (T 4 0) = true
          · rw [if_pos a, if_neg (by decide)]
            exact no (by simp [may, r, a])
          · rw [if_neg a, if_pos (by rfl)]
            exact yes (by simp [may, r, a, q])
        · rw [if_neg (by rw [l0, nI_eq (by omega) (by omega)]; exact r)]
          exact no (by simp [may, r])
    · rw [if_neg q, if_pos (by rfl)]
      exact no (by simp [may, q])
theorem bestSim {h w s f : Nat} (hh : h < 12) (hw : w ≤ 1) (hs : (s = 0 ∧ f = 0) ∨ (s = 2 ∧ f = 1)) : ∀ M, Inv M → ∃ v M1 M2, f_Hal_bestChange (nI h) (nI w) (nI s) M = some (v, M1) ∧ bnd (f_Mod_findBetter (nI h) (nI f) M1) (fun M8 => if M8 103 37 = (-4) then some ((-4), M8) else if nI w = 0 then some (M8 103 37, M8) else some (M8 103 38, M8)) = some (v, M2) ∧ Inv M2 := by
  intro M ⟨T, hA, hI, hS, hT, hF⟩
  obtain ⟨o, om, g⟩ := id hA
  obtain ⟨M1, p1, p2⟩ := c_broken (gg := 72) (h := h) o g hh (by decide)
  obtain ⟨M2, r1, r2, r3, r4⟩ := c_bestL g (w := w) (s := s) hh (by omega) hw 81 1000 0 M1 (o.fr p2 (by decide)) rfl (by decide)
  have om2 : OnM T M2 := (om.frc p2 (by decide)).frc r3 (by decide)
  have k2 : Kp M M2 := (p2.kp (by decide) (by decide)).tr r4
  obtain ⟨M3, q1, q2⟩ := m_broken (h := h) om2 g hh
  have om4 : OnM T (upd2 (upd2 M3 103 38 (nI (cntB T h))) 103 37 (-4)) := (om2.fr q2.m).fr ((Frm.rf.setF (by omega)).setF (by omega))
  obtain ⟨M5, t1, t2, t3, t4, t5, t6⟩ := m_bestL g (f := f) (s := s) hh hs 81 1000 0 _ om4 rfl (by decide) (by rw [u_eq]; rfl) (by rw [u_nk (by decide), u_eq]; rfl)
  have k5 : Kp M M5 := ((k2.tr q2.m.kp).tr (Frm.kp ((Frm.rf.setF (by omega)).setF (by omega)))).tr t4
  have o5 : On T M5 := by
    have e : ∀ a, a < 103 → M5 a = M2 a := fun a ha => by
      rw [t3 a ha, u_ne (by omega), u_ne (by omega)]
      funext j
      exact q2 a j (by omega) (fun e => by omega)
    exact r2.low e
  have cl := cntB_le g (h := h)
  refine ⟨if (bcf T s h 81).1 = -4 then (bcf T s h 81).1 else if w = 0 then (bcf T s h 81).1 else nI (bcf T s h 81).2, M2, M5, ?_, ?_, Inv.to hI hS hT hF k5 (fun _ _ _ => rfl) ⟨o5, t2, g⟩⟩
  · unfold f_Hal_bestChange
    rw [p1, e_bnd2, c_cntB g, e_bnd]
    exact r1
  · unfold f_Mod_findBetter
    rw [q1, e_bnd2, m_cntB g, e_bnd, e_set, e_set, show (0 : Int32) = nI 0 from rfl, t1, e_bnd, t5, t6]
    have hle := bcf_le g (s := s) (h := h) 81
    by_cases h4 : (bcf T s h 81).1 = -4
    · rw [if_pos h4, if_pos h4, h4]
    · rw [if_neg h4, if_neg h4]
      by_cases hw0 : w = 0
      · subst hw0
        rw [if_pos (show nI 0 = nI 0 from rfl), if_pos rfl]
      · rw [if_neg (by rw [nI_eq (by omega) (by omega)]; exact hw0), if_neg hw0]

theorem s_curtain (x y : Int32) : Sim (f_Hal_curtain x y) (f_Mod_curtain x y) := by
  intro M hInv
  have e1 : f_Mod_in y.toInt64 0 1 = f_Mod_in y.toInt64 0 (nI 1).toInt64 := rfl
  rcases a_hour x with ⟨h, hh, rfl, b1, b2⟩ | ⟨b1, b2⟩
  · rcases wi y (m := 1) (by decide) with ⟨w, hw, rfl, f1, f2⟩ | ⟨f1, f2, -⟩
    · obtain ⟨v, M1, M2, p1, p2, p3⟩ := bestSim (w := w) (s := 2) (f := 1) hh hw (Or.inr ⟨rfl, rfl⟩) M hInv
      refine ⟨v, M1, M2, ?_, ?_, p3⟩
      · unfold f_Hal_curtain
        rw [b1, e_bnd, if_neg (by decide), show (0 : Int32) = nI 0 from rfl, show (1 : Int32) = nI 1 from rfl, f1, e_bnd, if_neg (by decide), show (2 : Int32) = nI 2 from rfl, p1, e_bnd2]
      · unfold f_Mod_curtain
        rw [b2, e_bnd, if_neg (by decide), e1, f2, e_bnd, if_neg (by decide)]
        exact p2
    · refine ⟨-1, M, M, ?_, ?_, hInv⟩
      · simp (disch := omega) only [e_bnd, e_bnd2, e_set, e_cpy, e_nmI, e_nmL, e_ckn, e_ckB0, e_ckB1, l0, l1, l2, l3, l4, l5, l6, l7, l8, l9, l10, l11, l12, l13, l14, l15, l16, l17, l18, l19, l20, l21, l22, l24, l25, l32, l39, l40, l41, l48, l50, l56, l57, l59, l60, l72, l79, l80, l81, l82, l88, l89, l97, l100, l122, l124, l125, l160, l255, l312, l320, l375, l1000, nI_ltI, nI_leI, nI_eq, nI_add, pk_mul, e_ix, e_neg, if_true, if_false, if_pos, if_neg, f_Hal_curtain, b1, f1]
      · simp (disch := omega) only [e_bnd, e_bnd2, e_set, e_cpy, e_nmI, e_nmL, e_ckn, e_ckB0, e_ckB1, l0, l1, l2, l3, l4, l5, l6, l7, l8, l9, l10, l11, l12, l13, l14, l15, l16, l17, l18, l19, l20, l21, l22, l24, l25, l32, l39, l40, l41, l48, l50, l56, l57, l59, l60, l72, l79, l80, l81, l82, l88, l89, l97, l100, l122, l124, l125, l160, l255, l312, l320, l375, l1000, nI_ltI, nI_leI, nI_eq, nI_add, pk_mul, e_ix, e_neg, if_true, if_false, if_pos, if_neg, f_Mod_curtain, b2, e1, f2]
  · refine ⟨-1, M, M, ?_, ?_, hInv⟩
    · simp (disch := omega) only [e_bnd, e_bnd2, e_set, e_cpy, e_nmI, e_nmL, e_ckn, e_ckB0, e_ckB1, l0, l1, l2, l3, l4, l5, l6, l7, l8, l9, l10, l11, l12, l13, l14, l15, l16, l17, l18, l19, l20, l21, l22, l24, l25, l32, l39, l40, l41, l48, l50, l56, l57, l59, l60, l72, l79, l80, l81, l82, l88, l89, l97, l100, l122, l124, l125, l160, l255, l312, l320, l375, l1000, nI_ltI, nI_leI, nI_eq, nI_add, pk_mul, e_ix, e_neg, if_true, if_false, if_pos, if_neg, f_Hal_curtain, b1]
    · simp (disch := omega) only [e_bnd, e_bnd2, e_set, e_cpy, e_nmI, e_nmL, e_ckn, e_ckB0, e_ckB1, l0, l1, l2, l3, l4, l5, l6, l7, l8, l9, l10, l11, l12, l13, l14, l15, l16, l17, l18, l19, l20, l21, l22, l24, l25, l32, l39, l40, l41, l48, l50, l56, l57, l59, l60, l72, l79, l80, l81, l82, l88, l89, l97, l100, l122, l124, l125, l160, l255, l312, l320, l375, l1000, nI_ltI, nI_leI, nI_eq, nI_add, pk_mul, e_ix, e_neg, if_true, if_false, if_pos, if_neg, f_Mod_curtain, b2]
theorem s_clear (x y : Int32) : Sim (f_Hal_clear x y) (f_Mod_clear x y) := by
  intro M hInv
  have e1 : f_Mod_in y.toInt64 0 1 = f_Mod_in y.toInt64 0 (nI 1).toInt64 := rfl
  rcases a_hour x with ⟨h, hh, rfl, b1, b2⟩ | ⟨b1, b2⟩
  · rcases wi y (m := 1) (by decide) with ⟨w, hw, rfl, f1, f2⟩ | ⟨f1, f2, -⟩
    · obtain ⟨v, M1, M2, p1, p2, p3⟩ := bestSim (w := w) (s := 0) (f := 0) hh hw (Or.inl ⟨rfl, rfl⟩) M hInv
      refine ⟨v, M1, M2, ?_, ?_, p3⟩
      · unfold f_Hal_clear
        rw [b1, e_bnd, if_neg (by decide), show (0 : Int32) = nI 0 from rfl, show (1 : Int32) = nI 1 from rfl, f1, e_bnd, if_neg (by decide), p1, e_bnd2]
      · unfold f_Mod_clear
        rw [b2, e_bnd, if_neg (by decide), e1, f2, e_bnd, if_neg (by decide)]
        exact p2
    · refine ⟨-1, M, M, ?_, ?_, hInv⟩
      · simp (disch := omega) only [e_bnd, e_bnd2, e_set, e_cpy, e_nmI, e_nmL, e_ckn, e_ckB0, e_ckB1, l0, l1, l2, l3, l4, l5, l6, l7, l8, l9, l10, l11, l12, l13, l14, l15, l16, l17, l18, l19, l20, l21, l22, l24, l25, l32, l39, l40, l41, l48, l50, l56, l57, l59, l60, l72, l79, l80, l81, l82, l88, l89, l97, l100, l122, l124, l125, l160, l255, l312, l320, l375, l1000, nI_ltI, nI_leI, nI_eq, nI_add, pk_mul, e_ix, e_neg, if_true, if_false, if_pos, if_neg, f_Hal_clear, b1, f1]
      · simp (disch := omega) only [e_bnd, e_bnd2, e_set, e_cpy, e_nmI, e_nmL, e_ckn, e_ckB0, e_ckB1, l0, l1, l2, l3, l4, l5, l6, l7, l8, l9, l10, l11, l12, l13, l14, l15, l16, l17, l18, l19, l20, l21, l22, l24, l25, l32, l39, l40, l41, l48, l50, l56, l57, l59, l60, l72, l79, l80, l81, l82, l88, l89, l97, l100, l122, l124, l125, l160, l255, l312, l320, l375, l1000, nI_ltI, nI_leI, nI_eq, nI_add, pk_mul, e_ix, e_neg, if_true, if_false, if_pos, if_neg, f_Mod_clear, b2, e1, f2]
  · refine ⟨-1, M, M, ?_, ?_, hInv⟩
    · simp (disch := omega) only [e_bnd, e_bnd2, e_set, e_cpy, e_nmI, e_nmL, e_ckn, e_ckB0, e_ckB1, l0, l1, l2, l3, l4, l5, l6, l7, l8, l9, l10, l11, l12, l13, l14, l15, l16, l17, l18, l19, l20, l21, l22, l24, l25, l32, l39, l40, l41, l48, l50, l56, l57, l59, l60, l72, l79, l80, l81, l82, l88, l89, l97, l100, l122, l124, l125, l160, l255, l312, l320, l375, l1000, nI_ltI, nI_leI, nI_eq, nI_add, pk_mul, e_ix, e_neg, if_true, if_false, if_pos, if_neg, f_Hal_clear, b1]
    · simp (disch := omega) only [e_bnd, e_bnd2, e_set, e_cpy, e_nmI, e_nmL, e_ckn, e_ckB0, e_ckB1, l0, l1, l2, l3, l4, l5, l6, l7, l8, l9, l10, l11, l12, l13, l14, l15, l16, l17, l18, l19, l20, l21, l22, l24, l25, l32, l39, l40, l41, l48, l50, l56, l57, l59, l60, l72, l79, l80, l81, l82, l88, l89, l97, l100, l122, l124, l125, l160, l255, l312, l320, l375, l1000, nI_ltI, nI_leI, nI_eq, nI_add, pk_mul, e_ix, e_neg, if_true, if_false, if_pos, if_neg, f_Mod_clear, b2]
end
section
/-! pure: warm days -/
theorem b_ident (a x : Int32) : a &&& (x ^^^ (-1)) = a ^^^ (a &&& x) := by
  apply Int32.toBitVec_inj.1
  simp only [Int32.toBitVec_and, Int32.toBitVec_xor]
  have e : (-1 : Int32).toBitVec = BitVec.allOnes 32 := by decide
  rw [e, BitVec.xor_allOnes]
  ext i hi
  simp only [BitVec.getElem_and, BitVec.getElem_not, BitVec.getElem_xor]
  cases a.toBitVec[i] <;> cases x.toBitVec[i] <;> rfl
theorem b_comm (a b : Int32) : a &&& b = b &&& a := by
  apply Int32.toBitVec_inj.1
  simp only [Int32.toBitVec_and]
  exact BitVec.and_comm _ _
theorem b_two : ∀ n, n < 12 → ∀ i, i < 12 → jshl 1 (nI n) &&& jshl 1 (nI i) = if n = i then jshl 1 (nI i) else 0 := by decide +kernel
theorem b_two0 : ∀ i, i < 12 → (0 : Int32) &&& jshl 1 (nI i) = 0 := by decide +kernel
theorem b_xx : ∀ i, i < 12 → jshl 1 (nI i) ^^^ jshl 1 (nI i) = 0 ∧ jshl 1 (nI i) ^^^ 0 = jshl 1 (nI i) := by decide +kernel
theorem orN_one {P : Nat → Bool} {i : Nat} (hi : i < 12) : ∀ {n : Nat}, n ≤ 12 → orN P n &&& jshl 1 (nI i) = if i < n ∧ P i = true then jshl 1 (nI i) else 0
  | 0, _ => by
    rw [if_neg (by omega), orN_0]
    exact b_two0 i hi
  | n + 1, hn => by
    have ih := orN_one (P := P) hi (n := n) (by omega)
    rw [orN_s]
    by_cases h : P n = true
    · rw [if_pos h, b_and_or, ih, b_two n (by omega) i hi]
      by_cases e : n = i
      · subst e
        rw [if_pos rfl, if_neg (by omega), if_pos ⟨by omega, h⟩, b_0or]
      · rw [if_neg e, b_or0]
        by_cases h2 : i < n ∧ P i = true
        · rw [if_pos h2, if_pos ⟨by omega, h2.2⟩]
        · rw [if_neg h2, if_neg (fun q => h2 ⟨by omega, q.2⟩)]
    · rw [if_neg h, ih]
      by_cases h2 : i < n ∧ P i = true
      · rw [if_pos h2, if_pos ⟨by omega, h2.2⟩]
      · rw [if_neg h2, if_neg (fun q => h2 ⟨by have : i ≠ n := fun e => h (e ▸ q.2); omega, q.2⟩)]
theorem orN_and {Q R : Nat → Bool} {m : Int32} : ∀ {n : Nat}, n ≤ 12 → (∀ c, c < n → jshl 1 (nI c) &&& m = if R c = true then jshl 1 (nI c) else 0) → (0 : Int32) &&& m = 0 → orN Q n &&& m = orN (fun c => Q c && R c) n
  | 0, _, _, h0 => by
    rw [orN_0, orN_0]
    exact h0
  | n + 1, hn, hR, h0 => by
    have ih := orN_and (Q := Q) (R := R) (m := m) (n := n) (by omega) (fun c hc => hR c (by omega)) h0
    rw [orN_s, orN_s]
    by_cases h : Q n = true
    · rw [if_pos h, b_and_or, ih, hR n (by omega)]
      by_cases e : R n = true
      · rw [if_pos e, if_pos (by simp [h, e])]
      · rw [if_neg e, b_or0, if_neg (by simp [e])]
    · rw [if_neg h, ih, if_neg (by simp [h])]
theorem b_0and' (m : Int32) : (0 : Int32) &&& m = 0 := by
  apply Int32.toBitVec_inj.1
  simp
theorem orN_both {P Q : Nat → Bool} {n : Nat} (hn : n ≤ 12) : orN P n &&& orN Q n = orN (fun c => P c && Q c) n := by
  refine orN_and hn (fun c hc => ?_) (b_0and' _)
  rw [b_comm, orN_one (by omega) hn]
  by_cases h : Q c = true
  · rw [if_pos ⟨hc, h⟩, if_pos h]
  · rw [if_neg (fun q => h q.2), if_neg h]
theorem orN_less {P Q : Nat → Bool} {n : Nat} (hn : n ≤ 12) : orN Q n &&& (orN P n ^^^ (-1)) = orN (fun c => Q c && !P c) n := by
  refine orN_and hn (fun c hc => ?_) (b_0and' _)
  rw [b_ident, b_comm (jshl 1 (nI c)), orN_one (by omega) hn]
  by_cases h : P c = true
  · rw [if_pos ⟨hc, h⟩, if_neg (by simp [h]), (b_xx c (by omega)).1]
  · rw [if_neg (fun q => h q.2), if_pos (by simp [h]), (b_xx c (by omega)).2]
theorem cnt_split {P Q : Nat → Bool} : ∀ n, cntN Q n = cntN (fun c => P c && Q c) n + cntN (fun c => Q c && !P c) n
  | 0 => rfl
  | n + 1 => by
    have ih := cnt_split (P := P) (Q := Q) n
    rw [cntN_s, cntN_s, cntN_s]
    cases hP : P n <;> cases hQ : Q n <;> simp <;> omega
def sumN (f : Nat → Nat) : Nat → Nat
  | 0 => 0
  | n + 1 => sumN f n + f n
theorem sumN_s {f : Nat → Nat} {n : Nat} : sumN f (n + 1) = sumN f n + f n := rfl
theorem sumN_le {f : Nat → Nat} {m : Nat} (h : ∀ i, f i ≤ m) : ∀ n, sumN f n ≤ m * n
  | 0 => Nat.zero_le _
  | n + 1 => by
    have := sumN_le h n
    have := h n
    rw [sumN_s, Nat.mul_succ]
    omega
theorem sumN_add {f g k : Nat → Nat} (h : ∀ i, k i = f i + g i) : ∀ n, sumN k n = sumN f n + sumN g n
  | 0 => rfl
  | n + 1 => by
    have := sumN_add h n
    have := h n
    rw [sumN_s, sumN_s, sumN_s]
    omega
def hpB (T : Tn) (b h : Nat) : Nat → Bool := fun c => hrd T b h c && decide (c ≠ b)
def dyA (T : Tn) (h : Nat) : Nat → Nat := fun b => cntN (hpB T b h) (T 4 0)
def dyB (T T1 : Tn) (h : Nat) : Nat → Nat := fun b => cntN (fun c => hpB T b h c && hpB T1 b h c) (T 4 0)
def dyO (T T1 : Tn) (h : Nat) : Nat → Nat := fun b => cntN (fun c => hpB T1 b h c && !hpB T b h c) (T 4 0)
theorem hrs_is {T : Tn} {b h : Nat} : hrs T b h = orN (hpB T b h) (T 4 0) := rfl
theorem c_onDay {T : Tn} {M : Mem} (o : On T M) (g : Good T) {b h v : Nat} (hb : b < T 4 0) (hh : h < 12) (hv : v ≤ 9) : ∃ M', f_Hal_hearersOnDay (nI b) (nI h) (nI v) M = some (hrs (tset T 1 4 v) b h, M') ∧ On T M' ∧ Fr 1 76 M M' ∧ Kp M M' := by
  have g1 : Good (tset T 1 4 v) := g.setW hv
  have o1 : On (tset T 1 4 v) (upd2 M 1 4 (nI v)) := On.tset o (Or.inl rfl)
  obtain ⟨M1, p1, p2⟩ := c_hearers (gg := 72) (h := h) o1 g1 hb hh (by decide)
  have o2 := o1.fr p2 (by decide)
  refine ⟨upd2 M1 1 4 (nI (T 1 4)), ?_, ?_, ((Fr.rf.set (by decide) (by decide)).tr (p2.up (by decide) (by decide))).set (by decide) (by decide), ((Kp.rf.set (by omega)).tr (p2.kp (by decide) (by decide))).set (by omega)⟩
  · unfold f_Hal_hearersOnDay
    rw [e_nmI, e_set, p1, e_bnd2, e_set, o.s4]
  · have := On.tset (a := 1) (k := 4) (v := T 1 4) o2 (Or.inl rfl)
    rw [ts_ts, ts_self] at this
    exact this
theorem c_brkDay {T : Tn} {M : Mem} (o : On T M) (g : Good T) {h v : Nat} (hh : h < 12) (hv : v ≤ 9) : ∃ M', f_Hal_brokenOnDay (nI h) (nI v) M = some (nI (cntB (tset T 1 4 v) h), M') ∧ On T M' ∧ Fr 1 77 M M' ∧ Kp M M' := by
  have g1 : Good (tset T 1 4 v) := g.setW hv
  have o1 : On (tset T 1 4 v) (upd2 M 1 4 (nI v)) := On.tset o (Or.inl rfl)
  obtain ⟨M1, p1, p2⟩ := c_broken (gg := 72) (h := h) o1 g1 hh (by decide)
  have o2 := o1.fr p2 (by decide)
  refine ⟨upd2 M1 1 4 (nI (T 1 4)), ?_, ?_, ((Fr.rf.set (by decide) (by decide)).tr (p2.up (by decide) (by decide))).set (by decide) (by decide), ((Kp.rf.set (by omega)).tr (p2.kp (by decide) (by decide))).set (by omega)⟩
  · unfold f_Hal_brokenOnDay
    rw [e_nmI, e_set, p1, e_bnd2, c_cntB g1, e_bnd, e_set, o.s4]
  · have := On.tset (a := 1) (k := 4) (v := T 1 4) o2 (Or.inl rfl)
    rw [ts_ts, ts_self] at this
    exact this
theorem dy_bd {T T1 : Tn} (g : Good T) {h : Nat} (k : Nat) (hk : k ≤ 8) : sumN (dyA T h) k ≤ 64 ∧ sumN (dyB T T1 h) k ≤ 64 ∧ sumN (dyO T T1 h) k ≤ 64 := by
  have h9 := g.n
  have a1 : ∀ i, dyA T h i ≤ 8 := fun i => Nat.le_trans (cntN_le _) h9.2.2
  have a2 : ∀ i, dyB T T1 h i ≤ 8 := fun i => Nat.le_trans (cntN_le _) h9.2.2
  have a3 : ∀ i, dyO T T1 h i ≤ 8 := fun i => Nat.le_trans (cntN_le _) h9.2.2
  have b1 := sumN_le a1 k
  have b2 := sumN_le a2 k
  have b3 := sumN_le a3 k
  omega
theorem c_daysL {T : Tn} (g : Good T) {h v w : Nat} (hh : h < 12) (hv : v ≤ 9) (hw : w ≤ 2) : ∀ (m n k : Nat) (M : Mem), On T M → k + m = T 4 0 → m < n → ∃ M', f_Hal_days_L40 n (nI h) (nI v) (nI w) (nI (sumN (dyA T h) k)) (nI (sumN (dyB T (tset T 1 4 v) h) k)) (nI (sumN (dyA (tset T 1 4 v) h) k)) (nI k) M = some (if w = 0 then nI (sumN (dyA T h) (T 4 0)) else if w = 1 then nI (sumN (dyB T (tset T 1 4 v) h) (T 4 0)) else nI (sumN (dyO T (tset T 1 4 v) h) (T 4 0)), M') ∧ On T M' ∧ Fr 1 76 M M' ∧ Kp M M' := by
  have h9 := g.n
  intro m
  induction m with
  | zero =>
    intro n k M o hk hn
    obtain ⟨n, rfl⟩ : ∃ z, n = z + 1 := ⟨n - 1, by omega⟩
    have e : k = T 4 0 := by omega
    subst e
    refine ⟨M, ?_, o, Fr.rf, Kp.rf⟩
    rw [f_Hal_days_L40, o.nb, if_pos (by rw [nI_leI (by omega) (by omega)]; omega)]
    rcases (show w = 0 ∨ w = 1 ∨ w = 2 by omega) with rfl | rfl | rfl
    · rfl
    · rfl
    · rw [if_neg (by decide), if_neg (by decide), if_neg (by decide), if_neg (by decide)]
      have e := sumN_add (f := dyB T (tset T 1 4 v) h) (g := dyO T (tset T 1 4 v) h) (k := dyA (tset T 1 4 v) h) (fun i => cnt_split _) (T 4 0)
      rw [e, pk_sub (by omega), Nat.add_sub_cancel_left]
  | succ m ih =>
    intro n k M o hk hn
    obtain ⟨n, rfl⟩ : ∃ z, n = z + 1 := ⟨n - 1, by omega⟩
    have hb : k < T 4 0 := by omega
    obtain ⟨M1, p1, p2⟩ := c_hearers (gg := 72) (h := h) o g hb hh (by decide)
    obtain ⟨M2, q1, q2, q3, q4⟩ := c_onDay (h := h) (v := v) (o.fr p2 (by decide)) g hb hh hv
    obtain ⟨M', r1, r2, r3, r4⟩ := ih n (k + 1) M2 q2 (by omega) (by omega)
    refine ⟨M', ?_, r2, ((p2.up (by decide) (by decide)).tr q3).tr r3, ((p2.kp (by decide) (by decide)).tr q4).tr r4⟩
    have e1 : f_Int_bitCount (hrs T k h) = some (nI (dyA T h k)) := c_cnt (by omega)
    have e2 : f_Int_bitCount (hrs T k h &&& hrs (tset T 1 4 v) k h) = some (nI (dyB T (tset T 1 4 v) h k)) := by
      rw [hrs_is, hrs_is, show (tset T 1 4 v) 4 0 = T 4 0 from rfl, orN_both (by omega)]
      exact c_cnt (by omega)
    have e3 : f_Int_bitCount (hrs (tset T 1 4 v) k h) = some (nI (dyA (tset T 1 4 v) h k)) := c_cnt (show T 4 0 ≤ 8 by omega)
    rw [f_Hal_days_L40, o.nb, if_neg (by rw [nI_leI (by omega) (by omega)]; omega), p1, e_bnd2, q1, e_bnd2, e1, e_bnd, e_nmI, e2, e_bnd, e_nmI, e3, e_bnd, e_nmI, nI_add, nI_add, nI_add, nI_1]
    rw [sumN_s, sumN_s, sumN_s] at r1
    exact r1
theorem m_daysL {T : Tn} (g : Good T) {h v w : Nat} (hh : h < 12) (hv : v ≤ 9) (hw : w ≤ 2) : ∀ (m n k : Nat) (M : Mem), OnM T M → k + m = T 4 0 → m < n → ∃ M', f_Mod_days_L54 n (nI h) (nI v) (nI w) (nI (T 1 4)) (nI (sumN (dyA T h) k)) (nI (sumN (dyB T (tset T 1 4 v) h) k)) (nI (sumN (dyO T (tset T 1 4 v) h) k)) (nI k) M = some (if w = 0 then nI (sumN (dyA T h) (T 4 0)) else if w = 1 then nI (sumN (dyB T (tset T 1 4 v) h) (T 4 0)) else nI (sumN (dyO T (tset T 1 4 v) h) (T 4 0)), M') ∧ OnM T M' ∧ (∀ a, a < 103 → M' a = M a) ∧ Kp M M' := by
  have h9 := g.n
  intro m
  induction m with
  | zero =>
    intro n k M o hk hn
    obtain ⟨n, rfl⟩ : ∃ z, n = z + 1 := ⟨n - 1, by omega⟩
    have e : k = T 4 0 := by omega
    subst e
    refine ⟨M, ?_, o, fun _ _ => rfl, Kp.rf⟩
    rw [f_Mod_days_L54, o.nb, if_pos (by rw [nI_leI (by omega) (by omega)]; omega)]
    rcases (show w = 0 ∨ w = 1 ∨ w = 2 by omega) with rfl | rfl | rfl <;> rfl
  | succ m ih =>
    intro n k M o hk hn
    obtain ⟨n, rfl⟩ : ∃ z, n = z + 1 := ⟨n - 1, by omega⟩
    have hb : k < T 4 0 := by omega
    have g1 : Good (tset T 1 4 v) := g.setW hv
    obtain ⟨M1, p1, p2⟩ := m_heardOf (h := h) o g hb hh
    have o1 : OnM (tset T 1 4 v) (upd2 M1 104 81 (nI v)) := (o.fr p2.m).tset (Or.inl ⟨rfl, rfl, rfl⟩)
    obtain ⟨M2, q1, q2⟩ := m_heardOf (h := h) o1 g1 hb hh
    have o2 : OnM T (upd2 M2 104 81 (nI (T 1 4))) := by
      have := OnM.tset (a := 1) (k := 81) (v := 4) (x := T 1 4) (o1.fr q2.m) (Or.inl ⟨rfl, rfl, rfl⟩)
      rw [ts_ts, ts_self] at this
      exact this
    obtain ⟨M', r1, r2, r3, r4⟩ := ih n (k + 1) _ o2 (by omega) (by omega)
    refine ⟨M', ?_, r2, fun a ha => ?_, ((((p2.m.kp).set (by omega)).tr q2.m.kp).set (by omega)).tr r4⟩
    · have e1 : f_Mod_bitsOf (hrs T k h) = some (nI (dyA T h k)) := m_cnt (by omega)
      have e2 : f_Mod_bitsOf (hrs T k h &&& hrs (tset T 1 4 v) k h) = some (nI (dyB T (tset T 1 4 v) h k)) := by
        rw [hrs_is, hrs_is, show (tset T 1 4 v) 4 0 = T 4 0 from rfl, orN_both (by omega)]
        exact m_cnt (by omega)
      have e3 : f_Mod_bitsOf (hrs (tset T 1 4 v) k h &&& (hrs T k h ^^^ (-1))) = some (nI (dyO T (tset T 1 4 v) h k)) := by
        rw [hrs_is, hrs_is, show (tset T 1 4 v) 4 0 = T 4 0 from rfl, orN_less (by omega)]
        exact m_cnt (by omega)
      rw [f_Mod_days_L54, o.nb, if_neg (by rw [nI_leI (by omega) (by omega)]; omega), p1, e_bnd2, e_set, show ix 81 = 81 from rfl, q1, e_bnd2, e_set, e1, e_bnd, e_nmI, e2, e_bnd, e_nmI, e3, e_bnd, e_nmI, nI_add, nI_add, nI_add, nI_1]
      rw [sumN_s, sumN_s, sumN_s] at r1
      exact r1
    · rw [r3 a ha, u_ne (by omega)]
      funext j
      rw [q2 a j (by omega) (by omega) (fun e => by omega), u_ne (by omega), p2 a j (by omega) (by omega) (fun e => by omega)]
theorem s_days (x y z : Int32) : Sim (f_Hal_days x y z) (f_Mod_days x y z) := by
  intro M ⟨T, hA, hI, hS, hT, hF⟩
  obtain ⟨o, om, g⟩ := id hA
  have h9 := g.n
  have e9 : f_Mod_in y.toInt64 0 9 = f_Mod_in y.toInt64 0 (nI 9).toInt64 := rfl
  have e2 : f_Mod_in z.toInt64 0 2 = f_Mod_in z.toInt64 0 (nI 2).toInt64 := rfl
  rcases a_hour x with ⟨h, hh, rfl, b1, b2⟩ | ⟨b1, b2⟩
  · rcases wi y (m := 9) (by decide) with ⟨v, hv, rfl, f1, f2⟩ | ⟨f1, f2, -⟩
    · rcases wi z (m := 2) (by decide) with ⟨w, hw, rfl, i1, i2⟩ | ⟨i1, i2, -⟩
      · obtain ⟨M1, p1, p2, p3, p4⟩ := c_daysL g (w := w) hh hv hw (T 4 0) 1000 0 M o (by omega) (by omega)
        have om1 := om.frc p3 (by decide)
        obtain ⟨M2, q1, q2, q3, q4⟩ := m_daysL g (w := w) hh hv hw (T 4 0) 1000 0 M1 om1 (by omega) (by omega)
        refine ⟨if w = 0 then nI (sumN (dyA T h) (T 4 0)) else if w = 1 then nI (sumN (dyB T (tset T 1 4 v) h) (T 4 0)) else nI (sumN (dyO T (tset T 1 4 v) h) (T 4 0)), M1, M2, ?_, ?_, Inv.to hI hS hT hF (p4.tr q4) (fun _ _ _ => rfl) ⟨p2.low q3, q2, g⟩⟩
        · unfold f_Hal_days
          rw [b1, e_bnd, if_neg (by decide), show (0 : Int32) = nI 0 from rfl, show (9 : Int32) = nI 9 from rfl, f1, e_bnd, if_neg (by decide), show (2 : Int32) = nI 2 from rfl, i1, e_bnd, if_neg (by decide)]
          exact p1
        · unfold f_Mod_days
          rw [b2, e_bnd, if_neg (by decide), e9, f2, e_bnd, if_neg (by decide), e2, i2, e_bnd, if_neg (by decide), e_nmI, show M1 104 (ix 81) = nI (T 1 4) from om1.s4]
          exact q1
      · refine ⟨-1, M, M, ?_, ?_, ⟨T, hA, hI, hS, hT, hF⟩⟩
        · simp (disch := omega) only [e_bnd, e_bnd2, e_set, e_cpy, e_nmI, e_nmL, e_ckn, e_ckB0, e_ckB1, l0, l1, l2, l3, l4, l5, l6, l7, l8, l9, l10, l11, l12, l13, l14, l15, l16, l17, l18, l19, l20, l21, l22, l24, l25, l32, l39, l40, l41, l48, l50, l56, l57, l59, l60, l72, l79, l80, l81, l82, l88, l89, l97, l100, l122, l124, l125, l160, l255, l312, l320, l375, l1000, nI_ltI, nI_leI, nI_eq, nI_add, pk_mul, e_ix, e_neg, if_true, if_false, if_pos, if_neg, f_Hal_days, b1, f1, i1]
        · simp (disch := omega) only [e_bnd, e_bnd2, e_set, e_cpy, e_nmI, e_nmL, e_ckn, e_ckB0, e_ckB1, l0, l1, l2, l3, l4, l5, l6, l7, l8, l9, l10, l11, l12, l13, l14, l15, l16, l17, l18, l19, l20, l21, l22, l24, l25, l32, l39, l40, l41, l48, l50, l56, l57, l59, l60, l72, l79, l80, l81, l82, l88, l89, l97, l100, l122, l124, l125, l160, l255, l312, l320, l375, l1000, nI_ltI, nI_leI, nI_eq, nI_add, pk_mul, e_ix, e_neg, if_true, if_false, if_pos, if_neg, f_Mod_days, b2, e9, f2, e2, i2]
    · refine ⟨-1, M, M, ?_, ?_, ⟨T, hA, hI, hS, hT, hF⟩⟩
      · simp (disch := omega) only [e_bnd, e_bnd2, e_set, e_cpy, e_nmI, e_nmL, e_ckn, e_ckB0, e_ckB1, l0, l1, l2, l3, l4, l5, l6, l7, l8, l9, l10, l11, l12, l13, l14, l15, l16, l17, l18, l19, l20, l21, l22, l24, l25, l32, l39, l40, l41, l48, l50, l56, l57, l59, l60, l72, l79, l80, l81, l82, l88, l89, l97, l100, l122, l124, l125, l160, l255, l312, l320, l375, l1000, nI_ltI, nI_leI, nI_eq, nI_add, pk_mul, e_ix, e_neg, if_true, if_false, if_pos, if_neg, f_Hal_days, b1, f1]
      · simp (disch := omega) only [e_bnd, e_bnd2, e_set, e_cpy, e_nmI, e_nmL, e_ckn, e_ckB0, e_ckB1, l0, l1, l2, l3, l4, l5, l6, l7, l8, l9, l10, l11, l12, l13, l14, l15, l16, l17, l18, l19, l20, l21, l22, l24, l25, l32, l39, l40, l41, l48, l50, l56, l57, l59, l60, l72, l79, l80, l81, l82, l88, l89, l97, l100, l122, l124, l125, l160, l255, l312, l320, l375, l1000, nI_ltI, nI_leI, nI_eq, nI_add, pk_mul, e_ix, e_neg, if_true, if_false, if_pos, if_neg, f_Mod_days, b2, e9, f2]
  · refine ⟨-1, M, M, ?_, ?_, ⟨T, hA, hI, hS, hT, hF⟩⟩
    · simp (disch := omega) only [e_bnd, e_bnd2, e_set, e_cpy, e_nmI, e_nmL, e_ckn, e_ckB0, e_ckB1, l0, l1, l2, l3, l4, l5, l6, l7, l8, l9, l10, l11, l12, l13, l14, l15, l16, l17, l18, l19, l20, l21, l22, l24, l25, l32, l39, l40, l41, l48, l50, l56, l57, l59, l60, l72, l79, l80, l81, l82, l88, l89, l97, l100, l122, l124, l125, l160, l255, l312, l320, l375, l1000, nI_ltI, nI_leI, nI_eq, nI_add, pk_mul, e_ix, e_neg, if_true, if_false, if_pos, if_neg, f_Hal_days, b1]
    · simp (disch := omega) only [e_bnd, e_bnd2, e_set, e_cpy, e_nmI, e_nmL, e_ckn, e_ckB0, e_ckB1, l0, l1, l2, l3, l4, l5, l6, l7, l8, l9, l10, l11, l12, l13, l14, l15, l16, l17, l18, l19, l20, l21, l22, l24, l25, l32, l39, l40, l41, l48, l50, l56, l57, l59, l60, l72, l79, l80, l81, l82, l88, l89, l97, l100, l122, l124, l125, l160, l255, l312, l320, l375, l1000, nI_ltI, nI_leI, nI_eq, nI_add, pk_mul, e_ix, e_neg, if_true, if_false, if_pos, if_neg, f_Mod_days, b2]
def bw (T : Tn) (h : Nat) : Nat → Nat × Nat
  | 0 => (0, 9)
  | k + 1 => if cntB (tset T 1 4 k) h < (bw T h k).2 then (k, cntB (tset T 1 4 k) h) else bw T h k
theorem bw_s {T : Tn} {h k : Nat} : bw T h (k + 1) = if cntB (tset T 1 4 k) h < (bw T h k).2 then (k, cntB (tset T 1 4 k) h) else bw T h k := rfl
theorem bw_le {T : Tn} {h : Nat} : ∀ k, (bw T h k).2 ≤ 9 ∧ (bw T h k).1 ≤ k
  | 0 => ⟨Nat.le_refl 9, Nat.le_refl 0⟩
  | k + 1 => by
    have := bw_le (T := T) (h := h) k
    rw [bw_s]
    split
    · constructor
      · dsimp only; omega
      · dsimp only; omega
    · omega
theorem c_bwL {T : Tn} (g : Good T) {h w : Nat} (hh : h < 12) (hw : w ≤ 1) : ∀ (m n k : Nat) (M : Mem), On T M → k + m = 10 → m < n → ∃ M', f_Hal_best_L27 n (nI h) (nI w) (nI (bw T h k).1) (nI (bw T h k).2) (nI k) M = some (if w = 0 then nI (bw T h 10).1 else nI (bw T h 10).2, M') ∧ On T M' ∧ Fr 1 77 M M' ∧ Kp M M' := by
  intro m
  induction m with
  | zero =>
    intro n k M o hk hn
    obtain ⟨n, rfl⟩ : ∃ z, n = z + 1 := ⟨n - 1, by omega⟩
    have e : k = 10 := by omega
    subst e
    refine ⟨M, ?_, o, Fr.rf, Kp.rf⟩
    rw [f_Hal_best_L27, if_pos (by decide)]
    rcases (show w = 0 ∨ w = 1 by omega) with rfl | rfl <;> rfl
  | succ m ih =>
    intro n k M o hk hn
    obtain ⟨n, rfl⟩ : ∃ z, n = z + 1 := ⟨n - 1, by omega⟩
    have hle := bw_le (T := T) (h := h) k
    have cl := cntB_le (h := h) (g.setW (v := k) (by omega))
    obtain ⟨M1, p1, p2, p3, p4⟩ := c_brkDay (h := h) (v := k) o g hh (by omega)
    obtain ⟨M', r1, r2, r3, r4⟩ := ih n (k + 1) M1 p2 (by omega) (by omega)
    refine ⟨M', ?_, r2, p3.tr r3, p4.tr r4⟩
    rw [f_Hal_best_L27, if_neg (by rw [l9, nI_ltI (by omega) (by omega)]; omega), p1, e_bnd2, nI_1]
    rw [bw_s] at r1
    by_cases hlt : cntB (tset T 1 4 k) h < (bw T h k).2
    · rw [if_neg (by rw [nI_leI (by omega) (by omega)]; omega)]
      rw [if_pos hlt] at r1
      exact r1
    · rw [if_pos (by rw [nI_leI (by omega) (by omega)]; omega)]
      rw [if_neg hlt] at r1
      exact r1
theorem m_bwL {T : Tn} (g : Good T) {h w : Nat} (hh : h < 12) (hw : w ≤ 1) : ∀ (m n k u : Nat) (b l : Int32) (M : Mem), OnM (tset T 1 4 u) M → k + m = 10 → m < n → (k = 0 → b = -4) → (1 ≤ k → b = nI (bw T h k).1 ∧ l = nI (bw T h k).2) → ∃ M', f_Mod_best_L37 n (nI h) (nI w) (nI (T 1 4)) b l (nI k) M = some (if w = 0 then nI (bw T h 10).1 else nI (bw T h 10).2, M') ∧ OnM T M' ∧ (∀ a, a < 103 → M' a = M a) ∧ Kp M M' := by
  intro m
  induction m with
  | zero =>
    intro n k u b l M o hk hn h0 h1
    obtain ⟨n, rfl⟩ : ∃ z, n = z + 1 := ⟨n - 1, by omega⟩
    have e : k = 10 := by omega
    subst e
    obtain ⟨rfl, rfl⟩ := h1 (by decide)
    refine ⟨upd2 M 104 81 (nI (T 1 4)), ?_, ?_, fun a ha => u_ne (by omega), Kp.rf.set (by omega)⟩
    · rw [f_Mod_best_L37, if_pos (by decide), e_set]
      rcases (show w = 0 ∨ w = 1 by omega) with rfl | rfl <;> rfl
    · have := OnM.tset (a := 1) (k := 81) (v := 4) (x := T 1 4) o (Or.inl ⟨rfl, rfl, rfl⟩)
      rw [ts_ts, ts_self] at this
      exact this
  | succ m ih =>
    intro n k u b l M o hk hn h0 h1
    obtain ⟨n, rfl⟩ : ∃ z, n = z + 1 := ⟨n - 1, by omega⟩
    have hle := bw_le (T := T) (h := h) k
    have g1 : Good (tset T 1 4 k) := g.setW (by omega)
    have cl := cntB_le (h := h) g1
    have o1 : OnM (tset T 1 4 k) (upd2 M 104 81 (nI k)) := by
      have := OnM.tset (a := 1) (k := 81) (v := 4) (x := k) o (Or.inl ⟨rfl, rfl, rfl⟩)
      rw [ts_ts] at this
      exact this
    obtain ⟨M1, p1, p2⟩ := m_broken (h := h) o1 g1 hh
    have o2 := o1.fr p2.m
    have low : ∀ a, a < 103 → M1 a = M a := fun a ha => funext fun j => by
      rw [p2 a j (by omega) (fun e => by omega), u_ne (by omega)]
    have kk : Kp M M1 := (Kp.rf.set (by omega)).tr p2.m.kp
    have go : ∀ b l : Int32, b = nI (bw T h (k + 1)).1 → l = nI (bw T h (k + 1)).2 → ∃ M', f_Mod_best_L37 n (nI h) (nI w) (nI (T 1 4)) b l (nI (k + 1)) M1 = some (if w = 0 then nI (bw T h 10).1 else nI (bw T h 10).2, M') ∧ OnM T M' ∧ (∀ a, a < 103 → M' a = M a) ∧ Kp M M' := fun b l e1 e2 => by
      obtain ⟨M', r1, r2, r3, r4⟩ := ih n (k + 1) k b l M1 o2 (by omega) (by omega) (fun e => by omega) (fun _ => ⟨e1, e2⟩)
      exact ⟨M', r1, r2, fun a ha => by rw [r3 a ha, low a ha], kk.tr r4⟩
    rw [f_Mod_best_L37, if_neg (by rw [l10, nI_leI (by omega) (by omega)]; omega), e_set, show ix 81 = 81 from rfl, p1, e_bnd2, m_cntB g1, e_bnd]
    unfold f_Mod_best_J77 f_Mod_best_J82 f_Mod_best_J96
    rw [if_neg (show ¬ (1 : Int32) = 0 by decide), if_neg (show ¬ (1 : Int32) = 0 by decide), if_pos (show (0 : Int32) = 0 from rfl), if_pos (show (0 : Int32) = 0 from rfl), nI_1]
    by_cases hk0 : k = 0
    · subst hk0
      have hb : bw T h (0 + 1) = (0, cntB (tset T 1 4 0) h) := by
        rw [bw_s, if_pos]
        show _ < 9
        omega
      rw [h0 rfl, if_pos rfl]
      exact go _ _ (by rw [hb]) (by rw [hb])
    · obtain ⟨rfl, rfl⟩ := h1 (by omega)
      rw [if_neg (by rw [l4, e_neg (by omega) (by omega) (by omega)]; exact id)]
      by_cases hlt : cntB (tset T 1 4 k) h < (bw T h k).2
      · have hb : bw T h (k + 1) = (k, cntB (tset T 1 4 k) h) := by rw [bw_s, if_pos hlt]
        rw [if_neg (by rw [nI_leI (by omega) (by omega)]; omega)]
        exact go _ _ (by rw [hb]) (by rw [hb])
      · have hb : bw T h (k + 1) = bw T h k := by rw [bw_s, if_neg hlt]
        rw [if_pos (by rw [nI_leI (by omega) (by omega)]; omega)]
        exact go _ _ (by rw [hb]) (by rw [hb])
theorem s_best (x y : Int32) : Sim (f_Hal_best x y) (f_Mod_best x y) := by
  intro M ⟨T, hA, hI, hS, hT, hF⟩
  obtain ⟨o, om, g⟩ := id hA
  have e1 : f_Mod_in y.toInt64 0 1 = f_Mod_in y.toInt64 0 (nI 1).toInt64 := rfl
  rcases a_hour x with ⟨h, hh, rfl, b1, b2⟩ | ⟨b1, b2⟩
  · rcases wi y (m := 1) (by decide) with ⟨w, hw, rfl, f1, f2⟩ | ⟨f1, f2, -⟩
    · obtain ⟨M1, p1, p2, p3, p4⟩ := c_bwL g (w := w) hh hw 10 1000 0 M o rfl (by decide)
      have om1 := om.frc p3 (by decide)
      have om1' : OnM (tset T 1 4 (T 1 4)) M1 := by rw [ts_self]; exact om1
      obtain ⟨M2, q1, q2, q3, q4⟩ := m_bwL g (w := w) hh hw 10 1000 0 (T 1 4) (-4) 0 M1 om1' rfl (by decide) (fun _ => rfl) (fun e => by omega)
      refine ⟨if w = 0 then nI (bw T h 10).1 else nI (bw T h 10).2, M1, M2, ?_, ?_, Inv.to hI hS hT hF (p4.tr q4) (fun _ _ _ => rfl) ⟨p2.low q3, q2, g⟩⟩
      · unfold f_Hal_best
        rw [b1, e_bnd, if_neg (by decide), show (0 : Int32) = nI 0 from rfl, show (1 : Int32) = nI 1 from rfl, f1, e_bnd, if_neg (by decide)]
        exact p1
      · unfold f_Mod_best
        rw [b2, e_bnd, if_neg (by decide), e1, f2, e_bnd, if_neg (by decide), e_nmI, show M1 104 (ix 81) = nI (T 1 4) from om1.s4]
        exact q1
    · refine ⟨-1, M, M, ?_, ?_, ⟨T, hA, hI, hS, hT, hF⟩⟩
      · simp (disch := omega) only [e_bnd, e_bnd2, e_set, e_cpy, e_nmI, e_nmL, e_ckn, e_ckB0, e_ckB1, l0, l1, l2, l3, l4, l5, l6, l7, l8, l9, l10, l11, l12, l13, l14, l15, l16, l17, l18, l19, l20, l21, l22, l24, l25, l32, l39, l40, l41, l48, l50, l56, l57, l59, l60, l72, l79, l80, l81, l82, l88, l89, l97, l100, l122, l124, l125, l160, l255, l312, l320, l375, l1000, nI_ltI, nI_leI, nI_eq, nI_add, pk_mul, e_ix, e_neg, if_true, if_false, if_pos, if_neg, f_Hal_best, b1, f1]
      · simp (disch := omega) only [e_bnd, e_bnd2, e_set, e_cpy, e_nmI, e_nmL, e_ckn, e_ckB0, e_ckB1, l0, l1, l2, l3, l4, l5, l6, l7, l8, l9, l10, l11, l12, l13, l14, l15, l16, l17, l18, l19, l20, l21, l22, l24, l25, l32, l39, l40, l41, l48, l50, l56, l57, l59, l60, l72, l79, l80, l81, l82, l88, l89, l97, l100, l122, l124, l125, l160, l255, l312, l320, l375, l1000, nI_ltI, nI_leI, nI_eq, nI_add, pk_mul, e_ix, e_neg, if_true, if_false, if_pos, if_neg, f_Mod_best, b2, e1, f2]
  · refine ⟨-1, M, M, ?_, ?_, ⟨T, hA, hI, hS, hT, hF⟩⟩
    · simp (disch := omega) only [e_bnd, e_bnd2, e_set, e_cpy, e_nmI, e_nmL, e_ckn, e_ckB0, e_ckB1, l0, l1, l2, l3, l4, l5, l6, l7, l8, l9, l10, l11, l12, l13, l14, l15, l16, l17, l18, l19, l20, l21, l22, l24, l25, l32, l39, l40, l41, l48, l50, l56, l57, l59, l60, l72, l79, l80, l81, l82, l88, l89, l97, l100, l122, l124, l125, l160, l255, l312, l320, l375, l1000, nI_ltI, nI_leI, nI_eq, nI_add, pk_mul, e_ix, e_neg, if_true, if_false, if_pos, if_neg, f_Hal_best, b1]
    · simp (disch := omega) only [e_bnd, e_bnd2, e_set, e_cpy, e_nmI, e_nmL, e_ckn, e_ckB0, e_ckB1, l0, l1, l2, l3, l4, l5, l6, l7, l8, l9, l10, l11, l12, l13, l14, l15, l16, l17, l18, l19, l20, l21, l22, l24, l25, l32, l39, l40, l41, l48, l50, l56, l57, l59, l60, l72, l79, l80, l81, l82, l88, l89, l97, l100, l122, l124, l125, l160, l255, l312, l320, l375, l1000, nI_ltI, nI_leI, nI_eq, nI_add, pk_mul, e_ix, e_neg, if_true, if_false, if_pos, if_neg, f_Mod_best, b2]
end
section
/-! pure: secrets -/
theorem b_or_assoc (a b c : Int32) : a ||| b ||| c = a ||| (b ||| c) := by
  apply Int32.toBitVec_inj.1
  simp only [Int32.toBitVec_or]
  exact BitVec.or_assoc _ _ _
theorem b_or_comm (a b : Int32) : a ||| b = b ||| a := by
  apply Int32.toBitVec_inj.1
  simp only [Int32.toBitVec_or]
  exact BitVec.or_comm _ _
theorem b_or_self (a : Int32) : a ||| a = a := by
  apply Int32.toBitVec_inj.1
  simp
theorem b_or4 (a x b y : Int32) : (a ||| x) ||| (b ||| y) = (a ||| b) ||| (x ||| y) := by
  rw [b_or_assoc, b_or_assoc, ← b_or_assoc x b y, b_or_comm x b, b_or_assoc b x y]
theorem orN_or {A B : Nat → Bool} : ∀ n, orN A n ||| orN B n = orN (fun q => A q || B q) n
  | 0 => by
    rw [orN_0, orN_0, orN_0]
    exact b_or0 0
  | n + 1 => by
    have ih := orN_or (A := A) (B := B) n
    rw [orN_s, orN_s, orN_s, ← ih]
    cases hA : A n <;> cases hB : B n
    · rfl
    · simp only [Bool.false_eq_true, if_false, if_true, Bool.or_true]
      rw [b_or_assoc]
    · simp only [Bool.false_eq_true, if_false, if_true, Bool.or_false]
      rw [b_or_assoc, b_or_comm _ (orN B n), ← b_or_assoc]
    · simp only [if_true, Bool.or_true]
      rw [b_or4, b_or_self]
theorem orN_none {P : Nat → Bool} : ∀ {n : Nat}, (∀ q, q < n → P q = false) → orN P n = 0
  | 0, _ => rfl
  | n + 1, h => by
    rw [orN_s, h n (by omega), orN_none (fun q hq => h q (by omega))]
    rfl
theorem orN_bit1 {p : Nat} : ∀ {n : Nat}, p < n → orN (fun q => decide (q = p)) n = jshl 1 (nI p)
  | n + 1, h => by
    rw [orN_s]
    by_cases e : p = n
    · subst e
      rw [if_pos (by simp), orN_none (fun q hq => by simp; omega), b_0or]
    · rw [if_neg (by simp; omega), orN_bit1 (show p < n by omega)]
/-- what is known: of a secret, by whom -/
abbrev Kn : Type := Nat → Nat → Bool
def sdB (T : Tn) (κ : Kn) (i : Nat) : Bool := decide (orN (κ (T 17 i)) (T 1 5) = 0) || κ (T 17 i) (T 16 i)
def tel (T : Tn) (κ : Kn) (i : Nat) : Kn := fun s q => if s = T 17 i then (κ s q || decide (q = T 16 i)) || decide (hbN T (T 3 (T 16 i)) (T 3 q) (T 15 i) = 1) else κ s q
def tl (T : Tn) (bt : Nat → Bool) : Nat → Kn
  | 0 => fun _ _ => false
  | i + 1 => if (!bt i && sdB T (tl T bt i) i) = true then tel T (tl T bt i) i else tl T bt i
def wct (T : Tn) (bt : Nat → Bool) : Nat → Nat
  | 0 => 0
  | i + 1 => if (!bt i && sdB T (tl T bt i) i) = true then wct T bt i + 1 else wct T bt i
theorem tl_s {T : Tn} {bt : Nat → Bool} {i : Nat} : tl T bt (i + 1) = if (!bt i && sdB T (tl T bt i) i) = true then tel T (tl T bt i) i else tl T bt i := rfl
theorem wct_s {T : Tn} {bt : Nat → Bool} {i : Nat} : wct T bt (i + 1) = if (!bt i && sdB T (tl T bt i) i) = true then wct T bt i + 1 else wct T bt i := rfl
def KnC (a : Nat) (T : Tn) (κ : Kn) (M : Mem) : Prop := ∀ s, s < 8 → M a s = orN (κ s) (T 1 5)
theorem tel_is {T : Tn} {κ : Kn} {i : Nat} (hp : T 16 i < T 1 5) : orN (tel T κ i (T 17 i)) (T 1 5) = orN (κ (T 17 i)) (T 1 5) ||| jshl 1 (nI (T 16 i)) ||| ppl T (T 16 i) (T 15 i) := by
  unfold ppl
  rw [← orN_bit1 hp, orN_or, orN_or]
  exact orN_cg (fun q _ => by
    show (if T 17 i = T 17 i then _ else _) = _
    rw [if_pos rfl])
theorem tel_ne {T : Tn} {κ : Kn} {i s : Nat} (h : s ≠ T 17 i) : tel T κ i s = κ s := by
  funext q
  exact if_neg h
section GO
variable {T : Tn} {M : Mem}
theorem fillL {a n : Nat} (hn : n < 2147483648) : ∀ (m f k : Nat) (M : Mem) (x : Int32), k + m = n → m < f → (∀ j, j < k → M a j = x) → ∃ M', f_Arr_fill_L5 a n f x (nI k) (nI n) M = some M' ∧ Fr a a M M' ∧ ∀ j, j < n → M' a j = x := by
  intro m
  induction m with
  | zero =>
    intro f k M x hk hf h
    obtain ⟨f, rfl⟩ : ∃ z, f = z + 1 := ⟨f - 1, by omega⟩
    have e : k = n := by omega
    subst e
    exact ⟨M, by rw [f_Arr_fill_L5, if_pos (by rw [nI_leI (by omega) (by omega)]; omega)], Fr.rf, h⟩
  | succ m ih =>
    intro f k M x hk hf h
    obtain ⟨f, rfl⟩ : ∃ z, f = z + 1 := ⟨f - 1, by omega⟩
    obtain ⟨M', r1, r2, r3⟩ := ih f (k + 1) (upd2 M a k x) x (by omega) (by omega) (fun j hj => by
      by_cases e : j = k
      · subst e; exact u_eq
      · rw [u_nk e]; exact h j (by omega))
    refine ⟨M', ?_, (Fr.rf.set (Nat.le_refl a) (Nat.le_refl a)).tr r2, r3⟩
    rw [f_Arr_fill_L5, if_neg (by rw [nI_leI (by omega) (by omega)]; omega), e_ckn (by omega) (by omega), e_set, nI_1, show ix (nI k) = k from e_ix (by omega)]
    exact r1
theorem fill_ok {a n : Nat} {x : Int32} (hn : n < 1000) : ∃ M', f_Arr_fill a n x M = some M' ∧ Fr a a M M' ∧ ∀ j, j < n → M' a j = x := by
  unfold f_Arr_fill
  rw [e_nmI]
  exact fillL (by omega) n 1000 0 M x (by omega) hn (fun j hj => by omega)
theorem c_wsp (o : On T M) (g : Good T) {i : Nat} (hi : i < T 14 0) : f_Tri_part 14 M (nI i) 0 = some (nI (T 15 i)) ∧ f_Tri_part 14 M (nI i) 1 = some (nI (T 16 i)) ∧ f_Tri_part 14 M (nI i) 2 = some (nI (T 17 i)) := by
  have h9 := g.ns
  refine ⟨?_, ?_, ?_⟩
  · simp (disch := omega) only [e_bnd, e_bnd2, e_set, e_cpy, e_nmI, e_nmL, e_ckn, e_ckB0, e_ckB1, l0, l1, l2, l3, l4, l5, l6, l7, l8, l9, l10, l11, l12, l13, l14, l15, l16, l17, l18, l19, l20, l21, l22, l24, l25, l32, l39, l40, l41, l48, l50, l56, l57, l59, l60, l72, l79, l80, l81, l82, l88, l89, l97, l100, l122, l124, l125, l160, l255, l312, l320, l375, l1000, nI_ltI, nI_leI, nI_eq, nI_add, pk_mul, e_ix, e_neg, if_true, if_false, if_pos, if_neg, f_Tri_part, o.ns, Nat.reduceAdd, o.v (a := 15) (by decide) (by decide) hi]
  · simp (disch := omega) only [e_bnd, e_bnd2, e_set, e_cpy, e_nmI, e_nmL, e_ckn, e_ckB0, e_ckB1, l0, l1, l2, l3, l4, l5, l6, l7, l8, l9, l10, l11, l12, l13, l14, l15, l16, l17, l18, l19, l20, l21, l22, l24, l25, l32, l39, l40, l41, l48, l50, l56, l57, l59, l60, l72, l79, l80, l81, l82, l88, l89, l97, l100, l122, l124, l125, l160, l255, l312, l320, l375, l1000, nI_ltI, nI_leI, nI_eq, nI_add, pk_mul, e_ix, e_neg, if_true, if_false, if_pos, if_neg, f_Tri_part, o.ns, Nat.reduceAdd, o.v (a := 16) (by decide) (by decide) hi]
  · simp (disch := omega) only [e_bnd, e_bnd2, e_set, e_cpy, e_nmI, e_nmL, e_ckn, e_ckB0, e_ckB1, l0, l1, l2, l3, l4, l5, l6, l7, l8, l9, l10, l11, l12, l13, l14, l15, l16, l17, l18, l19, l20, l21, l22, l24, l25, l32, l39, l40, l41, l48, l50, l56, l57, l59, l60, l72, l79, l80, l81, l82, l88, l89, l97, l100, l122, l124, l125, l160, l255, l312, l320, l375, l1000, nI_ltI, nI_leI, nI_eq, nI_add, pk_mul, e_ix, e_neg, if_true, if_false, if_pos, if_neg, f_Tri_part, o.ns, Nat.reduceAdd, o.v (a := 17) (by decide) (by decide) hi]
theorem sec_yes {s : Nat} (h : s < 8) : f_Hal_isSecret (nI s) = some (nI 1) := by
  have := w_yes (k := s) (m := 7) (by omega) (by decide)
  simp (disch := omega) only [e_bnd, e_bnd2, e_set, e_cpy, e_nmI, e_nmL, e_ckn, e_ckB0, e_ckB1, l0, l1, l2, l3, l4, l5, l6, l7, l8, l9, l10, l11, l12, l13, l14, l15, l16, l17, l18, l19, l20, l21, l22, l24, l25, l32, l39, l40, l41, l48, l50, l56, l57, l59, l60, l72, l79, l80, l81, l82, l88, l89, l97, l100, l122, l124, l125, l160, l255, l312, l320, l375, l1000, nI_ltI, nI_leI, nI_eq, nI_add, pk_mul, e_ix, e_neg, if_true, if_false, if_pos, if_neg, f_Hal_isSecret, this]
theorem c_kof {κ : Kn} (hK : KnC 85 T κ M) {s : Nat} (h : s < 8) : f_Gos_knowersOf M (nI s) = some (orN (κ s) (T 1 5)) := by
  unfold f_Gos_knowersOf
  rw [sec_yes h, e_bnd, if_neg (by decide), e_ckn h (by decide), show ix (nI s) = s from e_ix (by omega), hK s h]
theorem c_tell (o : On T M) (g : Good T) {κ : Kn} (hK : KnC 85 T κ M) {i : Nat} (hi : i < T 14 0) : ∃ M', f_Gos_tellOne (nI i) M = some (nI (if sdB T κ i = true then 1 else 0), M') ∧ Fr 79 85 M M' ∧ KnC 85 T (if sdB T κ i = true then tel T κ i else κ) M' := by
  have h9 := g.n
  have hv := g.v hi
  obtain ⟨c0, c1, c2⟩ := c_wsp o g hi
  have w1 : f_Hal_within (nI (T 16 i)) 0 (nI (T 1 5) - 1) = some (nI 1) := by
    rw [w_in, if_pos (nI_in1 (by omega) hv.2.1)]
  have hbt : jshr (orN (κ (T 17 i)) (T 1 5)) (nI (T 16 i)) &&& 1 = if κ (T 17 i) (T 16 i) = true then nI 1 else nI 0 := by
    rw [orN_bit (by omega) (by omega)]
    by_cases h : κ (T 17 i) (T 16 i) = true
    · rw [if_pos ⟨hv.2.1, h⟩, if_pos h]
    · rw [if_neg (fun q => h q.2), if_neg h]
  have yes : sdB T κ i = true → ∃ M', f_Gos_tellOne_J67 (nI i) (nI (T 16 i)) (nI (T 17 i)) (orN (κ (T 17 i)) (T 1 5)) M = some (nI (if sdB T κ i = true then 1 else 0), M') ∧ Fr 79 85 M M' ∧ KnC 85 T (if sdB T κ i = true then tel T κ i else κ) M' := fun hs => by
    obtain ⟨M1, p1, p2⟩ := c_ppl (gg := 79) (h := T 15 i) o g hv.2.1 hv.1 (by decide)
    refine ⟨upd2 M1 85 (T 17 i) (orN (κ (T 17 i)) (T 1 5) ||| jshl 1 (nI (T 16 i)) ||| ppl T (T 16 i) (T 15 i)), ?_, (p2.up (by decide) (by decide)).set (by decide) (by decide), ?_⟩
    · unfold f_Gos_tellOne_J67
      rw [c0, e_bnd, p1, e_bnd2, e_ckn hv.2.2 (by decide), e_set, show ix (nI (T 17 i)) = T 17 i from e_ix (by omega), hs]
      rfl
    · intro s hs8
      rw [hs, if_pos rfl]
      by_cases e : s = T 17 i
      · subst e
        rw [u_eq, tel_is hv.2.1]
      · rw [u_nk e, p2 85 (by decide), tel_ne e]
        exact hK s hs8
  unfold f_Gos_tellOne
  rw [c1, e_bnd, c2, e_bnd, c_kof hK hv.2.2, e_bnd, o.s5, w1, e_bnd, if_neg (by decide), sec_yes hv.2.2, e_bnd, if_neg (by decide), f_Hal_bit, hbt, e_bnd]
  by_cases h0 : orN (κ (T 17 i)) (T 1 5) = 0
  · rw [if_pos h0]
    exact yes (by simp [sdB, h0])
  · rw [if_neg h0]
    by_cases h1 : κ (T 17 i) (T 16 i) = true
    · rw [if_pos h1, if_neg (by decide)]
      exact yes (by simp [sdB, h1])
    · rw [if_neg h1, if_pos (by rfl)]
      have hs : sdB T κ i = false := by simp [sdB, h0, h1]
      refine ⟨M, ?_, Fr.rf, ?_⟩
      · rw [hs]; rfl
      · rw [hs]; exact hK
def bt0 : Nat → Bool := fun _ => false
theorem c_tellL (g : Good T) {N : Nat} (hN : N ≤ T 14 0) : ∀ (m n k : Nat) (M : Mem), On T M → KnC 85 T (tl T bt0 k) M → k + m = N → m < n → ∃ M', f_Gos_tellFirst_L13 n (nI N) (nI (wct T bt0 k)) (nI k) M = some (nI (wct T bt0 N), M') ∧ Fr 79 85 M M' ∧ KnC 85 T (tl T bt0 N) M' := by
  have h9 := g.ns
  intro m
  induction m with
  | zero =>
    intro n k M o hK hk hn
    obtain ⟨n, rfl⟩ : ∃ z, n = z + 1 := ⟨n - 1, by omega⟩
    have e : k = N := by omega
    subst e
    exact ⟨M, by rw [f_Gos_tellFirst_L13, if_pos (by rw [nI_leI (by omega) (by omega)]; omega)], Fr.rf, hK⟩
  | succ m ih =>
    intro n k M o hK hk hn
    obtain ⟨n, rfl⟩ : ∃ z, n = z + 1 := ⟨n - 1, by omega⟩
    obtain ⟨M1, p1, p2, p3⟩ := c_tell o g hK (show k < T 14 0 by omega)
    have e1 : tl T bt0 (k + 1) = if sdB T (tl T bt0 k) k = true then tel T (tl T bt0 k) k else tl T bt0 k := by rw [tl_s]; simp [bt0]
    have e2 : wct T bt0 (k + 1) = wct T bt0 k + (if sdB T (tl T bt0 k) k = true then 1 else 0) := by rw [wct_s]; simp [bt0]; split <;> rfl
    rw [← e1] at p3
    obtain ⟨M', r1, r2, r3⟩ := ih n (k + 1) M1 (o.fr p2 (by decide)) p3 (by omega) (by omega)
    refine ⟨M', ?_, p2.tr r2, r3⟩
    rw [f_Gos_tellFirst_L13, if_neg (by rw [nI_leI (by omega) (by omega)]; omega), p1, e_bnd2, e_nmI, nI_add, nI_1, ← e2]
    exact r1
theorem kn0 (h : ∀ j, j < 8 → M 85 j = 0) (bt : Nat → Bool) : KnC 85 T (tl T bt 0) M := fun s hs => by
  rw [h s hs]
  exact (orN_none (fun q _ => rfl)).symm
theorem c_tellF (o : On T M) (g : Good T) {N : Nat} (hN : N ≤ T 14 0) : ∃ M', f_Gos_tellFirst (nI N) M = some (nI (wct T bt0 N), M') ∧ Fr 79 85 M M' ∧ KnC 85 T (tl T bt0 N) M' := by
  have h9 := g.ns
  obtain ⟨M1, p1, p2, p3⟩ := fill_ok (M := M) (a := 85) (n := 8) (x := 0) (by decide)
  obtain ⟨M', r1, r2, r3⟩ := c_tellL g hN N 1000 0 M1 (o.fr p2 (by decide)) (kn0 p3 bt0) (by omega) (by omega)
  refine ⟨M', ?_, (p2.up (by decide) (by decide)).tr r2, r3⟩
  unfold f_Gos_tellFirst
  rw [p1, e_bnd]
  exact r1
def btx (x : Nat) : Nat → Bool := fun i => decide (i = x)
theorem c_tellXL (g : Good T) {x : Nat} (hx : x < T 14 0) : ∀ (m n k : Nat) (M : Mem), On T M → KnC 85 T (tl T (btx x) k) M → k + m = T 14 0 → m < n → ∃ M', f_Gos_tellAllBut_L10 n (nI x) (nI k) M = some M' ∧ Fr 79 85 M M' ∧ KnC 85 T (tl T (btx x) (T 14 0)) M' := by
  have h9 := g.ns
  intro m
  induction m with
  | zero =>
    intro n k M o hK hk hn
    obtain ⟨n, rfl⟩ : ∃ z, n = z + 1 := ⟨n - 1, by omega⟩
    have e : k = T 14 0 := by omega
    subst e
    exact ⟨M, by rw [f_Gos_tellAllBut_L10, o.ns, if_pos (by rw [nI_leI (by omega) (by omega)]; omega)], Fr.rf, hK⟩
  | succ m ih =>
    intro n k M o hK hk hn
    obtain ⟨n, rfl⟩ : ∃ z, n = z + 1 := ⟨n - 1, by omega⟩
    rw [f_Gos_tellAllBut_L10, o.ns, if_neg (by rw [nI_leI (by omega) (by omega)]; omega), nI_1]
    by_cases hkx : k = x
    · subst hkx
      rw [if_pos rfl]
      have e1 : tl T (btx k) (k + 1) = tl T (btx k) k := by rw [tl_s]; simp [btx]
      exact ih n (k + 1) M o (by rw [e1]; exact hK) (by omega) (by omega)
    · rw [if_neg (by rw [nI_eq (by omega) (by omega)]; exact hkx)]
      obtain ⟨M1, p1, p2, p3⟩ := c_tell o g hK (show k < T 14 0 by omega)
      have e1 : tl T (btx x) (k + 1) = if sdB T (tl T (btx x) k) k = true then tel T (tl T (btx x) k) k else tl T (btx x) k := by rw [tl_s]; simp [btx, hkx]
      rw [← e1] at p3
      obtain ⟨M', r1, r2, r3⟩ := ih n (k + 1) M1 (o.fr p2 (by decide)) p3 (by omega) (by omega)
      refine ⟨M', ?_, p2.tr r2, r3⟩
      rw [p1, e_bnd2]
      exact r1
theorem c_tellX (o : On T M) (g : Good T) {x : Nat} (hx : x < T 14 0) : ∃ M', f_Gos_tellAllBut (nI x) M = some M' ∧ Fr 79 85 M M' ∧ KnC 85 T (tl T (btx x) (T 14 0)) M' := by
  have h9 := g.ns
  obtain ⟨M1, p1, p2, p3⟩ := fill_ok (M := M) (a := 85) (n := 8) (x := 0) (by decide)
  obtain ⟨M', r1, r2, r3⟩ := c_tellXL g hx (T 14 0) 1000 0 M1 (o.fr p2 (by decide)) (kn0 p3 _) (by omega) (by omega)
  refine ⟨M', ?_, (p2.up (by decide) (by decide)).tr r2, r3⟩
  unfold f_Gos_tellAllBut
  rw [p1, e_bnd]
  exact r1
/-! the reference's -/
theorem m_say (o : OnM T M) (g : Good T) {i : Nat} (hi : i < T 14 0) : f_Mod_sayOf M (nI i) 0 = some (nI (T 15 i)) ∧ f_Mod_sayOf M (nI i) 1 = some (nI (T 16 i)) ∧ f_Mod_sayOf M (nI i) 2 = some (nI (T 17 i)) := by
  have h9 := g.ns
  refine ⟨?_, ?_, ?_⟩
  · simp (disch := omega) only [e_bnd, e_bnd2, e_set, e_cpy, e_nmI, e_nmL, e_ckn, e_ckB0, e_ckB1, l0, l1, l2, l3, l4, l5, l6, l7, l8, l9, l10, l11, l12, l13, l14, l15, l16, l17, l18, l19, l20, l21, l22, l24, l25, l32, l39, l40, l41, l48, l50, l56, l57, l59, l60, l72, l79, l80, l81, l82, l88, l89, l97, l100, l122, l124, l125, l160, l255, l312, l320, l375, l1000, nI_ltI, nI_leI, nI_eq, nI_add, pk_mul, e_ix, e_neg, if_true, if_false, if_pos, if_neg, f_Mod_sayOf, Nat.add_zero, o.v0 hi]
  · simp (disch := omega) only [e_bnd, e_bnd2, e_set, e_cpy, e_nmI, e_nmL, e_ckn, e_ckB0, e_ckB1, l0, l1, l2, l3, l4, l5, l6, l7, l8, l9, l10, l11, l12, l13, l14, l15, l16, l17, l18, l19, l20, l21, l22, l24, l25, l32, l39, l40, l41, l48, l50, l56, l57, l59, l60, l72, l79, l80, l81, l82, l88, l89, l97, l100, l122, l124, l125, l160, l255, l312, l320, l375, l1000, nI_ltI, nI_leI, nI_eq, nI_add, pk_mul, e_ix, e_neg, if_true, if_false, if_pos, if_neg, f_Mod_sayOf, o.v1 hi]
  · simp (disch := omega) only [e_bnd, e_bnd2, e_set, e_cpy, e_nmI, e_nmL, e_ckn, e_ckB0, e_ckB1, l0, l1, l2, l3, l4, l5, l6, l7, l8, l9, l10, l11, l12, l13, l14, l15, l16, l17, l18, l19, l20, l21, l22, l24, l25, l32, l39, l40, l41, l48, l50, l56, l57, l59, l60, l72, l79, l80, l81, l82, l88, l89, l97, l100, l122, l124, l125, l160, l255, l312, l320, l375, l1000, nI_ltI, nI_leI, nI_eq, nI_add, pk_mul, e_ix, e_neg, if_true, if_false, if_pos, if_neg, f_Mod_sayOf, o.v2 hi]
theorem m_isSaid (o : OnM T M) (g : Good T) {κ : Kn} (hK : KnC 118 T κ M) {i : Nat} (hi : i < T 14 0) : f_Mod_isSaid M (nI i) = some (nI (if sdB T κ i = true then 1 else 0)) := by
  have h9 := g.n
  have hv := g.v hi
  obtain ⟨c0, c1, c2⟩ := m_say o g hi
  have hbt : jshr (orN (κ (T 17 i)) (T 1 5)) (nI (T 16 i)) &&& 1 = if κ (T 17 i) (T 16 i) = true then nI 1 else nI 0 := by
    rw [orN_bit (by omega) (by omega)]
    by_cases h : κ (T 17 i) (T 16 i) = true
    · rw [if_pos ⟨hv.2.1, h⟩, if_pos h]
    · rw [if_neg (fun q => h q.2), if_neg h]
  unfold f_Mod_isSaid
  rw [c2, e_bnd, e_ckn hv.2.2 (by decide), e_nmI, show ix (nI (T 17 i)) = T 17 i from e_ix (by omega), hK _ hv.2.2, c1, e_bnd, hbt]
  by_cases h0 : orN (κ (T 17 i)) (T 1 5) = 0
  · rw [if_pos h0, show sdB T κ i = true by simp [sdB, h0]]
    rfl
  · rw [if_neg h0]
    by_cases h1 : κ (T 17 i) (T 16 i) = true
    · rw [if_pos h1, if_pos (by rfl), show sdB T κ i = true by simp [sdB, h1]]
      rfl
    · rw [if_neg h1, if_neg (by decide), show sdB T κ i = false by simp [sdB, h0, h1]]
      rfl
theorem m_saysL (o : OnM T M) (g : Good T) {κ : Kn} (hK : KnC 118 T κ M) {i : Nat} (hi : i < T 14 0) : ∀ (m n k : Nat), k + m = T 1 5 → m < n → f_Mod_says_L35 n (nI i) (hrs T (T 3 (T 16 i)) (T 15 i)) (jshl 1 (nI (T 16 i)) ||| orN (fun q => decide (hbN T (T 3 (T 16 i)) (T 3 q) (T 15 i) = 1)) k) (nI k) M = some (upd2 M 118 (T 17 i) (orN (tel T κ i (T 17 i)) (T 1 5))) := by
  have h9 := g.n
  have hv := g.v hi
  obtain ⟨c0, c1, c2⟩ := m_say o g hi
  intro m
  induction m with
  | zero =>
    intro n k hk hn
    obtain ⟨n, rfl⟩ : ∃ z, n = z + 1 := ⟨n - 1, by omega⟩
    have e : k = T 1 5 := by omega
    subst e
    rw [f_Mod_says_L35, o.s5, if_pos (by rw [nI_leI (by omega) (by omega)]; omega), c2, e_bnd, e_ckn hv.2.2 (by decide), e_ckn hv.2.2 (by decide), e_set, show ix (nI (T 17 i)) = T 17 i from e_ix (by omega), hK _ hv.2.2, tel_is hv.2.1, b_or_assoc]
    rfl
  | succ m ih =>
    intro n k hk hn
    obtain ⟨n, rfl⟩ : ∃ z, n = z + 1 := ⟨n - 1, by omega⟩
    have hkp : k < T 1 5 := by omega
    have hs := g.p hkp
    have hle := hbN_le (T := T) (b := T 3 (T 16 i)) (c := T 3 k) (h := T 15 i)
    have ih2 := ih n (k + 1) (by omega) (by omega)
    rw [orN_s] at ih2
    rw [f_Mod_says_L35, o.s5, if_neg (by rw [nI_leI (by omega) (by omega)]; omega), l82, nI_add, e_ckn (by omega) (by decide), show ix (nI (82 + k)) = 82 + k from e_ix (by omega), o.p (by omega), hrs_bit g hs, e_nmI, nI_1]
    by_cases h1 : hbN T (T 3 (T 16 i)) (T 3 k) (T 15 i) = 1
    · rw [if_pos (by simp [h1])] at ih2
      rw [h1, b_or_assoc]
      exact ih2
    · rw [if_neg (by simp [h1])] at ih2
      rw [show hbN T (T 3 (T 16 i)) (T 3 k) (T 15 i) = 0 by omega, show nI 0 = 0 from rfl, jshl_0 k (by omega), b_or0]
      exact ih2
theorem m_says (o : OnM T M) (g : Good T) {κ : Kn} (hK : KnC 118 T κ M) {i : Nat} (hi : i < T 14 0) : ∃ M', f_Mod_says (nI i) M = some M' ∧ Frm M M' ∧ KnC 118 T (tel T κ i) M' := by
  have h9 := g.n
  have hv := g.v hi
  obtain ⟨c0, c1, c2⟩ := m_say o g hi
  obtain ⟨M1, p1, p2⟩ := m_heardOf (h := T 15 i) o g (g.p hv.2.1) hv.1
  have hK1 : KnC 118 T κ M1 := fun s hs => by rw [p2 118 s (by decide) (by decide) (fun e => by omega)]; exact hK s hs
  refine ⟨upd2 M1 118 (T 17 i) (orN (tel T κ i (T 17 i)) (T 1 5)), ?_, p2.m.set (by decide) (by decide), fun s hs => ?_⟩
  · unfold f_Mod_says
    rw [c1, e_bnd, l82, nI_add, e_ckn (by omega) (by decide), c0, e_bnd, show ix (nI (82 + T 16 i)) = 82 + T 16 i from e_ix (by omega), o.p (by omega), p1, e_bnd2, e_nmI]
    have := m_saysL (o.fr p2.m) g hK1 hi (T 1 5) 1000 0 (by omega) (by omega)
    rw [orN_0, b_or0] at this
    exact this
  · by_cases e : s = T 17 i
    · subst e; exact u_eq
    · rw [u_nk e, tel_ne e]
      exact hK1 s hs
theorem m_nobodyL : ∀ (m n k : Nat) (M : Mem), k + m = 8 → m < n → (∀ j, j < k → M 118 j = 0) → ∃ M', f_Mod_nobodyKnows_L2 n (nI k) M = some M' ∧ Frm M M' ∧ ∀ j, j < 8 → M' 118 j = 0 := by
  intro m
  induction m with
  | zero =>
    intro n k M hk hn h
    obtain ⟨n, rfl⟩ : ∃ z, n = z + 1 := ⟨n - 1, by omega⟩
    have e : k = 8 := by omega
    subst e
    exact ⟨M, by rw [f_Mod_nobodyKnows_L2, if_pos (by decide)], Frm.rf, h⟩
  | succ m ih =>
    intro n k M hk hn h
    obtain ⟨n, rfl⟩ : ∃ z, n = z + 1 := ⟨n - 1, by omega⟩
    obtain ⟨M', r1, r2, r3⟩ := ih n (k + 1) (upd2 M 118 k 0) (by omega) (by omega) (fun j hj => by
      by_cases e : j = k
      · subst e; exact u_eq
      · rw [u_nk e]; exact h j (by omega))
    refine ⟨M', ?_, (Frm.rf.set (by decide) (by decide)).tr r2, r3⟩
    rw [f_Mod_nobodyKnows_L2, if_neg (by rw [l8, nI_leI (by omega) (by omega)]; omega), e_ckn (by omega) (by decide), e_set, nI_1, show ix (nI k) = k from e_ix (by omega)]
    exact r1
theorem m_whL (g : Good T) {N : Nat} (hN : N ≤ T 14 0) {x : Int32} {bt : Nat → Bool} (hbt : ∀ c, c < T 14 0 → (nI c = x ↔ bt c = true)) : ∀ (m n k : Nat) (M : Mem), OnM T M → KnC 118 T (tl T bt k) M → k + m = N → m < n → ∃ M', f_Mod_whispers_L9 n (nI N) x (nI (wct T bt k)) (nI k) M = some (nI (wct T bt N), M') ∧ Frm M M' ∧ KnC 118 T (tl T bt N) M' := by
  have h9 := g.ns
  intro m
  induction m with
  | zero =>
    intro n k M o hK hk hn
    obtain ⟨n, rfl⟩ : ∃ z, n = z + 1 := ⟨n - 1, by omega⟩
    have e : k = N := by omega
    subst e
    exact ⟨M, by rw [f_Mod_whispers_L9, if_pos (by rw [nI_leI (by omega) (by omega)]; omega)], Frm.rf, hK⟩
  | succ m ih =>
    intro n k M o hK hk hn
    obtain ⟨n, rfl⟩ : ∃ z, n = z + 1 := ⟨n - 1, by omega⟩
    have hkn : k < T 14 0 := by omega
    rw [f_Mod_whispers_L9, if_neg (by rw [nI_leI (by omega) (by omega)]; omega), nI_1]
    have stay : (!bt k && sdB T (tl T bt k) k) = false → ∃ M', f_Mod_whispers_L9 n (nI N) x (nI (wct T bt k)) (nI (k + 1)) M = some (nI (wct T bt N), M') ∧ Frm M M' ∧ KnC 118 T (tl T bt N) M' := fun e => by
      have e1 : tl T bt (k + 1) = tl T bt k := by rw [tl_s, e]; rfl
      have e2 : wct T bt (k + 1) = wct T bt k := by rw [wct_s, e]; rfl
      have := ih n (k + 1) M o (by rw [e1]; exact hK) (by omega) (by omega)
      rw [e2] at this
      exact this
    by_cases hb : bt k = true
    · rw [if_pos ((hbt k hkn).mpr hb)]
      exact stay (by simp [hb])
    · rw [if_neg (fun e => hb ((hbt k hkn).mp e)), m_isSaid o g hK hkn, e_bnd, nI_1]
      by_cases hs : sdB T (tl T bt k) k = true
      · rw [if_pos hs, if_neg (by decide)]
        obtain ⟨M1, p1, p2, p3⟩ := m_says o g hK hkn
        have e0 : (!bt k && sdB T (tl T bt k) k) = true := by simp [hs, hb]
        have e1 : tl T bt (k + 1) = tel T (tl T bt k) k := by rw [tl_s, e0]; rfl
        have e2 : wct T bt (k + 1) = wct T bt k + 1 := by rw [wct_s, e0]; rfl
        obtain ⟨M', r1, r2, r3⟩ := ih n (k + 1) M1 (o.fr p2) (by rw [e1]; exact p3) (by omega) (by omega)
        refine ⟨M', ?_, p2.tr r2, r3⟩
        rw [p1, e_bnd, ← e2]
        exact r1
      · rw [if_neg hs, if_pos (by rfl)]
        exact stay (by simp [hs])
theorem m_wh (o : OnM T M) (g : Good T) {N : Nat} (hN : N ≤ T 14 0) {x : Int32} {bt : Nat → Bool} (hbt : ∀ c, c < T 14 0 → (nI c = x ↔ bt c = true)) : ∃ M', f_Mod_whispers (nI N) x M = some (nI (wct T bt N), M') ∧ Frm M M' ∧ KnC 118 T (tl T bt N) M' := by
  have h9 := g.ns
  obtain ⟨M1, p1, p2, p3⟩ := m_nobodyL 8 1000 0 M rfl (by decide) (fun j hj => by omega)
  obtain ⟨M', r1, r2, r3⟩ := m_whL g hN hbt N 1000 0 M1 (o.fr p2) (fun s hs => by rw [p3 s hs]; exact (orN_none (fun q _ => rfl)).symm) (by omega) (by omega)
  refine ⟨M', ?_, p2.tr r2, r3⟩
  unfold f_Mod_whispers
  rw [show f_Mod_nobodyKnows M = some M1 from p1, e_bnd]
  exact r1
theorem m_wh0 (o : OnM T M) (g : Good T) {N : Nat} (hN : N ≤ T 14 0) : ∃ M', f_Mod_whispers (nI N) (-4) M = some (nI (wct T bt0 N), M') ∧ Frm M M' ∧ KnC 118 T (tl T bt0 N) M' := by
  have h9 := g.ns
  refine m_wh o g hN (fun c hc => ⟨fun e => ?_, fun e => by simp [bt0] at e⟩)
  rw [l4, e_neg (by omega) (by omega) (by omega)] at e
  exact e.elim
end GO
end
section
/-! pure: whispers more, fewer -/
theorem On.push {T T' : Tn} {M : Mem} (o : On T M) {k : Nat} (hk : T 14 0 = k) (h1 : ∀ a j, a < 14 → T' a j = T a j) (h2 : T' 14 0 = k + 1) (h3 : ∀ a i, 15 ≤ a → a ≤ 17 → i < k → T' a i = T a i) :
    On T' (upd2 (upd2 (upd2 (upd2 M 15 k (nI (T' 15 k))) 16 k (nI (T' 16 k))) 17 k (nI (T' 17 k))) 14 0 (nI (k + 1))) := by
  have eM : ∀ a, a < 14 → upd2 (upd2 (upd2 (upd2 M 15 k (nI (T' 15 k))) 16 k (nI (T' 16 k))) 17 k (nI (T' 17 k))) 14 0 (nI (k + 1)) a = M a := fun a ha => by
    rw [u_ne (by omega), u_ne (by omega), u_ne (by omega), u_ne (by omega)]
  have eT : ∀ a, a < 14 → T' a = T a := fun a ha => funext fun j => h1 a j ha
  refine ⟨fun j hj => ?_, fun j hj => ?_, fun j hj => ?_, ?_, fun a a1 a2 j hj => ?_, ?_, fun a a1 a2 j hj => ?_, ?_, fun a a1 a2 j hj => ?_⟩
  · rw [eM _ (by decide), eT _ (by decide)]; exact o.s hj
  · rw [eM _ (by decide), eT _ (by decide)]; exact o.c hj
  · rw [eM _ (by decide), eT _ (by decide)]; exact o.p hj
  · rw [eM _ (by decide), eT _ (by decide)]; exact o.nb
  · rw [eT 4 (by decide)] at hj
    rw [eM _ (by omega), eT _ (by omega)]; exact o.b a1 a2 hj
  · rw [eM _ (by decide), eT _ (by decide)]; exact o.nw
  · rw [eT 10 (by decide)] at hj
    rw [eM _ (by omega), eT _ (by omega)]; exact o.w a1 a2 hj
  · rw [u_eq, h2]
  · rw [h2] at hj
    rw [u_ne (by omega)]
    by_cases e : j = k
    · subst e
      rcases (show a = 15 ∨ a = 16 ∨ a = 17 by omega) with rfl | rfl | rfl
      · rw [u_ne (by decide), u_ne (by decide), u_eq]
      · rw [u_ne (by decide), u_eq]
      · rw [u_eq]
    · rw [h3 a j a1 a2 (by omega)]
      have := o.v a1 a2 (show j < T 14 0 by omega)
      rcases (show a = 15 ∨ a = 16 ∨ a = 17 by omega) with rfl | rfl | rfl
      · rw [u_ne (by decide), u_ne (by decide), u_nk e]; exact this
      · rw [u_ne (by decide), u_nk e, u_ne (by decide)]; exact this
      · rw [u_nk e, u_ne (by decide), u_ne (by decide)]; exact this
theorem OnM.push {T T' : Tn} {M M' : Mem} (o : OnM T M) (h1 : ∀ a j, a < 14 → T' a j = T a j) (hM : ∀ a k, (a ≠ 104 ∨ k < 88) → M' a k = M a k) (h88 : M' 104 88 = nI (T' 14 0)) (hv : ∀ i, i < T' 14 0 → M' 104 (89 + 3 * i) = nI (T' 15 i) ∧ M' 104 (89 + 3 * i + 1) = nI (T' 16 i) ∧ M' 104 (89 + 3 * i + 2) = nI (T' 17 i)) : OnM T' M' := by
  have eM : ∀ a, a ≠ 104 → M' a = M a := fun a ha => funext fun k => hM a k (Or.inl ha)
  have eT : ∀ a, a < 14 → T' a = T a := fun a ha => funext fun j => h1 a j ha
  refine ⟨⟨?_, ?_, ?_, ?_, ?_, ?_⟩, fun c hc => ?_, fun p hp => ?_, ?_, fun b hb => ?_, ?_, fun i hi => ?_, h88, hv⟩
  · rw [eM _ (by decide), eT _ (by decide)]; exact o.s0
  · rw [eM _ (by decide), eT _ (by decide)]; exact o.s1
  · rw [eM _ (by decide), eT _ (by decide)]; exact o.s2
  · rw [eM _ (by decide), eT _ (by decide)]; exact o.s3
  · rw [hM _ _ (Or.inr (by decide)), eT _ (by decide)]; exact o.s4
  · rw [eM _ (by decide), eT _ (by decide)]; exact o.s5
  · rw [hM _ _ (Or.inr (by omega)), eT _ (by decide)]; exact o.c hc
  · rw [hM _ _ (Or.inr (by omega)), eT _ (by decide)]; exact o.p hp
  · rw [eM _ (by decide), eT _ (by decide)]; exact o.nb
  · rw [eT 4 (by decide)] at hb
    rw [eM _ (by decide), eT _ (by decide), eT _ (by decide), eT _ (by decide), eT _ (by decide), eT _ (by decide)]
    exact ⟨o.b0 hb, o.b1 hb, o.b2 hb, o.b3 hb⟩
  · rw [eM _ (by decide), eT _ (by decide)]; exact o.nw
  · rw [eT 10 (by decide)] at hi
    rw [eM _ (by decide), eT _ (by decide), eT _ (by decide), eT _ (by decide)]
    exact ⟨o.w0 hi, o.w1 hi, o.w2 hi⟩
/-- other whispers, n of them -/
theorem Good.push {T T' : Tn} (g : Good T) (h1 : ∀ a j, a < 14 → T' a j = T a j) (h2 : T' 14 0 ≤ 12) (hv : ∀ i, i < T' 14 0 → T' 15 i < 12 ∧ T' 16 i < T 1 5 ∧ T' 17 i < 8) : Good T' := by
  have eT : ∀ a, a < 14 → T' a = T a := fun a ha => funext fun j => h1 a j ha
  unfold Good
  rw [eT 1 (by decide), eT 2 (by decide), eT 3 (by decide), eT 4 (by decide), eT 5 (by decide), eT 6 (by decide), eT 7 (by decide), eT 8 (by decide), eT 9 (by decide), eT 10 (by decide), eT 11 (by decide), eT 12 (by decide), eT 13 (by decide)]
  exact ⟨g.w, g.h, g.fade, g.bounce, g.warm, g.n, fun c hc => g.c hc, fun p hp => g.p hp, fun p q hp hq e => g.pi hp hq e, fun b hb => g.b hb, ⟨g.nw, fun i hi => g.wi hi⟩, ⟨h2, hv⟩⟩
theorem c_add {M : Mem} {k : Nat} (hk : M 14 0 = nI k) (h : k < 12) {x y z : Int32} : f_Tri_add 14 x y z M = some (upd2 (upd2 (upd2 (upd2 M 15 k x) 16 k y) 17 k z) 14 0 (nI (k + 1))) := by
  have e1 : ∀ (N : Mem) (a j : Nat) (v : Int32), a ≠ 14 → upd2 N a j v 14 = N 14 := fun N a j v ha => u_ne (fun e => ha e.symm)
  unfold f_Tri_add
  rw [hk, if_neg (by rw [l0, nI_ltI (by omega) (by omega)]; omega), if_pos (by rw [l12, nI_ltI (by omega) (by omega)]; omega), e_ckn h (by decide), e_set, show ix (nI k) = k from e_ix (by omega)]
  simp only [Nat.reduceAdd, e_set, e1 _ 15 _ _ (by decide), e1 _ 16 _ _ (by decide), e1 _ 17 _ _ (by decide), hk, e_ckn h (show (12 : Nat) ≤ 2147483648 by decide), show ix (nI k) = k from e_ix (by omega), nI_1]
def lh (T : Tn) : Nat := if T 14 0 = 0 then 0 else T 15 (T 14 0 - 1)
theorem lh_lt {T : Tn} (g : Good T) : lh T < 12 := by
  unfold lh
  split
  · decide
  · exact (g.v (by omega)).1
theorem c_last {T : Tn} {M : Mem} (o : On T M) (g : Good T) : f_Tol_latestHour 1 M = some (nI (lh T)) := by
  have h9 := g.ns
  unfold f_Tol_latestHour lh
  rw [show 1 + 13 = 14 from rfl, o.ns]
  by_cases h0 : T 14 0 = 0
  · rw [h0, if_pos (show nI 0 ≤ 0 from by decide), if_pos rfl]
    rfl
  · have c := (c_wsp o g (show T 14 0 - 1 < T 14 0 by omega)).1
    rw [if_neg (by rw [l0, nI_leI (by omega) (by omega)]; omega), if_neg h0, l1, pk_sub (by omega), c, e_bnd]
theorem m_last {T : Tn} {M : Mem} (o : OnM T M) (g : Good T) : f_Mod_lastHour M = some (nI (lh T)) := by
  have h9 := g.ns
  unfold f_Mod_lastHour lh
  rw [show M 104 (ix 88) = nI (T 14 0) from o.ns]
  by_cases h0 : T 14 0 = 0
  · rw [h0, if_pos (show nI 0 = 0 from rfl), if_pos rfl]
    rfl
  · have c := (m_say o g (show T 14 0 - 1 < T 14 0 by omega)).1
    rw [if_neg (by rw [l0, nI_eq (by omega) (by omega)]; omega), if_neg h0, l1, pk_sub (by omega), c, e_bnd]
/-- one whisper more, behind what there is -/
def tpu (T : Tn) (a b c : Nat) : Tn := tset (tset (tset (tset T 15 (T 14 0) a) 16 (T 14 0) b) 17 (T 14 0) c) 14 0 (T 14 0 + 1)
theorem tpu_f {T : Tn} {a b c : Nat} : (∀ i j, i < 14 → tpu T a b c i j = T i j) ∧ tpu T a b c 14 0 = T 14 0 + 1 ∧ (∀ i j, 15 ≤ i → i ≤ 17 → j < T 14 0 → tpu T a b c i j = T i j) ∧ tpu T a b c 15 (T 14 0) = a ∧ tpu T a b c 16 (T 14 0) = b ∧ tpu T a b c 17 (T 14 0) = c := by
  unfold tpu
  refine ⟨fun i j h => ?_, ts_eq, fun i j h1 h2 h3 => ?_, ?_, ?_, ?_⟩
  · rw [ts_ne (by omega), ts_ne (by omega), ts_ne (by omega), ts_ne (by omega)]
  · rw [ts_ne (by omega)]
    rcases (show i = 15 ∨ i = 16 ∨ i = 17 by omega) with rfl | rfl | rfl
    · rw [ts_ne (by decide), ts_ne (by decide), ts_nk (by omega)]
    · rw [ts_ne (by decide), ts_nk (by omega), ts_ne (by decide)]
    · rw [ts_nk (by omega), ts_ne (by decide), ts_ne (by decide)]
  · rw [ts_ne (by decide), ts_ne (by decide), ts_ne (by decide), ts_eq]
  · rw [ts_ne (by decide), ts_ne (by decide), ts_eq]
  · rw [ts_ne (by decide), ts_eq]
theorem chg_lo {a k : Nat} (h : chg a k = false) : a < 14 ∨ 17 < a := by
  by_cases q : a < 14 ∨ 17 < a
  · exact q
  · exfalso
    rcases (show a = 14 ∨ a = 15 ∨ a = 16 ∨ a = 17 by omega) with rfl | rfl | rfl | rfl <;> simp [chg] at h
/-- what say() and its twin do, for any ints -/
theorem sayS {T : Tn} (g : Good T) (x y z : Int32) : ∃ (v : Int32) (T' : Tn), Good T' ∧ (∀ a k, a < 14 → T' a k = T a k) ∧ (∀ a k, 17 < a → T' a k = T a k) ∧ (∀ a i, 15 ≤ a → a ≤ 17 → i < T 14 0 → T' a i = T a i) ∧ ((v < 0 ∧ T' = T) ∨ (v = nI (T 14 0 + 1) ∧ T' 14 0 = T 14 0 + 1)) ∧
    (∀ M, On T M → ∃ M', f_Hal_whisperMore x y z M = some (v, M') ∧ On T' M' ∧ Fr 14 17 M M') ∧ (∀ M, OnM T M → ∃ M', f_Mod_say x y z M = some (v, M') ∧ OnM T' M' ∧ ∀ a k, (a ≠ 104 ∨ k < 88 ∨ 124 < k) → M' a k = M a k) := by
  have h9 := g.n
  have hs := g.ns
  have hl := lh_lt g
  have bad : (∀ M, On T M → f_Hal_whisperMore x y z M = some (-1, M)) → (∀ M, OnM T M → f_Mod_say x y z M = some (-1, M)) → ∃ (v : Int32) (T' : Tn), Good T' ∧ (∀ a k, a < 14 → T' a k = T a k) ∧ (∀ a k, 17 < a → T' a k = T a k) ∧ (∀ a i, 15 ≤ a → a ≤ 17 → i < T 14 0 → T' a i = T a i) ∧ ((v < 0 ∧ T' = T) ∨ (v = nI (T 14 0 + 1) ∧ T' 14 0 = T 14 0 + 1)) ∧
    (∀ M, On T M → ∃ M', f_Hal_whisperMore x y z M = some (v, M') ∧ On T' M' ∧ Fr 14 17 M M') ∧ (∀ M, OnM T M → ∃ M', f_Mod_say x y z M = some (v, M') ∧ OnM T' M' ∧ ∀ a k, (a ≠ 104 ∨ k < 88 ∨ 124 < k) → M' a k = M a k) := fun b1 b2 =>
    ⟨-1, T, g, fun _ _ _ => rfl, fun _ _ _ => rfl, fun _ _ _ _ _ => rfl, Or.inl ⟨by decide, rfl⟩, fun M o => ⟨M, b1 M o, o, Fr.rf⟩, fun M o => ⟨M, b2 M o, o, fun _ _ _ => rfl⟩⟩
  have ein : f_Mod_in x.toInt64 (nI (lh T)).toInt64 11 = some (if nI (lh T) ≤ x ∧ x ≤ nI 11 then nI 1 else nI 0) := m_in0 x rfl rfl
  rcases wi x (m := 11) (by decide) with ⟨h, hh, rfl, f1, -⟩ | ⟨f1, -, f3⟩
  · by_cases hlt : h < lh T
    · refine bad (fun M o => ?_) (fun M o => ?_)
      · simp (disch := omega) only [e_bnd, e_bnd2, e_set, e_cpy, e_nmI, e_nmL, e_ckn, e_ckB0, e_ckB1, l0, l1, l2, l3, l4, l5, l6, l7, l8, l9, l10, l11, l12, l13, l14, l15, l16, l17, l18, l19, l20, l21, l22, l24, l25, l32, l39, l40, l41, l48, l50, l56, l57, l59, l60, l72, l79, l80, l81, l82, l88, l89, l97, l100, l122, l124, l125, l160, l255, l312, l320, l375, l1000, nI_ltI, nI_leI, nI_eq, nI_add, pk_mul, e_ix, e_neg, if_true, if_false, if_pos, if_neg, f_Hal_whisperMore, f_Hal_isHour, f1, c_last o g]
      · simp (disch := omega) only [e_bnd, e_bnd2, e_set, e_cpy, e_nmI, e_nmL, e_ckn, e_ckB0, e_ckB1, l0, l1, l2, l3, l4, l5, l6, l7, l8, l9, l10, l11, l12, l13, l14, l15, l16, l17, l18, l19, l20, l21, l22, l24, l25, l32, l39, l40, l41, l48, l50, l56, l57, l59, l60, l72, l79, l80, l81, l82, l88, l89, l97, l100, l122, l124, l125, l160, l255, l312, l320, l375, l1000, nI_ltI, nI_leI, nI_eq, nI_add, pk_mul, e_ix, e_neg, if_true, if_false, if_pos, if_neg, f_Mod_say, m_last o g, ein]
    · rcases a_one g y with ⟨p, hp, rfl, a1, a2⟩ | ⟨a1, a2⟩
      · rcases a_secret z with ⟨s, hs8, rfl, b1, b2⟩ | ⟨b1, b2⟩
        · by_cases hfull : T 14 0 = 12
          · refine ⟨-3, T, g, fun _ _ _ => rfl, fun _ _ _ => rfl, fun _ _ _ _ _ => rfl, Or.inl ⟨by decide, rfl⟩, fun M o => ⟨M, ?_, o, Fr.rf⟩, fun M o => ⟨M, ?_, o, fun _ _ _ => rfl⟩⟩
            · simp (disch := omega) only [e_bnd, e_bnd2, e_set, e_cpy, e_nmI, e_nmL, e_ckn, e_ckB0, e_ckB1, l0, l1, l2, l3, l4, l5, l6, l7, l8, l9, l10, l11, l12, l13, l14, l15, l16, l17, l18, l19, l20, l21, l22, l24, l25, l32, l39, l40, l41, l48, l50, l56, l57, l59, l60, l72, l79, l80, l81, l82, l88, l89, l97, l100, l122, l124, l125, l160, l255, l312, l320, l375, l1000, nI_ltI, nI_leI, nI_eq, nI_add, pk_mul, e_ix, e_neg, if_true, if_false, if_pos, if_neg, f_Hal_whisperMore, f_Hal_isHour, f1, c_last o g, a1 M o, b1, o.ns]
            · simp (disch := omega) only [e_bnd, e_bnd2, e_set, e_cpy, e_nmI, e_nmL, e_ckn, e_ckB0, e_ckB1, l0, l1, l2, l3, l4, l5, l6, l7, l8, l9, l10, l11, l12, l13, l14, l15, l16, l17, l18, l19, l20, l21, l22, l24, l25, l32, l39, l40, l41, l48, l50, l56, l57, l59, l60, l72, l79, l80, l81, l82, l88, l89, l97, l100, l122, l124, l125, l160, l255, l312, l320, l375, l1000, nI_ltI, nI_leI, nI_eq, nI_add, pk_mul, e_ix, e_neg, if_true, if_false, if_pos, if_neg, f_Mod_say, m_last o g, ein, a2 M o, b2, ix_88, o.ns]
          · obtain ⟨q1, q2, q3, q4, q5, q6⟩ := tpu_f (T := T) (a := h) (b := p) (c := s)
            refine ⟨nI (T 14 0 + 1), tpu T h p s, ?_, q1, fun a k ha => ?_, q3, Or.inr ⟨rfl, q2⟩, fun M o => ?_, fun M o => ?_⟩
            · refine g.push q1 (by rw [q2]; omega) (fun i hi => ?_)
              rw [q2] at hi
              by_cases e : i = T 14 0
              · subst e
                rw [q4, q5, q6]
                exact ⟨by omega, hp, hs8⟩
              · rw [q3 15 i (by decide) (by decide) (by omega), q3 16 i (by decide) (by decide) (by omega), q3 17 i (by decide) (by decide) (by omega)]
                exact g.v (by omega)
            · unfold tpu
              rw [ts_ne (by omega), ts_ne (by omega), ts_ne (by omega), ts_ne (by omega)]
            · have o1 := o.push rfl q1 q2 q3
              rw [q4, q5, q6] at o1
              refine ⟨_, ?_, o1, (((Fr.rf.set (by decide) (by decide)).set (by decide) (by decide)).set (by decide) (by decide)).set (by decide) (by decide)⟩
              have ca := c_add (M := M) (k := T 14 0) o.ns (by omega) (x := nI h) (y := nI p) (z := nI s)
              simp (disch := omega) only [e_bnd, e_bnd2, e_set, e_cpy, e_nmI, e_nmL, e_ckn, e_ckB0, e_ckB1, l0, l1, l2, l3, l4, l5, l6, l7, l8, l9, l10, l11, l12, l13, l14, l15, l16, l17, l18, l19, l20, l21, l22, l24, l25, l32, l39, l40, l41, l48, l50, l56, l57, l59, l60, l72, l79, l80, l81, l82, l88, l89, l97, l100, l122, l124, l125, l160, l255, l312, l320, l375, l1000, nI_ltI, nI_leI, nI_eq, nI_add, pk_mul, e_ix, e_neg, if_true, if_false, if_pos, if_neg, f_Hal_whisperMore, f_Hal_isHour, f1, c_last o g, a1 M o, b1, o.ns, ca, u_eq]
            · have ens : M 104 88 = nI (T 14 0) := o.ns
              refine ⟨upd2 (upd2 (upd2 (upd2 M 104 (89 + 3 * T 14 0) (nI h)) 104 (89 + 3 * T 14 0 + 1) (nI p)) 104 (89 + 3 * T 14 0 + 2) (nI s)) 104 88 (nI (T 14 0 + 1)), ?_, ?_, fun a k hak => ?_⟩
              · simp (disch := omega) only [e_bnd, e_bnd2, e_set, e_cpy, e_nmI, e_nmL, e_ckn, e_ckB0, e_ckB1, l0, l1, l2, l3, l4, l5, l6, l7, l8, l9, l10, l11, l12, l13, l14, l15, l16, l17, l18, l19, l20, l21, l22, l24, l25, l32, l39, l40, l41, l48, l50, l56, l57, l59, l60, l72, l79, l80, l81, l82, l88, l89, l97, l100, l122, l124, l125, l160, l255, l312, l320, l375, l1000, nI_ltI, nI_leI, nI_eq, nI_add, pk_mul, e_ix, e_neg, if_true, if_false, if_pos, if_neg, f_Mod_say, m_last o g, ein, a2 M o, b2, ix_88, ens, u_eq, u_nk]
              · refine o.push q1 (fun a k hak => ?_) ?_ (fun i hi => ?_)
                · by_cases e : a = 104
                  · subst e
                    rw [u_nk (by omega), u_nk (by omega), u_nk (by omega), u_nk (by omega)]
                  · rw [u_ne e, u_ne e, u_ne e, u_ne e]
                · rw [u_eq, q2]
                · rw [q2] at hi
                  by_cases e : i = T 14 0
                  · subst e
                    rw [q4, q5, q6]
                    refine ⟨?_, ?_, ?_⟩
                    · rw [u_nk (by omega), u_nk (by omega), u_nk (by omega), u_eq]
                    · rw [u_nk (by omega), u_nk (by omega), u_eq]
                    · rw [u_nk (by omega), u_eq]
                  · rw [q3 15 i (by decide) (by decide) (by omega), q3 16 i (by decide) (by decide) (by omega), q3 17 i (by decide) (by decide) (by omega)]
                    refine ⟨?_, ?_, ?_⟩
                    · rw [u_nk (by omega), u_nk (by omega), u_nk (by omega), u_nk (by omega)]; exact o.v0 (by omega)
                    · rw [u_nk (by omega), u_nk (by omega), u_nk (by omega), u_nk (by omega)]; exact o.v1 (by omega)
                    · rw [u_nk (by omega), u_nk (by omega), u_nk (by omega), u_nk (by omega)]; exact o.v2 (by omega)
              · by_cases e : a = 104
                · subst e
                  rw [u_nk (by omega), u_nk (by omega), u_nk (by omega), u_nk (by omega)]
                · rw [u_ne e, u_ne e, u_ne e, u_ne e]
        · refine bad (fun M o => ?_) (fun M o => ?_)
          · simp (disch := omega) only [e_bnd, e_bnd2, e_set, e_cpy, e_nmI, e_nmL, e_ckn, e_ckB0, e_ckB1, l0, l1, l2, l3, l4, l5, l6, l7, l8, l9, l10, l11, l12, l13, l14, l15, l16, l17, l18, l19, l20, l21, l22, l24, l25, l32, l39, l40, l41, l48, l50, l56, l57, l59, l60, l72, l79, l80, l81, l82, l88, l89, l97, l100, l122, l124, l125, l160, l255, l312, l320, l375, l1000, nI_ltI, nI_leI, nI_eq, nI_add, pk_mul, e_ix, e_neg, if_true, if_false, if_pos, if_neg, f_Hal_whisperMore, f_Hal_isHour, f1, c_last o g, a1 M o, b1]
          · simp (disch := omega) only [e_bnd, e_bnd2, e_set, e_cpy, e_nmI, e_nmL, e_ckn, e_ckB0, e_ckB1, l0, l1, l2, l3, l4, l5, l6, l7, l8, l9, l10, l11, l12, l13, l14, l15, l16, l17, l18, l19, l20, l21, l22, l24, l25, l32, l39, l40, l41, l48, l50, l56, l57, l59, l60, l72, l79, l80, l81, l82, l88, l89, l97, l100, l122, l124, l125, l160, l255, l312, l320, l375, l1000, nI_ltI, nI_leI, nI_eq, nI_add, pk_mul, e_ix, e_neg, if_true, if_false, if_pos, if_neg, f_Mod_say, m_last o g, ein, a2 M o, b2]
      · refine bad (fun M o => ?_) (fun M o => ?_)
        · simp (disch := omega) only [e_bnd, e_bnd2, e_set, e_cpy, e_nmI, e_nmL, e_ckn, e_ckB0, e_ckB1, l0, l1, l2, l3, l4, l5, l6, l7, l8, l9, l10, l11, l12, l13, l14, l15, l16, l17, l18, l19, l20, l21, l22, l24, l25, l32, l39, l40, l41, l48, l50, l56, l57, l59, l60, l72, l79, l80, l81, l82, l88, l89, l97, l100, l122, l124, l125, l160, l255, l312, l320, l375, l1000, nI_ltI, nI_leI, nI_eq, nI_add, pk_mul, e_ix, e_neg, if_true, if_false, if_pos, if_neg, f_Hal_whisperMore, f_Hal_isHour, f1, c_last o g, a1 M o]
        · simp (disch := omega) only [e_bnd, e_bnd2, e_set, e_cpy, e_nmI, e_nmL, e_ckn, e_ckB0, e_ckB1, l0, l1, l2, l3, l4, l5, l6, l7, l8, l9, l10, l11, l12, l13, l14, l15, l16, l17, l18, l19, l20, l21, l22, l24, l25, l32, l39, l40, l41, l48, l50, l56, l57, l59, l60, l72, l79, l80, l81, l82, l88, l89, l97, l100, l122, l124, l125, l160, l255, l312, l320, l375, l1000, nI_ltI, nI_leI, nI_eq, nI_add, pk_mul, e_ix, e_neg, if_true, if_false, if_pos, if_neg, f_Mod_say, m_last o g, ein, a2 M o]
  · have e0 : ¬ (nI (lh T) ≤ x ∧ x ≤ nI 11) := fun ⟨u1, u2⟩ => f3 ⟨Int32.le_trans (show (0 : Int32) ≤ nI (lh T) by rw [l0, nI_leI (by omega) (by omega)]; omega) u1, u2⟩
    rw [if_neg e0] at ein
    refine bad (fun M o => ?_) (fun M o => ?_)
    · simp (disch := omega) only [e_bnd, e_bnd2, e_set, e_cpy, e_nmI, e_nmL, e_ckn, e_ckB0, e_ckB1, l0, l1, l2, l3, l4, l5, l6, l7, l8, l9, l10, l11, l12, l13, l14, l15, l16, l17, l18, l19, l20, l21, l22, l24, l25, l32, l39, l40, l41, l48, l50, l56, l57, l59, l60, l72, l79, l80, l81, l82, l88, l89, l97, l100, l122, l124, l125, l160, l255, l312, l320, l375, l1000, nI_ltI, nI_leI, nI_eq, nI_add, pk_mul, e_ix, e_neg, if_true, if_false, if_pos, if_neg, f_Hal_whisperMore, f_Hal_isHour, f1]
    · simp (disch := omega) only [e_bnd, e_bnd2, e_set, e_cpy, e_nmI, e_nmL, e_ckn, e_ckB0, e_ckB1, l0, l1, l2, l3, l4, l5, l6, l7, l8, l9, l10, l11, l12, l13, l14, l15, l16, l17, l18, l19, l20, l21, l22, l24, l25, l32, l39, l40, l41, l48, l50, l56, l57, l59, l60, l72, l79, l80, l81, l82, l88, l89, l97, l100, l122, l124, l125, l160, l255, l312, l320, l375, l1000, nI_ltI, nI_leI, nI_eq, nI_add, pk_mul, e_ix, e_neg, if_true, if_false, if_pos, if_neg, f_Mod_say, m_last o g, ein]
theorem kp_say {M M' : Mem} (h : ∀ a k, (a ≠ 104 ∨ k < 88 ∨ 124 < k) → M' a k = M a k) : Kp M M' := by
  have e : ∀ a, a ≠ 104 → M' a = M a := fun a ha => funext fun k => h a k (Or.inl ha)
  refine ⟨⟨fun _ _ _ => trivial, by rw [e 0 (by decide)], by rw [e 0 (by decide)]⟩, fun a x y => e a (by omega), fun a x y => e a (by omega), ⟨?_, ?_, e 71 (by decide)⟩, ⟨?_, ?_, ?_⟩, fun k hk => h 104 k (by omega), e 105 (by decide), e 112 (by decide), fun a x y => e a (by omega)⟩
  · rw [e 70 (by decide)]
  · rw [e 70 (by decide)]
  · rw [e 103 (by decide)]
  · rw [e 103 (by decide)]
  · rw [e 103 (by decide)]
theorem kp_lo {M M' : Mem} {lo hi : Nat} (f : Fr lo hi M M') (h1 : 1 ≤ lo) (h2 : hi ≤ 17) : Kp M M' := by
  have e : ∀ a, (a = 0 ∨ 17 < a) → M' a = M a := fun a ha => f a (by omega)
  refine ⟨⟨fun _ _ _ => trivial, by rw [e 0 (by decide)], by rw [e 0 (by decide)]⟩, fun a x y => e a (by omega), fun a x y => e a (by omega), ⟨?_, ?_, e 71 (by decide)⟩, ⟨?_, ?_, ?_⟩, fun k hk => ?_, e 105 (by decide), e 112 (by decide), fun a x y => e a (by omega)⟩
  · rw [e 70 (by decide)]
  · rw [e 70 (by decide)]
  · rw [e 103 (by decide)]
  · rw [e 103 (by decide)]
  · rw [e 103 (by decide)]
  · rw [e 104 (by decide)]
theorem s_say (x y z : Int32) : Sim (f_Hal_say x y z) (f_Mod_say x y z) := by
  intro M ⟨T, hA, hI, hS, hT, hF⟩
  obtain ⟨o, om, g⟩ := id hA
  obtain ⟨v, T', g', e1, e2, e3, -, hc, hm⟩ := sayS g x y z
  obtain ⟨M1, p1, p2, p3⟩ := hc M o
  obtain ⟨M2, q1, q2, q3⟩ := hm M1 (om.frc p3 (by decide))
  refine ⟨v, M1, M2, ?_, q1, Inv.to hI hS hT hF ((kp_lo p3 (by decide) (by decide)).tr (kp_say q3)) (fun a k h => ?_) ⟨p2.low (fun a ha => funext fun k => q3 a k (Or.inl (by omega))), q2, g'⟩⟩
  · unfold f_Hal_say
    rw [p1, e_bnd2]
  · rcases chg_lo h with q | q
    · exact e1 a k q
    · exact e2 a k q
theorem on_cnt {T : Tn} {M : Mem} (o : On T M) {k : Nat} (hk : k ≤ T 14 0) : On (tset T 14 0 k) (upd2 M 14 0 (nI k)) := by
  have eM : ∀ a, a ≠ 14 → upd2 M 14 0 (nI k) a = M a := fun a ha => u_ne ha
  have eT : ∀ a, a ≠ 14 → tset T 14 0 k a = T a := fun a ha => funext fun j => ts_ne ha
  refine ⟨fun j hj => ?_, fun j hj => ?_, fun j hj => ?_, ?_, fun a a1 a2 j hj => ?_, ?_, fun a a1 a2 j hj => ?_, ?_, fun a a1 a2 j hj => ?_⟩
  · rw [eM _ (by decide), eT _ (by decide)]; exact o.s hj
  · rw [eM _ (by decide), eT _ (by decide)]; exact o.c hj
  · rw [eM _ (by decide), eT _ (by decide)]; exact o.p hj
  · rw [eM _ (by decide), eT _ (by decide)]; exact o.nb
  · rw [eT 4 (by decide)] at hj
    rw [eM _ (by omega), eT _ (by omega)]; exact o.b a1 a2 hj
  · rw [eM _ (by decide), eT _ (by decide)]; exact o.nw
  · rw [eT 10 (by decide)] at hj
    rw [eM _ (by omega), eT _ (by omega)]; exact o.w a1 a2 hj
  · rw [u_eq, ts_eq]
  · rw [ts_eq] at hj
    rw [eM _ (by omega), eT _ (by omega)]; exact o.v a1 a2 (by omega)
theorem onM_cnt {T : Tn} {M : Mem} (o : OnM T M) {k : Nat} (hk : k ≤ T 14 0) : OnM (tset T 14 0 k) (upd2 M 104 88 (nI k)) := by
  refine o.push (fun a j h => ts_ne (by omega)) (fun a j h => ?_) (by rw [u_eq, ts_eq]) (fun i hi => ?_)
  · by_cases e : a = 104
    · subst e; rw [u_nk (by omega)]
    · rw [u_ne e]
  · rw [ts_eq] at hi
    rw [ts_ne (by decide), ts_ne (by decide), ts_ne (by decide), u_nk (by omega), u_nk (by omega), u_nk (by omega)]
    exact ⟨o.v0 (by omega), o.v1 (by omega), o.v2 (by omega)⟩
theorem good_cnt {T : Tn} (g : Good T) {k : Nat} (hk : k ≤ T 14 0) : Good (tset T 14 0 k) := by
  have h9 := g.ns
  refine g.push (fun a j h => ts_ne (by omega)) (by rw [ts_eq]; omega) (fun i hi => ?_)
  rw [ts_eq] at hi
  rw [ts_ne (by decide), ts_ne (by decide), ts_ne (by decide)]
  exact g.v (by omega)
theorem s_unsay (x : Int32) : Sim (f_Hal_unsay x) (f_Mod_unsay x) := by
  intro M ⟨T, hA, hI, hS, hT, hF⟩
  obtain ⟨o, om, g⟩ := id hA
  have h9 := g.ns
  rcases wi x (m := T 14 0) (by omega) with ⟨k, hk, rfl, f1, f2⟩ | ⟨f1, f2, -⟩
  · have om1 : OnM T (upd2 M 14 0 (nI k)) := om.frc (Fr.rf.set (lo := 14) (hi := 14) (by decide) (by decide)) (by decide)
    refine ⟨nI (T 14 0), upd2 M 14 0 (nI k), upd2 (upd2 M 14 0 (nI k)) 104 88 (nI k), ?_, ?_, Inv.to (T := T) hI hS hT hF ((Kp.rf.set (by omega)).set (by omega)) (chg_ts rfl) ⟨(on_cnt o hk).fr (Fr.rf.set (lo := 104) (hi := 104) (by decide) (by decide)) (by decide), onM_cnt om1 hk, good_cnt g hk⟩⟩
    · simp (disch := omega) only [e_bnd, e_bnd2, e_set, e_cpy, e_nmI, e_nmL, e_ckn, e_ckB0, e_ckB1, l0, l1, l2, l3, l4, l5, l6, l7, l8, l9, l10, l11, l12, l13, l14, l15, l16, l17, l18, l19, l20, l21, l22, l24, l25, l32, l39, l40, l41, l48, l50, l56, l57, l59, l60, l72, l79, l80, l81, l82, l88, l89, l97, l100, l122, l124, l125, l160, l255, l312, l320, l375, l1000, nI_ltI, nI_leI, nI_eq, nI_add, pk_mul, e_ix, e_neg, if_true, if_false, if_pos, if_neg, f_Hal_unsay, o.ns, f1]
    · simp (disch := omega) only [e_bnd, e_bnd2, e_set, e_cpy, e_nmI, e_nmL, e_ckn, e_ckB0, e_ckB1, l0, l1, l2, l3, l4, l5, l6, l7, l8, l9, l10, l11, l12, l13, l14, l15, l16, l17, l18, l19, l20, l21, l22, l24, l25, l32, l39, l40, l41, l48, l50, l56, l57, l59, l60, l72, l79, l80, l81, l82, l88, l89, l97, l100, l122, l124, l125, l160, l255, l312, l320, l375, l1000, nI_ltI, nI_leI, nI_eq, nI_add, pk_mul, e_ix, e_neg, if_true, if_false, if_pos, if_neg, f_Mod_unsay, ix_88, om1.ns, f2]
  · refine ⟨-1, M, M, ?_, ?_, ⟨T, hA, hI, hS, hT, hF⟩⟩
    · simp (disch := omega) only [e_bnd, e_bnd2, e_set, e_cpy, e_nmI, e_nmL, e_ckn, e_ckB0, e_ckB1, l0, l1, l2, l3, l4, l5, l6, l7, l8, l9, l10, l11, l12, l13, l14, l15, l16, l17, l18, l19, l20, l21, l22, l24, l25, l32, l39, l40, l41, l48, l50, l56, l57, l59, l60, l72, l79, l80, l81, l82, l88, l89, l97, l100, l122, l124, l125, l160, l255, l312, l320, l375, l1000, nI_ltI, nI_leI, nI_eq, nI_add, pk_mul, e_ix, e_neg, if_true, if_false, if_pos, if_neg, f_Hal_unsay, o.ns, f1]
    · simp (disch := omega) only [e_bnd, e_bnd2, e_set, e_cpy, e_nmI, e_nmL, e_ckn, e_ckB0, e_ckB1, l0, l1, l2, l3, l4, l5, l6, l7, l8, l9, l10, l11, l12, l13, l14, l15, l16, l17, l18, l19, l20, l21, l22, l24, l25, l32, l39, l40, l41, l48, l50, l56, l57, l59, l60, l72, l79, l80, l81, l82, l88, l89, l97, l100, l122, l124, l125, l160, l255, l312, l320, l375, l1000, nI_ltI, nI_leI, nI_eq, nI_add, pk_mul, e_ix, e_neg, if_true, if_false, if_pos, if_neg, f_Mod_unsay, ix_88, om.ns, f2]
end
section
/-! pure: secrets asked -/
theorem s_said (x y : Int32) : Sim (f_Hal_said x y) (f_Mod_said x y) := by
  intro M ⟨T, hA, hI, hS, hT, hF⟩
  obtain ⟨o, om, g⟩ := id hA
  have h9 := g.ns
  have e3 : f_Mod_in y.toInt64 0 3 = f_Mod_in y.toInt64 0 (nI 3).toInt64 := rfl
  rcases a_say g x with ⟨i, hi, rfl, a1, a2⟩ | ⟨a1, a2⟩
  · rcases wi y (m := 3) (by decide) with ⟨w, hw, rfl, f1, f2⟩ | ⟨f1, f2, -⟩
    · by_cases h3 : w = 3
      · obtain ⟨M1, p1, p2, p3⟩ := c_tellF o g (N := i) (by omega)
        obtain ⟨M2, q1, q2, q3⟩ := c_tell (o.fr p2 (by decide)) g p3 hi
        have hA2 := (hA.frc p2 (by decide) (by decide)).frc q2 (by decide) (by decide)
        obtain ⟨M3, r1, r2, r3⟩ := m_wh0 hA2.2.1 g (N := i) (by omega)
        have hA3 := hA2.frm r2
        refine ⟨nI (if sdB T (tl T bt0 i) i = true then 1 else 0), M2, M3, ?_, ?_, Inv.to hI hS hT hF (((p2.kp (by decide) (by decide)).tr (q2.kp (by decide) (by decide))).tr r2.kp) (fun _ _ _ => rfl) hA3⟩
        · subst h3
          simp (disch := omega) only [e_bnd, e_bnd2, e_set, e_cpy, e_nmI, e_nmL, e_ckn, e_ckB0, e_ckB1, l0, l1, l2, l3, l4, l5, l6, l7, l8, l9, l10, l11, l12, l13, l14, l15, l16, l17, l18, l19, l20, l21, l22, l24, l25, l32, l39, l40, l41, l48, l50, l56, l57, l59, l60, l72, l79, l80, l81, l82, l88, l89, l97, l100, l122, l124, l125, l160, l255, l312, l320, l375, l1000, nI_ltI, nI_leI, nI_eq, nI_add, pk_mul, e_ix, e_neg, if_true, if_false, if_pos, if_neg, f_Hal_said, a1 M o, f1, p1, q1]
        · have e := m_isSaid hA3.2.1 g r3 hi
          subst h3
          unfold f_Mod_said
          rw [a2 M2 hA2.2.1, e_bnd, if_neg (by decide), e3, f2, e_bnd, if_neg (by decide), if_pos (by decide), r1, e_bnd2, e, e_bnd]
          split <;> rfl
      · obtain ⟨c0, c1, c2⟩ := c_wsp o g hi
        obtain ⟨m0, m1, m2⟩ := m_say om g hi
        have nw : ¬ (3 : Int32) ≤ nI w := by rw [l3, nI_leI (by omega) (by omega)]; omega
        have go : ∀ v, f_Tri_part 14 M (nI i) (nI w) = some v → f_Mod_sayOf M (nI i) (nI w) = some v → ∃ v M1 M2, f_Hal_said (nI i) (nI w) M = some (v, M1) ∧ f_Mod_said (nI i) (nI w) M1 = some (v, M2) ∧ Inv M2 := fun v e1 e2 => by
          refine ⟨v, M, M, ?_, ?_, ⟨T, hA, hI, hS, hT, hF⟩⟩
          · unfold f_Hal_said
            rw [a1 M o, e_bnd, if_neg (by decide), show (0 : Int32) = nI 0 from rfl, show (3 : Int32) = nI 3 from rfl, f1, e_bnd, if_neg (by decide), if_neg (show ¬ nI 3 ≤ nI w from nw), e1, e_bnd]
          · unfold f_Mod_said
            rw [a2 M om, e_bnd, if_neg (by decide), e3, f2, e_bnd, if_neg (by decide), if_neg nw, e2, e_bnd]
        rcases (show w = 0 ∨ w = 1 ∨ w = 2 by omega) with rfl | rfl | rfl
        · exact go _ c0 m0
        · exact go _ c1 m1
        · exact go _ c2 m2
    · refine ⟨-1, M, M, ?_, ?_, ⟨T, hA, hI, hS, hT, hF⟩⟩
      · simp (disch := omega) only [e_bnd, e_bnd2, e_set, e_cpy, e_nmI, e_nmL, e_ckn, e_ckB0, e_ckB1, l0, l1, l2, l3, l4, l5, l6, l7, l8, l9, l10, l11, l12, l13, l14, l15, l16, l17, l18, l19, l20, l21, l22, l24, l25, l32, l39, l40, l41, l48, l50, l56, l57, l59, l60, l72, l79, l80, l81, l82, l88, l89, l97, l100, l122, l124, l125, l160, l255, l312, l320, l375, l1000, nI_ltI, nI_leI, nI_eq, nI_add, pk_mul, e_ix, e_neg, if_true, if_false, if_pos, if_neg, f_Hal_said, a1 M o, f1]
      · simp (disch := omega) only [e_bnd, e_bnd2, e_set, e_cpy, e_nmI, e_nmL, e_ckn, e_ckB0, e_ckB1, l0, l1, l2, l3, l4, l5, l6, l7, l8, l9, l10, l11, l12, l13, l14, l15, l16, l17, l18, l19, l20, l21, l22, l24, l25, l32, l39, l40, l41, l48, l50, l56, l57, l59, l60, l72, l79, l80, l81, l82, l88, l89, l97, l100, l122, l124, l125, l160, l255, l312, l320, l375, l1000, nI_ltI, nI_leI, nI_eq, nI_add, pk_mul, e_ix, e_neg, if_true, if_false, if_pos, if_neg, f_Mod_said, a2 M om, e3, f2]
  · refine ⟨-1, M, M, ?_, ?_, ⟨T, hA, hI, hS, hT, hF⟩⟩
    · simp (disch := omega) only [e_bnd, e_bnd2, e_set, e_cpy, e_nmI, e_nmL, e_ckn, e_ckB0, e_ckB1, l0, l1, l2, l3, l4, l5, l6, l7, l8, l9, l10, l11, l12, l13, l14, l15, l16, l17, l18, l19, l20, l21, l22, l24, l25, l32, l39, l40, l41, l48, l50, l56, l57, l59, l60, l72, l79, l80, l81, l82, l88, l89, l97, l100, l122, l124, l125, l160, l255, l312, l320, l375, l1000, nI_ltI, nI_leI, nI_eq, nI_add, pk_mul, e_ix, e_neg, if_true, if_false, if_pos, if_neg, f_Hal_said, a1 M o]
    · simp (disch := omega) only [e_bnd, e_bnd2, e_set, e_cpy, e_nmI, e_nmL, e_ckn, e_ckB0, e_ckB1, l0, l1, l2, l3, l4, l5, l6, l7, l8, l9, l10, l11, l12, l13, l14, l15, l16, l17, l18, l19, l20, l21, l22, l24, l25, l32, l39, l40, l41, l48, l50, l56, l57, l59, l60, l72, l79, l80, l81, l82, l88, l89, l97, l100, l122, l124, l125, l160, l255, l312, l320, l375, l1000, nI_ltI, nI_leI, nI_eq, nI_add, pk_mul, e_ix, e_neg, if_true, if_false, if_pos, if_neg, f_Mod_said, a2 M om]
def scB (T : Tn) (κ : Kn) (p : Nat) : Nat → Int32
  | 0 => 0
  | s + 1 => scB T κ p s ||| jshl (jshr (orN (κ s) (T 1 5)) (nI p) &&& 1) (nI s)
theorem c_secL {T : Tn} {M : Mem} {κ : Kn} (hK : KnC 85 T κ M) {p : Nat} : ∀ (m n k : Nat), k + m = 8 → m < n → f_Gos_secretsOf_L4 M n (nI p) (scB T κ p k) (nI k) = some (scB T κ p 8) := by
  intro m
  induction m with
  | zero =>
    intro n k hk hn
    obtain ⟨n, rfl⟩ : ∃ z, n = z + 1 := ⟨n - 1, by omega⟩
    have e : k = 8 := by omega
    subst e
    rw [f_Gos_secretsOf_L4, if_pos (by decide)]
  | succ m ih =>
    intro n k hk hn
    obtain ⟨n, rfl⟩ : ∃ z, n = z + 1 := ⟨n - 1, by omega⟩
    rw [f_Gos_secretsOf_L4, if_neg (by rw [l8, nI_leI (by omega) (by omega)]; omega), c_kof hK (by omega), e_bnd, f_Hal_bit, e_bnd, e_nmI, nI_1]
    exact ih n (k + 1) (by omega) (by omega)
theorem m_secL {T : Tn} {M : Mem} {κ : Kn} (hK : KnC 118 T κ M) {p : Nat} : ∀ (m n k : Nat), k + m = 8 → m < n → f_Mod_knows_L40 n (nI p) (scB T κ p k) (nI k) M = some (scB T κ p 8, M) := by
  intro m
  induction m with
  | zero =>
    intro n k hk hn
    obtain ⟨n, rfl⟩ : ∃ z, n = z + 1 := ⟨n - 1, by omega⟩
    have e : k = 8 := by omega
    subst e
    rw [f_Mod_knows_L40, if_pos (by decide)]
  | succ m ih =>
    intro n k hk hn
    obtain ⟨n, rfl⟩ : ∃ z, n = z + 1 := ⟨n - 1, by omega⟩
    rw [f_Mod_knows_L40, if_neg (by rw [l8, nI_leI (by omega) (by omega)]; omega), e_ckn (by omega) (by decide), show ix (nI k) = k from e_ix (by omega), hK k (by omega), e_nmI, nI_1]
    exact ih n (k + 1) (by omega) (by omega)
theorem s_knows (x y : Int32) : Sim (f_Hal_knows x y) (f_Mod_knows x y) := by
  intro M ⟨T, hA, hI, hS, hT, hF⟩
  obtain ⟨o, om, g⟩ := id hA
  have h9 := g.ns
  rcases a_one g x with ⟨p, hp, rfl, a1, a2⟩ | ⟨a1, a2⟩
  · rcases wi y (m := T 14 0) (by omega) with ⟨w, hw, rfl, f1, f2⟩ | ⟨f1, f2, -⟩
    · obtain ⟨M1, p1, p2, p3⟩ := c_tellF o g (N := w) hw
      have hA1 := hA.frc p2 (by decide) (by decide)
      obtain ⟨M2, r1, r2, r3⟩ := m_wh0 hA1.2.1 g (N := w) hw
      refine ⟨scB T (tl T bt0 w) p 8, M1, M2, ?_, ?_, Inv.to hI hS hT hF ((p2.kp (by decide) (by decide)).tr r2.kp) (fun _ _ _ => rfl) (hA1.frm r2)⟩
      · unfold f_Hal_knows
        rw [a1 M o, e_bnd, if_neg (by decide), show (0 : Int32) = nI 0 from rfl, o.ns, f1, e_bnd, if_neg (by decide), p1, e_bnd2, show f_Gos_secretsOf M1 (nI p) = some (scB T (tl T bt0 w) p 8) from c_secL p3 8 1000 0 rfl (by decide), e_bnd]
      · unfold f_Mod_knows
        rw [a2 M1 hA1.2.1, e_bnd, if_neg (by decide), show M1 104 (ix 88) = nI (T 14 0) from hA1.2.1.ns, f2, e_bnd, if_neg (by decide), r1, e_bnd2]
        exact m_secL r3 8 1000 0 rfl (by decide)
    · refine ⟨-1, M, M, ?_, ?_, ⟨T, hA, hI, hS, hT, hF⟩⟩
      · simp (disch := omega) only [e_bnd, e_bnd2, e_set, e_cpy, e_nmI, e_nmL, e_ckn, e_ckB0, e_ckB1, l0, l1, l2, l3, l4, l5, l6, l7, l8, l9, l10, l11, l12, l13, l14, l15, l16, l17, l18, l19, l20, l21, l22, l24, l25, l32, l39, l40, l41, l48, l50, l56, l57, l59, l60, l72, l79, l80, l81, l82, l88, l89, l97, l100, l122, l124, l125, l160, l255, l312, l320, l375, l1000, nI_ltI, nI_leI, nI_eq, nI_add, pk_mul, e_ix, e_neg, if_true, if_false, if_pos, if_neg, f_Hal_knows, a1 M o, o.ns, f1]
      · simp (disch := omega) only [e_bnd, e_bnd2, e_set, e_cpy, e_nmI, e_nmL, e_ckn, e_ckB0, e_ckB1, l0, l1, l2, l3, l4, l5, l6, l7, l8, l9, l10, l11, l12, l13, l14, l15, l16, l17, l18, l19, l20, l21, l22, l24, l25, l32, l39, l40, l41, l48, l50, l56, l57, l59, l60, l72, l79, l80, l81, l82, l88, l89, l97, l100, l122, l124, l125, l160, l255, l312, l320, l375, l1000, nI_ltI, nI_leI, nI_eq, nI_add, pk_mul, e_ix, e_neg, if_true, if_false, if_pos, if_neg, f_Mod_knows, a2 M om, ix_88, om.ns, f2]
  · refine ⟨-1, M, M, ?_, ?_, ⟨T, hA, hI, hS, hT, hF⟩⟩
    · simp (disch := omega) only [e_bnd, e_bnd2, e_set, e_cpy, e_nmI, e_nmL, e_ckn, e_ckB0, e_ckB1, l0, l1, l2, l3, l4, l5, l6, l7, l8, l9, l10, l11, l12, l13, l14, l15, l16, l17, l18, l19, l20, l21, l22, l24, l25, l32, l39, l40, l41, l48, l50, l56, l57, l59, l60, l72, l79, l80, l81, l82, l88, l89, l97, l100, l122, l124, l125, l160, l255, l312, l320, l375, l1000, nI_ltI, nI_leI, nI_eq, nI_add, pk_mul, e_ix, e_neg, if_true, if_false, if_pos, if_neg, f_Hal_knows, a1 M o]
    · simp (disch := omega) only [e_bnd, e_bnd2, e_set, e_cpy, e_nmI, e_nmL, e_ckn, e_ckB0, e_ckB1, l0, l1, l2, l3, l4, l5, l6, l7, l8, l9, l10, l11, l12, l13, l14, l15, l16, l17, l18, l19, l20, l21, l22, l24, l25, l32, l39, l40, l41, l48, l50, l56, l57, l59, l60, l72, l79, l80, l81, l82, l88, l89, l97, l100, l122, l124, l125, l160, l255, l312, l320, l375, l1000, nI_ltI, nI_leI, nI_eq, nI_add, pk_mul, e_ix, e_neg, if_true, if_false, if_pos, if_neg, f_Mod_knows, a2 M om]
/-- the first below n of which P says yes; n: none -/
def sfi (P : Nat → Bool) : Nat → Nat
  | 0 => 0
  | n + 1 => if sfi P n < n then sfi P n else (if P n = true then n else n + 1)
theorem sfi_s {P : Nat → Bool} {n : Nat} : sfi P (n + 1) = if sfi P n < n then sfi P n else (if P n = true then n else n + 1) := rfl
theorem sfi_sp {P : Nat → Bool} : ∀ n, sfi P n ≤ n ∧ (∀ j, j < sfi P n → P j = false) ∧ (sfi P n < n → P (sfi P n) = true)
  | 0 => ⟨Nat.le_refl 0, fun j h => absurd h (Nat.not_lt_zero j), fun h => absurd h (Nat.lt_irrefl 0)⟩
  | n + 1 => by
    obtain ⟨h1, h2, h3⟩ := sfi_sp (P := P) n
    rw [sfi_s]
    by_cases q : sfi P n < n
    · rw [if_pos q]
      exact ⟨by omega, h2, fun _ => h3 q⟩
    · rw [if_neg q]
      have e : sfi P n = n := by omega
      by_cases r : P n = true
      · rw [if_pos r]
        exact ⟨by omega, fun j hj => h2 j (by omega), fun _ => r⟩
      · rw [if_neg r]
        refine ⟨Nat.le_refl _, fun j hj => ?_, fun h => absurd h (Nat.lt_irrefl _)⟩
        by_cases t : j = n
        · subst t; exact Bool.eq_false_iff.mpr r
        · exact h2 j (by omega)
theorem sfi_is {P : Nat → Bool} {n a : Nat} (h1 : a ≤ n) (h2 : ∀ j, j < a → P j = false) (h3 : a < n → P a = true) : sfi P n = a := by
  obtain ⟨g1, g2, g3⟩ := sfi_sp (P := P) n
  by_cases q : sfi P n < a
  · have := h2 _ q
    rw [g3 (by omega)] at this
    exact absurd this (by decide)
  · by_cases r : a < sfi P n
    · have := g2 _ r
      rw [h3 (by omega)] at this
      exact absurd this (by decide)
    · omega
def outP (T : Tn) (s : Nat) (ins : Int32) : Nat → Bool := fun i => decide (orN (tl T bt0 (i + 1) s) (T 1 5) &&& (ins ^^^ (-1)) ≠ 0)
theorem tl0_s {T : Tn} {k : Nat} : tl T bt0 (k + 1) = if sdB T (tl T bt0 k) k = true then tel T (tl T bt0 k) k else tl T bt0 k := by rw [tl_s]; simp [bt0]
theorem c_fkoL {T : Tn} (g : Good T) {s : Nat} (hs : s < 8) {ins : Int32} : ∀ (m n k : Nat) (M : Mem), On T M → KnC 85 T (tl T bt0 k) M → k + m = T 14 0 → m < n → (∀ j, j < k → outP T s ins j = false) → ∃ M', f_Gos_firstKnownOutside_L11 n (nI s) ins (nI k) M = some (if sfi (outP T s ins) (T 14 0) < T 14 0 then nI (sfi (outP T s ins) (T 14 0)) else -4, M') ∧ Fr 79 85 M M' ∧ (sfi (outP T s ins) (T 14 0) < T 14 0 → KnC 85 T (tl T bt0 (sfi (outP T s ins) (T 14 0) + 1)) M') := by
  have h9 := g.ns
  intro m
  induction m with
  | zero =>
    intro n k M o hK hk hn hf
    obtain ⟨n, rfl⟩ : ∃ z, n = z + 1 := ⟨n - 1, by omega⟩
    have e : k = T 14 0 := by omega
    subst e
    have ea : sfi (outP T s ins) (T 14 0) = T 14 0 := sfi_is (Nat.le_refl _) hf (fun h => absurd h (Nat.lt_irrefl _))
    refine ⟨M, ?_, Fr.rf, fun h => by omega⟩
    rw [f_Gos_firstKnownOutside_L11, o.ns, if_pos (by rw [nI_leI (by omega) (by omega)]; omega), if_neg (by omega)]
  | succ m ih =>
    intro n k M o hK hk hn hf
    obtain ⟨n, rfl⟩ : ∃ z, n = z + 1 := ⟨n - 1, by omega⟩
    obtain ⟨M1, p1, p2, p3⟩ := c_tell o g hK (show k < T 14 0 by omega)
    rw [← tl0_s] at p3
    rw [f_Gos_firstKnownOutside_L11, o.ns, if_neg (by rw [nI_leI (by omega) (by omega)]; omega), p1, e_bnd2, c_kof p3 hs, e_bnd, nI_1]
    by_cases h0 : orN (tl T bt0 (k + 1) s) (T 1 5) &&& (ins ^^^ (-1)) = 0
    · rw [if_pos h0]
      obtain ⟨M', r1, r2, r3⟩ := ih n (k + 1) M1 (o.fr p2 (by decide)) p3 (by omega) (by omega) (fun j hj => by
        by_cases e : j = k
        · subst e; exact decide_eq_false (not_not_intro h0)
        · exact hf j (by omega))
      exact ⟨M', r1, p2.tr r2, r3⟩
    · rw [if_neg h0]
      have ea : sfi (outP T s ins) (T 14 0) = k := sfi_is (by omega) hf (fun _ => decide_eq_true h0)
      refine ⟨M1, ?_, p2, fun _ => ?_⟩
      · rw [ea, if_pos (by omega)]
      · rw [ea]; exact p3
theorem c_fko {T : Tn} {M : Mem} (o : On T M) (g : Good T) {s : Nat} (hs : s < 8) {ins : Int32} : ∃ M', f_Gos_firstKnownOutside (nI s) ins M = some (if sfi (outP T s ins) (T 14 0) < T 14 0 then nI (sfi (outP T s ins) (T 14 0)) else -4, M') ∧ Fr 79 85 M M' ∧ (sfi (outP T s ins) (T 14 0) < T 14 0 → KnC 85 T (tl T bt0 (sfi (outP T s ins) (T 14 0) + 1)) M') := by
  have h9 := g.ns
  obtain ⟨M1, p1, p2, p3⟩ := fill_ok (M := M) (a := 85) (n := 8) (x := 0) (by decide)
  obtain ⟨M', r1, r2, r3⟩ := c_fkoL g hs (ins := ins) (T 14 0) 1000 0 M1 (o.fr p2 (by decide)) (kn0 p3 bt0) (by omega) (by omega) (fun j hj => by omega)
  refine ⟨M', ?_, (p2.up (by decide) (by decide)).tr r2, r3⟩
  unfold f_Gos_firstKnownOutside
  rw [p1, e_bnd]
  exact r1
theorem m_sinceL {T : Tn} (g : Good T) {s p : Nat} (hs : s < 8) (hp : p < T 1 5) {ins : Int32} (hi : ins ^^^ (-1) = jshl 1 (nI p)) : ∀ (m n k : Nat) (M : Mem), OnM T M → k + m = T 14 0 → m < n → (∀ j, j < k → outP T s ins j = false) → ∃ M', f_Mod_since_L19 n (nI p) (nI s) (nI k) M = some (if sfi (outP T s ins) (T 14 0) < T 14 0 then nI (sfi (outP T s ins) (T 14 0)) else -4, M') ∧ Frm M M' := by
  have h9 := g.ns
  have h8 := g.n
  intro m
  induction m with
  | zero =>
    intro n k M o hk hn hf
    obtain ⟨n, rfl⟩ : ∃ z, n = z + 1 := ⟨n - 1, by omega⟩
    have e : k = T 14 0 := by omega
    subst e
    have ea : sfi (outP T s ins) (T 14 0) = T 14 0 := sfi_is (Nat.le_refl _) hf (fun h => absurd h (Nat.lt_irrefl _))
    refine ⟨M, ?_, Frm.rf⟩
    rw [f_Mod_since_L19, show M 104 (ix 88) = nI (T 14 0) from o.ns, if_pos (by rw [nI_leI (by omega) (by omega)]; omega), if_neg (by omega)]
  | succ m ih =>
    intro n k M o hk hn hf
    obtain ⟨n, rfl⟩ : ∃ z, n = z + 1 := ⟨n - 1, by omega⟩
    obtain ⟨M1, p1, p2, p3⟩ := m_wh0 o g (N := k + 1) (by omega)
    rw [f_Mod_since_L19, show M 104 (ix 88) = nI (T 14 0) from o.ns, if_neg (by rw [nI_leI (by omega) (by omega)]; omega), nI_1, p1, e_bnd2, e_ckn (by omega) (by decide), show ix (nI s) = s from e_ix (by omega), p3 s hs, orN_bit (by omega) (by omega)]
    have eo : outP T s ins k = tl T bt0 (k + 1) s p := by
      unfold outP
      rw [hi, orN_one (by omega) (by omega)]
      have e1 : ∀ i, i < 12 → ¬ jshl 1 (nI i) = 0 := by decide +kernel
      by_cases q : tl T bt0 (k + 1) s p = true
      · rw [if_pos ⟨hp, q⟩, q]
        exact decide_eq_true (e1 p (by omega))
      · rw [if_neg (fun r => q r.2)]
        simp [q]
    by_cases q : tl T bt0 (k + 1) s p = true
    · rw [if_pos (show p < T 1 5 ∧ tl T bt0 (k + 1) s p = true from ⟨hp, q⟩), if_pos (by rfl)]
      have ea : sfi (outP T s ins) (T 14 0) = k := sfi_is (by omega) hf (fun _ => by rw [eo]; exact q)
      refine ⟨M1, ?_, p2⟩
      rw [ea, if_pos (by omega)]
    · rw [if_neg (show ¬ (p < T 1 5 ∧ tl T bt0 (k + 1) s p = true) from fun r => q r.2), if_neg (by decide)]
      obtain ⟨M', r1, r2⟩ := ih n (k + 1) M1 (o.fr p2) (by omega) (by omega) (fun j hj => by
        by_cases e : j = k
        · subst e; rw [eo]; exact Bool.eq_false_iff.mpr q
        · exact hf j (by omega))
      exact ⟨M', r1, p2.tr r2⟩
theorem s_since (x y : Int32) : Sim (f_Hal_since x y) (f_Mod_since x y) := by
  intro M ⟨T, hA, hI, hS, hT, hF⟩
  obtain ⟨o, om, g⟩ := id hA
  have h9 := g.ns
  have h8 := g.n
  rcases a_one g x with ⟨p, hp, rfl, a1, a2⟩ | ⟨a1, a2⟩
  · rcases a_secret y with ⟨s, hs, rfl, b1, b2⟩ | ⟨b1, b2⟩
    · have hi : (jshl 1 (nI p) ^^^ (-1)) ^^^ (-1) = jshl 1 (nI p) := by
        have : ∀ p, p < 12 → (jshl 1 (nI p) ^^^ (-1)) ^^^ (-1) = jshl 1 (nI p) := by decide +kernel
        exact this p (by omega)
      obtain ⟨M1, p1, p2, -⟩ := c_fko o g hs (ins := jshl 1 (nI p) ^^^ (-1))
      have hA1 := hA.frc p2 (by decide) (by decide)
      obtain ⟨M2, r1, r2⟩ := m_sinceL g hs hp hi (T 14 0) 1000 0 M1 hA1.2.1 (by omega) (by omega) (fun j hj => by omega)
      refine ⟨if sfi (outP T s (jshl 1 (nI p) ^^^ (-1))) (T 14 0) < T 14 0 then nI (sfi (outP T s (jshl 1 (nI p) ^^^ (-1))) (T 14 0)) else -4, M1, M2, ?_, ?_, Inv.to hI hS hT hF ((p2.kp (by decide) (by decide)).tr r2.kp) (fun _ _ _ => rfl) (hA1.frm r2)⟩
      · unfold f_Hal_since
        rw [a1 M o, e_bnd, if_neg (by decide), b1, e_bnd, if_neg (by decide), p1, e_bnd2]
      · unfold f_Mod_since
        rw [a2 M1 hA1.2.1, e_bnd, if_neg (by decide), b2, e_bnd, if_neg (by decide)]
        exact r1
    · refine ⟨-1, M, M, ?_, ?_, ⟨T, hA, hI, hS, hT, hF⟩⟩
      · simp (disch := omega) only [e_bnd, e_bnd2, e_set, e_cpy, e_nmI, e_nmL, e_ckn, e_ckB0, e_ckB1, l0, l1, l2, l3, l4, l5, l6, l7, l8, l9, l10, l11, l12, l13, l14, l15, l16, l17, l18, l19, l20, l21, l22, l24, l25, l32, l39, l40, l41, l48, l50, l56, l57, l59, l60, l72, l79, l80, l81, l82, l88, l89, l97, l100, l122, l124, l125, l160, l255, l312, l320, l375, l1000, nI_ltI, nI_leI, nI_eq, nI_add, pk_mul, e_ix, e_neg, if_true, if_false, if_pos, if_neg, f_Hal_since, a1 M o, b1]
      · simp (disch := omega) only [e_bnd, e_bnd2, e_set, e_cpy, e_nmI, e_nmL, e_ckn, e_ckB0, e_ckB1, l0, l1, l2, l3, l4, l5, l6, l7, l8, l9, l10, l11, l12, l13, l14, l15, l16, l17, l18, l19, l20, l21, l22, l24, l25, l32, l39, l40, l41, l48, l50, l56, l57, l59, l60, l72, l79, l80, l81, l82, l88, l89, l97, l100, l122, l124, l125, l160, l255, l312, l320, l375, l1000, nI_ltI, nI_leI, nI_eq, nI_add, pk_mul, e_ix, e_neg, if_true, if_false, if_pos, if_neg, f_Mod_since, a2 M om, b2]
  · refine ⟨-1, M, M, ?_, ?_, ⟨T, hA, hI, hS, hT, hF⟩⟩
    · simp (disch := omega) only [e_bnd, e_bnd2, e_set, e_cpy, e_nmI, e_nmL, e_ckn, e_ckB0, e_ckB1, l0, l1, l2, l3, l4, l5, l6, l7, l8, l9, l10, l11, l12, l13, l14, l15, l16, l17, l18, l19, l20, l21, l22, l24, l25, l32, l39, l40, l41, l48, l50, l56, l57, l59, l60, l72, l79, l80, l81, l82, l88, l89, l97, l100, l122, l124, l125, l160, l255, l312, l320, l375, l1000, nI_ltI, nI_leI, nI_eq, nI_add, pk_mul, e_ix, e_neg, if_true, if_false, if_pos, if_neg, f_Hal_since, a1 M o]
    · simp (disch := omega) only [e_bnd, e_bnd2, e_set, e_cpy, e_nmI, e_nmL, e_ckn, e_ckB0, e_ckB1, l0, l1, l2, l3, l4, l5, l6, l7, l8, l9, l10, l11, l12, l13, l14, l15, l16, l17, l18, l19, l20, l21, l22, l24, l25, l32, l39, l40, l41, l48, l50, l56, l57, l59, l60, l72, l79, l80, l81, l82, l88, l89, l97, l100, l122, l124, l125, l160, l255, l312, l320, l375, l1000, nI_ltI, nI_leI, nI_eq, nI_add, pk_mul, e_ix, e_neg, if_true, if_false, if_pos, if_neg, f_Mod_since, a2 M om]
theorem a_bits {n : Nat} (x : Int32) : (f_Hal_areBitsBelow x (nI n) = some (nI 1) ∧ f_Mod_in x.toInt64 0 ((jshl 1 (nI n) - 1).toInt64) = some (nI 1)) ∨ (f_Hal_areBitsBelow x (nI n) = some (nI 0) ∧ f_Mod_in x.toInt64 0 ((jshl 1 (nI n) - 1).toInt64) = some (nI 0)) := by
  have e : f_Mod_in x.toInt64 0 ((jshl 1 (nI n) - 1).toInt64) = some (if 0 ≤ x ∧ x ≤ jshl 1 (nI n) - 1 then nI 1 else nI 0) := m_in0 x rfl rfl
  have e2 : f_Hal_within x 0 (jshl 1 (nI n) - 1) = some (if 0 ≤ x ∧ x ≤ jshl 1 (nI n) - 1 then nI 1 else nI 0) := w_in _ _ _
  unfold f_Hal_areBitsBelow
  rw [e, e2]
  by_cases h : 0 ≤ x ∧ x ≤ jshl 1 (nI n) - 1
  · rw [if_pos h]
    exact Or.inl ⟨rfl, rfl⟩
  · rw [if_neg h]
    exact Or.inr ⟨rfl, rfl⟩
def lkV (T : Tn) (s w : Nat) (ins : Int32) : Int32 := if sfi (outP T s ins) (T 14 0) < T 14 0 then (if w = 0 then nI (sfi (outP T s ins) (T 14 0)) else if w = 1 then nI (T 16 (sfi (outP T s ins) (T 14 0))) else orN (tl T bt0 (sfi (outP T s ins) (T 14 0) + 1) s) (T 1 5) &&& (ins ^^^ (-1))) else -4
theorem m_leakL {T : Tn} (g : Good T) {s w : Nat} (hs : s < 8) (hw : w ≤ 2) {ins : Int32} : ∀ (m n k : Nat) (M : Mem), OnM T M → k + m = T 14 0 → m < n → (∀ j, j < k → outP T s ins j = false) → ∃ M', f_Mod_leak_L42 n (nI s) ins (nI w) (nI k) M = some (lkV T s w ins, M') ∧ Frm M M' := by
  have h9 := g.ns
  intro m
  induction m with
  | zero =>
    intro n k M o hk hn hf
    obtain ⟨n, rfl⟩ : ∃ z, n = z + 1 := ⟨n - 1, by omega⟩
    have e : k = T 14 0 := by omega
    subst e
    have ea : sfi (outP T s ins) (T 14 0) = T 14 0 := sfi_is (Nat.le_refl _) hf (fun h => absurd h (Nat.lt_irrefl _))
    refine ⟨M, ?_, Frm.rf⟩
    rw [f_Mod_leak_L42, show M 104 (ix 88) = nI (T 14 0) from o.ns, if_pos (by rw [nI_leI (by omega) (by omega)]; omega), lkV, if_neg (by omega)]
  | succ m ih =>
    intro n k M o hk hn hf
    obtain ⟨n, rfl⟩ : ∃ z, n = z + 1 := ⟨n - 1, by omega⟩
    obtain ⟨M1, p1, p2, p3⟩ := m_wh0 o g (N := k + 1) (by omega)
    rw [f_Mod_leak_L42, show M 104 (ix 88) = nI (T 14 0) from o.ns, if_neg (by rw [nI_leI (by omega) (by omega)]; omega), nI_1, p1, e_bnd2, e_ckn (by omega) (by decide), show ix (nI s) = s from e_ix (by omega), p3 s hs, e_nmI]
    by_cases h0 : orN (tl T bt0 (k + 1) s) (T 1 5) &&& (ins ^^^ (-1)) = 0
    · rw [if_pos h0]
      obtain ⟨M', r1, r2⟩ := ih n (k + 1) M1 (o.fr p2) (by omega) (by omega) (fun j hj => by
        by_cases e : j = k
        · subst e; exact decide_eq_false (not_not_intro h0)
        · exact hf j (by omega))
      exact ⟨M', r1, p2.tr r2⟩
    · rw [if_neg h0]
      have ea : sfi (outP T s ins) (T 14 0) = k := sfi_is (by omega) hf (fun _ => decide_eq_true h0)
      refine ⟨M1, ?_, p2⟩
      rw [lkV, ea, if_pos (show k < T 14 0 by omega)]
      rcases (show w = 0 ∨ w = 1 ∨ w = 2 by omega) with rfl | rfl | rfl
      · rfl
      · rw [if_neg (by decide), if_pos (by rfl), (m_say (o.fr p2) g (show k < T 14 0 by omega)).2.1, e_bnd]
        rfl
      · rfl
theorem s_leak (x y z : Int32) : Sim (f_Hal_leak x y z) (f_Mod_leak x y z) := by
  intro M ⟨T, hA, hI, hS, hT, hF⟩
  obtain ⟨o, om, g⟩ := id hA
  have h9 := g.ns
  have h8 := g.n
  have e2 : f_Mod_in z.toInt64 0 2 = f_Mod_in z.toInt64 0 (nI 2).toInt64 := rfl
  rcases a_secret x with ⟨s, hs, rfl, b1, b2⟩ | ⟨b1, b2⟩
  · rcases a_bits (n := T 1 5) y with ⟨d1, d2⟩ | ⟨d1, d2⟩
    · rcases wi z (m := 2) (by decide) with ⟨w, hw, rfl, f1, f2⟩ | ⟨f1, f2, -⟩
      · obtain ⟨M1, p1, p2, p3⟩ := c_fko o g hs (ins := y)
        have hA1 := hA.frc p2 (by decide) (by decide)
        obtain ⟨M2, r1, r2⟩ := m_leakL g hs hw (ins := y) (T 14 0) 1000 0 M1 hA1.2.1 (by omega) (by omega) (fun j hj => by omega)
        refine ⟨lkV T s w y, M1, M2, ?_, ?_, Inv.to hI hS hT hF ((p2.kp (by decide) (by decide)).tr r2.kp) (fun _ _ _ => rfl) (hA1.frm r2)⟩
        · unfold f_Hal_leak
          rw [b1, e_bnd, if_neg (by decide), o.s5, d1, e_bnd, if_neg (by decide), show (0 : Int32) = nI 0 from rfl, show (2 : Int32) = nI 2 from rfl, f1, e_bnd, if_neg (by decide), p1, e_bnd2, lkV]
          by_cases q : sfi (outP T s y) (T 14 0) < T 14 0
          · rw [if_pos q, if_neg (by rw [l4, e_neg (by omega) (by omega) (by omega)]; exact id), if_pos q]
            rcases (show w = 0 ∨ w = 1 ∨ w = 2 by omega) with rfl | rfl | rfl
            · rfl
            · rw [if_neg (by decide), if_pos (by rfl), (c_wsp hA1.1 g q).2.1, e_bnd]
              rfl
            · rw [if_neg (by decide), if_neg (by decide), c_kof (p3 q) hs, e_bnd]
              rfl
          · rw [if_neg q, if_pos rfl, if_neg q]
        · unfold f_Mod_leak
          rw [b2, e_bnd, if_neg (by decide), hA1.2.1.s5, d2, e_bnd, if_neg (by decide), e2, f2, e_bnd, if_neg (by decide)]
          exact r1
      · refine ⟨-1, M, M, ?_, ?_, ⟨T, hA, hI, hS, hT, hF⟩⟩
        · unfold f_Hal_leak
          rw [b1, e_bnd, if_neg (by decide), o.s5, d1, e_bnd, if_neg (by decide), show (0 : Int32) = nI 0 from rfl, show (2 : Int32) = nI 2 from rfl, f1, e_bnd, if_pos (by rfl)]
        · unfold f_Mod_leak
          rw [b2, e_bnd, if_neg (by decide), om.s5, d2, e_bnd, if_neg (by decide), e2, f2, e_bnd, if_pos (by rfl)]
    · refine ⟨-1, M, M, ?_, ?_, ⟨T, hA, hI, hS, hT, hF⟩⟩
      · unfold f_Hal_leak
        rw [b1, e_bnd, if_neg (by decide), o.s5, d1, e_bnd, if_pos (by rfl)]
      · unfold f_Mod_leak
        rw [b2, e_bnd, if_neg (by decide), om.s5, d2, e_bnd, if_pos (by rfl)]
  · refine ⟨-1, M, M, ?_, ?_, ⟨T, hA, hI, hS, hT, hF⟩⟩
    · simp (disch := omega) only [e_bnd, e_bnd2, e_set, e_cpy, e_nmI, e_nmL, e_ckn, e_ckB0, e_ckB1, l0, l1, l2, l3, l4, l5, l6, l7, l8, l9, l10, l11, l12, l13, l14, l15, l16, l17, l18, l19, l20, l21, l22, l24, l25, l32, l39, l40, l41, l48, l50, l56, l57, l59, l60, l72, l79, l80, l81, l82, l88, l89, l97, l100, l122, l124, l125, l160, l255, l312, l320, l375, l1000, nI_ltI, nI_leI, nI_eq, nI_add, pk_mul, e_ix, e_neg, if_true, if_false, if_pos, if_neg, f_Hal_leak, b1]
    · simp (disch := omega) only [e_bnd, e_bnd2, e_set, e_cpy, e_nmI, e_nmL, e_ckn, e_ckB0, e_ckB1, l0, l1, l2, l3, l4, l5, l6, l7, l8, l9, l10, l11, l12, l13, l14, l15, l16, l17, l18, l19, l20, l21, l22, l24, l25, l32, l39, l40, l41, l48, l50, l56, l57, l59, l60, l72, l79, l80, l81, l82, l88, l89, l97, l100, l122, l124, l125, l160, l255, l312, l320, l375, l1000, nI_ltI, nI_leI, nI_eq, nI_add, pk_mul, e_ix, e_neg, if_true, if_false, if_pos, if_neg, f_Mod_leak, b2]
theorem s_without (x : Int32) : Sim (f_Hal_without x) (f_Mod_without x) := by
  intro M ⟨T, hA, hI, hS, hT, hF⟩
  obtain ⟨o, om, g⟩ := id hA
  have h9 := g.ns
  have h8 := g.n
  rcases a_say g x with ⟨i, hi, rfl, a1, a2⟩ | ⟨a1, a2⟩
  · have hv := g.v hi
    obtain ⟨M1, p1, p2, p3⟩ := c_tellF o g (N := T 14 0) (Nat.le_refl _)
    have hA1 := hA.frc p2 (by decide) (by decide)
    obtain ⟨M2, q1, q2, q3⟩ := c_tellX hA1.1 g hi
    have hA2 := hA1.frc q2 (by decide) (by decide)
    obtain ⟨M3, r1, r2, r3⟩ := m_wh0 hA2.2.1 g (N := T 14 0) (Nat.le_refl _)
    have hA3 := hA2.frm r2
    obtain ⟨M4, t1, t2, t3⟩ := m_wh hA3.2.1 g (N := T 14 0) (Nat.le_refl _) (x := nI i) (bt := btx i) (fun c hc => by rw [nI_eq (by omega) (by omega)]; simp [btx])
    refine ⟨if 0 ≤ nI (cntN (tl T bt0 (T 14 0) (T 17 i)) (T 1 5)) - nI (cntN (tl T (btx i) (T 14 0) (T 17 i)) (T 1 5)) then nI (cntN (tl T bt0 (T 14 0) (T 17 i)) (T 1 5)) - nI (cntN (tl T (btx i) (T 14 0) (T 17 i)) (T 1 5)) else nI (cntN (tl T bt0 (T 14 0) (T 17 i)) (T 1 5)) - nI (cntN (tl T (btx i) (T 14 0) (T 17 i)) (T 1 5)) - 100, M2, M4, ?_, ?_, Inv.to hI hS hT hF ((((p2.kp (by decide) (by decide)).tr (q2.kp (by decide) (by decide))).tr r2.kp).tr t2.kp) (fun _ _ _ => rfl) (hA3.frm t2)⟩
    · unfold f_Hal_without
      rw [a1 M o, e_bnd, if_neg (by decide), (c_wsp o g hi).2.2, e_bnd, o.ns, p1, e_bnd2, c_kof p3 hv.2.2, e_bnd, c_cnt (by omega), e_bnd, q1, e_bnd, c_kof q3 hv.2.2, e_bnd, c_cnt (by omega), e_bnd, e_nmI]
      split <;> rfl
    · unfold f_Mod_without
      rw [a2 M2 hA2.2.1, e_bnd, if_neg (by decide), (m_say hA2.2.1 g hi).2.2, e_bnd, show M2 104 (ix 88) = nI (T 14 0) from hA2.2.1.ns, r1, e_bnd2, e_ckn hv.2.2 (by decide), show ix (nI (T 17 i)) = T 17 i from e_ix (by omega), r3 _ hv.2.2, m_cnt (by omega), e_bnd, show M3 104 (ix 88) = nI (T 14 0) from hA3.2.1.ns, t1, e_bnd2, e_ckn hv.2.2 (by decide), t3 _ hv.2.2, m_cnt (by omega), e_bnd, e_nmI]
      split <;> rfl
  · refine ⟨-1, M, M, ?_, ?_, ⟨T, hA, hI, hS, hT, hF⟩⟩
    · simp (disch := omega) only [e_bnd, e_bnd2, e_set, e_cpy, e_nmI, e_nmL, e_ckn, e_ckB0, e_ckB1, l0, l1, l2, l3, l4, l5, l6, l7, l8, l9, l10, l11, l12, l13, l14, l15, l16, l17, l18, l19, l20, l21, l22, l24, l25, l32, l39, l40, l41, l48, l50, l56, l57, l59, l60, l72, l79, l80, l81, l82, l88, l89, l97, l100, l122, l124, l125, l160, l255, l312, l320, l375, l1000, nI_ltI, nI_leI, nI_eq, nI_add, pk_mul, e_ix, e_neg, if_true, if_false, if_pos, if_neg, f_Hal_without, a1 M o]
    · simp (disch := omega) only [e_bnd, e_bnd2, e_set, e_cpy, e_nmI, e_nmL, e_ckn, e_ckB0, e_ckB1, l0, l1, l2, l3, l4, l5, l6, l7, l8, l9, l10, l11, l12, l13, l14, l15, l16, l17, l18, l19, l20, l21, l22, l24, l25, l32, l39, l40, l41, l48, l50, l56, l57, l59, l60, l72, l79, l80, l81, l82, l88, l89, l97, l100, l122, l124, l125, l160, l255, l312, l320, l375, l1000, nI_ltI, nI_leI, nI_eq, nI_add, pk_mul, e_ix, e_neg, if_true, if_false, if_pos, if_neg, f_Mod_without, a2 M om]
end
