section
/-! ===== THE ABSTRACT MACHINE: cells by number, whole numbers for all values (a reference is a cell's number, -1: null) ===== -/
abbrev amM : Type := Nat → Nat → Int
abbrev amR : Type := Option (Int × amM)
abbrev amI : Type := Instr × Nat × Nat × Nat × List (Int × Nat)
abbrev amJ : Type := Nat → List Int → List Int → amM → amR
abbrev amN : Type := List Int → List Int → amM → amR
/-- one slot of one cell -/
def up (μ : amM) (c i : Nat) (v : Int) : amM := fun c' => if c' = c then (fun i' => if i' = i then v else μ c i') else μ c'
/-- a whole cell -/
def upr (μ : amM) (c : Nat) (f : Nat → Int) : amM := fun c' => if c' = c then f else μ c'
def w32 (x : Int) : Int := x.bmod 4294967296
def w64 (x : Int) : Int := x.bmod 18446744073709551616
def bAnd (a b : Int) : Int := (Int32.ofInt a &&& Int32.ofInt b).toInt
def bOr (a b : Int) : Int := (Int32.ofInt a ||| Int32.ofInt b).toInt
def bXor (a b : Int) : Int := (Int32.ofInt a ^^^ Int32.ofInt b).toInt
def bShl (a b : Int) : Int := (Int32.ofInt a <<< (Int32.ofInt b &&& 31)).toInt
def bShr (a b : Int) : Int := (Int32.ofInt a >>> (Int32.ofInt b &&& 31)).toInt
def bUshr (a b : Int) : Int := ((Int32.ofInt a).toUInt32 >>> ((Int32.ofInt b).toUInt32 &&& Int32.toUInt32 31)).toInt32.toInt
def lAnd (a b : Int) : Int := (Int64.ofInt a &&& Int64.ofInt b).toInt
def lOr (a b : Int) : Int := (Int64.ofInt a ||| Int64.ofInt b).toInt
def lShl (a b : Int) : Int := (Int64.ofInt a <<< ((Int32.ofInt b).toInt64 &&& 63)).toInt
def lShr (a b : Int) : Int := (Int64.ofInt a >>> ((Int32.ofInt b).toInt64 &&& 63)).toInt
def lUshr (a b : Int) : Int := ((Int64.ofInt a).toUInt64 >>> ((Int32.ofInt b).toInt64.toUInt64 &&& Int64.toUInt64 63)).toInt64.toInt
def jmax (x y : Int) : Int := if x < y then y else x
def jmin (x y : Int) : Int := if y < x then y else x
/-- the cells: what each is (a class by its place; 20 int[], 21 long[], 22 boolean[], 23 Text[], 24 Sheet[], 25 int[][]) and how long -/
def amShpL : List (Nat × Nat) := [(0, 11), (1, 9), (2, 13), (20, 64), (20, 64), (20, 64), (20, 256), (20, 64), (20, 128), (20, 64), (23, 2), (20, 50), (20, 20), (3, 3), (20, 50), (20, 51), (3, 3), (20, 50), (20, 51), (1, 9), (2, 13), (20, 64), (20, 64), (20, 64), (20, 256), (20, 64), (20, 128), (20, 64), (23, 2), (20, 50), (20, 20), (3, 3), (20, 50), (20, 51), (3, 3), (20, 50), (20, 51), (4, 5), (3, 3), (20, 50), (20, 51), (5, 6), (25, 5), (20, 128), (20, 128), (20, 128), (20, 128), (20, 128), (20, 5), (20, 64), (6, 5), (20, 5), (7, 3), (20, 64), (20, 64), (8, 3), (20, 81), (21, 81), (21, 81), (9, 5), (20, 40), (24, 4), (20, 6), (10, 3), (20, 64), (10, 3), (20, 64), (10, 3), (20, 64), (10, 3), (20, 64), (11, 39), (20, 576), (20, 576), (20, 6), (20, 4), (20, 128), (20, 128), (20, 6), (20, 6), (20, 6), (20, 6), (20, 6), (20, 5), (21, 82), (21, 82), (22, 6561), (20, 256), (20, 64), (20, 64), (20, 40), (20, 4), (20, 4), (20, 256), (20, 64)]
def amShp (c : Nat) : Nat × Nat := amShpL.getD c (99, 0)
/-- the tag of a reference: 26 the script (302), 27 a table (300, 301) -/
def amTgN (c : Nat) : Nat := match c with
  | 300 => 27
  | 301 => 27
  | 302 => 26
  | c => (amShp c).1
def amTg (x : Int) : Nat := match x with
  | .ofNat c => amTgN c
  | .negSucc _ => 99
def amLnN (c : Nat) : Nat := match c with
  | 300 => 7
  | 301 => 28
  | c => (amShp c).2
def amLn (x : Int) : Int := match x with
  | .ofNat c => (amLnN c : Int)
  | .negSucc _ => 0
def amT0 : List Int := [-1, 0, 0, 0, 1, 2, 3]
def amT1 : List Int := [10, 11, 12, 13, 0, 20, 0, 0, 30, 0, 0, 0, 0, 0, 40, 0, 0, 50, 0, 0, 0, 0, 0, 60, 0, 0, 70, 71]
def amTab (c i : Nat) : Int := if c = 300 then amT0.getD i 0 else amT1.getD i 0
/-- fields: by class and slot: 0 int, 2 a reference, 4 boolean -/
def amFtL : List (List Nat) := [[2, 2, 2, 2, 2, 2, 2, 2, 2, 2, 0], [2, 2, 2, 2, 0, 0, 0, 0, 0], [2, 2, 2, 2, 2, 2, 2, 0, 0, 0, 0, 0, 0], [2, 2, 0], [2, 2, 0, 0, 0], [2, 2, 2, 2, 2, 0], [2, 2, 0, 0, 0], [2, 2, 0], [2, 2, 2], [2, 0, 0, 0, 0], [2, 0, 0], [2, 2, 0, 2, 0, 0, 0, 0, 0, 4, 2, 2, 2, 0, 0, 0, 2, 2, 2, 2, 2, 0, 0, 0, 2, 0, 2, 2, 2, 2, 2, 2, 2, 0, 0, 2, 2, 2, 2]]
def amFt (ci k : Nat) : Nat := (amFtL.getD ci []).getD k 9
abbrev amC : Type := Nat → Nat → Option Int
/-- what a slot holds: the fixed references first -/
def amCt (cr : amC) (μ : amM) (c k : Nat) : Int := match cr c k with
  | some v => v
  | none => μ c k
def bnd (o : amR) (f : Int → amM → amR) : amR := match o with
  | none => none
  | some r => f r.1 r.2
def amGf (cr : amC) (μ : amM) (ci k : Nat) (x : Int) (f : Int → amR) : amR :=
  if amTg x = ci then (if amFt ci k = 2 then (if 0 ≤ amCt cr μ x.toNat k then f (amCt cr μ x.toNat k) else none) else f (amCt cr μ x.toNat k)) else none
/-- a field that holds one thing or nothing -/
def amGx (cr : amC) (μ : amM) (ci k : Nat) (x w : Int) (f : Int → amR) : amR :=
  if amTg x = ci then (if amCt cr μ x.toNat k = w then (if 0 ≤ w then f w else none) else none) else none
def amPf (cr : amC) (μ : amM) (ci k : Nat) (x v : Int) (f : amM → amR) : amR :=
  if amTg x = ci ∧ ci < 90 ∧ cr x.toNat k = none ∧ (amFt ci k = 4 → v = 0 ∨ v = 1) then f (up μ x.toNat k v) else none
def amAld (μ : amM) (x i : Int) (f : Int → amR) : amR :=
  if amTg x = 20 then (if 0 ≤ i ∧ i < amLn x then f (μ x.toNat i.toNat) else none)
  else if amTg x = 27 then (if 0 ≤ i ∧ i < amLn x then f (amTab x.toNat i.toNat) else none)
  else if amTg x = 26 then (if 0 ≤ i ∧ i < μ 302 0 then f (μ 302 (i.toNat + 1)) else none)
  else none
def amPld (t : Nat) (μ : amM) (x i : Int) (f : Int → amR) : amR :=
  if amTg x = t then (if 0 ≤ i ∧ i < amLn x then f (μ x.toNat i.toNat) else none) else none
def amPst (t : Nat) (μ : amM) (x i v : Int) (f : amM → amR) : amR :=
  if amTg x = t then (if 0 ≤ i ∧ i < amLn x then (if t = 22 then (if v = 0 ∨ v = 1 then f (up μ x.toNat i.toNat v) else none) else f (up μ x.toNat i.toNat v)) else none) else none
def amQld (cr : amC) (t : Nat) (μ : amM) (x i : Int) (f : Int → amR) : amR :=
  if amTg x = t then (if 0 ≤ i ∧ i < amLn x then (if 0 ≤ amCt cr μ x.toNat i.toNat then f (amCt cr μ x.toNat i.toNat) else none) else none) else none
/-- a reference that is put into a row of them: the tag of what it must be -/
def amQt (t : Nat) : Nat := match t with
  | 23 => 3
  | 24 => 10
  | _ => 98
def amQst (cr : amC) (t : Nat) (μ : amM) (x i v : Int) (f : amM → amR) : amR :=
  if amTg x = t ∧ t < 90 ∧ amTg v = amQt t ∧ cr x.toNat i.toNat = none then (if 0 ≤ i ∧ i < amLn x then f (up μ x.toNat i.toNat v) else none) else none
def amCpy (μ : amM) (x i y j n : Int) (f : amM → amR) : amR :=
  if amTg x = 20 ∧ amTg y = 20 then
    (if 0 ≤ i ∧ 0 ≤ j ∧ 0 ≤ n ∧ i + n ≤ amLn x ∧ j + n ≤ amLn y then
      f (upr μ y.toNat (fun k => if j.toNat ≤ k ∧ k < j.toNat + n.toNat then μ x.toNat (i.toNat + (k - j.toNat)) else μ y.toNat k)) else none)
  else none
def amCnt (μ : amM) : Nat := (μ 999 0).toNat
/-- what a new cell holds -/
def amDf (t k : Nat) : Int := if t < 20 then (if amFt t k = 2 then -1 else 0) else (if 23 ≤ t then -1 else 0)
def amBorn (μ : amM) : amM := fun c => if c = amCnt μ then (fun k => amDf (amShp (amCnt μ)).1 k) else if c = 999 then (fun _ => (amCnt μ : Int) + 1) else μ c
def amNew (μ : amM) (t : Nat) (f : Int → amM → amR) : amR :=
  if (amShp (amCnt μ)).1 = t ∧ t < 90 then f (amCnt μ : Int) (amBorn μ) else none
def amNwa (μ : amM) (t : Nat) (n : Int) (f : Int → amM → amR) : amR :=
  if (amShp (amCnt μ)).1 = t ∧ t < 90 ∧ ((amShp (amCnt μ)).2 : Int) = n then f (amCnt μ : Int) (amBorn μ) else none
/-- int[5][128], the one of its kind -/
def amMul (μ : amM) (n k : Int) (f : Int → amM → amR) : amR :=
  if amCnt μ = 42 ∧ n = 5 ∧ k = 128 then
    f 42 (fun c => if c = 42 then (fun j => if j < 5 then (42 + 1 + j : Nat) else -1) else if 42 < c ∧ c ≤ 42 + 5 then (fun _ => 0) else if c = 999 then (fun _ => (42 + 6 : Nat)) else μ c)
  else none
def amSw (x : Int) (l : List (Int × Nat)) (d : Nat) (f : Nat → amR) : amR := match l with
  | [] => f d
  | (k, b) :: r => if x = k then f b else amSw x r d f
/-- one instruction: k goes on at a block, nx behind it -/
def stp (cr : amC) (call : Nat → List Int → amM → amR) (rt : Nat → Nat × Nat) (i : amI) (k : amJ) (nx : amN) (st ls : List Int) (μ : amM) : amR :=
  match i.1 with
  | .iconst n => nx (n :: st) ls μ
  | .bipush n => nx (n :: st) ls μ
  | .sipush n => nx (n :: st) ls μ
  | .lconst n => nx ((n.val : Int) :: st) ls μ
  | .ldc _ => nx ((i.2.2.2.2.headD (0, 0)).1 :: st) ls μ
  | .ldc_w _ => nx ((i.2.2.2.2.headD (0, 0)).1 :: st) ls μ
  | .ldc2_w _ => nx ((i.2.2.2.2.headD (0, 0)).1 :: st) ls μ
  | .iload_n n => nx (ls.getD n.val 0 :: st) ls μ
  | .iload n => nx (ls.getD n 0 :: st) ls μ
  | .lload_n n => nx (ls.getD n.val 0 :: st) ls μ
  | .lload n => nx (ls.getD n 0 :: st) ls μ
  | .aload_n n => nx (ls.getD n.val 0 :: st) ls μ
  | .aload n => nx (ls.getD n 0 :: st) ls μ
  | .istore_n n => match st with | x :: st => nx st (ls.set n.val x) μ | _ => none
  | .istore n => match st with | x :: st => nx st (ls.set n x) μ | _ => none
  | .lstore_n n => match st with | x :: st => nx st (ls.set n.val x) μ | _ => none
  | .lstore n => match st with | x :: st => nx st (ls.set n x) μ | _ => none
  | .astore_n n => match st with | x :: st => nx st (ls.set n.val x) μ | _ => none
  | .astore n => match st with | x :: st => nx st (ls.set n x) μ | _ => none
  | .iinc n c => nx st (ls.set n (w32 (ls.getD n 0 + c))) μ
  | .iadd => match st with | y :: x :: st => nx (w32 (x + y) :: st) ls μ | _ => none
  | .isub => match st with | y :: x :: st => nx (w32 (x - y) :: st) ls μ | _ => none
  | .imul => match st with | y :: x :: st => nx (w32 (x * y) :: st) ls μ | _ => none
  | .idiv => match st with | y :: x :: st => if y = 0 then none else nx (w32 (x.tdiv y) :: st) ls μ | _ => none
  | .irem => match st with | y :: x :: st => if y = 0 then none else nx (x.tmod y :: st) ls μ | _ => none
  | .iand => match st with | y :: x :: st => nx (bAnd x y :: st) ls μ | _ => none
  | .ior => match st with | y :: x :: st => nx (bOr x y :: st) ls μ | _ => none
  | .ixor => match st with | y :: x :: st => nx (bXor x y :: st) ls μ | _ => none
  | .ishl => match st with | y :: x :: st => nx (bShl x y :: st) ls μ | _ => none
  | .ishr => match st with | y :: x :: st => nx (bShr x y :: st) ls μ | _ => none
  | .iushr => match st with | y :: x :: st => nx (bUshr x y :: st) ls μ | _ => none
  | .ladd => match st with | y :: x :: st => nx (w64 (x + y) :: st) ls μ | _ => none
  | .lmul => match st with | y :: x :: st => nx (w64 (x * y) :: st) ls μ | _ => none
  | .land => match st with | y :: x :: st => nx (lAnd x y :: st) ls μ | _ => none
  | .lor => match st with | y :: x :: st => nx (lOr x y :: st) ls μ | _ => none
  | .lshl => match st with | y :: x :: st => nx (lShl x y :: st) ls μ | _ => none
  | .lshr => match st with | y :: x :: st => nx (lShr x y :: st) ls μ | _ => none
  | .lushr => match st with | y :: x :: st => nx (lUshr x y :: st) ls μ | _ => none
  | .ineg => match st with | x :: st => nx (w32 (-x) :: st) ls μ | _ => none
  | .i2l => match st with | x :: st => nx (x :: st) ls μ | _ => none
  | .l2i => match st with | x :: st => nx (w32 x :: st) ls μ | _ => none
  | .i2b => match st with | x :: st => nx (x.bmod 256 :: st) ls μ | _ => none
  | .i2s => match st with | x :: st => nx (x.bmod 65536 :: st) ls μ | _ => none
  | .lcmp => match st with | y :: x :: st => nx ((if x < y then -1 else if x = y then 0 else 1) :: st) ls μ | _ => none
  | .dup => match st with | x :: st => nx (x :: x :: st) ls μ | _ => none
  | .dup2 => match st with | y :: x :: st => nx (y :: x :: y :: x :: st) ls μ | _ => none
  | .pop => match st with | _ :: st => nx st ls μ | _ => none
  | .getfield _ => match st with
    | x :: st => (match i.2.2.2.2 with
      | [] => amGf cr μ i.2.1 i.2.2.1 x (fun v => nx (v :: st) ls μ)
      | (w, _) :: _ => amGx cr μ i.2.1 i.2.2.1 x w (fun v => nx (v :: st) ls μ))
    | _ => none
  | .putfield _ => match st with | v :: x :: st => amPf cr μ i.2.1 i.2.2.1 x v (fun μ => nx st ls μ) | _ => none
  | .getstatic _ => nx ((i.2.1 : Int) :: st) ls μ
  | .iaload => match st with | j :: x :: st => amAld μ x j (fun v => nx (v :: st) ls μ) | _ => none
  | .laload => match st with | j :: x :: st => amPld 21 μ x j (fun v => nx (v :: st) ls μ) | _ => none
  | .baload => match st with | j :: x :: st => amPld 22 μ x j (fun v => nx (v :: st) ls μ) | _ => none
  | .aaload => match st with | j :: x :: st => amQld cr i.2.1 μ x j (fun v => nx (v :: st) ls μ) | _ => none
  | .iastore => match st with | v :: j :: x :: st => amPst 20 μ x j v (fun μ => nx st ls μ) | _ => none
  | .lastore => match st with | v :: j :: x :: st => amPst 21 μ x j v (fun μ => nx st ls μ) | _ => none
  | .bastore => match st with | v :: j :: x :: st => amPst 22 μ x j v (fun μ => nx st ls μ) | _ => none
  | .aastore => match st with | v :: j :: x :: st => amQst cr i.2.1 μ x j v (fun μ => nx st ls μ) | _ => none
  | .arraylength => match st with | x :: st => if amTg x = 26 then nx (μ 302 0 :: st) ls μ else none | _ => none
  | .ifCond c _ => match st with
    | x :: st => (match c with
      | .eq => if x = 0 then k i.2.1 st ls μ else nx st ls μ
      | .ne => if x = 0 then nx st ls μ else k i.2.1 st ls μ
      | .lt => if x < 0 then k i.2.1 st ls μ else nx st ls μ
      | .ge => if x < 0 then nx st ls μ else k i.2.1 st ls μ
      | .gt => if 0 < x then k i.2.1 st ls μ else nx st ls μ
      | .le => if 0 < x then nx st ls μ else k i.2.1 st ls μ)
    | _ => none
  | .if_icmp c _ => match st with
    | y :: x :: st => (match c with
      | .eq => if x = y then k i.2.1 st ls μ else nx st ls μ
      | .ne => if x = y then nx st ls μ else k i.2.1 st ls μ
      | .lt => if x < y then k i.2.1 st ls μ else nx st ls μ
      | .ge => if x < y then nx st ls μ else k i.2.1 st ls μ
      | .gt => if y < x then k i.2.1 st ls μ else nx st ls μ
      | .le => if y < x then nx st ls μ else k i.2.1 st ls μ)
    | _ => none
  | .goto _ => k i.2.1 st ls μ
  | .nop => k i.2.1 st ls μ
  | .tableswitch _ _ _ _ => match st with | x :: st => amSw x i.2.2.2.2 i.2.1 (fun b => k b st ls μ) | _ => none
  | .lookupswitch _ _ => match st with | x :: st => amSw x i.2.2.2.2 i.2.1 (fun b => k b st ls μ) | _ => none
  | .invokevirtual _ => if amTg ((st.take i.2.2.1).getLastD (-1)) = (rt i.2.1).2 then bnd (call i.2.1 (st.take i.2.2.1).reverse μ) (fun v μ => nx (if (rt i.2.1).1 = 3 then st.drop i.2.2.1 else v :: st.drop i.2.2.1) ls μ) else none
  | .invokestatic _ =>
    if i.2.1 = 9999 then (match st with | n :: j :: y :: i0 :: x :: st => amCpy μ x i0 y j n (fun μ => nx st ls μ) | _ => none)
    else if i.2.1 = 9998 then (match st with | y :: x :: st => nx (jmax x y :: st) ls μ | _ => none)
    else if i.2.1 = 9997 then (match st with | y :: x :: st => nx (jmin x y :: st) ls μ | _ => none)
    else bnd (call i.2.1 (st.take i.2.2.1).reverse μ) (fun v μ => nx (if (rt i.2.1).1 = 3 then st.drop i.2.2.1 else v :: st.drop i.2.2.1) ls μ)
  | .invokespecial _ =>
    if i.2.1 = 9999 then (match st with | x :: st => if 0 ≤ x then nx st ls μ else none | _ => none)
    else if amTg ((st.take i.2.2.1).getLastD (-1)) = (rt i.2.1).2 then bnd (call i.2.1 (st.take i.2.2.1).reverse μ) (fun _ μ => nx (st.drop i.2.2.1) ls μ) else none
  | .new _ => amNew μ i.2.1 (fun x μ => nx (x :: st) ls μ)
  | .newarray _ => match st with | n :: st => amNwa μ i.2.1 n (fun x μ => nx (x :: st) ls μ) | _ => none
  | .anewarray _ => match st with | n :: st => amNwa μ i.2.1 n (fun x μ => nx (x :: st) ls μ) | _ => none
  | .multianewarray _ _ => match st with | k2 :: n :: st => amMul μ n k2 (fun x μ => nx (x :: st) ls μ) | _ => none
  | .ireturn => match st with | [x] => if i.2.1 = 4 then (if x = 0 ∨ x = 1 then some (x, μ) else none) else some (x, μ) | _ => none
  | .lreturn => match st with | [x] => some (x, μ) | _ => none
  | .return_ => match st with | [] => some (0, μ) | _ => none
  | _ => none
noncomputable def runB (cr : amC) (call : Nat → List Int → amM → amR) (rt : Nat → Nat × Nat) (k : amJ) : List amI → amN := List.rec (fun _ _ _ => none) (fun i _ nx => stp cr call rt i k nx)
def nrm (m : List Bool) (l : List Int) : List Int := List.zipWith (fun b x => bif b then x else 0) m l
/-- short words for what the blocks do -/
def rd (c n : Nat) (μ : amM) (i : Int) (f : Int → amR) : amR := if 0 ≤ i ∧ i < (n : Int) then f (μ c i.toNat) else none
def wr (c n : Nat) (μ : amM) (i v : Int) (f : amM → amR) : amR := if 0 ≤ i ∧ i < (n : Int) then f (up μ c i.toNat v) else none
def wf (c k : Nat) (μ : amM) (v : Int) (f : amM → amR) : amR := f (up μ c k v)
def rb (x : Int) (μ : amM) : amR := if x = 0 ∨ x = 1 then some (x, μ) else none
def cr0 : amC := fun _ _ => none
def cr2L : List (List (Option Int)) := [[some 1, some 19, some 37, some 41, some 50, some 52, some 55, some 59, some 61, some 62], [some 2, some 10, some 11, some 12], [some 3, some 4, some 5, some 6, some 7, some 8, some 9], [], [], [], [], [], [], [], [some 13, some 16], [], [], [some 14, some 15], [], [], [some 17, some 18], [], [], [some 20, some 28, some 29, some 30], [some 21, some 22, some 23, some 24, some 25, some 26, some 27], [], [], [], [], [], [], [], [some 31, some 34], [], [], [some 32, some 33], [], [], [some 35, some 36], [], [], [some 38], [some 39, some 40], [], [], [some 42, some 48, some 49], [some 43, some 44, some 45, some 46, some 47], [], [], [], [], [], [], [], [some 51], [], [some 53, some 54], [], [], [some 56], [], [], [], [some 60], [], [some 63, some 65, some 67, some 69], [], [some 64], [], [some 66], [], [some 68], [], [some 70], [], [some 72, some 73, none, some 74, none, none, none, none, none, none, some 75, some 76, some 77, none, none, none, some 78, some 79, some 80, some 81, some 82, none, none, none, some 83, none, some 84, some 85, some 86, some 87, some 88, some 89, some 90, none, none, some 91, some 92, some 93, some 94], [], [], [], [], [], [], [], [], [], [], [], [], [], [], [], [], [], [], [], [], [], [], []]
def cr2 : amC := fun c k => (cr2L.getD c []).getD k none
end
section
/-! ===== the methods in blocks: where a block begins, what stands on the stack and in the locals there (0 int, 1 long, 2 a reference, 3 nothing), its instructions ===== -/
def P0 : List (Nat × List Nat × List Nat × List amI) := [(0, [], [2], [(.aload_n 0, 0, 0, 0, []), (.invokespecial 3, 9999, 0, 0, []), (.aload_n 0, 0, 0, 0, []), (.bipush 64, 0, 0, 0, []), (.newarray .int, 20, 0, 0, []), (.putfield 9, 7, 0, 0, []), (.aload_n 0, 0, 0, 0, []), (.bipush 64, 0, 0, 0, []), (.newarray .int, 20, 0, 0, []), (.putfield 15, 7, 1, 1, []), (.return_, 0, 0, 0, [])])]
def P1 : List (Nat × List Nat × List Nat × List amI) := [(0, [], [2, 2, 3, 3, 3, 3], [(.aload_n 0, 0, 0, 0, []), (.aload_n 1, 0, 0, 0, []), (.invokevirtual 18, 2, 2, 1, []), (.iconst 0, 0, 0, 0, []), (.istore_n 2, 0, 0, 0, []), (.iconst 0, 0, 0, 0, []), (.istore_n 3, 0, 0, 0, []), (.iconst 0, 0, 0, 0, []), (.istore 4, 0, 0, 0, []), (.nop, 1, 0, 0, [])]),
  (12, [], [2, 2, 0, 0, 0, 3], [(.iload 4, 0, 0, 0, []), (.ldc 22, 0, 0, 0, [(1000000, 0)]), (.if_icmp .ge 116, 5, 0, 0, []), (.iload_n 3, 0, 0, 0, []), (.ifCond .lt 112, 5, 0, 0, []), (.iload_n 3, 0, 0, 0, []), (.aload_n 0, 0, 0, 0, []), (.getfield 23, 7, 2, 2, []), (.if_icmp .ge 104, 5, 0, 0, []), (.aload_n 0, 0, 0, 0, []), (.getfield 15, 7, 1, 1, []), (.iload_n 3, 0, 0, 0, []), (.iaload, 0, 0, 0, []), (.istore 5, 0, 0, 0, []), (.iload 5, 0, 0, 0, []), (.bipush 81, 0, 0, 0, []), (.if_icmp .lt 13, 2, 0, 0, []), (.aload_n 0, 0, 0, 0, []), (.aload_n 1, 0, 0, 0, []), (.iload_n 3, 0, 0, 0, []), (.invokevirtual 27, 4, 3, 2, []), (.istore_n 3, 0, 0, 0, []), (.goto 73, 4, 0, 0, [])]),
  (56, [], [2, 2, 0, 0, 0, 0], [(.iload_n 2, 0, 0, 0, []), (.sipush 20000, 0, 0, 0, []), (.if_icmp .lt 10, 3, 0, 0, []), (.aload_n 0, 0, 0, 0, []), (.aload_n 1, 0, 0, 0, []), (.invokevirtual 31, 5, 2, 3, []), (.iconst 4, 0, 0, 0, []), (.ireturn, 0, 0, 0, [])]),
  (70, [], [2, 2, 0, 0, 0, 0], [(.iinc 2 1, 0, 0, 0, []), (.aload_n 0, 0, 0, 0, []), (.getfield 15, 7, 1, 1, []), (.iload_n 3, 0, 0, 0, []), (.dup2, 0, 0, 0, []), (.iaload, 0, 0, 0, []), (.iconst 1, 0, 0, 0, []), (.iadd, 0, 0, 0, []), (.iastore, 0, 0, 0, []), (.aload_n 1, 0, 0, 0, []), (.aload_n 0, 0, 0, 0, []), (.getfield 9, 7, 0, 0, []), (.iload_n 3, 0, 0, 0, []), (.iaload, 0, 0, 0, []), (.iload 5, 0, 0, 0, []), (.invokestatic 34, 6, 1, 4, []), (.invokevirtual 40, 74, 3, 5, []), (.ifCond .eq 28, 4, 0, 0, []), (.aload_n 1, 0, 0, 0, []), (.aload_n 0, 0, 0, 0, []), (.getfield 9, 7, 0, 0, []), (.iload_n 3, 0, 0, 0, []), (.iaload, 0, 0, 0, []), (.iconst 0, 0, 0, 0, []), (.iconst 0, 0, 0, 0, []), (.iload 5, 0, 0, 0, []), (.invokestatic 34, 6, 1, 4, []), (.invokevirtual 46, 67, 5, 6, []), (.iinc 3 1, 0, 0, 0, []), (.aload_n 0, 0, 0, 0, []), (.iload_n 3, 0, 0, 0, []), (.invokevirtual 50, 3, 2, 7, []), (.nop, 4, 0, 0, [])]),
  (126, [], [2, 2, 0, 0, 0, 3], [(.iinc 4 1, 0, 0, 0, []), (.goto (-117), 1, 0, 0, [])]),
  (132, [], [3, 3, 3, 0, 3, 3], [(.iload_n 3, 0, 0, 0, []), (.ifCond .ge 7, 6, 0, 0, []), (.iconst 2, 0, 0, 0, []), (.goto 4, 7, 0, 0, [])]),
  (140, [], [3, 3, 3, 3, 3, 3], [(.iconst 0, 0, 0, 0, []), (.nop, 7, 0, 0, [])]),
  (141, [0], [3, 3, 3, 3, 3, 3], [(.ireturn, 0, 0, 0, [])])]
def P2 : List (Nat × List Nat × List Nat × List amI) := [(0, [], [2, 2, 3], [(.aload_n 0, 0, 0, 0, []), (.iconst 0, 0, 0, 0, []), (.putfield 23, 7, 2, 2, []), (.iconst 0, 0, 0, 0, []), (.istore_n 2, 0, 0, 0, []), (.nop, 1, 0, 0, [])]),
  (7, [], [2, 2, 0], [(.iload_n 2, 0, 0, 0, []), (.aload_n 1, 0, 0, 0, []), (.getfield 54, 2, 10, 3, []), (.if_icmp .ge 39, 3, 0, 0, []), (.aload_n 1, 0, 0, 0, []), (.getfield 56, 2, 0, 4, []), (.iload_n 2, 0, 0, 0, []), (.iaload, 0, 0, 0, []), (.iconst (-1), 0, 0, 0, []), (.if_icmp .ne 23, 2, 0, 0, []), (.aload_n 0, 0, 0, 0, []), (.getfield 9, 7, 0, 0, []), (.aload_n 0, 0, 0, 0, []), (.getfield 23, 7, 2, 2, []), (.iload_n 2, 0, 0, 0, []), (.iastore, 0, 0, 0, []), (.aload_n 0, 0, 0, 0, []), (.dup, 0, 0, 0, []), (.getfield 23, 7, 2, 2, []), (.iconst 1, 0, 0, 0, []), (.iadd, 0, 0, 0, []), (.putfield 23, 7, 2, 2, []), (.nop, 2, 0, 0, [])]),
  (45, [], [2, 2, 0], [(.iinc 2 1, 0, 0, 0, []), (.goto (-41), 1, 0, 0, [])]),
  (51, [], [2, 3, 3], [(.aload_n 0, 0, 0, 0, []), (.iconst 0, 0, 0, 0, []), (.invokevirtual 50, 3, 2, 7, []), (.return_, 0, 0, 0, [])])]
def P3 : List (Nat × List Nat × List Nat × List amI) := [(0, [], [2, 0], [(.iload_n 1, 0, 0, 0, []), (.aload_n 0, 0, 0, 0, []), (.getfield 23, 7, 2, 2, []), (.if_icmp .ge 10, 1, 0, 0, []), (.aload_n 0, 0, 0, 0, []), (.getfield 15, 7, 1, 1, []), (.iload_n 1, 0, 0, 0, []), (.iconst 0, 0, 0, 0, []), (.iastore, 0, 0, 0, []), (.nop, 1, 0, 0, [])]),
  (15, [], [3, 3], [(.return_, 0, 0, 0, [])])]
def P4 : List (Nat × List Nat × List Nat × List amI) := [(0, [], [2, 2, 0], [(.iload_n 2, 0, 0, 0, []), (.ifCond .le 17, 1, 0, 0, []), (.aload_n 1, 0, 0, 0, []), (.getfield 56, 2, 0, 4, []), (.aload_n 0, 0, 0, 0, []), (.getfield 9, 7, 0, 0, []), (.iload_n 2, 0, 0, 0, []), (.iconst 1, 0, 0, 0, []), (.isub, 0, 0, 0, []), (.iaload, 0, 0, 0, []), (.iconst (-1), 0, 0, 0, []), (.iastore, 0, 0, 0, []), (.nop, 1, 0, 0, [])]),
  (18, [], [3, 3, 0], [(.iload_n 2, 0, 0, 0, []), (.iconst 1, 0, 0, 0, []), (.isub, 0, 0, 0, []), (.ireturn, 0, 0, 0, [])])]
def P5 : List (Nat × List Nat × List Nat × List amI) := [(0, [], [2, 2, 3], [(.iconst 0, 0, 0, 0, []), (.istore_n 2, 0, 0, 0, []), (.nop, 1, 0, 0, [])]),
  (2, [], [2, 2, 0], [(.iload_n 2, 0, 0, 0, []), (.aload_n 0, 0, 0, 0, []), (.getfield 23, 7, 2, 2, []), (.if_icmp .ge 21, 2, 0, 0, []), (.aload_n 1, 0, 0, 0, []), (.getfield 56, 2, 0, 4, []), (.aload_n 0, 0, 0, 0, []), (.getfield 9, 7, 0, 0, []), (.iload_n 2, 0, 0, 0, []), (.iaload, 0, 0, 0, []), (.iconst (-1), 0, 0, 0, []), (.iastore, 0, 0, 0, []), (.iinc 2 1, 0, 0, 0, []), (.goto (-23), 1, 0, 0, [])]),
  (28, [], [3, 3, 3], [(.return_, 0, 0, 0, [])])]
def P6 : List (Nat × List Nat × List Nat × List amI) := [(0, [], [0], [(.iload_n 0, 0, 0, 0, []), (.bipush 27, 0, 0, 0, []), (.idiv, 0, 0, 0, []), (.iload_n 0, 0, 0, 0, []), (.bipush 9, 0, 0, 0, []), (.idiv, 0, 0, 0, []), (.iconst 3, 0, 0, 0, []), (.irem, 0, 0, 0, []), (.iconst 2, 0, 0, 0, []), (.ishl, 0, 0, 0, []), (.ior, 0, 0, 0, []), (.iload_n 0, 0, 0, 0, []), (.iconst 3, 0, 0, 0, []), (.idiv, 0, 0, 0, []), (.iconst 3, 0, 0, 0, []), (.irem, 0, 0, 0, []), (.iconst 4, 0, 0, 0, []), (.ishl, 0, 0, 0, []), (.ior, 0, 0, 0, []), (.iload_n 0, 0, 0, 0, []), (.iconst 3, 0, 0, 0, []), (.irem, 0, 0, 0, []), (.bipush 6, 0, 0, 0, []), (.ishl, 0, 0, 0, []), (.ior, 0, 0, 0, []), (.ireturn, 0, 0, 0, [])])]
def P7 : List (Nat × List Nat × List Nat × List amI) := [(0, [], [0, 0], [(.iload_n 0, 0, 0, 0, []), (.iconst 2, 0, 0, 0, []), (.iload_n 1, 0, 0, 0, []), (.imul, 0, 0, 0, []), (.ishr, 0, 0, 0, []), (.iconst 3, 0, 0, 0, []), (.iand, 0, 0, 0, []), (.ireturn, 0, 0, 0, [])])]
def P8 : List (Nat × List Nat × List Nat × List amI) := [(0, [], [0, 0, 0], [(.iload_n 0, 0, 0, 0, []), (.iconst 3, 0, 0, 0, []), (.iconst 2, 0, 0, 0, []), (.iload_n 1, 0, 0, 0, []), (.imul, 0, 0, 0, []), (.ishl, 0, 0, 0, []), (.iconst (-1), 0, 0, 0, []), (.ixor, 0, 0, 0, []), (.iand, 0, 0, 0, []), (.iload_n 2, 0, 0, 0, []), (.iconst 2, 0, 0, 0, []), (.iload_n 1, 0, 0, 0, []), (.imul, 0, 0, 0, []), (.ishl, 0, 0, 0, []), (.ior, 0, 0, 0, []), (.ireturn, 0, 0, 0, [])])]
def P9 : List (Nat × List Nat × List Nat × List amI) := [(0, [], [0, 3, 3], [(.iconst 0, 0, 0, 0, []), (.istore_n 1, 0, 0, 0, []), (.iconst 0, 0, 0, 0, []), (.istore_n 2, 0, 0, 0, []), (.nop, 1, 0, 0, [])]),
  (4, [], [0, 0, 0], [(.iload_n 2, 0, 0, 0, []), (.iconst 4, 0, 0, 0, []), (.if_icmp .ge 21, 2, 0, 0, []), (.iconst 3, 0, 0, 0, []), (.iload_n 1, 0, 0, 0, []), (.imul, 0, 0, 0, []), (.iload_n 0, 0, 0, 0, []), (.iload_n 2, 0, 0, 0, []), (.invokestatic 9, 7, 2, 8, []), (.iconst 3, 0, 0, 0, []), (.irem, 0, 0, 0, []), (.iadd, 0, 0, 0, []), (.istore_n 1, 0, 0, 0, []), (.iinc 2 1, 0, 0, 0, []), (.goto (-20), 1, 0, 0, [])]),
  (27, [], [3, 0, 3], [(.iload_n 1, 0, 0, 0, []), (.ireturn, 0, 0, 0, [])])]
def P10 : List (Nat × List Nat × List Nat × List amI) := [(0, [], [0], [(.iload_n 0, 0, 0, 0, []), (.iload_n 0, 0, 0, 0, []), (.iconst 1, 0, 0, 0, []), (.ishr, 0, 0, 0, []), (.iand, 0, 0, 0, []), (.bipush 85, 0, 0, 0, []), (.iand, 0, 0, 0, []), (.ireturn, 0, 0, 0, [])])]
def P11 : List (Nat × List Nat × List Nat × List amI) := [(0, [], [0, 0, 3, 3], [(.iload_n 0, 0, 0, 0, []), (.iload_n 1, 0, 0, 0, []), (.ixor, 0, 0, 0, []), (.istore_n 2, 0, 0, 0, []), (.iload_n 2, 0, 0, 0, []), (.iload_n 2, 0, 0, 0, []), (.iconst 1, 0, 0, 0, []), (.ishr, 0, 0, 0, []), (.ior, 0, 0, 0, []), (.iload_n 0, 0, 0, 0, []), (.iload_n 0, 0, 0, 0, []), (.iconst 1, 0, 0, 0, []), (.ishr, 0, 0, 0, []), (.iand, 0, 0, 0, []), (.ior, 0, 0, 0, []), (.istore_n 3, 0, 0, 0, []), (.iconst 4, 0, 0, 0, []), (.iload_n 3, 0, 0, 0, []), (.bipush 85, 0, 0, 0, []), (.iand, 0, 0, 0, []), (.invokestatic 15, 265, 1, 9, []), (.isub, 0, 0, 0, []), (.ireturn, 0, 0, 0, [])])]
def P12 : List (Nat × List Nat × List Nat × List amI) := [(0, [], [2], [(.aload_n 0, 0, 0, 0, []), (.invokespecial 3, 9999, 0, 10, []), (.aload_n 0, 0, 0, 0, []), (.iconst 5, 0, 0, 0, []), (.sipush 128, 0, 0, 0, []), (.multianewarray 9 2, 0, 0, 0, []), (.putfield 11, 5, 0, 5, []), (.aload_n 0, 0, 0, 0, []), (.iconst 5, 0, 0, 0, []), (.newarray .int, 20, 0, 0, []), (.putfield 16, 5, 1, 6, []), (.aload_n 0, 0, 0, 0, []), (.bipush 64, 0, 0, 0, []), (.newarray .int, 20, 0, 0, []), (.putfield 20, 5, 2, 7, []), (.return_, 0, 0, 0, [])])]
def P13 : List (Nat × List Nat × List Nat × List amI) := [(0, [], [2, 2, 0, 0, 0, 3, 3], [(.aload_n 0, 0, 0, 0, []), (.aload_n 1, 0, 0, 0, []), (.invokevirtual 23, 15, 2, 11, []), (.aload_n 0, 0, 0, 0, []), (.getfield 20, 5, 2, 7, []), (.iload_n 2, 0, 0, 0, []), (.iconst 1, 0, 0, 0, []), (.iload_n 3, 0, 0, 0, []), (.ishl, 0, 0, 0, []), (.iastore, 0, 0, 0, []), (.aload_n 0, 0, 0, 0, []), (.getfield 27, 5, 4, 8, [(2, 0)]), (.getfield 31, 2, 2, 9, []), (.iload_n 2, 0, 0, 0, []), (.iaload, 0, 0, 0, []), (.istore 5, 0, 0, 0, []), (.iload 5, 0, 0, 0, []), (.iload_n 3, 0, 0, 0, []), (.invokestatic 36, 7, 2, 12, []), (.iload 4, 0, 0, 0, []), (.if_icmp .ne 9, 1, 0, 0, []), (.aload_n 0, 0, 0, 0, []), (.iconst 0, 0, 0, 0, []), (.invokevirtual 42, 16, 2, 13, []), (.ireturn, 0, 0, 0, [])]),
  (42, [], [2, 2, 0, 0, 0, 0, 3], [(.aload_n 0, 0, 0, 0, []), (.getfield 27, 5, 4, 8, [(2, 0)]), (.iload_n 2, 0, 0, 0, []), (.iload_n 3, 0, 0, 0, []), (.iload 4, 0, 0, 0, []), (.invokevirtual 46, 71, 4, 14, []), (.ifCond .ne 5, 2, 0, 0, []), (.iconst (-1), 0, 0, 0, []), (.ireturn, 0, 0, 0, [])]),
  (58, [], [2, 2, 0, 0, 0, 0, 3], [(.aload_n 0, 0, 0, 0, []), (.getfield 27, 5, 4, 8, [(2, 0)]), (.getfield 31, 2, 2, 9, []), (.iload_n 2, 0, 0, 0, []), (.iload 5, 0, 0, 0, []), (.iload_n 3, 0, 0, 0, []), (.iload 4, 0, 0, 0, []), (.invokestatic 50, 8, 3, 15, []), (.iastore, 0, 0, 0, []), (.aload_n 0, 0, 0, 0, []), (.iconst 1, 0, 0, 0, []), (.invokevirtual 42, 16, 2, 13, []), (.istore 6, 0, 0, 0, []), (.aload_n 0, 0, 0, 0, []), (.getfield 27, 5, 4, 8, [(2, 0)]), (.getfield 31, 2, 2, 9, []), (.iload_n 2, 0, 0, 0, []), (.iload 5, 0, 0, 0, []), (.iastore, 0, 0, 0, []), (.aload_n 0, 0, 0, 0, []), (.dup, 0, 0, 0, []), (.getfield 54, 5, 5, 10, []), (.aload_n 1, 0, 0, 0, []), (.iload_n 2, 0, 0, 0, []), (.iload_n 3, 0, 0, 0, []), (.invokevirtual 58, 44, 3, 16, []), (.iadd, 0, 0, 0, []), (.putfield 54, 5, 5, 10, []), (.iload 6, 0, 0, 0, []), (.ireturn, 0, 0, 0, [])])]
def P14 : List (Nat × List Nat × List Nat × List amI) := [(0, [], [2, 2], [(.aload_n 0, 0, 0, 0, []), (.aload_n 1, 0, 0, 0, []), (.invokevirtual 23, 15, 2, 11, []), (.aload_n 0, 0, 0, 0, []), (.iconst 0, 0, 0, 0, []), (.invokevirtual 42, 16, 2, 13, []), (.ireturn, 0, 0, 0, [])])]
def P15 : List (Nat × List Nat × List Nat × List amI) := [(0, [], [2, 2, 3], [(.aload_n 0, 0, 0, 0, []), (.aload_n 1, 0, 0, 0, []), (.putfield 63, 5, 3, 11, []), (.aload_n 0, 0, 0, 0, []), (.aload_n 1, 0, 0, 0, []), (.getfield 67, 1, 0, 12, []), (.putfield 27, 5, 4, 8, []), (.iconst 0, 0, 0, 0, []), (.istore_n 2, 0, 0, 0, []), (.nop, 1, 0, 0, [])]),
  (15, [], [2, 3, 0], [(.iload_n 2, 0, 0, 0, []), (.bipush 64, 0, 0, 0, []), (.if_icmp .ge 16, 2, 0, 0, []), (.aload_n 0, 0, 0, 0, []), (.getfield 20, 5, 2, 7, []), (.iload_n 2, 0, 0, 0, []), (.iconst 0, 0, 0, 0, []), (.iastore, 0, 0, 0, []), (.iinc 2 1, 0, 0, 0, []), (.goto (-16), 1, 0, 0, [])]),
  (34, [], [3, 3, 3], [(.return_, 0, 0, 0, [])])]
def P16 : List (Nat × List Nat × List Nat × List amI) := [(0, [], [2, 0, 3], [(.aload_n 0, 0, 0, 0, []), (.getfield 16, 5, 1, 6, []), (.iconst 0, 0, 0, 0, []), (.aload_n 0, 0, 0, 0, []), (.getfield 27, 5, 4, 8, [(2, 0)]), (.invokevirtual 68, 79, 1, 17, []), (.iastore, 0, 0, 0, []), (.aload_n 0, 0, 0, 0, []), (.getfield 27, 5, 4, 8, [(2, 0)]), (.getfield 72, 2, 5, 13, []), (.iconst 0, 0, 0, 0, []), (.aload_n 0, 0, 0, 0, []), (.getfield 11, 5, 0, 5, []), (.iconst 0, 0, 0, 0, []), (.aaload, 25, 0, 0, []), (.iconst 0, 0, 0, 0, []), (.aload_n 0, 0, 0, 0, []), (.getfield 16, 5, 1, 6, []), (.iconst 0, 0, 0, 0, []), (.iaload, 0, 0, 0, []), (.invokestatic 75, 9999, 0, 18, []), (.iconst 0, 0, 0, 0, []), (.istore_n 2, 0, 0, 0, []), (.nop, 1, 0, 0, [])]),
  (39, [], [2, 0, 0], [(.iload_n 1, 0, 0, 0, []), (.iload_n 2, 0, 0, 0, []), (.iadd, 0, 0, 0, []), (.iconst 4, 0, 0, 0, []), (.if_icmp .gt 31, 3, 0, 0, []), (.aload_n 0, 0, 0, 0, []), (.aload_n 0, 0, 0, 0, []), (.iconst 0, 0, 0, 0, []), (.iload_n 2, 0, 0, 0, []), (.invokevirtual 81, 17, 3, 19, []), (.putfield 54, 5, 5, 10, []), (.aload_n 0, 0, 0, 0, []), (.getfield 54, 5, 5, 10, []), (.iconst (-1), 0, 0, 0, []), (.if_icmp .eq 7, 2, 0, 0, []), (.iload_n 1, 0, 0, 0, []), (.iload_n 2, 0, 0, 0, []), (.iadd, 0, 0, 0, []), (.ireturn, 0, 0, 0, [])]),
  (68, [], [2, 0, 0], [(.iinc 2 1, 0, 0, 0, []), (.goto (-32), 1, 0, 0, [])]),
  (74, [], [3, 3, 3], [(.iconst (-1), 0, 0, 0, []), (.ireturn, 0, 0, 0, [])])]
def P17 : List (Nat × List Nat × List Nat × List amI) := [(0, [], [2, 0, 0, 3, 3, 3, 3, 3, 3, 3, 3], [(.aload_n 0, 0, 0, 0, []), (.getfield 16, 5, 1, 6, []), (.iload_n 1, 0, 0, 0, []), (.iaload, 0, 0, 0, []), (.ifCond .ne 5, 1, 0, 0, []), (.iconst 0, 0, 0, 0, []), (.ireturn, 0, 0, 0, [])]),
  (11, [], [2, 0, 0, 3, 3, 3, 3, 3, 3, 3, 3], [(.iload_n 2, 0, 0, 0, []), (.ifCond .le 17, 2, 0, 0, []), (.iload_n 1, 0, 0, 0, []), (.iconst 4, 0, 0, 0, []), (.if_icmp .ge 12, 2, 0, 0, []), (.aload_n 0, 0, 0, 0, []), (.iload_n 1, 0, 0, 0, []), (.invokevirtual 84, 20, 2, 20, []), (.iload_n 2, 0, 0, 0, []), (.if_icmp .le 5, 3, 0, 0, []), (.nop, 2, 0, 0, [])]),
  (29, [], [3, 3, 3, 3, 3, 3, 3, 3, 3, 3, 3], [(.iconst (-1), 0, 0, 0, []), (.ireturn, 0, 0, 0, [])]),
  (31, [], [2, 0, 0, 3, 3, 3, 3, 3, 3, 3, 3], [(.aload_n 0, 0, 0, 0, []), (.getfield 11, 5, 0, 5, []), (.iload_n 1, 0, 0, 0, []), (.aaload, 25, 0, 0, []), (.iconst 0, 0, 0, 0, []), (.iaload, 0, 0, 0, []), (.bipush 64, 0, 0, 0, []), (.idiv, 0, 0, 0, []), (.istore_n 3, 0, 0, 0, []), (.aload_n 0, 0, 0, 0, []), (.getfield 11, 5, 0, 5, []), (.iload_n 1, 0, 0, 0, []), (.aaload, 25, 0, 0, []), (.iconst 0, 0, 0, 0, []), (.iaload, 0, 0, 0, []), (.bipush 64, 0, 0, 0, []), (.irem, 0, 0, 0, []), (.istore 4, 0, 0, 0, []), (.aload_n 0, 0, 0, 0, []), (.getfield 20, 5, 2, 7, []), (.iload_n 3, 0, 0, 0, []), (.iaload, 0, 0, 0, []), (.istore 5, 0, 0, 0, []), (.aload_n 0, 0, 0, 0, []), (.getfield 20, 5, 2, 7, []), (.iload 4, 0, 0, 0, []), (.iaload, 0, 0, 0, []), (.istore 6, 0, 0, 0, []), (.aload_n 0, 0, 0, 0, []), (.getfield 27, 5, 4, 8, [(2, 0)]), (.getfield 31, 2, 2, 9, []), (.iload_n 3, 0, 0, 0, []), (.iaload, 0, 0, 0, []), (.aload_n 0, 0, 0, 0, []), (.getfield 27, 5, 4, 8, [(2, 0)]), (.getfield 31, 2, 2, 9, []), (.iload 4, 0, 0, 0, []), (.iaload, 0, 0, 0, []), (.invokestatic 87, 21, 2, 21, []), (.istore 7, 0, 0, 0, []), (.iload 7, 0, 0, 0, []), (.invokestatic 90, 265, 1, 22, []), (.aload_n 0, 0, 0, 0, []), (.getfield 27, 5, 4, 8, [(2, 0)]), (.getfield 95, 2, 11, 14, []), (.if_icmp .ge 10, 4, 0, 0, []), (.iload 7, 0, 0, 0, []), (.iconst (-1), 0, 0, 0, []), (.ixor, 0, 0, 0, []), (.goto 5, 5, 0, 0, [])]),
  (119, [], [2, 0, 0, 0, 0, 0, 0, 0, 3, 3, 3], [(.iload 7, 0, 0, 0, []), (.nop, 5, 0, 0, [])]),
  (121, [0], [2, 0, 0, 0, 0, 0, 0, 3, 3, 3, 3], [(.istore 8, 0, 0, 0, []), (.iconst (-1), 0, 0, 0, []), (.istore 9, 0, 0, 0, []), (.iconst 0, 0, 0, 0, []), (.istore 10, 0, 0, 0, []), (.nop, 6, 0, 0, [])]),
  (129, [], [2, 0, 0, 0, 0, 0, 0, 3, 0, 0, 0], [(.iload 10, 0, 0, 0, []), (.iconst 4, 0, 0, 0, []), (.if_icmp .ge 52, 8, 0, 0, []), (.iload 8, 0, 0, 0, []), (.iload 10, 0, 0, 0, []), (.ishr, 0, 0, 0, []), (.iconst 1, 0, 0, 0, []), (.iand, 0, 0, 0, []), (.ifCond .eq 36, 7, 0, 0, []), (.iload 9, 0, 0, 0, []), (.aload_n 0, 0, 0, 0, []), (.iload_n 3, 0, 0, 0, []), (.iload 10, 0, 0, 0, []), (.iload_n 1, 0, 0, 0, []), (.iload_n 2, 0, 0, 0, []), (.invokevirtual 98, 18, 5, 23, []), (.invokestatic 102, 22, 2, 24, []), (.istore 9, 0, 0, 0, []), (.iload 9, 0, 0, 0, []), (.aload_n 0, 0, 0, 0, []), (.iload 4, 0, 0, 0, []), (.iload 10, 0, 0, 0, []), (.iload_n 1, 0, 0, 0, []), (.iload_n 2, 0, 0, 0, []), (.invokevirtual 98, 18, 5, 23, []), (.invokestatic 102, 22, 2, 24, []), (.istore 9, 0, 0, 0, []), (.nop, 7, 0, 0, [])]),
  (178, [], [2, 0, 0, 0, 0, 0, 0, 3, 0, 0, 0], [(.iinc 10 1, 0, 0, 0, []), (.goto (-52), 6, 0, 0, [])]),
  (184, [], [2, 3, 3, 0, 0, 0, 0, 3, 3, 0, 3], [(.aload_n 0, 0, 0, 0, []), (.getfield 20, 5, 2, 7, []), (.iload_n 3, 0, 0, 0, []), (.iload 5, 0, 0, 0, []), (.iastore, 0, 0, 0, []), (.aload_n 0, 0, 0, 0, []), (.getfield 20, 5, 2, 7, []), (.iload 4, 0, 0, 0, []), (.iload 6, 0, 0, 0, []), (.iastore, 0, 0, 0, []), (.iload 9, 0, 0, 0, []), (.ireturn, 0, 0, 0, [])])]
def P18 : List (Nat × List Nat × List Nat × List amI) := [(0, [], [2, 0, 0, 0, 0, 3, 3, 3], [(.aload_n 0, 0, 0, 0, []), (.getfield 20, 5, 2, 7, []), (.iload_n 1, 0, 0, 0, []), (.iaload, 0, 0, 0, []), (.iload_n 2, 0, 0, 0, []), (.ishr, 0, 0, 0, []), (.iconst 1, 0, 0, 0, []), (.iand, 0, 0, 0, []), (.ifCond .eq 5, 1, 0, 0, []), (.iconst (-1), 0, 0, 0, []), (.ireturn, 0, 0, 0, [])]),
  (15, [], [2, 0, 0, 0, 0, 3, 3, 3], [(.aload_n 0, 0, 0, 0, []), (.getfield 20, 5, 2, 7, []), (.iload_n 1, 0, 0, 0, []), (.dup2, 0, 0, 0, []), (.iaload, 0, 0, 0, []), (.iconst 1, 0, 0, 0, []), (.iload_n 2, 0, 0, 0, []), (.ishl, 0, 0, 0, []), (.ior, 0, 0, 0, []), (.iastore, 0, 0, 0, []), (.aload_n 0, 0, 0, 0, []), (.getfield 27, 5, 4, 8, [(2, 0)]), (.getfield 31, 2, 2, 9, []), (.iload_n 1, 0, 0, 0, []), (.iaload, 0, 0, 0, []), (.istore 5, 0, 0, 0, []), (.iconst (-1), 0, 0, 0, []), (.istore 6, 0, 0, 0, []), (.iconst 0, 0, 0, 0, []), (.istore 7, 0, 0, 0, []), (.nop, 2, 0, 0, [])]),
  (44, [], [2, 0, 0, 0, 0, 0, 0, 0], [(.iload 7, 0, 0, 0, []), (.iconst 3, 0, 0, 0, []), (.if_icmp .ge 61, 4, 0, 0, []), (.iload 7, 0, 0, 0, []), (.iload 5, 0, 0, 0, []), (.iload_n 2, 0, 0, 0, []), (.invokestatic 36, 7, 2, 12, []), (.if_icmp .eq 44, 3, 0, 0, []), (.aload_n 0, 0, 0, 0, []), (.getfield 27, 5, 4, 8, [(2, 0)]), (.getfield 31, 2, 2, 9, []), (.iload_n 1, 0, 0, 0, []), (.iload 5, 0, 0, 0, []), (.iload_n 2, 0, 0, 0, []), (.iload 7, 0, 0, 0, []), (.invokestatic 50, 8, 3, 15, []), (.iastore, 0, 0, 0, []), (.aload_n 0, 0, 0, 0, []), (.iload_n 3, 0, 0, 0, []), (.iload_n 1, 0, 0, 0, []), (.invokevirtual 105, 19, 3, 25, []), (.iload 6, 0, 0, 0, []), (.aload_n 0, 0, 0, 0, []), (.iload_n 3, 0, 0, 0, []), (.iconst 1, 0, 0, 0, []), (.iadd, 0, 0, 0, []), (.iload 4, 0, 0, 0, []), (.iconst 1, 0, 0, 0, []), (.isub, 0, 0, 0, []), (.invokevirtual 81, 17, 3, 19, []), (.invokestatic 102, 22, 2, 24, []), (.istore 6, 0, 0, 0, []), (.nop, 3, 0, 0, [])]),
  (102, [], [2, 0, 0, 0, 0, 0, 0, 0], [(.iinc 7 1, 0, 0, 0, []), (.goto (-61), 2, 0, 0, [])]),
  (108, [], [2, 0, 0, 3, 3, 0, 0, 3], [(.aload_n 0, 0, 0, 0, []), (.getfield 27, 5, 4, 8, [(2, 0)]), (.getfield 31, 2, 2, 9, []), (.iload_n 1, 0, 0, 0, []), (.iload 5, 0, 0, 0, []), (.iastore, 0, 0, 0, []), (.iload 6, 0, 0, 0, []), (.iconst (-1), 0, 0, 0, []), (.if_icmp .ne 7, 5, 0, 0, []), (.iconst (-1), 0, 0, 0, []), (.goto 15, 6, 0, 0, [])]),
  (129, [], [2, 0, 0, 3, 3, 3, 0, 3], [(.iload 6, 0, 0, 0, []), (.aload_n 0, 0, 0, 0, []), (.getfield 63, 5, 3, 11, [(1, 0)]), (.iload_n 1, 0, 0, 0, []), (.iload_n 2, 0, 0, 0, []), (.invokevirtual 58, 44, 3, 16, []), (.iadd, 0, 0, 0, []), (.nop, 6, 0, 0, [])]),
  (141, [0], [3, 3, 3, 3, 3, 3, 3, 3], [(.ireturn, 0, 0, 0, [])])]
def P19 : List (Nat × List Nat × List Nat × List amI) := [(0, [], [2, 0, 0, 3, 3, 3, 3, 3], [(.aload_n 0, 0, 0, 0, []), (.getfield 11, 5, 0, 5, []), (.iload_n 1, 0, 0, 0, []), (.aaload, 25, 0, 0, []), (.astore_n 3, 0, 0, 0, []), (.aload_n 0, 0, 0, 0, []), (.getfield 11, 5, 0, 5, []), (.iload_n 1, 0, 0, 0, []), (.iconst 1, 0, 0, 0, []), (.iadd, 0, 0, 0, []), (.aaload, 25, 0, 0, []), (.astore 4, 0, 0, 0, []), (.iconst 0, 0, 0, 0, []), (.istore 5, 0, 0, 0, []), (.iconst 0, 0, 0, 0, []), (.istore 6, 0, 0, 0, []), (.nop, 1, 0, 0, [])]),
  (23, [], [2, 0, 0, 2, 2, 0, 0, 3], [(.iload 6, 0, 0, 0, []), (.aload_n 0, 0, 0, 0, []), (.getfield 16, 5, 1, 6, []), (.iload_n 1, 0, 0, 0, []), (.iaload, 0, 0, 0, []), (.if_icmp .ge 43, 3, 0, 0, []), (.aload_n 3, 0, 0, 0, []), (.iload 6, 0, 0, 0, []), (.iaload, 0, 0, 0, []), (.bipush 64, 0, 0, 0, []), (.idiv, 0, 0, 0, []), (.iload_n 2, 0, 0, 0, []), (.if_icmp .eq 26, 2, 0, 0, []), (.aload_n 3, 0, 0, 0, []), (.iload 6, 0, 0, 0, []), (.iaload, 0, 0, 0, []), (.bipush 64, 0, 0, 0, []), (.irem, 0, 0, 0, []), (.iload_n 2, 0, 0, 0, []), (.if_icmp .eq 15, 2, 0, 0, []), (.aload 4, 0, 0, 0, []), (.iload 5, 0, 0, 0, []), (.aload_n 3, 0, 0, 0, []), (.iload 6, 0, 0, 0, []), (.iaload, 0, 0, 0, []), (.iastore, 0, 0, 0, []), (.iinc 5 1, 0, 0, 0, []), (.nop, 2, 0, 0, [])]),
  (68, [], [2, 0, 0, 2, 2, 0, 0, 3], [(.iinc 6 1, 0, 0, 0, []), (.goto (-48), 1, 0, 0, [])]),
  (74, [], [2, 0, 0, 3, 2, 0, 3, 3], [(.iconst 0, 0, 0, 0, []), (.istore 6, 0, 0, 0, []), (.nop, 4, 0, 0, [])]),
  (77, [], [2, 0, 0, 3, 2, 0, 0, 3], [(.iload 6, 0, 0, 0, []), (.aload_n 0, 0, 0, 0, []), (.getfield 27, 5, 4, 8, [(2, 0)]), (.getfield 109, 2, 4, 15, []), (.iload_n 2, 0, 0, 0, []), (.iaload, 0, 0, 0, []), (.if_icmp .ge 61, 6, 0, 0, []), (.aload_n 0, 0, 0, 0, []), (.getfield 27, 5, 4, 8, [(2, 0)]), (.getfield 112, 2, 3, 16, []), (.iload_n 2, 0, 0, 0, []), (.iconst 4, 0, 0, 0, []), (.imul, 0, 0, 0, []), (.iload 6, 0, 0, 0, []), (.iadd, 0, 0, 0, []), (.iaload, 0, 0, 0, []), (.istore 7, 0, 0, 0, []), (.iload 5, 0, 0, 0, []), (.sipush 128, 0, 0, 0, []), (.if_icmp .ge 31, 5, 0, 0, []), (.aload_n 0, 0, 0, 0, []), (.getfield 27, 5, 4, 8, [(2, 0)]), (.iload_n 2, 0, 0, 0, []), (.iload 7, 0, 0, 0, []), (.invokevirtual 115, 73, 3, 26, []), (.ifCond .eq 18, 5, 0, 0, []), (.aload 4, 0, 0, 0, []), (.iload 5, 0, 0, 0, []), (.bipush 64, 0, 0, 0, []), (.iload_n 2, 0, 0, 0, []), (.imul, 0, 0, 0, []), (.iload 7, 0, 0, 0, []), (.iadd, 0, 0, 0, []), (.iastore, 0, 0, 0, []), (.iinc 5 1, 0, 0, 0, []), (.nop, 5, 0, 0, [])]),
  (143, [], [2, 0, 0, 3, 2, 0, 0, 3], [(.iinc 6 1, 0, 0, 0, []), (.goto (-69), 4, 0, 0, [])]),
  (149, [], [2, 0, 3, 3, 3, 0, 3, 3], [(.aload_n 0, 0, 0, 0, []), (.getfield 16, 5, 1, 6, []), (.iload_n 1, 0, 0, 0, []), (.iconst 1, 0, 0, 0, []), (.iadd, 0, 0, 0, []), (.iload 5, 0, 0, 0, []), (.iastore, 0, 0, 0, []), (.return_, 0, 0, 0, [])])]
def P20 : List (Nat × List Nat × List Nat × List amI) := [(0, [], [2, 0, 3, 3, 3, 3, 3, 3, 3, 3, 3, 3], [(.aload_n 0, 0, 0, 0, []), (.getfield 16, 5, 1, 6, []), (.iload_n 1, 0, 0, 0, []), (.iaload, 0, 0, 0, []), (.iconst 4, 0, 0, 0, []), (.iadd, 0, 0, 0, []), (.iconst 1, 0, 0, 0, []), (.isub, 0, 0, 0, []), (.iconst 4, 0, 0, 0, []), (.idiv, 0, 0, 0, []), (.istore_n 2, 0, 0, 0, []), (.iconst 0, 0, 0, 0, []), (.istore_n 3, 0, 0, 0, []), (.lconst 0, 0, 0, 0, []), (.lstore 4, 0, 0, 0, []), (.iconst 0, 0, 0, 0, []), (.istore 6, 0, 0, 0, []), (.nop, 1, 0, 0, [])]),
  (21, [], [2, 0, 0, 0, 1, 3, 0, 3, 3, 3, 3, 3], [(.iload 6, 0, 0, 0, []), (.aload_n 0, 0, 0, 0, []), (.getfield 16, 5, 1, 6, []), (.iload_n 1, 0, 0, 0, []), (.iaload, 0, 0, 0, []), (.if_icmp .ge 116, 3, 0, 0, []), (.aload_n 0, 0, 0, 0, []), (.getfield 11, 5, 0, 5, []), (.iload_n 1, 0, 0, 0, []), (.aaload, 25, 0, 0, []), (.iload 6, 0, 0, 0, []), (.iaload, 0, 0, 0, []), (.bipush 64, 0, 0, 0, []), (.idiv, 0, 0, 0, []), (.istore 7, 0, 0, 0, []), (.aload_n 0, 0, 0, 0, []), (.getfield 11, 5, 0, 5, []), (.iload_n 1, 0, 0, 0, []), (.aaload, 25, 0, 0, []), (.iload 6, 0, 0, 0, []), (.iaload, 0, 0, 0, []), (.bipush 64, 0, 0, 0, []), (.irem, 0, 0, 0, []), (.istore 8, 0, 0, 0, []), (.lconst 1, 0, 0, 0, []), (.iload 7, 0, 0, 0, []), (.lshl, 0, 0, 0, []), (.lconst 1, 0, 0, 0, []), (.iload 8, 0, 0, 0, []), (.lshl, 0, 0, 0, []), (.lor, 0, 0, 0, []), (.lstore 9, 0, 0, 0, []), (.lload 4, 0, 0, 0, []), (.lload 9, 0, 0, 0, []), (.land, 0, 0, 0, []), (.lconst 0, 0, 0, 0, []), (.lcmp, 0, 0, 0, []), (.ifCond .ne 61, 2, 0, 0, []), (.lload 4, 0, 0, 0, []), (.lload 9, 0, 0, 0, []), (.lor, 0, 0, 0, []), (.lstore 4, 0, 0, 0, []), (.aload_n 0, 0, 0, 0, []), (.getfield 27, 5, 4, 8, [(2, 0)]), (.getfield 31, 2, 2, 9, []), (.iload 7, 0, 0, 0, []), (.iaload, 0, 0, 0, []), (.aload_n 0, 0, 0, 0, []), (.getfield 27, 5, 4, 8, [(2, 0)]), (.getfield 31, 2, 2, 9, []), (.iload 8, 0, 0, 0, []), (.iaload, 0, 0, 0, []), (.invokestatic 119, 11, 2, 27, []), (.istore 11, 0, 0, 0, []), (.iload_n 3, 0, 0, 0, []), (.aload_n 0, 0, 0, 0, []), (.getfield 27, 5, 4, 8, [(2, 0)]), (.getfield 95, 2, 11, 14, []), (.iload 11, 0, 0, 0, []), (.isub, 0, 0, 0, []), (.iload 11, 0, 0, 0, []), (.aload_n 0, 0, 0, 0, []), (.getfield 27, 5, 4, 8, [(2, 0)]), (.getfield 122, 2, 12, 17, []), (.isub, 0, 0, 0, []), (.invokestatic 125, 9998, 0, 28, []), (.iadd, 0, 0, 0, []), (.istore_n 3, 0, 0, 0, []), (.nop, 2, 0, 0, [])]),
  (139, [], [2, 0, 0, 0, 1, 3, 0, 3, 3, 3, 3, 3], [(.iinc 6 1, 0, 0, 0, []), (.goto (-121), 1, 0, 0, [])]),
  (145, [], [3, 3, 0, 0, 3, 3, 3, 3, 3, 3, 3, 3], [(.iload_n 2, 0, 0, 0, []), (.iload_n 3, 0, 0, 0, []), (.invokestatic 125, 9998, 0, 28, []), (.ireturn, 0, 0, 0, [])])]
def P21 : List (Nat × List Nat × List Nat × List amI) := [(0, [], [0, 0, 3, 3, 3], [(.iconst 0, 0, 0, 0, []), (.istore_n 2, 0, 0, 0, []), (.iconst 0, 0, 0, 0, []), (.istore_n 3, 0, 0, 0, []), (.nop, 1, 0, 0, [])]),
  (4, [], [0, 0, 0, 0, 3], [(.iload_n 3, 0, 0, 0, []), (.iconst 4, 0, 0, 0, []), (.if_icmp .ge 38, 3, 0, 0, []), (.iload_n 0, 0, 0, 0, []), (.iload_n 3, 0, 0, 0, []), (.invokestatic 36, 7, 2, 12, []), (.istore 4, 0, 0, 0, []), (.iload 4, 0, 0, 0, []), (.iconst 3, 0, 0, 0, []), (.if_icmp .eq 19, 2, 0, 0, []), (.iload 4, 0, 0, 0, []), (.iload_n 1, 0, 0, 0, []), (.iload_n 3, 0, 0, 0, []), (.invokestatic 36, 7, 2, 12, []), (.if_icmp .ne 9, 2, 0, 0, []), (.iload_n 2, 0, 0, 0, []), (.iconst 1, 0, 0, 0, []), (.iload_n 3, 0, 0, 0, []), (.ishl, 0, 0, 0, []), (.ior, 0, 0, 0, []), (.istore_n 2, 0, 0, 0, []), (.nop, 2, 0, 0, [])]),
  (38, [], [0, 0, 0, 0, 3], [(.iinc 3 1, 0, 0, 0, []), (.goto (-37), 1, 0, 0, [])]),
  (44, [], [3, 3, 0, 3, 3], [(.iload_n 2, 0, 0, 0, []), (.ireturn, 0, 0, 0, [])])]
def P22 : List (Nat × List Nat × List Nat × List amI) := [(0, [], [0, 0], [(.iload_n 0, 0, 0, 0, []), (.iconst (-1), 0, 0, 0, []), (.if_icmp .eq 8, 1, 0, 0, []), (.iload_n 1, 0, 0, 0, []), (.iconst (-1), 0, 0, 0, []), (.if_icmp .ne 9, 2, 0, 0, []), (.nop, 1, 0, 0, [])]),
  (10, [], [0, 0], [(.iload_n 0, 0, 0, 0, []), (.iload_n 1, 0, 0, 0, []), (.invokestatic 125, 9998, 0, 28, []), (.ireturn, 0, 0, 0, [])]),
  (16, [], [0, 0], [(.iload_n 0, 0, 0, 0, []), (.iload_n 1, 0, 0, 0, []), (.invokestatic 130, 9997, 0, 29, []), (.ireturn, 0, 0, 0, [])])]
def P23 : List (Nat × List Nat × List Nat × List amI) := [(0, [], [2], [(.aload_n 0, 0, 0, 0, []), (.invokespecial 3, 9999, 0, 30, []), (.aload_n 0, 0, 0, 0, []), (.new 9, 3, 0, 1, []), (.dup, 0, 0, 0, []), (.invokespecial 11, 53, 1, 31, []), (.putfield 12, 4, 0, 18, []), (.return_, 0, 0, 0, [])])]
def P24 : List (Nat × List Nat × List Nat × List amI) := [(0, [], [2, 2, 0, 0], [(.aload_n 0, 0, 0, 0, []), (.aload_n 1, 0, 0, 0, []), (.putfield 18, 4, 1, 19, []), (.aload_n 0, 0, 0, 0, []), (.iload_n 2, 0, 0, 0, []), (.putfield 22, 4, 2, 20, []), (.aload_n 0, 0, 0, 0, []), (.iload_n 3, 0, 0, 0, []), (.putfield 26, 4, 4, 21, []), (.aload_n 0, 0, 0, 0, []), (.iconst 0, 0, 0, 0, []), (.putfield 29, 4, 3, 22, []), (.aload_n 0, 0, 0, 0, []), (.getfield 12, 4, 0, 18, []), (.invokevirtual 32, 55, 1, 32, []), (.aload_n 0, 0, 0, 0, []), (.iconst 0, 0, 0, 0, []), (.iconst 0, 0, 0, 0, []), (.invokevirtual 35, 26, 3, 33, []), (.ifCond .eq 18, 1, 0, 0, []), (.aload_n 0, 0, 0, 0, []), (.getfield 29, 4, 3, 22, []), (.aload_n 0, 0, 0, 0, []), (.getfield 22, 4, 2, 20, []), (.if_icmp .ne 7, 1, 0, 0, []), (.iconst (-1), 0, 0, 0, []), (.goto 7, 2, 0, 0, [])]),
  (51, [], [2, 3, 3, 3], [(.aload_n 0, 0, 0, 0, []), (.getfield 29, 4, 3, 22, []), (.nop, 2, 0, 0, [])]),
  (55, [0], [3, 3, 3, 3], [(.ireturn, 0, 0, 0, [])])]
def P25 : List (Nat × List Nat × List Nat × List amI) := [(0, [], [2], [(.aload_n 0, 0, 0, 0, []), (.getfield 29, 4, 3, 22, []), (.aload_n 0, 0, 0, 0, []), (.getfield 22, 4, 2, 20, []), (.if_icmp .ge 15, 1, 0, 0, []), (.aload_n 0, 0, 0, 0, []), (.getfield 18, 4, 1, 19, [(11, 0)]), (.aload_n 0, 0, 0, 0, []), (.getfield 29, 4, 3, 22, []), (.iaload, 0, 0, 0, []), (.goto 4, 2, 0, 0, [])]),
  (23, [], [3], [(.iconst (-1), 0, 0, 0, []), (.nop, 2, 0, 0, [])]),
  (24, [0], [3], [(.ireturn, 0, 0, 0, [])])]
def P26 : List (Nat × List Nat × List Nat × List amI) := [(0, [], [2, 0, 0, 3, 3, 3], [(.iload_n 1, 0, 0, 0, []), (.iconst 5, 0, 0, 0, []), (.if_icmp .lt 9, 1, 0, 0, []), (.aload_n 0, 0, 0, 0, []), (.iload_n 2, 0, 0, 0, []), (.invokevirtual 39, 28, 2, 34, []), (.ireturn, 4, 0, 0, [])]),
  (11, [], [2, 0, 0, 3, 3, 3], [(.aload_n 0, 0, 0, 0, []), (.iload_n 1, 0, 0, 0, []), (.iconst 1, 0, 0, 0, []), (.iadd, 0, 0, 0, []), (.iload_n 2, 0, 0, 0, []), (.invokevirtual 35, 26, 3, 33, []), (.ifCond .ne 5, 2, 0, 0, []), (.iconst 0, 0, 0, 0, []), (.ireturn, 4, 0, 0, [])]),
  (24, [], [2, 0, 0, 3, 3, 3], [(.iload_n 1, 0, 0, 0, []), (.iconst 2, 0, 0, 0, []), (.if_icmp .ne 7, 3, 0, 0, []), (.iconst 1, 0, 0, 0, []), (.goto 5, 4, 0, 0, [])]),
  (33, [], [2, 0, 0, 3, 3, 3], [(.bipush 50, 0, 0, 0, []), (.nop, 4, 0, 0, [])]),
  (35, [0], [2, 0, 0, 3, 3, 3], [(.istore_n 3, 0, 0, 0, []), (.iconst 0, 0, 0, 0, []), (.istore 4, 0, 0, 0, []), (.nop, 5, 0, 0, [])]),
  (39, [], [2, 0, 0, 0, 0, 3], [(.iload 4, 0, 0, 0, []), (.iload_n 3, 0, 0, 0, []), (.if_icmp .ge 62, 7, 0, 0, []), (.iload_n 1, 0, 0, 0, []), (.aload_n 0, 0, 0, 0, []), (.invokevirtual 43, 25, 1, 35, []), (.invokestatic 47, 27, 2, 36, []), (.ifCond .eq 51, 7, 0, 0, []), (.aload_n 0, 0, 0, 0, []), (.invokevirtual 43, 25, 1, 35, []), (.istore 5, 0, 0, 0, []), (.aload_n 0, 0, 0, 0, []), (.dup, 0, 0, 0, []), (.getfield 29, 4, 3, 22, []), (.iconst 1, 0, 0, 0, []), (.iadd, 0, 0, 0, []), (.putfield 29, 4, 3, 22, []), (.aload_n 0, 0, 0, 0, []), (.iload_n 1, 0, 0, 0, []), (.iconst 1, 0, 0, 0, []), (.iadd, 0, 0, 0, []), (.iload_n 2, 0, 0, 0, []), (.invokevirtual 35, 26, 3, 33, []), (.ifCond .ne 5, 6, 0, 0, []), (.iconst 0, 0, 0, 0, []), (.ireturn, 4, 0, 0, [])]),
  (85, [], [2, 0, 0, 0, 0, 0], [(.aload_n 0, 0, 0, 0, []), (.getfield 12, 4, 0, 18, []), (.sipush 20000, 0, 0, 0, []), (.iload 5, 0, 0, 0, []), (.iadd, 0, 0, 0, []), (.invokevirtual 50, 56, 2, 37, []), (.iinc 4 1, 0, 0, 0, []), (.goto (-62), 5, 0, 0, [])]),
  (104, [], [3, 3, 3, 3, 3, 3], [(.iconst 1, 0, 0, 0, []), (.ireturn, 4, 0, 0, [])])]
def P27 : List (Nat × List Nat × List Nat × List amI) := [(0, [], [0, 0], [(.iload_n 0, 0, 0, 0, []), (.tableswitch 97 0 3 #[31, 43, 55, 79], 15, 0, 0, [(0, 1), (1, 4), (2, 7), (3, 11)])]),
  (32, [], [3, 0], [(.iload_n 1, 0, 0, 0, []), (.bipush 124, 0, 0, 0, []), (.if_icmp .ne 7, 2, 0, 0, []), (.iconst 1, 0, 0, 0, []), (.goto 4, 3, 0, 0, [])]),
  (42, [], [3, 3], [(.iconst 0, 0, 0, 0, []), (.nop, 3, 0, 0, [])]),
  (43, [0], [3, 3], [(.ireturn, 4, 0, 0, [])]),
  (44, [], [3, 0], [(.iload_n 1, 0, 0, 0, []), (.bipush 38, 0, 0, 0, []), (.if_icmp .ne 7, 5, 0, 0, []), (.iconst 1, 0, 0, 0, []), (.goto 4, 6, 0, 0, [])]),
  (54, [], [3, 3], [(.iconst 0, 0, 0, 0, []), (.nop, 6, 0, 0, [])]),
  (55, [0], [3, 3], [(.ireturn, 4, 0, 0, [])]),
  (56, [], [3, 0], [(.iload_n 1, 0, 0, 0, []), (.bipush 60, 0, 0, 0, []), (.if_icmp .eq 15, 8, 0, 0, []), (.iload_n 1, 0, 0, 0, []), (.bipush 61, 0, 0, 0, []), (.if_icmp .eq 9, 8, 0, 0, []), (.iload_n 1, 0, 0, 0, []), (.bipush 62, 0, 0, 0, []), (.if_icmp .ne 7, 9, 0, 0, []), (.nop, 8, 0, 0, [])]),
  (74, [], [3, 3], [(.iconst 1, 0, 0, 0, []), (.goto 4, 10, 0, 0, [])]),
  (78, [], [3, 3], [(.iconst 0, 0, 0, 0, []), (.nop, 10, 0, 0, [])]),
  (79, [0], [3, 3], [(.ireturn, 4, 0, 0, [])]),
  (80, [], [3, 0], [(.iload_n 1, 0, 0, 0, []), (.bipush 43, 0, 0, 0, []), (.if_icmp .eq 9, 12, 0, 0, []), (.iload_n 1, 0, 0, 0, []), (.bipush 45, 0, 0, 0, []), (.if_icmp .ne 7, 13, 0, 0, []), (.nop, 12, 0, 0, [])]),
  (92, [], [3, 3], [(.iconst 1, 0, 0, 0, []), (.goto 4, 14, 0, 0, [])]),
  (96, [], [3, 3], [(.iconst 0, 0, 0, 0, []), (.nop, 14, 0, 0, [])]),
  (97, [0], [3, 3], [(.ireturn, 4, 0, 0, [])]),
  (98, [], [3, 0], [(.iload_n 1, 0, 0, 0, []), (.bipush 42, 0, 0, 0, []), (.if_icmp .eq 15, 16, 0, 0, []), (.iload_n 1, 0, 0, 0, []), (.bipush 47, 0, 0, 0, []), (.if_icmp .eq 9, 16, 0, 0, []), (.iload_n 1, 0, 0, 0, []), (.bipush 37, 0, 0, 0, []), (.if_icmp .ne 7, 17, 0, 0, []), (.nop, 16, 0, 0, [])]),
  (116, [], [3, 3], [(.iconst 1, 0, 0, 0, []), (.goto 4, 18, 0, 0, [])]),
  (120, [], [3, 3], [(.iconst 0, 0, 0, 0, []), (.nop, 18, 0, 0, [])]),
  (121, [0], [3, 3], [(.ireturn, 4, 0, 0, [])])]
def P28 : List (Nat × List Nat × List Nat × List amI) := [(0, [], [2, 0, 3, 3], [(.aload_n 0, 0, 0, 0, []), (.invokevirtual 43, 25, 1, 35, []), (.istore_n 2, 0, 0, 0, []), (.iload_n 2, 0, 0, 0, []), (.invokestatic 54, 32, 1, 38, []), (.ifCond .eq 9, 1, 0, 0, []), (.aload_n 0, 0, 0, 0, []), (.invokevirtual 57, 31, 1, 39, []), (.iconst 1, 0, 0, 0, []), (.ireturn, 4, 0, 0, [])]),
  (18, [], [2, 0, 0, 3], [(.aload_n 0, 0, 0, 0, []), (.iload_n 2, 0, 0, 0, []), (.invokevirtual 60, 33, 2, 40, []), (.istore_n 3, 0, 0, 0, []), (.iload_n 3, 0, 0, 0, []), (.iconst (-1), 0, 0, 0, []), (.if_icmp .eq 27, 2, 0, 0, []), (.aload_n 0, 0, 0, 0, []), (.getfield 12, 4, 0, 18, []), (.sipush 10000, 0, 0, 0, []), (.iload_n 3, 0, 0, 0, []), (.iadd, 0, 0, 0, []), (.invokevirtual 50, 56, 2, 37, []), (.aload_n 0, 0, 0, 0, []), (.dup, 0, 0, 0, []), (.getfield 29, 4, 3, 22, []), (.iconst 1, 0, 0, 0, []), (.iadd, 0, 0, 0, []), (.putfield 29, 4, 3, 22, []), (.iconst 1, 0, 0, 0, []), (.ireturn, 4, 0, 0, [])]),
  (53, [], [2, 0, 0, 3], [(.iload_n 2, 0, 0, 0, []), (.bipush 33, 0, 0, 0, []), (.if_icmp .eq 9, 3, 0, 0, []), (.iload_n 2, 0, 0, 0, []), (.bipush 40, 0, 0, 0, []), (.if_icmp .ne 8, 4, 0, 0, []), (.nop, 3, 0, 0, [])]),
  (65, [], [2, 0, 0, 3], [(.iload_n 1, 0, 0, 0, []), (.iconst 5, 0, 0, 0, []), (.if_icmp .lt 5, 5, 0, 0, []), (.nop, 4, 0, 0, [])]),
  (70, [], [3, 3, 3, 3], [(.iconst 0, 0, 0, 0, []), (.ireturn, 4, 0, 0, [])]),
  (72, [], [2, 0, 0, 3], [(.aload_n 0, 0, 0, 0, []), (.dup, 0, 0, 0, []), (.getfield 29, 4, 3, 22, []), (.iconst 1, 0, 0, 0, []), (.iadd, 0, 0, 0, []), (.putfield 29, 4, 3, 22, []), (.iload_n 2, 0, 0, 0, []), (.bipush 33, 0, 0, 0, []), (.if_icmp .ne 13, 6, 0, 0, []), (.aload_n 0, 0, 0, 0, []), (.iload_n 1, 0, 0, 0, []), (.iconst 1, 0, 0, 0, []), (.iadd, 0, 0, 0, []), (.invokevirtual 64, 29, 2, 41, []), (.goto 10, 7, 0, 0, [])]),
  (98, [], [2, 0, 3, 3], [(.aload_n 0, 0, 0, 0, []), (.iload_n 1, 0, 0, 0, []), (.iconst 1, 0, 0, 0, []), (.iadd, 0, 0, 0, []), (.invokevirtual 67, 30, 2, 42, []), (.nop, 7, 0, 0, [])]),
  (105, [0], [3, 3, 3, 3], [(.ireturn, 4, 0, 0, [])])]
def P29 : List (Nat × List Nat × List Nat × List amI) := [(0, [], [2, 0], [(.aload_n 0, 0, 0, 0, []), (.iload_n 1, 0, 0, 0, []), (.invokevirtual 39, 28, 2, 34, []), (.ifCond .ne 5, 1, 0, 0, []), (.iconst 0, 0, 0, 0, []), (.ireturn, 4, 0, 0, [])]),
  (10, [], [2, 3], [(.aload_n 0, 0, 0, 0, []), (.getfield 12, 4, 0, 18, []), (.sipush 20033, 0, 0, 0, []), (.invokevirtual 50, 56, 2, 37, []), (.iconst 1, 0, 0, 0, []), (.ireturn, 4, 0, 0, [])])]
def P30 : List (Nat × List Nat × List Nat × List amI) := [(0, [], [2, 0], [(.aload_n 0, 0, 0, 0, []), (.iconst 0, 0, 0, 0, []), (.iload_n 1, 0, 0, 0, []), (.invokevirtual 35, 26, 3, 33, []), (.ifCond .eq 12, 1, 0, 0, []), (.aload_n 0, 0, 0, 0, []), (.invokevirtual 43, 25, 1, 35, []), (.bipush 41, 0, 0, 0, []), (.if_icmp .eq 5, 2, 0, 0, []), (.nop, 1, 0, 0, [])]),
  (18, [], [3, 3], [(.iconst 0, 0, 0, 0, []), (.ireturn, 4, 0, 0, [])]),
  (20, [], [2, 3], [(.aload_n 0, 0, 0, 0, []), (.dup, 0, 0, 0, []), (.getfield 29, 4, 3, 22, []), (.iconst 1, 0, 0, 0, []), (.iadd, 0, 0, 0, []), (.putfield 29, 4, 3, 22, []), (.iconst 1, 0, 0, 0, []), (.ireturn, 4, 0, 0, [])])]
def P31 : List (Nat × List Nat × List Nat × List amI) := [(0, [], [2, 3, 3], [(.iconst 0, 0, 0, 0, []), (.istore_n 1, 0, 0, 0, []), (.iconst 0, 0, 0, 0, []), (.istore_n 2, 0, 0, 0, []), (.nop, 1, 0, 0, [])]),
  (4, [], [2, 0, 0], [(.iload_n 2, 0, 0, 0, []), (.iconst 4, 0, 0, 0, []), (.if_icmp .ge 42, 2, 0, 0, []), (.aload_n 0, 0, 0, 0, []), (.invokevirtual 43, 25, 1, 35, []), (.invokestatic 54, 32, 1, 38, []), (.ifCond .eq 32, 2, 0, 0, []), (.bipush 10, 0, 0, 0, []), (.iload_n 1, 0, 0, 0, []), (.imul, 0, 0, 0, []), (.aload_n 0, 0, 0, 0, []), (.invokevirtual 43, 25, 1, 35, []), (.iadd, 0, 0, 0, []), (.bipush 48, 0, 0, 0, []), (.isub, 0, 0, 0, []), (.istore_n 1, 0, 0, 0, []), (.aload_n 0, 0, 0, 0, []), (.dup, 0, 0, 0, []), (.getfield 29, 4, 3, 22, []), (.iconst 1, 0, 0, 0, []), (.iadd, 0, 0, 0, []), (.putfield 29, 4, 3, 22, []), (.iinc 2 1, 0, 0, 0, []), (.goto (-41), 1, 0, 0, [])]),
  (48, [], [2, 0, 3], [(.aload_n 0, 0, 0, 0, []), (.getfield 12, 4, 0, 18, []), (.iload_n 1, 0, 0, 0, []), (.invokevirtual 50, 56, 2, 37, []), (.return_, 0, 0, 0, [])])]
def P32 : List (Nat × List Nat × List Nat × List amI) := [(0, [], [0], [(.iload_n 0, 0, 0, 0, []), (.bipush 48, 0, 0, 0, []), (.if_icmp .lt 13, 1, 0, 0, []), (.iload_n 0, 0, 0, 0, []), (.bipush 57, 0, 0, 0, []), (.if_icmp .gt 7, 1, 0, 0, []), (.iconst 1, 0, 0, 0, []), (.goto 4, 2, 0, 0, [])]),
  (16, [], [3], [(.iconst 0, 0, 0, 0, []), (.nop, 2, 0, 0, [])]),
  (17, [0], [3], [(.ireturn, 4, 0, 0, [])])]
def P33 : List (Nat × List Nat × List Nat × List amI) := [(0, [], [2, 0], [(.iload_n 1, 0, 0, 0, []), (.tableswitch 177 99 118 #[121, 149, 177, 177, 177, 177, 177, 177, 95, 177, 108, 177, 177, 177, 177, 135, 177, 177, 177, 163], 19, 0, 0, [(99, 7), (100, 13), (101, 19), (102, 19), (103, 19), (104, 19), (105, 19), (106, 19), (107, 1), (108, 19), (109, 4), (110, 19), (111, 19), (112, 19), (113, 19), (114, 10), (115, 19), (116, 19), (117, 19), (118, 16)])]),
  (96, [], [2, 3], [(.aload_n 0, 0, 0, 0, []), (.getfield 26, 4, 4, 21, []), (.ifCond .ne 7, 2, 0, 0, []), (.iconst 0, 0, 0, 0, []), (.goto 4, 3, 0, 0, [])]),
  (107, [], [3, 3], [(.iconst (-1), 0, 0, 0, []), (.nop, 3, 0, 0, [])]),
  (108, [0], [3, 3], [(.ireturn, 0, 0, 0, [])]),
  (109, [], [2, 3], [(.aload_n 0, 0, 0, 0, []), (.getfield 26, 4, 4, 21, []), (.ifCond .ne 7, 5, 0, 0, []), (.iconst 1, 0, 0, 0, []), (.goto 4, 6, 0, 0, [])]),
  (120, [], [3, 3], [(.iconst (-1), 0, 0, 0, []), (.nop, 6, 0, 0, [])]),
  (121, [0], [3, 3], [(.ireturn, 0, 0, 0, [])]),
  (122, [], [2, 3], [(.aload_n 0, 0, 0, 0, []), (.getfield 26, 4, 4, 21, []), (.iconst 1, 0, 0, 0, []), (.if_icmp .ne 7, 8, 0, 0, []), (.iconst 0, 0, 0, 0, []), (.goto 4, 9, 0, 0, [])]),
  (134, [], [3, 3], [(.iconst (-1), 0, 0, 0, []), (.nop, 9, 0, 0, [])]),
  (135, [0], [3, 3], [(.ireturn, 0, 0, 0, [])]),
  (136, [], [2, 3], [(.aload_n 0, 0, 0, 0, []), (.getfield 26, 4, 4, 21, []), (.iconst 1, 0, 0, 0, []), (.if_icmp .ne 7, 11, 0, 0, []), (.iconst 1, 0, 0, 0, []), (.goto 4, 12, 0, 0, [])]),
  (148, [], [3, 3], [(.iconst (-1), 0, 0, 0, []), (.nop, 12, 0, 0, [])]),
  (149, [0], [3, 3], [(.ireturn, 0, 0, 0, [])]),
  (150, [], [2, 3], [(.aload_n 0, 0, 0, 0, []), (.getfield 26, 4, 4, 21, []), (.iconst 1, 0, 0, 0, []), (.if_icmp .ne 7, 14, 0, 0, []), (.iconst 2, 0, 0, 0, []), (.goto 4, 15, 0, 0, [])]),
  (162, [], [3, 3], [(.iconst (-1), 0, 0, 0, []), (.nop, 15, 0, 0, [])]),
  (163, [0], [3, 3], [(.ireturn, 0, 0, 0, [])]),
  (164, [], [2, 3], [(.aload_n 0, 0, 0, 0, []), (.getfield 26, 4, 4, 21, []), (.iconst 1, 0, 0, 0, []), (.if_icmp .ne 7, 17, 0, 0, []), (.iconst 3, 0, 0, 0, []), (.goto 4, 18, 0, 0, [])]),
  (176, [], [3, 3], [(.iconst (-1), 0, 0, 0, []), (.nop, 18, 0, 0, [])]),
  (177, [0], [3, 3], [(.ireturn, 0, 0, 0, [])]),
  (178, [], [3, 3], [(.iconst (-1), 0, 0, 0, []), (.ireturn, 0, 0, 0, [])])]
def P34 : List (Nat × List Nat × List Nat × List amI) := [(0, [], [2], [(.aload_n 0, 0, 0, 0, []), (.invokespecial 3, 9999, 0, 43, []), (.aload_n 0, 0, 0, 0, []), (.bipush 64, 0, 0, 0, []), (.newarray .int, 20, 0, 0, []), (.putfield 9, 10, 0, 23, []), (.return_, 0, 0, 0, [])])]
def P35 : List (Nat × List Nat × List Nat × List amI) := [(0, [], [2], [(.aload_n 0, 0, 0, 0, []), (.getfield 15, 10, 1, 24, []), (.ifCond .ne 7, 1, 0, 0, []), (.iconst 1, 0, 0, 0, []), (.goto 4, 2, 0, 0, [])]),
  (11, [], [3], [(.iconst 0, 0, 0, 0, []), (.nop, 2, 0, 0, [])]),
  (12, [0], [3], [(.ireturn, 4, 0, 0, [])])]
def P36 : List (Nat × List Nat × List Nat × List amI) := [(0, [], [2, 0, 0, 3], [(.aload_n 0, 0, 0, 0, []), (.iload_n 1, 0, 0, 0, []), (.putfield 15, 10, 1, 24, []), (.aload_n 0, 0, 0, 0, []), (.iload_n 2, 0, 0, 0, []), (.putfield 19, 10, 2, 25, []), (.iconst 0, 0, 0, 0, []), (.istore_n 3, 0, 0, 0, []), (.nop, 1, 0, 0, [])]),
  (12, [], [2, 3, 0, 0], [(.iload_n 3, 0, 0, 0, []), (.iload_n 2, 0, 0, 0, []), (.if_icmp .ge 16, 2, 0, 0, []), (.aload_n 0, 0, 0, 0, []), (.getfield 9, 10, 0, 23, []), (.iload_n 3, 0, 0, 0, []), (.iconst 0, 0, 0, 0, []), (.iastore, 0, 0, 0, []), (.iinc 3 1, 0, 0, 0, []), (.goto (-15), 1, 0, 0, [])]),
  (30, [], [3, 3, 3, 3], [(.return_, 0, 0, 0, [])])]
def P37 : List (Nat × List Nat × List Nat × List amI) := [(0, [], [2, 0, 0, 3], [(.bipush 32, 0, 0, 0, []), (.aload_n 0, 0, 0, 0, []), (.getfield 15, 10, 1, 24, []), (.isub, 0, 0, 0, []), (.istore_n 3, 0, 0, 0, []), (.aload_n 0, 0, 0, 0, []), (.getfield 9, 10, 0, 23, []), (.iload_n 1, 0, 0, 0, []), (.iload_n 2, 0, 0, 0, []), (.iload_n 3, 0, 0, 0, []), (.ishl, 0, 0, 0, []), (.iload_n 3, 0, 0, 0, []), (.ishr, 0, 0, 0, []), (.iastore, 0, 0, 0, []), (.return_, 0, 0, 0, [])])]
def P38 : List (Nat × List Nat × List Nat × List amI) := [(0, [], [2, 0, 0], [(.iload_n 1, 0, 0, 0, []), (.ifCond .lt 29, 1, 0, 0, []), (.iload_n 2, 0, 0, 0, []), (.ifCond .lt 25, 1, 0, 0, []), (.iload_n 2, 0, 0, 0, []), (.aload_n 0, 0, 0, 0, []), (.getfield 19, 10, 2, 25, []), (.if_icmp .gt 17, 1, 0, 0, []), (.iload_n 1, 0, 0, 0, []), (.aload_n 0, 0, 0, 0, []), (.getfield 19, 10, 2, 25, []), (.iload_n 2, 0, 0, 0, []), (.isub, 0, 0, 0, []), (.if_icmp .gt 7, 1, 0, 0, []), (.iconst 1, 0, 0, 0, []), (.goto 4, 2, 0, 0, [])]),
  (30, [], [3, 3, 3], [(.iconst 0, 0, 0, 0, []), (.nop, 2, 0, 0, [])]),
  (31, [0], [3, 3, 3], [(.ireturn, 4, 0, 0, [])])]
def P39 : List (Nat × List Nat × List Nat × List amI) := [(0, [], [2, 3], [(.aload_n 0, 0, 0, 0, []), (.invokespecial 3, 9999, 0, 44, []), (.aload_n 0, 0, 0, 0, []), (.new 9, 2, 0, 2, []), (.dup, 0, 0, 0, []), (.invokespecial 11, 61, 1, 45, []), (.putfield 12, 1, 0, 26, []), (.aload_n 0, 0, 0, 0, []), (.iconst 2, 0, 0, 0, []), (.anewarray 18, 23, 0, 3, []), (.putfield 20, 1, 1, 27, []), (.aload_n 0, 0, 0, 0, []), (.bipush 50, 0, 0, 0, []), (.newarray .int, 20, 0, 0, []), (.putfield 24, 1, 2, 28, []), (.aload_n 0, 0, 0, 0, []), (.bipush 20, 0, 0, 0, []), (.newarray .int, 20, 0, 0, []), (.putfield 28, 1, 3, 29, []), (.aload_n 0, 0, 0, 0, []), (.iconst 1, 0, 0, 0, []), (.putfield 31, 1, 8, 30, []), (.iconst 0, 0, 0, 0, []), (.istore_n 1, 0, 0, 0, []), (.nop, 1, 0, 0, [])]),
  (46, [], [2, 0], [(.iload_n 1, 0, 0, 0, []), (.iconst 2, 0, 0, 0, []), (.if_icmp .ge 22, 2, 0, 0, []), (.aload_n 0, 0, 0, 0, []), (.getfield 20, 1, 1, 27, []), (.iload_n 1, 0, 0, 0, []), (.new 18, 3, 0, 3, []), (.dup, 0, 0, 0, []), (.invokespecial 35, 53, 1, 46, []), (.aastore, 23, 0, 0, []), (.iinc 1 1, 0, 0, 0, []), (.goto (-21), 1, 0, 0, [])]),
  (70, [], [3, 3], [(.return_, 0, 0, 0, [])])]
def P40 : List (Nat × List Nat × List Nat × List amI) := [(0, [], [2, 2, 3], [(.aload_n 0, 0, 0, 0, []), (.getfield 12, 1, 0, 26, []), (.aload_n 1, 0, 0, 0, []), (.getfield 12, 1, 0, 26, []), (.invokevirtual 36, 66, 2, 47, []), (.iconst 0, 0, 0, 0, []), (.istore_n 2, 0, 0, 0, []), (.nop, 1, 0, 0, [])]),
  (13, [], [2, 2, 0], [(.iload_n 2, 0, 0, 0, []), (.iconst 2, 0, 0, 0, []), (.if_icmp .ge 24, 2, 0, 0, []), (.aload_n 0, 0, 0, 0, []), (.getfield 20, 1, 1, 27, []), (.iload_n 2, 0, 0, 0, []), (.aaload, 23, 0, 0, []), (.aload_n 1, 0, 0, 0, []), (.getfield 20, 1, 1, 27, []), (.iload_n 2, 0, 0, 0, []), (.aaload, 23, 0, 0, []), (.invokevirtual 40, 57, 2, 48, []), (.iinc 2 1, 0, 0, 0, []), (.goto (-23), 1, 0, 0, [])]),
  (39, [], [2, 2, 3], [(.aload_n 1, 0, 0, 0, []), (.getfield 24, 1, 2, 28, []), (.iconst 0, 0, 0, 0, []), (.aload_n 0, 0, 0, 0, []), (.getfield 24, 1, 2, 28, []), (.iconst 0, 0, 0, 0, []), (.bipush 50, 0, 0, 0, []), (.invokestatic 43, 9999, 0, 49, []), (.aload_n 1, 0, 0, 0, []), (.getfield 28, 1, 3, 29, []), (.iconst 0, 0, 0, 0, []), (.aload_n 0, 0, 0, 0, []), (.getfield 28, 1, 3, 29, []), (.iconst 0, 0, 0, 0, []), (.bipush 20, 0, 0, 0, []), (.invokestatic 43, 9999, 0, 49, []), (.aload_n 0, 0, 0, 0, []), (.aload_n 1, 0, 0, 0, []), (.getfield 49, 1, 4, 31, []), (.putfield 49, 1, 4, 31, []), (.aload_n 0, 0, 0, 0, []), (.aload_n 1, 0, 0, 0, []), (.getfield 52, 1, 5, 32, []), (.putfield 52, 1, 5, 32, []), (.aload_n 0, 0, 0, 0, []), (.aload_n 1, 0, 0, 0, []), (.getfield 55, 1, 6, 33, []), (.putfield 55, 1, 6, 33, []), (.aload_n 0, 0, 0, 0, []), (.aload_n 1, 0, 0, 0, []), (.getfield 58, 1, 7, 34, []), (.putfield 58, 1, 7, 34, []), (.aload_n 0, 0, 0, 0, []), (.aload_n 1, 0, 0, 0, []), (.getfield 31, 1, 8, 30, []), (.putfield 31, 1, 8, 30, []), (.return_, 0, 0, 0, [])])]
def P41 : List (Nat × List Nat × List Nat × List amI) := [(0, [], [2], [(.aload_n 0, 0, 0, 0, []), (.aload_n 0, 0, 0, 0, []), (.getfield 31, 1, 8, 30, []), (.ldc 61, 0, 0, 1, [(1103515245, 0)]), (.imul, 0, 0, 0, []), (.sipush 12345, 0, 0, 0, []), (.iadd, 0, 0, 0, []), (.putfield 31, 1, 8, 30, []), (.aload_n 0, 0, 0, 0, []), (.getfield 31, 1, 8, 30, []), (.bipush 8, 0, 0, 0, []), (.iushr, 0, 0, 0, []), (.ireturn, 0, 0, 0, [])])]
def P42 : List (Nat × List Nat × List Nat × List amI) := [(0, [], [2, 0, 0, 3], [(.aload_n 0, 0, 0, 0, []), (.getfield 20, 1, 1, 27, []), (.iconst 0, 0, 0, 0, []), (.aaload, 23, 0, 0, []), (.invokevirtual 62, 54, 1, 50, []), (.ifCond .eq 10, 1, 0, 0, []), (.bipush 10, 0, 0, 0, []), (.iload_n 2, 0, 0, 0, []), (.iadd, 0, 0, 0, []), (.goto 16, 2, 0, 0, [])]),
  (19, [], [2, 0, 0, 3], [(.aload_n 0, 0, 0, 0, []), (.getfield 20, 1, 1, 27, []), (.iconst 0, 0, 0, 0, []), (.aaload, 23, 0, 0, []), (.iload_n 1, 0, 0, 0, []), (.iload_n 2, 0, 0, 0, []), (.iconst 0, 0, 0, 0, []), (.iconst 0, 0, 0, 0, []), (.invokevirtual 66, 58, 5, 51, []), (.nop, 2, 0, 0, [])]),
  (32, [0], [3, 3, 3, 3], [(.istore_n 3, 0, 0, 0, []), (.iconst 0, 0, 0, 0, []), (.bipush 99, 0, 0, 0, []), (.iload_n 3, 0, 0, 0, []), (.invokestatic 70, 9997, 0, 52, []), (.invokestatic 76, 9998, 0, 53, []), (.ireturn, 0, 0, 0, [])])]
def P43 : List (Nat × List Nat × List Nat × List amI) := [(0, [], [2, 0, 0, 0, 0], [(.aload_n 0, 0, 0, 0, []), (.getfield 20, 1, 1, 27, []), (.iconst 1, 0, 0, 0, []), (.aaload, 23, 0, 0, []), (.invokevirtual 62, 54, 1, 50, []), (.ifCond .eq 5, 1, 0, 0, []), (.iconst 0, 0, 0, 0, []), (.ireturn, 0, 0, 0, [])]),
  (14, [], [2, 0, 0, 0, 0], [(.bipush (-99), 0, 0, 0, []), (.bipush 99, 0, 0, 0, []), (.aload_n 0, 0, 0, 0, []), (.getfield 20, 1, 1, 27, []), (.iconst 1, 0, 0, 0, []), (.aaload, 23, 0, 0, []), (.iload_n 1, 0, 0, 0, []), (.iload_n 2, 0, 0, 0, []), (.iload_n 3, 0, 0, 0, []), (.iload 4, 0, 0, 0, []), (.invokevirtual 66, 58, 5, 51, []), (.invokestatic 70, 9997, 0, 52, []), (.invokestatic 76, 9998, 0, 53, []), (.ireturn, 0, 0, 0, [])])]
def P44 : List (Nat × List Nat × List Nat × List amI) := [(0, [], [2, 0, 0, 3], [(.aload_n 0, 0, 0, 0, []), (.getfield 12, 1, 0, 26, []), (.getfield 79, 2, 1, 35, []), (.iload_n 1, 0, 0, 0, []), (.iaload, 0, 0, 0, []), (.istore_n 3, 0, 0, 0, []), (.aload_n 0, 0, 0, 0, []), (.getfield 12, 1, 0, 26, []), (.getfield 82, 2, 0, 36, []), (.iload_n 1, 0, 0, 0, []), (.iaload, 0, 0, 0, []), (.tableswitch 78 1 6 #[37, 46, 55, 57, 68, 70], 7, 0, 0, [(1, 1), (2, 2), (3, 3), (4, 4), (5, 5), (6, 6)])]),
  (56, [], [2, 3, 0, 0], [(.aload_n 0, 0, 0, 0, []), (.iload_n 2, 0, 0, 0, []), (.iload_n 3, 0, 0, 0, []), (.invokevirtual 85, 42, 3, 54, []), (.iconst 2, 0, 0, 0, []), (.idiv, 0, 0, 0, []), (.ireturn, 0, 0, 0, [])]),
  (65, [], [2, 3, 0, 0], [(.aload_n 0, 0, 0, 0, []), (.iload_n 2, 0, 0, 0, []), (.iload_n 3, 0, 0, 0, []), (.invokevirtual 85, 42, 3, 54, []), (.iconst 2, 0, 0, 0, []), (.imul, 0, 0, 0, []), (.ireturn, 0, 0, 0, [])]),
  (74, [], [3, 3, 3, 0], [(.iload_n 3, 0, 0, 0, []), (.ireturn, 0, 0, 0, [])]),
  (76, [], [2, 3, 0, 0], [(.aload_n 0, 0, 0, 0, []), (.iload_n 2, 0, 0, 0, []), (.iload_n 3, 0, 0, 0, []), (.invokevirtual 85, 42, 3, 54, []), (.iconst 2, 0, 0, 0, []), (.idiv, 0, 0, 0, []), (.iconst 5, 0, 0, 0, []), (.iadd, 0, 0, 0, []), (.ireturn, 0, 0, 0, [])]),
  (87, [], [3, 3, 3, 3], [(.iconst (-1), 0, 0, 0, []), (.ireturn, 0, 0, 0, [])]),
  (89, [], [3, 3, 3, 0], [(.iconst 0, 0, 0, 0, []), (.iload_n 3, 0, 0, 0, []), (.iconst 3, 0, 0, 0, []), (.isub, 0, 0, 0, []), (.invokestatic 76, 9998, 0, 53, []), (.ireturn, 0, 0, 0, [])]),
  (97, [], [2, 3, 0, 0], [(.aload_n 0, 0, 0, 0, []), (.iload_n 2, 0, 0, 0, []), (.iload_n 3, 0, 0, 0, []), (.invokevirtual 85, 42, 3, 54, []), (.ireturn, 0, 0, 0, [])])]
def P45 : List (Nat × List Nat × List Nat × List amI) := [(0, [], [2, 0], [(.aload_n 0, 0, 0, 0, []), (.iload_n 1, 0, 0, 0, []), (.iconst 0, 0, 0, 0, []), (.invokestatic 88, 7, 2, 55, []), (.iload_n 1, 0, 0, 0, []), (.iconst 1, 0, 0, 0, []), (.invokestatic 88, 7, 2, 55, []), (.iload_n 1, 0, 0, 0, []), (.iconst 2, 0, 0, 0, []), (.invokestatic 88, 7, 2, 55, []), (.iload_n 1, 0, 0, 0, []), (.iconst 3, 0, 0, 0, []), (.invokestatic 88, 7, 2, 55, []), (.invokevirtual 93, 43, 5, 56, []), (.ireturn, 0, 0, 0, [])])]
def P46 : List (Nat × List Nat × List Nat × List amI) := [(0, [], [2, 0, 0, 0, 3], [(.aload_n 0, 0, 0, 0, []), (.getfield 12, 1, 0, 26, []), (.getfield 96, 2, 2, 37, []), (.iload_n 1, 0, 0, 0, []), (.iaload, 0, 0, 0, []), (.istore 4, 0, 0, 0, []), (.aload_n 0, 0, 0, 0, []), (.iload 4, 0, 0, 0, []), (.iload_n 2, 0, 0, 0, []), (.iload_n 3, 0, 0, 0, []), (.invokestatic 99, 8, 3, 57, []), (.invokevirtual 103, 45, 2, 58, []), (.aload_n 0, 0, 0, 0, []), (.iload 4, 0, 0, 0, []), (.invokevirtual 103, 45, 2, 58, []), (.isub, 0, 0, 0, []), (.aload_n 0, 0, 0, 0, []), (.iload_n 1, 0, 0, 0, []), (.iload_n 2, 0, 0, 0, []), (.invokevirtual 107, 44, 3, 59, []), (.isub, 0, 0, 0, []), (.ireturn, 0, 0, 0, [])])]
def P47 : List (Nat × List Nat × List Nat × List amI) := [(0, [], [2, 0, 0, 0], [(.aload_n 0, 0, 0, 0, []), (.ldc 110, 0, 0, 2, [(999999, 0)]), (.aload_n 0, 0, 0, 0, []), (.getfield 58, 1, 7, 34, []), (.aload_n 0, 0, 0, 0, []), (.iload_n 1, 0, 0, 0, []), (.iload_n 2, 0, 0, 0, []), (.invokevirtual 107, 44, 3, 59, []), (.iadd, 0, 0, 0, []), (.invokestatic 70, 9997, 0, 52, []), (.putfield 58, 1, 7, 34, []), (.aload_n 0, 0, 0, 0, []), (.getfield 12, 1, 0, 26, []), (.getfield 96, 2, 2, 37, []), (.iload_n 1, 0, 0, 0, []), (.aload_n 0, 0, 0, 0, []), (.getfield 12, 1, 0, 26, []), (.getfield 96, 2, 2, 37, []), (.iload_n 1, 0, 0, 0, []), (.iaload, 0, 0, 0, []), (.iload_n 2, 0, 0, 0, []), (.iload_n 3, 0, 0, 0, []), (.invokestatic 99, 8, 3, 57, []), (.iastore, 0, 0, 0, []), (.return_, 0, 0, 0, [])])]
def P48 : List (Nat × List Nat × List Nat × List amI) := [(0, [], [2, 0, 3, 3, 3, 3, 3, 3], [(.iconst 0, 0, 0, 0, []), (.istore_n 2, 0, 0, 0, []), (.aload_n 0, 0, 0, 0, []), (.getfield 12, 1, 0, 26, []), (.invokevirtual 111, 79, 1, 60, []), (.istore_n 3, 0, 0, 0, []), (.iconst 0, 0, 0, 0, []), (.istore 4, 0, 0, 0, []), (.nop, 1, 0, 0, [])]),
  (13, [], [2, 0, 0, 0, 0, 3, 3, 3], [(.iload 4, 0, 0, 0, []), (.iload_n 1, 0, 0, 0, []), (.if_icmp .ge 71, 3, 0, 0, []), (.aload_n 0, 0, 0, 0, []), (.invokevirtual 115, 41, 1, 61, []), (.aload_n 0, 0, 0, 0, []), (.getfield 12, 1, 0, 26, []), (.getfield 118, 2, 10, 38, []), (.irem, 0, 0, 0, []), (.istore 5, 0, 0, 0, []), (.aload_n 0, 0, 0, 0, []), (.invokevirtual 115, 41, 1, 61, []), (.iconst 4, 0, 0, 0, []), (.irem, 0, 0, 0, []), (.istore 6, 0, 0, 0, []), (.aload_n 0, 0, 0, 0, []), (.invokevirtual 115, 41, 1, 61, []), (.iconst 3, 0, 0, 0, []), (.irem, 0, 0, 0, []), (.istore 7, 0, 0, 0, []), (.aload_n 0, 0, 0, 0, []), (.getfield 12, 1, 0, 26, []), (.iload 5, 0, 0, 0, []), (.iload 6, 0, 0, 0, []), (.iload 7, 0, 0, 0, []), (.iload_n 3, 0, 0, 0, []), (.invokevirtual 121, 81, 5, 62, []), (.ifCond .eq 18, 2, 0, 0, []), (.aload_n 0, 0, 0, 0, []), (.iload 5, 0, 0, 0, []), (.iload 6, 0, 0, 0, []), (.iload 7, 0, 0, 0, []), (.invokevirtual 125, 47, 4, 63, []), (.iinc 2 1, 0, 0, 0, []), (.iconst 0, 0, 0, 0, []), (.istore_n 3, 0, 0, 0, []), (.nop, 2, 0, 0, [])]),
  (81, [], [2, 0, 0, 0, 0, 3, 3, 3], [(.iinc 4 1, 0, 0, 0, []), (.goto (-71), 1, 0, 0, [])]),
  (87, [], [2, 0, 0, 3, 3, 3, 3, 3], [(.aload_n 0, 0, 0, 0, []), (.dup, 0, 0, 0, []), (.getfield 55, 1, 6, 33, []), (.iload_n 1, 0, 0, 0, []), (.iadd, 0, 0, 0, []), (.putfield 55, 1, 6, 33, []), (.iload_n 2, 0, 0, 0, []), (.ireturn, 0, 0, 0, [])])]
def P49 : List (Nat × List Nat × List Nat × List amI) := [(0, [], [2], [(.aload_n 0, 0, 0, 0, []), (.invokespecial 3, 9999, 0, 64, []), (.aload_n 0, 0, 0, 0, []), (.iconst 5, 0, 0, 0, []), (.newarray .int, 20, 0, 0, []), (.putfield 9, 6, 0, 39, []), (.return_, 0, 0, 0, [])])]
def P50 : List (Nat × List Nat × List Nat × List amI) := [(0, [], [2, 2, 0, 0, 0, 3], [(.aload_n 0, 0, 0, 0, []), (.aload_n 1, 0, 0, 0, []), (.putfield 15, 6, 1, 40, []), (.aload_n 0, 0, 0, 0, []), (.iload_n 2, 0, 0, 0, []), (.putfield 19, 6, 2, 41, []), (.aload_n 0, 0, 0, 0, []), (.iload_n 3, 0, 0, 0, []), (.putfield 23, 6, 3, 42, []), (.aload_n 0, 0, 0, 0, []), (.iload 4, 0, 0, 0, []), (.putfield 26, 6, 4, 43, []), (.aload_n 0, 0, 0, 0, []), (.getfield 15, 6, 1, 40, [(2, 0)]), (.getfield 29, 2, 2, 44, []), (.aload_n 0, 0, 0, 0, []), (.getfield 19, 6, 2, 41, []), (.iaload, 0, 0, 0, []), (.aload_n 0, 0, 0, 0, []), (.getfield 23, 6, 3, 42, []), (.invokestatic 34, 7, 2, 65, []), (.aload_n 0, 0, 0, 0, []), (.getfield 26, 6, 4, 43, []), (.if_icmp .ne 5, 1, 0, 0, []), (.iconst 0, 0, 0, 0, []), (.ireturn, 0, 0, 0, [])]),
  (49, [], [2, 3, 3, 3, 3, 3], [(.aload_n 0, 0, 0, 0, []), (.getfield 15, 6, 1, 40, [(2, 0)]), (.aload_n 0, 0, 0, 0, []), (.getfield 19, 6, 2, 41, []), (.aload_n 0, 0, 0, 0, []), (.getfield 23, 6, 3, 42, []), (.aload_n 0, 0, 0, 0, []), (.getfield 26, 6, 4, 43, []), (.invokevirtual 40, 71, 4, 66, []), (.ifCond .ne 5, 2, 0, 0, []), (.iconst (-1), 0, 0, 0, []), (.ireturn, 0, 0, 0, [])]),
  (73, [], [2, 3, 3, 3, 3, 3], [(.aload_n 0, 0, 0, 0, []), (.getfield 9, 6, 0, 39, []), (.iconst 0, 0, 0, 0, []), (.aload_n 0, 0, 0, 0, []), (.getfield 19, 6, 2, 41, []), (.iastore, 0, 0, 0, []), (.aload_n 0, 0, 0, 0, []), (.getfield 15, 6, 1, 40, [(2, 0)]), (.getfield 44, 2, 3, 45, []), (.aload_n 0, 0, 0, 0, []), (.getfield 19, 6, 2, 41, []), (.iconst 4, 0, 0, 0, []), (.imul, 0, 0, 0, []), (.aload_n 0, 0, 0, 0, []), (.getfield 9, 6, 0, 39, []), (.iconst 1, 0, 0, 0, []), (.aload_n 0, 0, 0, 0, []), (.getfield 15, 6, 1, 40, [(2, 0)]), (.getfield 47, 2, 4, 46, []), (.aload_n 0, 0, 0, 0, []), (.getfield 19, 6, 2, 41, []), (.iaload, 0, 0, 0, []), (.invokestatic 50, 9999, 0, 67, []), (.iconst 1, 0, 0, 0, []), (.istore 5, 0, 0, 0, []), (.nop, 3, 0, 0, [])]),
  (119, [], [2, 3, 3, 3, 3, 0], [(.iload 5, 0, 0, 0, []), (.iconst 3, 0, 0, 0, []), (.if_icmp .gt 21, 5, 0, 0, []), (.aload_n 0, 0, 0, 0, []), (.iload 5, 0, 0, 0, []), (.invokevirtual 56, 51, 2, 68, []), (.ifCond .eq 6, 4, 0, 0, []), (.iload 5, 0, 0, 0, []), (.ireturn, 0, 0, 0, [])]),
  (137, [], [2, 3, 3, 3, 3, 0], [(.iinc 5 1, 0, 0, 0, []), (.goto (-21), 3, 0, 0, [])]),
  (143, [], [3, 3, 3, 3, 3, 3], [(.iconst (-1), 0, 0, 0, []), (.ireturn, 0, 0, 0, [])])]
def P51 : List (Nat × List Nat × List Nat × List amI) := [(0, [], [2, 0, 3, 3], [(.iload_n 1, 0, 0, 0, []), (.iconst 1, 0, 0, 0, []), (.if_icmp .gt 24, 1, 0, 0, []), (.aload_n 0, 0, 0, 0, []), (.getfield 15, 6, 1, 40, [(2, 0)]), (.aload_n 0, 0, 0, 0, []), (.getfield 19, 6, 2, 41, []), (.aload_n 0, 0, 0, 0, []), (.getfield 23, 6, 3, 42, []), (.aload_n 0, 0, 0, 0, []), (.getfield 26, 6, 4, 43, []), (.iconst 0, 0, 0, 0, []), (.invokevirtual 60, 81, 5, 69, []), (.ireturn, 4, 0, 0, [])]),
  (26, [], [2, 0, 3, 3], [(.iconst 0, 0, 0, 0, []), (.istore_n 2, 0, 0, 0, []), (.nop, 2, 0, 0, [])]),
  (28, [], [2, 0, 0, 3], [(.iload_n 2, 0, 0, 0, []), (.aload_n 0, 0, 0, 0, []), (.getfield 15, 6, 1, 40, [(2, 0)]), (.getfield 47, 2, 4, 46, []), (.aload_n 0, 0, 0, 0, []), (.getfield 19, 6, 2, 41, []), (.iaload, 0, 0, 0, []), (.if_icmp .gt 45, 6, 0, 0, []), (.iconst 0, 0, 0, 0, []), (.istore_n 3, 0, 0, 0, []), (.nop, 3, 0, 0, [])]),
  (46, [], [2, 0, 0, 0], [(.iload_n 3, 0, 0, 0, []), (.bipush 12, 0, 0, 0, []), (.if_icmp .ge 31, 5, 0, 0, []), (.aload_n 0, 0, 0, 0, []), (.aload_n 0, 0, 0, 0, []), (.getfield 9, 6, 0, 39, []), (.iload_n 2, 0, 0, 0, []), (.iaload, 0, 0, 0, []), (.iload_n 3, 0, 0, 0, []), (.iconst 3, 0, 0, 0, []), (.idiv, 0, 0, 0, []), (.iload_n 3, 0, 0, 0, []), (.iconst 3, 0, 0, 0, []), (.irem, 0, 0, 0, []), (.iload_n 1, 0, 0, 0, []), (.invokevirtual 64, 52, 5, 70, []), (.ifCond .eq 5, 4, 0, 0, []), (.iconst 1, 0, 0, 0, []), (.ireturn, 4, 0, 0, [])]),
  (74, [], [2, 0, 0, 0], [(.iinc 3 1, 0, 0, 0, []), (.goto (-31), 3, 0, 0, [])]),
  (80, [], [2, 0, 0, 3], [(.iinc 2 1, 0, 0, 0, []), (.goto (-55), 2, 0, 0, [])]),
  (86, [], [3, 3, 3, 3], [(.iconst 0, 0, 0, 0, []), (.ireturn, 4, 0, 0, [])])]
def P52 : List (Nat × List Nat × List Nat × List amI) := [(0, [], [2, 0, 0, 0, 0, 3, 3], [(.aload_n 0, 0, 0, 0, []), (.getfield 15, 6, 1, 40, [(2, 0)]), (.iload_n 1, 0, 0, 0, []), (.iload_n 2, 0, 0, 0, []), (.iload_n 3, 0, 0, 0, []), (.iconst 0, 0, 0, 0, []), (.invokevirtual 60, 81, 5, 69, []), (.ifCond .ne 5, 1, 0, 0, []), (.iconst 0, 0, 0, 0, []), (.ireturn, 4, 0, 0, [])]),
  (16, [], [2, 0, 0, 0, 0, 3, 3], [(.aload_n 0, 0, 0, 0, []), (.getfield 15, 6, 1, 40, [(2, 0)]), (.getfield 29, 2, 2, 44, []), (.iload_n 1, 0, 0, 0, []), (.iaload, 0, 0, 0, []), (.istore 5, 0, 0, 0, []), (.aload_n 0, 0, 0, 0, []), (.getfield 15, 6, 1, 40, [(2, 0)]), (.getfield 29, 2, 2, 44, []), (.iload_n 1, 0, 0, 0, []), (.iload 5, 0, 0, 0, []), (.iload_n 2, 0, 0, 0, []), (.iload_n 3, 0, 0, 0, []), (.invokestatic 67, 8, 3, 71, []), (.iastore, 0, 0, 0, []), (.aload_n 0, 0, 0, 0, []), (.iload 4, 0, 0, 0, []), (.iconst 1, 0, 0, 0, []), (.isub, 0, 0, 0, []), (.invokevirtual 56, 51, 2, 68, []), (.istore 6, 0, 0, 0, []), (.aload_n 0, 0, 0, 0, []), (.getfield 15, 6, 1, 40, [(2, 0)]), (.getfield 29, 2, 2, 44, []), (.iload_n 1, 0, 0, 0, []), (.iload 5, 0, 0, 0, []), (.iastore, 0, 0, 0, []), (.iload 6, 0, 0, 0, []), (.ireturn, 4, 0, 0, [])])]
def P53 : List (Nat × List Nat × List Nat × List amI) := [(0, [], [2], [(.aload_n 0, 0, 0, 0, []), (.invokespecial 3, 9999, 0, 72, []), (.aload_n 0, 0, 0, 0, []), (.bipush 50, 0, 0, 0, []), (.newarray .int, 20, 0, 0, []), (.putfield 9, 3, 0, 47, []), (.aload_n 0, 0, 0, 0, []), (.bipush 51, 0, 0, 0, []), (.newarray .int, 20, 0, 0, []), (.putfield 15, 3, 1, 48, []), (.return_, 0, 0, 0, [])])]
def P54 : List (Nat × List Nat × List Nat × List amI) := [(0, [], [2], [(.aload_n 0, 0, 0, 0, []), (.getfield 18, 3, 2, 49, []), (.ifCond .ne 7, 1, 0, 0, []), (.iconst 1, 0, 0, 0, []), (.goto 4, 2, 0, 0, [])]),
  (11, [], [3], [(.iconst 0, 0, 0, 0, []), (.nop, 2, 0, 0, [])]),
  (12, [0], [3], [(.ireturn, 4, 0, 0, [])])]
def P55 : List (Nat × List Nat × List Nat × List amI) := [(0, [], [2], [(.aload_n 0, 0, 0, 0, []), (.iconst 0, 0, 0, 0, []), (.putfield 18, 3, 2, 49, []), (.return_, 0, 0, 0, [])])]
def P56 : List (Nat × List Nat × List Nat × List amI) := [(0, [], [2, 0], [(.aload_n 0, 0, 0, 0, []), (.getfield 18, 3, 2, 49, []), (.bipush 50, 0, 0, 0, []), (.if_icmp .ge 23, 1, 0, 0, []), (.aload_n 0, 0, 0, 0, []), (.getfield 9, 3, 0, 47, []), (.aload_n 0, 0, 0, 0, []), (.getfield 18, 3, 2, 49, []), (.iload_n 1, 0, 0, 0, []), (.iastore, 0, 0, 0, []), (.aload_n 0, 0, 0, 0, []), (.dup, 0, 0, 0, []), (.getfield 18, 3, 2, 49, []), (.iconst 1, 0, 0, 0, []), (.iadd, 0, 0, 0, []), (.putfield 18, 3, 2, 49, []), (.nop, 1, 0, 0, [])]),
  (29, [], [3, 3], [(.return_, 0, 0, 0, [])])]
def P57 : List (Nat × List Nat × List Nat × List amI) := [(0, [], [2, 2], [(.aload_n 1, 0, 0, 0, []), (.getfield 9, 3, 0, 47, []), (.iconst 0, 0, 0, 0, []), (.aload_n 0, 0, 0, 0, []), (.getfield 9, 3, 0, 47, []), (.iconst 0, 0, 0, 0, []), (.bipush 50, 0, 0, 0, []), (.invokestatic 22, 9999, 0, 73, []), (.aload_n 0, 0, 0, 0, []), (.aload_n 1, 0, 0, 0, []), (.getfield 18, 3, 2, 49, []), (.putfield 18, 3, 2, 49, []), (.return_, 0, 0, 0, [])])]
def P58 : List (Nat × List Nat × List Nat × List amI) := [(0, [], [2, 0, 0, 0, 0, 3, 3, 3], [(.iconst (-1), 0, 0, 0, []), (.istore 5, 0, 0, 0, []), (.iconst 0, 0, 0, 0, []), (.istore 6, 0, 0, 0, []), (.nop, 1, 0, 0, [])]),
  (6, [], [2, 0, 0, 0, 0, 0, 0, 3], [(.iload 6, 0, 0, 0, []), (.aload_n 0, 0, 0, 0, []), (.getfield 18, 3, 2, 49, []), (.if_icmp .ge 144, 9, 0, 0, []), (.aload_n 0, 0, 0, 0, []), (.getfield 9, 3, 0, 47, []), (.iload 6, 0, 0, 0, []), (.iaload, 0, 0, 0, []), (.istore 7, 0, 0, 0, []), (.iload 7, 0, 0, 0, []), (.sipush 20000, 0, 0, 0, []), (.if_icmp .ge 43, 4, 0, 0, []), (.iinc 5 1, 0, 0, 0, []), (.aload_n 0, 0, 0, 0, []), (.getfield 15, 3, 1, 48, []), (.iload 5, 0, 0, 0, []), (.iload 7, 0, 0, 0, []), (.sipush 10000, 0, 0, 0, []), (.if_icmp .ge 8, 2, 0, 0, []), (.iload 7, 0, 0, 0, []), (.goto 17, 3, 0, 0, [])]),
  (54, [0, 2], [2, 0, 0, 0, 0, 0, 0, 0], [(.iload 7, 0, 0, 0, []), (.sipush 10000, 0, 0, 0, []), (.isub, 0, 0, 0, []), (.iload_n 1, 0, 0, 0, []), (.iload_n 2, 0, 0, 0, []), (.iload_n 3, 0, 0, 0, []), (.iload 4, 0, 0, 0, []), (.invokestatic 28, 59, 5, 74, []), (.nop, 3, 0, 0, [])]),
  (68, [0, 0, 2], [2, 0, 0, 0, 0, 0, 0, 3], [(.iastore, 0, 0, 0, []), (.goto 81, 8, 0, 0, [])]),
  (72, [], [2, 0, 0, 0, 0, 0, 0, 0], [(.iload 7, 0, 0, 0, []), (.sipush 20033, 0, 0, 0, []), (.if_icmp .ne 33, 7, 0, 0, []), (.iload 5, 0, 0, 0, []), (.ifCond .lt 28, 7, 0, 0, []), (.aload_n 0, 0, 0, 0, []), (.getfield 15, 3, 1, 48, []), (.iload 5, 0, 0, 0, []), (.aload_n 0, 0, 0, 0, []), (.getfield 15, 3, 1, 48, []), (.iload 5, 0, 0, 0, []), (.iaload, 0, 0, 0, []), (.ifCond .ne 7, 5, 0, 0, []), (.iconst 1, 0, 0, 0, []), (.goto 4, 6, 0, 0, [])]),
  (105, [0, 2], [2, 0, 0, 0, 0, 0, 0, 3], [(.iconst 0, 0, 0, 0, []), (.nop, 6, 0, 0, [])]),
  (106, [0, 0, 2], [2, 0, 0, 0, 0, 0, 0, 3], [(.iastore, 0, 0, 0, []), (.goto 43, 8, 0, 0, [])]),
  (110, [], [2, 0, 0, 0, 0, 0, 0, 0], [(.iload 5, 0, 0, 0, []), (.ifCond .le 38, 8, 0, 0, []), (.iinc 5 (-1), 0, 0, 0, []), (.aload_n 0, 0, 0, 0, []), (.getfield 15, 3, 1, 48, []), (.iload 5, 0, 0, 0, []), (.iload 7, 0, 0, 0, []), (.sipush 20000, 0, 0, 0, []), (.isub, 0, 0, 0, []), (.aload_n 0, 0, 0, 0, []), (.getfield 15, 3, 1, 48, []), (.iload 5, 0, 0, 0, []), (.iaload, 0, 0, 0, []), (.aload_n 0, 0, 0, 0, []), (.getfield 15, 3, 1, 48, []), (.iload 5, 0, 0, 0, []), (.iconst 1, 0, 0, 0, []), (.iadd, 0, 0, 0, []), (.iaload, 0, 0, 0, []), (.invokestatic 32, 60, 3, 75, []), (.iastore, 0, 0, 0, []), (.nop, 8, 0, 0, [])]),
  (150, [], [2, 0, 0, 0, 0, 0, 0, 3], [(.iinc 6 1, 0, 0, 0, []), (.goto (-147), 1, 0, 0, [])]),
  (156, [], [2, 3, 3, 3, 3, 3, 3, 3], [(.aload_n 0, 0, 0, 0, []), (.getfield 15, 3, 1, 48, []), (.iconst 0, 0, 0, 0, []), (.iaload, 0, 0, 0, []), (.ireturn, 0, 0, 0, [])])]
def P59 : List (Nat × List Nat × List Nat × List amI) := [(0, [], [0, 0, 0, 0, 0], [(.iload_n 0, 0, 0, 0, []), (.tableswitch 33 0 2 #[27, 29, 31], 4, 0, 0, [(0, 1), (1, 2), (2, 3)])]),
  (28, [], [3, 0, 3, 3, 3], [(.iload_n 1, 0, 0, 0, []), (.ireturn, 0, 0, 0, [])]),
  (30, [], [3, 3, 0, 3, 3], [(.iload_n 2, 0, 0, 0, []), (.ireturn, 0, 0, 0, [])]),
  (32, [], [3, 3, 3, 0, 3], [(.iload_n 3, 0, 0, 0, []), (.ireturn, 0, 0, 0, [])]),
  (34, [], [3, 3, 3, 3, 0], [(.iload 4, 0, 0, 0, []), (.ireturn, 0, 0, 0, [])])]
def P60 : List (Nat × List Nat × List Nat × List amI) := [(0, [], [0, 0, 0], [(.iload_n 0, 0, 0, 0, []), (.lookupswitch 168 #[(38, 97), (42, 152), (43, 144), (45, 148), (47, 156), (60, 111), (61, 122), (62, 133), (124, 83)], 23, 0, 0, [(38, 5), (42, 19), (43, 17), (45, 18), (47, 20), (60, 8), (61, 11), (62, 14), (124, 1)])]),
  (84, [], [3, 0, 0], [(.iload_n 1, 0, 0, 0, []), (.ifCond .ne 7, 2, 0, 0, []), (.iload_n 2, 0, 0, 0, []), (.ifCond .eq 7, 3, 0, 0, []), (.nop, 2, 0, 0, [])]),
  (92, [], [3, 3, 3], [(.iconst 1, 0, 0, 0, []), (.goto 4, 4, 0, 0, [])]),
  (96, [], [3, 3, 3], [(.iconst 0, 0, 0, 0, []), (.nop, 4, 0, 0, [])]),
  (97, [0], [3, 3, 3], [(.ireturn, 0, 0, 0, [])]),
  (98, [], [3, 0, 0], [(.iload_n 1, 0, 0, 0, []), (.ifCond .eq 11, 6, 0, 0, []), (.iload_n 2, 0, 0, 0, []), (.ifCond .eq 7, 6, 0, 0, []), (.iconst 1, 0, 0, 0, []), (.goto 4, 7, 0, 0, [])]),
  (110, [], [3, 3, 3], [(.iconst 0, 0, 0, 0, []), (.nop, 7, 0, 0, [])]),
  (111, [0], [3, 3, 3], [(.ireturn, 0, 0, 0, [])]),
  (112, [], [3, 0, 0], [(.iload_n 1, 0, 0, 0, []), (.iload_n 2, 0, 0, 0, []), (.if_icmp .ge 7, 9, 0, 0, []), (.iconst 1, 0, 0, 0, []), (.goto 4, 10, 0, 0, [])]),
  (121, [], [3, 3, 3], [(.iconst 0, 0, 0, 0, []), (.nop, 10, 0, 0, [])]),
  (122, [0], [3, 3, 3], [(.ireturn, 0, 0, 0, [])]),
  (123, [], [3, 0, 0], [(.iload_n 1, 0, 0, 0, []), (.iload_n 2, 0, 0, 0, []), (.if_icmp .ne 7, 12, 0, 0, []), (.iconst 1, 0, 0, 0, []), (.goto 4, 13, 0, 0, [])]),
  (132, [], [3, 3, 3], [(.iconst 0, 0, 0, 0, []), (.nop, 13, 0, 0, [])]),
  (133, [0], [3, 3, 3], [(.ireturn, 0, 0, 0, [])]),
  (134, [], [3, 0, 0], [(.iload_n 1, 0, 0, 0, []), (.iload_n 2, 0, 0, 0, []), (.if_icmp .le 7, 15, 0, 0, []), (.iconst 1, 0, 0, 0, []), (.goto 4, 16, 0, 0, [])]),
  (143, [], [3, 3, 3], [(.iconst 0, 0, 0, 0, []), (.nop, 16, 0, 0, [])]),
  (144, [0], [3, 3, 3], [(.ireturn, 0, 0, 0, [])]),
  (145, [], [3, 0, 0], [(.iload_n 1, 0, 0, 0, []), (.iload_n 2, 0, 0, 0, []), (.iadd, 0, 0, 0, []), (.ireturn, 0, 0, 0, [])]),
  (149, [], [3, 0, 0], [(.iload_n 1, 0, 0, 0, []), (.iload_n 2, 0, 0, 0, []), (.isub, 0, 0, 0, []), (.ireturn, 0, 0, 0, [])]),
  (153, [], [3, 0, 0], [(.iload_n 1, 0, 0, 0, []), (.iload_n 2, 0, 0, 0, []), (.imul, 0, 0, 0, []), (.ireturn, 0, 0, 0, [])]),
  (157, [], [3, 0, 0], [(.iload_n 2, 0, 0, 0, []), (.ifCond .ne 7, 21, 0, 0, []), (.iconst 0, 0, 0, 0, []), (.goto 6, 22, 0, 0, [])]),
  (165, [], [3, 0, 0], [(.iload_n 1, 0, 0, 0, []), (.iload_n 2, 0, 0, 0, []), (.idiv, 0, 0, 0, []), (.nop, 22, 0, 0, [])]),
  (168, [0], [3, 3, 3], [(.ireturn, 0, 0, 0, [])]),
  (169, [], [3, 0, 0], [(.iload_n 2, 0, 0, 0, []), (.ifCond .ne 7, 24, 0, 0, []), (.iconst 0, 0, 0, 0, []), (.goto 6, 25, 0, 0, [])]),
  (177, [], [3, 0, 0], [(.iload_n 1, 0, 0, 0, []), (.iload_n 2, 0, 0, 0, []), (.irem, 0, 0, 0, []), (.nop, 25, 0, 0, [])]),
  (180, [0], [3, 3, 3], [(.ireturn, 0, 0, 0, [])])]
def P61 : List (Nat × List Nat × List Nat × List amI) := [(0, [], [2], [(.aload_n 0, 0, 0, 0, []), (.invokespecial 3, 9999, 0, 76, []), (.aload_n 0, 0, 0, 0, []), (.bipush 64, 0, 0, 0, []), (.newarray .int, 20, 0, 0, []), (.putfield 9, 2, 0, 50, []), (.aload_n 0, 0, 0, 0, []), (.bipush 64, 0, 0, 0, []), (.newarray .int, 20, 0, 0, []), (.putfield 15, 2, 1, 51, []), (.aload_n 0, 0, 0, 0, []), (.bipush 64, 0, 0, 0, []), (.newarray .int, 20, 0, 0, []), (.putfield 18, 2, 2, 52, []), (.aload_n 0, 0, 0, 0, []), (.sipush 256, 0, 0, 0, []), (.newarray .int, 20, 0, 0, []), (.putfield 21, 2, 3, 53, []), (.aload_n 0, 0, 0, 0, []), (.bipush 64, 0, 0, 0, []), (.newarray .int, 20, 0, 0, []), (.putfield 24, 2, 4, 54, []), (.aload_n 0, 0, 0, 0, []), (.sipush 128, 0, 0, 0, []), (.newarray .int, 20, 0, 0, []), (.putfield 27, 2, 5, 55, []), (.aload_n 0, 0, 0, 0, []), (.bipush 64, 0, 0, 0, []), (.newarray .int, 20, 0, 0, []), (.putfield 30, 2, 6, 56, []), (.aload_n 0, 0, 0, 0, []), (.iconst 1, 0, 0, 0, []), (.putfield 33, 2, 11, 57, []), (.aload_n 0, 0, 0, 0, []), (.iconst 1, 0, 0, 0, []), (.putfield 37, 2, 12, 58, []), (.aload_n 0, 0, 0, 0, []), (.iconst 1, 0, 0, 0, []), (.iconst 4, 0, 0, 0, []), (.iconst 0, 0, 0, 0, []), (.invokevirtual 40, 62, 4, 77, []), (.return_, 0, 0, 0, [])])]
def P62 : List (Nat × List Nat × List Nat × List amI) := [(0, [], [2, 0, 0, 0, 3, 3], [(.aload_n 0, 0, 0, 0, []), (.iload_n 1, 0, 0, 0, []), (.putfield 44, 2, 7, 59, []), (.aload_n 0, 0, 0, 0, []), (.iload_n 2, 0, 0, 0, []), (.putfield 47, 2, 8, 60, []), (.aload_n 0, 0, 0, 0, []), (.iload_n 3, 0, 0, 0, []), (.putfield 50, 2, 9, 61, []), (.aload_n 0, 0, 0, 0, []), (.aload_n 0, 0, 0, 0, []), (.getfield 44, 2, 7, 59, []), (.aload_n 0, 0, 0, 0, []), (.getfield 47, 2, 8, 60, []), (.imul, 0, 0, 0, []), (.putfield 53, 2, 10, 62, []), (.iconst 0, 0, 0, 0, []), (.istore 4, 0, 0, 0, []), (.nop, 1, 0, 0, [])]),
  (31, [], [2, 3, 3, 3, 0, 3], [(.iload 4, 0, 0, 0, []), (.aload_n 0, 0, 0, 0, []), (.getfield 53, 2, 10, 62, []), (.if_icmp .ge 25, 2, 0, 0, []), (.aload_n 0, 0, 0, 0, []), (.getfield 9, 2, 0, 50, []), (.iload 4, 0, 0, 0, []), (.iconst (-1), 0, 0, 0, []), (.iastore, 0, 0, 0, []), (.aload_n 0, 0, 0, 0, []), (.getfield 24, 2, 4, 54, []), (.iload 4, 0, 0, 0, []), (.iconst 0, 0, 0, 0, []), (.iastore, 0, 0, 0, []), (.iinc 4 1, 0, 0, 0, []), (.goto (-28), 1, 0, 0, [])]),
  (62, [], [2, 3, 3, 3, 3, 3], [(.iconst 0, 0, 0, 0, []), (.istore 4, 0, 0, 0, []), (.nop, 3, 0, 0, [])]),
  (65, [], [2, 3, 3, 3, 0, 3], [(.iload 4, 0, 0, 0, []), (.aload_n 0, 0, 0, 0, []), (.getfield 44, 2, 7, 59, []), (.if_icmp .ge 35, 6, 0, 0, []), (.iconst 0, 0, 0, 0, []), (.istore 5, 0, 0, 0, []), (.nop, 4, 0, 0, [])]),
  (77, [], [2, 3, 3, 3, 0, 0], [(.iload 5, 0, 0, 0, []), (.aload_n 0, 0, 0, 0, []), (.getfield 47, 2, 8, 60, []), (.if_icmp .ge 17, 5, 0, 0, []), (.aload_n 0, 0, 0, 0, []), (.iload 4, 0, 0, 0, []), (.iload 5, 0, 0, 0, []), (.invokevirtual 56, 63, 3, 78, []), (.iinc 5 1, 0, 0, 0, []), (.goto (-20), 4, 0, 0, [])]),
  (100, [], [2, 3, 3, 3, 0, 3], [(.iinc 4 1, 0, 0, 0, []), (.goto (-38), 3, 0, 0, [])]),
  (106, [], [3, 3, 3, 3, 3, 3], [(.return_, 0, 0, 0, [])])]
def P63 : List (Nat × List Nat × List Nat × List amI) := [(0, [], [2, 0, 0, 3], [(.iload_n 1, 0, 0, 0, []), (.aload_n 0, 0, 0, 0, []), (.getfield 47, 2, 8, 60, []), (.imul, 0, 0, 0, []), (.iload_n 2, 0, 0, 0, []), (.iadd, 0, 0, 0, []), (.istore_n 3, 0, 0, 0, []), (.iload_n 2, 0, 0, 0, []), (.iconst 1, 0, 0, 0, []), (.iadd, 0, 0, 0, []), (.aload_n 0, 0, 0, 0, []), (.getfield 47, 2, 8, 60, []), (.if_icmp .ge 14, 1, 0, 0, []), (.aload_n 0, 0, 0, 0, []), (.iload_n 3, 0, 0, 0, []), (.iload_n 3, 0, 0, 0, []), (.iconst 1, 0, 0, 0, []), (.iadd, 0, 0, 0, []), (.invokevirtual 60, 64, 3, 79, []), (.goto 26, 2, 0, 0, [])]),
  (30, [], [2, 0, 0, 0], [(.aload_n 0, 0, 0, 0, []), (.getfield 50, 2, 9, 61, []), (.ifCond .le 19, 2, 0, 0, []), (.aload_n 0, 0, 0, 0, []), (.getfield 47, 2, 8, 60, []), (.iconst 3, 0, 0, 0, []), (.if_icmp .lt 11, 2, 0, 0, []), (.aload_n 0, 0, 0, 0, []), (.iload_n 3, 0, 0, 0, []), (.iload_n 3, 0, 0, 0, []), (.iload_n 2, 0, 0, 0, []), (.isub, 0, 0, 0, []), (.invokevirtual 60, 64, 3, 79, []), (.nop, 2, 0, 0, [])]),
  (53, [], [2, 0, 0, 0], [(.iload_n 1, 0, 0, 0, []), (.iconst 1, 0, 0, 0, []), (.iadd, 0, 0, 0, []), (.aload_n 0, 0, 0, 0, []), (.getfield 44, 2, 7, 59, []), (.if_icmp .ge 17, 3, 0, 0, []), (.aload_n 0, 0, 0, 0, []), (.iload_n 3, 0, 0, 0, []), (.iload_n 3, 0, 0, 0, []), (.aload_n 0, 0, 0, 0, []), (.getfield 47, 2, 8, 60, []), (.iadd, 0, 0, 0, []), (.invokevirtual 60, 64, 3, 79, []), (.goto 25, 4, 0, 0, [])]),
  (77, [], [2, 3, 0, 0], [(.aload_n 0, 0, 0, 0, []), (.getfield 50, 2, 9, 61, []), (.iconst 2, 0, 0, 0, []), (.if_icmp .ne 17, 4, 0, 0, []), (.aload_n 0, 0, 0, 0, []), (.getfield 44, 2, 7, 59, []), (.iconst 3, 0, 0, 0, []), (.if_icmp .lt 9, 4, 0, 0, []), (.aload_n 0, 0, 0, 0, []), (.iload_n 3, 0, 0, 0, []), (.iload_n 2, 0, 0, 0, []), (.invokevirtual 60, 64, 3, 79, []), (.nop, 4, 0, 0, [])]),
  (99, [], [3, 3, 3, 3], [(.return_, 0, 0, 0, [])])]
def P64 : List (Nat × List Nat × List Nat × List amI) := [(0, [], [2, 0, 0], [(.aload_n 0, 0, 0, 0, []), (.iload_n 1, 0, 0, 0, []), (.iload_n 2, 0, 0, 0, []), (.invokevirtual 63, 65, 3, 80, []), (.aload_n 0, 0, 0, 0, []), (.iload_n 2, 0, 0, 0, []), (.iload_n 1, 0, 0, 0, []), (.invokevirtual 63, 65, 3, 80, []), (.return_, 0, 0, 0, [])])]
def P65 : List (Nat × List Nat × List Nat × List amI) := [(0, [], [2, 0, 0, 3, 3], [(.iload_n 1, 0, 0, 0, []), (.iconst 4, 0, 0, 0, []), (.imul, 0, 0, 0, []), (.istore_n 3, 0, 0, 0, []), (.aload_n 0, 0, 0, 0, []), (.getfield 24, 2, 4, 54, []), (.iload_n 1, 0, 0, 0, []), (.iaload, 0, 0, 0, []), (.istore 4, 0, 0, 0, []), (.iload 4, 0, 0, 0, []), (.iconst 4, 0, 0, 0, []), (.if_icmp .lt 4, 1, 0, 0, []), (.return_, 0, 0, 0, [])]),
  (19, [], [2, 0, 0, 0, 0], [(.iload 4, 0, 0, 0, []), (.ifCond .le 44, 2, 0, 0, []), (.aload_n 0, 0, 0, 0, []), (.getfield 21, 2, 3, 53, []), (.iload_n 3, 0, 0, 0, []), (.iload 4, 0, 0, 0, []), (.iadd, 0, 0, 0, []), (.iconst 1, 0, 0, 0, []), (.isub, 0, 0, 0, []), (.iaload, 0, 0, 0, []), (.iload_n 2, 0, 0, 0, []), (.if_icmp .le 29, 2, 0, 0, []), (.aload_n 0, 0, 0, 0, []), (.getfield 21, 2, 3, 53, []), (.iload_n 3, 0, 0, 0, []), (.iload 4, 0, 0, 0, []), (.iadd, 0, 0, 0, []), (.aload_n 0, 0, 0, 0, []), (.getfield 21, 2, 3, 53, []), (.iload_n 3, 0, 0, 0, []), (.iload 4, 0, 0, 0, []), (.iadd, 0, 0, 0, []), (.iconst 1, 0, 0, 0, []), (.isub, 0, 0, 0, []), (.iaload, 0, 0, 0, []), (.iastore, 0, 0, 0, []), (.iinc 4 (-1), 0, 0, 0, []), (.goto (-43), 1, 0, 0, [])]),
  (65, [], [2, 0, 0, 0, 0], [(.aload_n 0, 0, 0, 0, []), (.getfield 21, 2, 3, 53, []), (.iload_n 3, 0, 0, 0, []), (.iload 4, 0, 0, 0, []), (.iadd, 0, 0, 0, []), (.iload_n 2, 0, 0, 0, []), (.iastore, 0, 0, 0, []), (.aload_n 0, 0, 0, 0, []), (.getfield 24, 2, 4, 54, []), (.iload_n 1, 0, 0, 0, []), (.dup2, 0, 0, 0, []), (.iaload, 0, 0, 0, []), (.iconst 1, 0, 0, 0, []), (.iadd, 0, 0, 0, []), (.iastore, 0, 0, 0, []), (.return_, 0, 0, 0, [])])]
def P66 : List (Nat × List Nat × List Nat × List amI) := [(0, [], [2, 2], [(.aload_n 1, 0, 0, 0, []), (.getfield 9, 2, 0, 50, []), (.iconst 0, 0, 0, 0, []), (.aload_n 0, 0, 0, 0, []), (.getfield 9, 2, 0, 50, []), (.iconst 0, 0, 0, 0, []), (.bipush 64, 0, 0, 0, []), (.invokestatic 66, 9999, 0, 81, []), (.aload_n 1, 0, 0, 0, []), (.getfield 15, 2, 1, 51, []), (.iconst 0, 0, 0, 0, []), (.aload_n 0, 0, 0, 0, []), (.getfield 15, 2, 1, 51, []), (.iconst 0, 0, 0, 0, []), (.bipush 64, 0, 0, 0, []), (.invokestatic 66, 9999, 0, 81, []), (.aload_n 1, 0, 0, 0, []), (.getfield 18, 2, 2, 52, []), (.iconst 0, 0, 0, 0, []), (.aload_n 0, 0, 0, 0, []), (.getfield 18, 2, 2, 52, []), (.iconst 0, 0, 0, 0, []), (.bipush 64, 0, 0, 0, []), (.invokestatic 66, 9999, 0, 81, []), (.aload_n 1, 0, 0, 0, []), (.getfield 21, 2, 3, 53, []), (.iconst 0, 0, 0, 0, []), (.aload_n 0, 0, 0, 0, []), (.getfield 21, 2, 3, 53, []), (.iconst 0, 0, 0, 0, []), (.sipush 256, 0, 0, 0, []), (.invokestatic 66, 9999, 0, 81, []), (.aload_n 1, 0, 0, 0, []), (.getfield 24, 2, 4, 54, []), (.iconst 0, 0, 0, 0, []), (.aload_n 0, 0, 0, 0, []), (.getfield 24, 2, 4, 54, []), (.iconst 0, 0, 0, 0, []), (.bipush 64, 0, 0, 0, []), (.invokestatic 66, 9999, 0, 81, []), (.aload_n 0, 0, 0, 0, []), (.aload_n 1, 0, 0, 0, []), (.getfield 44, 2, 7, 59, []), (.putfield 44, 2, 7, 59, []), (.aload_n 0, 0, 0, 0, []), (.aload_n 1, 0, 0, 0, []), (.getfield 47, 2, 8, 60, []), (.putfield 47, 2, 8, 60, []), (.aload_n 0, 0, 0, 0, []), (.aload_n 1, 0, 0, 0, []), (.getfield 50, 2, 9, 61, []), (.putfield 50, 2, 9, 61, []), (.aload_n 0, 0, 0, 0, []), (.aload_n 1, 0, 0, 0, []), (.getfield 53, 2, 10, 62, []), (.putfield 53, 2, 10, 62, []), (.aload_n 0, 0, 0, 0, []), (.aload_n 1, 0, 0, 0, []), (.getfield 33, 2, 11, 57, []), (.putfield 33, 2, 11, 57, []), (.aload_n 0, 0, 0, 0, []), (.aload_n 1, 0, 0, 0, []), (.getfield 37, 2, 12, 58, []), (.putfield 37, 2, 12, 58, []), (.return_, 0, 0, 0, [])])]
def P67 : List (Nat × List Nat × List Nat × List amI) := [(0, [], [2, 0, 0, 0, 0], [(.aload_n 0, 0, 0, 0, []), (.getfield 9, 2, 0, 50, []), (.iload_n 1, 0, 0, 0, []), (.iload_n 2, 0, 0, 0, []), (.iastore, 0, 0, 0, []), (.aload_n 0, 0, 0, 0, []), (.getfield 15, 2, 1, 51, []), (.iload_n 1, 0, 0, 0, []), (.iload_n 3, 0, 0, 0, []), (.iastore, 0, 0, 0, []), (.aload_n 0, 0, 0, 0, []), (.getfield 18, 2, 2, 52, []), (.iload_n 1, 0, 0, 0, []), (.iload 4, 0, 0, 0, []), (.iastore, 0, 0, 0, []), (.return_, 0, 0, 0, [])])]
def P68 : List (Nat × List Nat × List Nat × List amI) := [(0, [], [2, 3, 3], [(.iconst 0, 0, 0, 0, []), (.istore_n 1, 0, 0, 0, []), (.iconst 0, 0, 0, 0, []), (.istore_n 2, 0, 0, 0, []), (.nop, 1, 0, 0, [])]),
  (4, [], [2, 0, 0], [(.iload_n 2, 0, 0, 0, []), (.aload_n 0, 0, 0, 0, []), (.getfield 53, 2, 10, 62, []), (.if_icmp .ge 22, 3, 0, 0, []), (.aload_n 0, 0, 0, 0, []), (.getfield 9, 2, 0, 50, []), (.iload_n 2, 0, 0, 0, []), (.iaload, 0, 0, 0, []), (.iconst (-1), 0, 0, 0, []), (.if_icmp .eq 6, 2, 0, 0, []), (.iinc 1 1, 0, 0, 0, []), (.nop, 2, 0, 0, [])]),
  (25, [], [2, 0, 0], [(.iinc 2 1, 0, 0, 0, []), (.goto (-24), 1, 0, 0, [])]),
  (31, [], [3, 0, 3], [(.iload_n 1, 0, 0, 0, []), (.ireturn, 0, 0, 0, [])])]
def P69 : List (Nat × List Nat × List Nat × List amI) := [(0, [], [2, 0, 0], [(.aload_n 0, 0, 0, 0, []), (.getfield 9, 2, 0, 50, []), (.iload_n 1, 0, 0, 0, []), (.iaload, 0, 0, 0, []), (.iconst (-1), 0, 0, 0, []), (.if_icmp .ne 14, 3, 0, 0, []), (.iload_n 2, 0, 0, 0, []), (.iconst (-1), 0, 0, 0, []), (.if_icmp .ne 7, 1, 0, 0, []), (.iconst 1, 0, 0, 0, []), (.goto 4, 2, 0, 0, [])]),
  (19, [], [3, 3, 3], [(.iconst 0, 0, 0, 0, []), (.nop, 2, 0, 0, [])]),
  (20, [0], [3, 3, 3], [(.ireturn, 4, 0, 0, [])]),
  (21, [], [2, 0, 0], [(.aload_n 0, 0, 0, 0, []), (.getfield 18, 2, 2, 52, []), (.iload_n 1, 0, 0, 0, []), (.iaload, 0, 0, 0, []), (.invokestatic 72, 10, 1, 82, []), (.ifCond .ne 20, 4, 0, 0, []), (.aload_n 0, 0, 0, 0, []), (.getfield 18, 2, 2, 52, []), (.iload_n 1, 0, 0, 0, []), (.iaload, 0, 0, 0, []), (.invokestatic 78, 9, 1, 83, []), (.iload_n 2, 0, 0, 0, []), (.if_icmp .ne 7, 4, 0, 0, []), (.iconst 1, 0, 0, 0, []), (.goto 4, 5, 0, 0, [])]),
  (50, [], [3, 3, 3], [(.iconst 0, 0, 0, 0, []), (.nop, 5, 0, 0, [])]),
  (51, [0], [3, 3, 3], [(.ireturn, 4, 0, 0, [])])]
def P70 : List (Nat × List Nat × List Nat × List amI) := [(0, [], [2, 0], [(.aload_n 0, 0, 0, 0, []), (.getfield 9, 2, 0, 50, []), (.iload_n 1, 0, 0, 0, []), (.iaload, 0, 0, 0, []), (.iconst (-1), 0, 0, 0, []), (.if_icmp .eq 17, 1, 0, 0, []), (.aload_n 0, 0, 0, 0, []), (.getfield 9, 2, 0, 50, []), (.iload_n 1, 0, 0, 0, []), (.iaload, 0, 0, 0, []), (.iconst 5, 0, 0, 0, []), (.if_icmp .eq 7, 1, 0, 0, []), (.iconst 1, 0, 0, 0, []), (.goto 4, 2, 0, 0, [])]),
  (24, [], [3, 3], [(.iconst 0, 0, 0, 0, []), (.nop, 2, 0, 0, [])]),
  (25, [0], [3, 3], [(.ireturn, 4, 0, 0, [])])]
def P71 : List (Nat × List Nat × List Nat × List amI) := [(0, [], [2, 0, 0, 0], [(.aload_n 0, 0, 0, 0, []), (.getfield 9, 2, 0, 50, []), (.iload_n 1, 0, 0, 0, []), (.iaload, 0, 0, 0, []), (.iconst (-1), 0, 0, 0, []), (.if_icmp .eq 31, 1, 0, 0, []), (.aload_n 0, 0, 0, 0, []), (.getfield 9, 2, 0, 50, []), (.iload_n 1, 0, 0, 0, []), (.iaload, 0, 0, 0, []), (.iconst 5, 0, 0, 0, []), (.if_icmp .eq 21, 1, 0, 0, []), (.aload_n 0, 0, 0, 0, []), (.getfield 18, 2, 2, 52, []), (.iload_n 1, 0, 0, 0, []), (.iaload, 0, 0, 0, []), (.iload_n 2, 0, 0, 0, []), (.invokestatic 81, 7, 2, 84, []), (.iload_n 3, 0, 0, 0, []), (.if_icmp .eq 7, 1, 0, 0, []), (.iconst 1, 0, 0, 0, []), (.goto 4, 2, 0, 0, [])]),
  (38, [], [3, 3, 3, 3], [(.iconst 0, 0, 0, 0, []), (.nop, 2, 0, 0, [])]),
  (39, [0], [3, 3, 3, 3], [(.ireturn, 4, 0, 0, [])])]
def P72 : List (Nat × List Nat × List Nat × List amI) := [(0, [], [2, 0, 0, 3], [(.iload_n 1, 0, 0, 0, []), (.iload_n 2, 0, 0, 0, []), (.invokestatic 85, 11, 2, 85, []), (.istore_n 3, 0, 0, 0, []), (.iload_n 3, 0, 0, 0, []), (.aload_n 0, 0, 0, 0, []), (.getfield 33, 2, 11, 57, []), (.if_icmp .lt 15, 1, 0, 0, []), (.iload_n 3, 0, 0, 0, []), (.aload_n 0, 0, 0, 0, []), (.getfield 37, 2, 12, 58, []), (.if_icmp .gt 7, 1, 0, 0, []), (.iconst 1, 0, 0, 0, []), (.goto 4, 2, 0, 0, [])]),
  (26, [], [3, 3, 3, 3], [(.iconst 0, 0, 0, 0, []), (.nop, 2, 0, 0, [])]),
  (27, [0], [3, 3, 3, 3], [(.ireturn, 4, 0, 0, [])])]
def P73 : List (Nat × List Nat × List Nat × List amI) := [(0, [], [2, 0, 0], [(.aload_n 0, 0, 0, 0, []), (.iload_n 1, 0, 0, 0, []), (.invokevirtual 88, 70, 2, 86, []), (.ifCond .eq 34, 1, 0, 0, []), (.aload_n 0, 0, 0, 0, []), (.iload_n 2, 0, 0, 0, []), (.invokevirtual 88, 70, 2, 86, []), (.ifCond .eq 26, 1, 0, 0, []), (.aload_n 0, 0, 0, 0, []), (.aload_n 0, 0, 0, 0, []), (.getfield 18, 2, 2, 52, []), (.iload_n 1, 0, 0, 0, []), (.iaload, 0, 0, 0, []), (.aload_n 0, 0, 0, 0, []), (.getfield 18, 2, 2, 52, []), (.iload_n 2, 0, 0, 0, []), (.iaload, 0, 0, 0, []), (.invokevirtual 92, 72, 3, 87, []), (.ifCond .ne 7, 1, 0, 0, []), (.iconst 1, 0, 0, 0, []), (.goto 4, 2, 0, 0, [])]),
  (39, [], [3, 3, 3], [(.iconst 0, 0, 0, 0, []), (.nop, 2, 0, 0, [])]),
  (40, [0], [3, 3, 3], [(.ireturn, 4, 0, 0, [])])]
def P74 : List (Nat × List Nat × List Nat × List amI) := [(0, [], [2, 0, 0, 3, 3, 3], [(.iload_n 1, 0, 0, 0, []), (.iconst 4, 0, 0, 0, []), (.imul, 0, 0, 0, []), (.istore_n 3, 0, 0, 0, []), (.iconst 0, 0, 0, 0, []), (.istore 4, 0, 0, 0, []), (.nop, 1, 0, 0, [])]),
  (7, [], [2, 0, 0, 0, 0, 3], [(.iload 4, 0, 0, 0, []), (.aload_n 0, 0, 0, 0, []), (.getfield 24, 2, 4, 54, []), (.iload_n 1, 0, 0, 0, []), (.iaload, 0, 0, 0, []), (.if_icmp .ge 46, 3, 0, 0, []), (.aload_n 0, 0, 0, 0, []), (.getfield 21, 2, 3, 53, []), (.iload_n 3, 0, 0, 0, []), (.iload 4, 0, 0, 0, []), (.iadd, 0, 0, 0, []), (.iaload, 0, 0, 0, []), (.istore 5, 0, 0, 0, []), (.aload_n 0, 0, 0, 0, []), (.iload 5, 0, 0, 0, []), (.invokevirtual 88, 70, 2, 86, []), (.ifCond .eq 20, 2, 0, 0, []), (.aload_n 0, 0, 0, 0, []), (.iload_n 2, 0, 0, 0, []), (.aload_n 0, 0, 0, 0, []), (.getfield 18, 2, 2, 52, []), (.iload 5, 0, 0, 0, []), (.iaload, 0, 0, 0, []), (.invokevirtual 92, 72, 3, 87, []), (.ifCond .ne 5, 2, 0, 0, []), (.iconst 0, 0, 0, 0, []), (.ireturn, 4, 0, 0, [])]),
  (55, [], [2, 0, 0, 0, 0, 3], [(.iinc 4 1, 0, 0, 0, []), (.goto (-51), 1, 0, 0, [])]),
  (61, [], [3, 3, 3, 3, 3, 3], [(.iconst 1, 0, 0, 0, []), (.ireturn, 4, 0, 0, [])])]
def P75 : List (Nat × List Nat × List Nat × List amI) := [(0, [], [2, 0, 3, 3], [(.iconst 0, 0, 0, 0, []), (.istore_n 2, 0, 0, 0, []), (.iconst 0, 0, 0, 0, []), (.istore_n 3, 0, 0, 0, []), (.nop, 1, 0, 0, [])]),
  (4, [], [2, 0, 0, 0], [(.iload_n 3, 0, 0, 0, []), (.bipush 81, 0, 0, 0, []), (.if_icmp .ge 24, 3, 0, 0, []), (.aload_n 0, 0, 0, 0, []), (.iload_n 1, 0, 0, 0, []), (.iload_n 3, 0, 0, 0, []), (.invokestatic 96, 6, 1, 88, []), (.invokevirtual 99, 74, 3, 89, []), (.ifCond .eq 6, 2, 0, 0, []), (.iinc 2 1, 0, 0, 0, []), (.nop, 2, 0, 0, [])]),
  (25, [], [2, 0, 0, 0], [(.iinc 3 1, 0, 0, 0, []), (.goto (-24), 1, 0, 0, [])]),
  (31, [], [3, 3, 0, 3], [(.iload_n 2, 0, 0, 0, []), (.ireturn, 0, 0, 0, [])])]
def P76 : List (Nat × List Nat × List Nat × List amI) := [(0, [], [2, 0, 0, 3, 3], [(.iload_n 2, 0, 0, 0, []), (.istore_n 3, 0, 0, 0, []), (.iconst 0, 0, 0, 0, []), (.istore 4, 0, 0, 0, []), (.nop, 1, 0, 0, [])]),
  (5, [], [2, 0, 3, 0, 0], [(.iload 4, 0, 0, 0, []), (.bipush 81, 0, 0, 0, []), (.if_icmp .ge 32, 4, 0, 0, []), (.aload_n 0, 0, 0, 0, []), (.iload_n 1, 0, 0, 0, []), (.iload 4, 0, 0, 0, []), (.invokestatic 96, 6, 1, 88, []), (.invokevirtual 99, 74, 3, 89, []), (.ifCond .eq 13, 3, 0, 0, []), (.iload_n 3, 0, 0, 0, []), (.ifCond .ne 6, 2, 0, 0, []), (.iload 4, 0, 0, 0, []), (.ireturn, 0, 0, 0, [])]),
  (32, [], [2, 0, 3, 0, 0], [(.iinc 3 (-1), 0, 0, 0, []), (.nop, 3, 0, 0, [])]),
  (35, [], [2, 0, 3, 0, 0], [(.iinc 4 1, 0, 0, 0, []), (.goto (-33), 1, 0, 0, [])]),
  (41, [], [3, 3, 3, 3, 3], [(.iconst (-1), 0, 0, 0, []), (.ireturn, 0, 0, 0, [])])]
def P77 : List (Nat × List Nat × List Nat × List amI) := [(0, [], [2, 3, 3], [(.iconst 0, 0, 0, 0, []), (.istore_n 1, 0, 0, 0, []), (.iconst 0, 0, 0, 0, []), (.istore_n 2, 0, 0, 0, []), (.nop, 1, 0, 0, [])]),
  (4, [], [2, 0, 0], [(.iload_n 2, 0, 0, 0, []), (.bipush 81, 0, 0, 0, []), (.if_icmp .ge 27, 3, 0, 0, []), (.aload_n 0, 0, 0, 0, []), (.iconst 0, 0, 0, 0, []), (.invokestatic 96, 6, 1, 88, []), (.iload_n 2, 0, 0, 0, []), (.invokestatic 96, 6, 1, 88, []), (.invokevirtual 92, 72, 3, 87, []), (.ifCond .eq 6, 2, 0, 0, []), (.iinc 1 1, 0, 0, 0, []), (.nop, 2, 0, 0, [])]),
  (28, [], [2, 0, 0], [(.iinc 2 1, 0, 0, 0, []), (.goto (-27), 1, 0, 0, [])]),
  (34, [], [3, 0, 3], [(.iload_n 1, 0, 0, 0, []), (.ireturn, 0, 0, 0, [])])]
def P78 : List (Nat × List Nat × List Nat × List amI) := [(0, [], [2, 0, 0, 3, 3, 3], [(.iload_n 1, 0, 0, 0, []), (.invokestatic 96, 6, 1, 88, []), (.istore_n 3, 0, 0, 0, []), (.iload_n 2, 0, 0, 0, []), (.istore 4, 0, 0, 0, []), (.iconst 0, 0, 0, 0, []), (.istore 5, 0, 0, 0, []), (.nop, 1, 0, 0, [])]),
  (11, [], [2, 3, 3, 0, 0, 0], [(.iload 5, 0, 0, 0, []), (.bipush 81, 0, 0, 0, []), (.if_icmp .ge 33, 4, 0, 0, []), (.aload_n 0, 0, 0, 0, []), (.iload_n 3, 0, 0, 0, []), (.iload 5, 0, 0, 0, []), (.invokestatic 96, 6, 1, 88, []), (.invokevirtual 92, 72, 3, 87, []), (.ifCond .eq 14, 3, 0, 0, []), (.iload 4, 0, 0, 0, []), (.ifCond .ne 6, 2, 0, 0, []), (.iload 5, 0, 0, 0, []), (.ireturn, 0, 0, 0, [])]),
  (39, [], [2, 3, 3, 0, 0, 0], [(.iinc 4 (-1), 0, 0, 0, []), (.nop, 3, 0, 0, [])]),
  (42, [], [2, 3, 3, 0, 0, 0], [(.iinc 5 1, 0, 0, 0, []), (.goto (-34), 1, 0, 0, [])]),
  (48, [], [3, 3, 3, 3, 3, 3], [(.iconst 0, 0, 0, 0, []), (.ireturn, 0, 0, 0, [])])]
def P79 : List (Nat × List Nat × List Nat × List amI) := [(0, [], [2, 3, 3, 3, 3], [(.iconst 0, 0, 0, 0, []), (.istore_n 1, 0, 0, 0, []), (.iconst 0, 0, 0, 0, []), (.istore_n 2, 0, 0, 0, []), (.nop, 1, 0, 0, [])]),
  (4, [], [2, 0, 0, 3, 3], [(.iload_n 2, 0, 0, 0, []), (.aload_n 0, 0, 0, 0, []), (.getfield 53, 2, 10, 62, []), (.if_icmp .ge 78, 5, 0, 0, []), (.iconst 0, 0, 0, 0, []), (.istore_n 3, 0, 0, 0, []), (.nop, 2, 0, 0, [])]),
  (14, [], [2, 0, 0, 0, 3], [(.iload_n 3, 0, 0, 0, []), (.aload_n 0, 0, 0, 0, []), (.getfield 24, 2, 4, 54, []), (.iload_n 2, 0, 0, 0, []), (.iaload, 0, 0, 0, []), (.if_icmp .ge 60, 4, 0, 0, []), (.aload_n 0, 0, 0, 0, []), (.getfield 21, 2, 3, 53, []), (.iload_n 2, 0, 0, 0, []), (.iconst 4, 0, 0, 0, []), (.imul, 0, 0, 0, []), (.iload_n 3, 0, 0, 0, []), (.iadd, 0, 0, 0, []), (.iaload, 0, 0, 0, []), (.istore 4, 0, 0, 0, []), (.iload 4, 0, 0, 0, []), (.iload_n 2, 0, 0, 0, []), (.if_icmp .le 36, 3, 0, 0, []), (.iload_n 1, 0, 0, 0, []), (.sipush 128, 0, 0, 0, []), (.if_icmp .ge 29, 3, 0, 0, []), (.aload_n 0, 0, 0, 0, []), (.iload_n 2, 0, 0, 0, []), (.iload 4, 0, 0, 0, []), (.invokevirtual 102, 73, 3, 90, []), (.ifCond .eq 19, 3, 0, 0, []), (.aload_n 0, 0, 0, 0, []), (.getfield 27, 2, 5, 55, []), (.iload_n 1, 0, 0, 0, []), (.bipush 64, 0, 0, 0, []), (.iload_n 2, 0, 0, 0, []), (.imul, 0, 0, 0, []), (.iload 4, 0, 0, 0, []), (.iadd, 0, 0, 0, []), (.iastore, 0, 0, 0, []), (.iinc 1 1, 0, 0, 0, []), (.nop, 3, 0, 0, [])]),
  (75, [], [2, 0, 0, 0, 3], [(.iinc 3 1, 0, 0, 0, []), (.goto (-64), 2, 0, 0, [])]),
  (81, [], [2, 0, 0, 3, 3], [(.iinc 2 1, 0, 0, 0, []), (.goto (-80), 1, 0, 0, [])]),
  (87, [], [3, 0, 3, 3, 3], [(.iload_n 1, 0, 0, 0, []), (.ireturn, 0, 0, 0, [])])]
def P80 : List (Nat × List Nat × List Nat × List amI) := [(0, [], [2, 0, 3, 3], [(.iconst 0, 0, 0, 0, []), (.istore_n 2, 0, 0, 0, []), (.iconst 0, 0, 0, 0, []), (.istore_n 3, 0, 0, 0, []), (.nop, 1, 0, 0, [])]),
  (4, [], [2, 0, 0, 0], [(.iload_n 3, 0, 0, 0, []), (.aload_n 0, 0, 0, 0, []), (.getfield 24, 2, 4, 54, []), (.iload_n 1, 0, 0, 0, []), (.iaload, 0, 0, 0, []), (.if_icmp .ge 30, 3, 0, 0, []), (.aload_n 0, 0, 0, 0, []), (.iload_n 1, 0, 0, 0, []), (.aload_n 0, 0, 0, 0, []), (.getfield 21, 2, 3, 53, []), (.iload_n 1, 0, 0, 0, []), (.iconst 4, 0, 0, 0, []), (.imul, 0, 0, 0, []), (.iload_n 3, 0, 0, 0, []), (.iadd, 0, 0, 0, []), (.iaload, 0, 0, 0, []), (.invokevirtual 102, 73, 3, 90, []), (.ifCond .eq 6, 2, 0, 0, []), (.iinc 2 1, 0, 0, 0, []), (.nop, 2, 0, 0, [])]),
  (35, [], [2, 0, 0, 0], [(.iinc 3 1, 0, 0, 0, []), (.goto (-34), 1, 0, 0, [])]),
  (41, [], [3, 3, 0, 3], [(.iload_n 2, 0, 0, 0, []), (.ireturn, 0, 0, 0, [])])]
def P81 : List (Nat × List Nat × List Nat × List amI) := [(0, [], [2, 0, 0, 0, 0], [(.aload_n 0, 0, 0, 0, []), (.iload_n 1, 0, 0, 0, []), (.iload_n 2, 0, 0, 0, []), (.iload_n 3, 0, 0, 0, []), (.invokevirtual 105, 71, 4, 91, []), (.ifCond .eq 41, 2, 0, 0, []), (.iload 4, 0, 0, 0, []), (.ifCond .eq 13, 1, 0, 0, []), (.aload_n 0, 0, 0, 0, []), (.iload_n 1, 0, 0, 0, []), (.invokevirtual 109, 80, 2, 92, []), (.iload 4, 0, 0, 0, []), (.if_icmp .ne 26, 2, 0, 0, []), (.nop, 1, 0, 0, [])]),
  (25, [], [2, 0, 0, 0, 3], [(.aload_n 0, 0, 0, 0, []), (.iload_n 1, 0, 0, 0, []), (.aload_n 0, 0, 0, 0, []), (.getfield 18, 2, 2, 52, []), (.iload_n 1, 0, 0, 0, []), (.iaload, 0, 0, 0, []), (.iload_n 2, 0, 0, 0, []), (.iload_n 3, 0, 0, 0, []), (.invokestatic 112, 8, 3, 93, []), (.invokevirtual 99, 74, 3, 89, []), (.ifCond .eq 7, 2, 0, 0, []), (.iconst 1, 0, 0, 0, []), (.goto 4, 3, 0, 0, [])]),
  (48, [], [3, 3, 3, 3, 3], [(.iconst 0, 0, 0, 0, []), (.nop, 3, 0, 0, [])]),
  (49, [0], [3, 3, 3, 3, 3], [(.ireturn, 4, 0, 0, [])])]
def P82 : List (Nat × List Nat × List Nat × List amI) := [(0, [], [2, 0, 0, 3, 3], [(.iconst 0, 0, 0, 0, []), (.istore_n 3, 0, 0, 0, []), (.iconst 0, 0, 0, 0, []), (.istore 4, 0, 0, 0, []), (.nop, 1, 0, 0, [])]),
  (5, [], [2, 0, 0, 0, 0], [(.iload 4, 0, 0, 0, []), (.aload_n 0, 0, 0, 0, []), (.getfield 53, 2, 10, 62, []), (.if_icmp .ge 55, 3, 0, 0, []), (.aload_n 0, 0, 0, 0, []), (.iload 4, 0, 0, 0, []), (.invokevirtual 88, 70, 2, 86, []), (.ifCond .eq 40, 2, 0, 0, []), (.aload_n 0, 0, 0, 0, []), (.getfield 18, 2, 2, 52, []), (.iload 4, 0, 0, 0, []), (.iaload, 0, 0, 0, []), (.iload_n 1, 0, 0, 0, []), (.invokestatic 81, 7, 2, 84, []), (.iload_n 2, 0, 0, 0, []), (.if_icmp .ne 25, 2, 0, 0, []), (.aload_n 0, 0, 0, 0, []), (.getfield 18, 2, 2, 52, []), (.iload 4, 0, 0, 0, []), (.aload_n 0, 0, 0, 0, []), (.getfield 18, 2, 2, 52, []), (.iload 4, 0, 0, 0, []), (.iaload, 0, 0, 0, []), (.iload_n 1, 0, 0, 0, []), (.iconst 3, 0, 0, 0, []), (.invokestatic 112, 8, 3, 93, []), (.iastore, 0, 0, 0, []), (.iinc 3 1, 0, 0, 0, []), (.nop, 2, 0, 0, [])]),
  (60, [], [2, 0, 0, 0, 0], [(.iinc 4 1, 0, 0, 0, []), (.goto (-58), 1, 0, 0, [])]),
  (66, [], [3, 3, 3, 0, 3], [(.iload_n 3, 0, 0, 0, []), (.ireturn, 0, 0, 0, [])])]
def P83 : List (Nat × List Nat × List Nat × List amI) := [(0, [], [2, 0, 0, 3], [(.aload_n 0, 0, 0, 0, []), (.getfield 18, 2, 2, 52, []), (.iconst 0, 0, 0, 0, []), (.aload_n 0, 0, 0, 0, []), (.getfield 30, 2, 6, 56, []), (.iconst 0, 0, 0, 0, []), (.bipush 64, 0, 0, 0, []), (.invokestatic 66, 9999, 0, 81, []), (.aload_n 0, 0, 0, 0, []), (.iload_n 1, 0, 0, 0, []), (.iload_n 2, 0, 0, 0, []), (.invokevirtual 116, 82, 3, 94, []), (.pop, 0, 0, 0, []), (.aload_n 0, 0, 0, 0, []), (.invokevirtual 119, 79, 1, 95, []), (.istore_n 3, 0, 0, 0, []), (.aload_n 0, 0, 0, 0, []), (.getfield 30, 2, 6, 56, []), (.iconst 0, 0, 0, 0, []), (.aload_n 0, 0, 0, 0, []), (.getfield 18, 2, 2, 52, []), (.iconst 0, 0, 0, 0, []), (.bipush 64, 0, 0, 0, []), (.invokestatic 66, 9999, 0, 81, []), (.iload_n 3, 0, 0, 0, []), (.ireturn, 0, 0, 0, [])])]
def P84 : List (Nat × List Nat × List Nat × List amI) := [(0, [], [2], [(.aload_n 0, 0, 0, 0, []), (.invokespecial 3, 9999, 0, 96, []), (.aload_n 0, 0, 0, 0, []), (.bipush 40, 0, 0, 0, []), (.newarray .int, 20, 0, 0, []), (.putfield 11, 9, 0, 63, []), (.return_, 0, 0, 0, [])])]
def P85 : List (Nat × List Nat × List Nat × List amI) := [(0, [], [0, 0, 3, 3], [(.iload_n 0, 0, 0, 0, []), (.istore_n 2, 0, 0, 0, []), (.iconst 0, 0, 0, 0, []), (.istore_n 3, 0, 0, 0, []), (.nop, 1, 0, 0, [])]),
  (4, [], [3, 0, 0, 0], [(.iload_n 3, 0, 0, 0, []), (.bipush 7, 0, 0, 0, []), (.if_icmp .ge 26, 3, 0, 0, []), (.iload_n 2, 0, 0, 0, []), (.ifCond .lt 22, 3, 0, 0, []), (.iload_n 2, 0, 0, 0, []), (.iload_n 1, 0, 0, 0, []), (.if_icmp .ne 5, 2, 0, 0, []), (.iconst 1, 0, 0, 0, []), (.ireturn, 4, 0, 0, [])]),
  (21, [], [3, 0, 0, 0], [(.getstatic 15, 300, 0, 64, []), (.iload_n 2, 0, 0, 0, []), (.iaload, 0, 0, 0, []), (.istore_n 2, 0, 0, 0, []), (.iinc 3 1, 0, 0, 0, []), (.goto (-26), 1, 0, 0, [])]),
  (33, [], [3, 3, 3, 3], [(.iconst 0, 0, 0, 0, []), (.ireturn, 4, 0, 0, [])])]
def P86 : List (Nat × List Nat × List Nat × List amI) := [(0, [], [2, 2, 0, 0, 0], [(.aload_n 0, 0, 0, 0, []), (.aload_n 1, 0, 0, 0, []), (.getfield 18, 2, 0, 65, []), (.iload_n 2, 0, 0, 0, []), (.iaload, 0, 0, 0, []), (.putfield 23, 9, 2, 66, []), (.aload_n 0, 0, 0, 0, []), (.iload_n 2, 0, 0, 0, []), (.putfield 27, 9, 3, 67, []), (.aload_n 0, 0, 0, 0, []), (.aload_n 1, 0, 0, 0, []), (.getfield 30, 2, 1, 68, []), (.iload_n 2, 0, 0, 0, []), (.iaload, 0, 0, 0, []), (.putfield 33, 9, 4, 69, []), (.aload_n 0, 0, 0, 0, []), (.iconst 0, 0, 0, 0, []), (.putfield 36, 9, 1, 70, []), (.aload_n 0, 0, 0, 0, []), (.aload_n 0, 0, 0, 0, []), (.getfield 23, 9, 2, 66, []), (.iload_n 3, 0, 0, 0, []), (.iload 4, 0, 0, 0, []), (.iconst 0, 0, 0, 0, []), (.invokevirtual 39, 89, 5, 97, []), (.ireturn, 0, 0, 0, [])])]
def P87 : List (Nat × List Nat × List Nat × List amI) := [(0, [], [0, 0, 3, 3], [(.iload_n 0, 0, 0, 0, []), (.istore_n 2, 0, 0, 0, []), (.iconst 0, 0, 0, 0, []), (.istore_n 3, 0, 0, 0, []), (.nop, 1, 0, 0, [])]),
  (4, [], [3, 0, 0, 0], [(.iload_n 3, 0, 0, 0, []), (.bipush 7, 0, 0, 0, []), (.if_icmp .ge 31, 2, 0, 0, []), (.iload_n 2, 0, 0, 0, []), (.ifCond .le 27, 2, 0, 0, []), (.getstatic 43, 301, 0, 71, []), (.iconst 4, 0, 0, 0, []), (.iload_n 2, 0, 0, 0, []), (.imul, 0, 0, 0, []), (.iload_n 1, 0, 0, 0, []), (.iadd, 0, 0, 0, []), (.iaload, 0, 0, 0, []), (.ifCond .ne 15, 2, 0, 0, []), (.getstatic 15, 300, 0, 64, []), (.iload_n 2, 0, 0, 0, []), (.iaload, 0, 0, 0, []), (.istore_n 2, 0, 0, 0, []), (.iinc 3 1, 0, 0, 0, []), (.goto (-31), 1, 0, 0, [])]),
  (38, [], [3, 3, 0, 3], [(.iload_n 2, 0, 0, 0, []), (.iconst 0, 0, 0, 0, []), (.invokestatic 46, 9998, 0, 98, []), (.ireturn, 0, 0, 0, [])])]
def P88 : List (Nat × List Nat × List Nat × List amI) := [(0, [], [2, 0], [(.aload_n 0, 0, 0, 0, []), (.getfield 36, 9, 1, 70, []), (.bipush 40, 0, 0, 0, []), (.if_icmp .ge 23, 1, 0, 0, []), (.aload_n 0, 0, 0, 0, []), (.getfield 11, 9, 0, 63, []), (.aload_n 0, 0, 0, 0, []), (.getfield 36, 9, 1, 70, []), (.iload_n 1, 0, 0, 0, []), (.iastore, 0, 0, 0, []), (.aload_n 0, 0, 0, 0, []), (.dup, 0, 0, 0, []), (.getfield 36, 9, 1, 70, []), (.iconst 1, 0, 0, 0, []), (.iadd, 0, 0, 0, []), (.putfield 36, 9, 1, 70, []), (.nop, 1, 0, 0, [])]),
  (29, [], [3, 3], [(.return_, 0, 0, 0, [])])]
def P89 : List (Nat × List Nat × List Nat × List amI) := [(0, [], [2, 0, 0, 0, 0, 3, 3, 3], [(.iload 4, 0, 0, 0, []), (.bipush 40, 0, 0, 0, []), (.if_icmp .lt 5, 1, 0, 0, []), (.iconst 0, 0, 0, 0, []), (.ireturn, 0, 0, 0, [])]),
  (9, [], [2, 0, 0, 0, 0, 3, 3, 3], [(.iload_n 1, 0, 0, 0, []), (.iload_n 2, 0, 0, 0, []), (.invokestatic 52, 87, 2, 99, []), (.istore 5, 0, 0, 0, []), (.getstatic 43, 301, 0, 71, []), (.iconst 4, 0, 0, 0, []), (.iload 5, 0, 0, 0, []), (.imul, 0, 0, 0, []), (.iload_n 2, 0, 0, 0, []), (.iadd, 0, 0, 0, []), (.iaload, 0, 0, 0, []), (.istore 6, 0, 0, 0, []), (.iload 4, 0, 0, 0, []), (.iconst 1, 0, 0, 0, []), (.iadd, 0, 0, 0, []), (.istore 7, 0, 0, 0, []), (.aload_n 0, 0, 0, 0, []), (.iload 6, 0, 0, 0, []), (.invokevirtual 55, 88, 2, 100, []), (.iload 6, 0, 0, 0, []), (.lookupswitch 271 #[(10, 90), (11, 97), (12, 112), (13, 119), (20, 145), (30, 173), (40, 190), (50, 206), (60, 223), (70, 251)], 12, 0, 0, [(10, 2), (11, 3), (12, 4), (13, 5), (20, 6), (30, 7), (40, 8), (50, 9), (60, 10), (70, 11)])]),
  (132, [], [2, 3, 3, 0, 3, 3, 3, 3], [(.iload_n 3, 0, 0, 0, []), (.aload_n 0, 0, 0, 0, []), (.getfield 27, 9, 3, 67, []), (.iadd, 0, 0, 0, []), (.ireturn, 0, 0, 0, [])]),
  (139, [], [2, 3, 3, 0, 3, 3, 3, 0], [(.aload_n 0, 0, 0, 0, []), (.aload_n 0, 0, 0, 0, []), (.getfield 23, 9, 2, 66, []), (.iconst 0, 0, 0, 0, []), (.iload_n 3, 0, 0, 0, []), (.iload 7, 0, 0, 0, []), (.invokevirtual 39, 89, 5, 97, []), (.iconst 2, 0, 0, 0, []), (.imul, 0, 0, 0, []), (.ireturn, 0, 0, 0, [])]),
  (154, [], [2, 3, 3, 0, 3, 3, 3, 3], [(.iload_n 3, 0, 0, 0, []), (.aload_n 0, 0, 0, 0, []), (.getfield 33, 9, 4, 69, []), (.isub, 0, 0, 0, []), (.ireturn, 0, 0, 0, [])]),
  (161, [], [2, 3, 3, 0, 3, 3, 3, 0], [(.aload_n 0, 0, 0, 0, []), (.aload_n 0, 0, 0, 0, []), (.getfield 23, 9, 2, 66, []), (.iconst 1, 0, 0, 0, []), (.iload_n 3, 0, 0, 0, []), (.iload 7, 0, 0, 0, []), (.invokevirtual 39, 89, 5, 97, []), (.aload_n 0, 0, 0, 0, []), (.aload_n 0, 0, 0, 0, []), (.getfield 23, 9, 2, 66, []), (.iconst 2, 0, 0, 0, []), (.iload_n 3, 0, 0, 0, []), (.iload 7, 0, 0, 0, []), (.invokevirtual 39, 89, 5, 97, []), (.ixor, 0, 0, 0, []), (.ireturn, 0, 0, 0, [])]),
  (187, [], [2, 3, 3, 0, 3, 0, 3, 0], [(.aload_n 0, 0, 0, 0, []), (.getstatic 15, 300, 0, 64, []), (.iload 5, 0, 0, 0, []), (.iaload, 0, 0, 0, []), (.iconst 1, 0, 0, 0, []), (.iload_n 3, 0, 0, 0, []), (.iload 7, 0, 0, 0, []), (.invokevirtual 39, 89, 5, 97, []), (.aload_n 0, 0, 0, 0, []), (.aload_n 0, 0, 0, 0, []), (.getfield 23, 9, 2, 66, []), (.iconst 2, 0, 0, 0, []), (.iconst 1, 0, 0, 0, []), (.iload 7, 0, 0, 0, []), (.invokevirtual 39, 89, 5, 97, []), (.isub, 0, 0, 0, []), (.ireturn, 0, 0, 0, [])]),
  (215, [], [2, 3, 3, 0, 3, 0, 3, 0], [(.aload_n 0, 0, 0, 0, []), (.getstatic 15, 300, 0, 64, []), (.iload 5, 0, 0, 0, []), (.iaload, 0, 0, 0, []), (.iconst 0, 0, 0, 0, []), (.iload_n 3, 0, 0, 0, []), (.iload 7, 0, 0, 0, []), (.invokevirtual 39, 89, 5, 97, []), (.iconst 3, 0, 0, 0, []), (.imul, 0, 0, 0, []), (.ireturn, 0, 0, 0, [])]),
  (232, [], [2, 3, 3, 0, 3, 0, 3, 0], [(.aload_n 0, 0, 0, 0, []), (.getstatic 15, 300, 0, 64, []), (.iload 5, 0, 0, 0, []), (.iaload, 0, 0, 0, []), (.iconst 2, 0, 0, 0, []), (.iload_n 3, 0, 0, 0, []), (.iload 7, 0, 0, 0, []), (.invokevirtual 39, 89, 5, 97, []), (.ineg, 0, 0, 0, []), (.ireturn, 0, 0, 0, [])]),
  (248, [], [2, 3, 3, 0, 3, 0, 3, 0], [(.aload_n 0, 0, 0, 0, []), (.getstatic 15, 300, 0, 64, []), (.iload 5, 0, 0, 0, []), (.iaload, 0, 0, 0, []), (.iconst 1, 0, 0, 0, []), (.iload_n 3, 0, 0, 0, []), (.iconst 1, 0, 0, 0, []), (.iadd, 0, 0, 0, []), (.iload 7, 0, 0, 0, []), (.invokevirtual 39, 89, 5, 97, []), (.ireturn, 0, 0, 0, [])]),
  (265, [], [2, 3, 3, 0, 3, 0, 3, 0], [(.aload_n 0, 0, 0, 0, []), (.getstatic 15, 300, 0, 64, []), (.iload 5, 0, 0, 0, []), (.iaload, 0, 0, 0, []), (.iconst 3, 0, 0, 0, []), (.iload_n 3, 0, 0, 0, []), (.iload 7, 0, 0, 0, []), (.invokevirtual 39, 89, 5, 97, []), (.aload_n 0, 0, 0, 0, []), (.aload_n 0, 0, 0, 0, []), (.getfield 23, 9, 2, 66, []), (.iconst 0, 0, 0, 0, []), (.iconst 2, 0, 0, 0, []), (.iload 7, 0, 0, 0, []), (.invokevirtual 39, 89, 5, 97, []), (.isub, 0, 0, 0, []), (.ireturn, 0, 0, 0, [])]),
  (293, [], [2, 3, 3, 0, 3, 0, 3, 0], [(.aload_n 0, 0, 0, 0, []), (.getstatic 15, 300, 0, 64, []), (.iload 5, 0, 0, 0, []), (.iaload, 0, 0, 0, []), (.iconst 2, 0, 0, 0, []), (.iload_n 3, 0, 0, 0, []), (.iload 7, 0, 0, 0, []), (.invokevirtual 39, 89, 5, 97, []), (.aload_n 0, 0, 0, 0, []), (.getfield 27, 9, 3, 67, []), (.ixor, 0, 0, 0, []), (.ireturn, 0, 0, 0, [])]),
  (313, [], [2, 3, 3, 0, 3, 0, 3, 0], [(.aload_n 0, 0, 0, 0, []), (.aload_n 0, 0, 0, 0, []), (.getfield 23, 9, 2, 66, []), (.iconst 1, 0, 0, 0, []), (.iload_n 3, 0, 0, 0, []), (.iload 7, 0, 0, 0, []), (.invokevirtual 39, 89, 5, 97, []), (.aload_n 0, 0, 0, 0, []), (.getstatic 15, 300, 0, 64, []), (.iload 5, 0, 0, 0, []), (.iaload, 0, 0, 0, []), (.iconst 3, 0, 0, 0, []), (.iload_n 3, 0, 0, 0, []), (.iload 7, 0, 0, 0, []), (.invokevirtual 39, 89, 5, 97, []), (.isub, 0, 0, 0, []), (.ireturn, 0, 0, 0, [])])]
def P90 : List (Nat × List Nat × List Nat × List amI) := [(0, [], [2, 3], [(.aload_n 0, 0, 0, 0, []), (.invokespecial 3, 9999, 0, 101, []), (.aload_n 0, 0, 0, 0, []), (.bipush 81, 0, 0, 0, []), (.newarray .int, 20, 0, 0, []), (.putfield 9, 8, 0, 72, []), (.aload_n 0, 0, 0, 0, []), (.bipush 81, 0, 0, 0, []), (.newarray .long, 21, 0, 0, []), (.putfield 15, 8, 1, 73, []), (.aload_n 0, 0, 0, 0, []), (.bipush 81, 0, 0, 0, []), (.newarray .long, 21, 0, 0, []), (.putfield 19, 8, 2, 74, []), (.iconst 0, 0, 0, 0, []), (.istore_n 1, 0, 0, 0, []), (.nop, 1, 0, 0, [])]),
  (30, [], [2, 0], [(.iload_n 1, 0, 0, 0, []), (.bipush 81, 0, 0, 0, []), (.if_icmp .ge 19, 2, 0, 0, []), (.aload_n 0, 0, 0, 0, []), (.getfield 9, 8, 0, 72, []), (.iload_n 1, 0, 0, 0, []), (.iload_n 1, 0, 0, 0, []), (.invokestatic 22, 6, 1, 102, []), (.iastore, 0, 0, 0, []), (.iinc 1 1, 0, 0, 0, []), (.goto (-19), 1, 0, 0, [])]),
  (52, [], [3, 3], [(.return_, 0, 0, 0, [])])]
def P91 : List (Nat × List Nat × List Nat × List amI) := [(0, [], [2, 2, 0, 3], [(.iconst 0, 0, 0, 0, []), (.istore_n 3, 0, 0, 0, []), (.nop, 1, 0, 0, [])]),
  (2, [], [2, 2, 0, 0], [(.iload_n 3, 0, 0, 0, []), (.bipush 81, 0, 0, 0, []), (.if_icmp .ge 24, 4, 0, 0, []), (.aload_n 0, 0, 0, 0, []), (.getfield 15, 8, 1, 73, []), (.iload_n 3, 0, 0, 0, []), (.iload_n 3, 0, 0, 0, []), (.ifCond .ne 7, 2, 0, 0, []), (.lconst 1, 0, 0, 0, []), (.goto 4, 3, 0, 0, [])]),
  (21, [0, 2], [2, 2, 0, 0], [(.lconst 0, 0, 0, 0, []), (.nop, 3, 0, 0, [])]),
  (22, [1, 0, 2], [2, 2, 0, 0], [(.lastore, 0, 0, 0, []), (.iinc 3 1, 0, 0, 0, []), (.goto (-24), 1, 0, 0, [])]),
  (29, [], [2, 2, 0, 3], [(.iconst 0, 0, 0, 0, []), (.istore_n 3, 0, 0, 0, []), (.nop, 5, 0, 0, [])]),
  (31, [], [2, 2, 0, 0], [(.iload_n 3, 0, 0, 0, []), (.iload_n 2, 0, 0, 0, []), (.if_icmp .ge 16, 6, 0, 0, []), (.aload_n 0, 0, 0, 0, []), (.aload_n 1, 0, 0, 0, []), (.iconst (-1), 0, 0, 0, []), (.iconst (-1), 0, 0, 0, []), (.invokevirtual 28, 96, 4, 103, []), (.iinc 3 1, 0, 0, 0, []), (.goto (-15), 5, 0, 0, [])]),
  (49, [], [2, 3, 3, 3], [(.ldc2_w 32, 0, 0, 3, [(81, 0)]), (.aload_n 0, 0, 0, 0, []), (.getfield 15, 8, 1, 73, []), (.iconst 0, 0, 0, 0, []), (.laload, 0, 0, 0, []), (.lmul, 0, 0, 0, []), (.lreturn, 0, 0, 0, [])])]
def P92 : List (Nat × List Nat × List Nat × List amI) := [(0, [], [2, 2, 3, 3, 3, 3, 3, 3, 3], [(.aload_n 1, 0, 0, 0, []), (.getfield 34, 2, 9, 75, []), (.ifCond .le 15, 1, 0, 0, []), (.aload_n 1, 0, 0, 0, []), (.getfield 40, 2, 8, 76, []), (.iconst 3, 0, 0, 0, []), (.if_icmp .lt 7, 1, 0, 0, []), (.iconst 1, 0, 0, 0, []), (.goto 4, 2, 0, 0, [])]),
  (19, [], [2, 2, 3, 3, 3, 3, 3, 3, 3], [(.iconst 0, 0, 0, 0, []), (.nop, 2, 0, 0, [])]),
  (20, [0], [2, 2, 3, 3, 3, 3, 3, 3, 3], [(.istore_n 2, 0, 0, 0, []), (.iload_n 2, 0, 0, 0, []), (.ifCond .eq 10, 3, 0, 0, []), (.aload_n 1, 0, 0, 0, []), (.invokestatic 43, 93, 1, 104, []), (.goto 4, 4, 0, 0, [])]),
  (32, [], [2, 2, 0, 3, 3, 3, 3, 3, 3], [(.iconst 0, 0, 0, 0, []), (.nop, 4, 0, 0, [])]),
  (33, [0], [2, 2, 0, 3, 3, 3, 3, 3, 3], [(.istore_n 3, 0, 0, 0, []), (.iload_n 3, 0, 0, 0, []), (.iconst (-1), 0, 0, 0, []), (.if_icmp .ne 13, 5, 0, 0, []), (.aload_n 0, 0, 0, 0, []), (.aload_n 1, 0, 0, 0, []), (.aload_n 1, 0, 0, 0, []), (.getfield 47, 2, 10, 77, []), (.invokevirtual 50, 91, 3, 105, []), (.lreturn, 0, 0, 0, [])]),
  (49, [], [2, 2, 0, 0, 3, 3, 3, 3, 3], [(.iload_n 3, 0, 0, 0, []), (.istore 4, 0, 0, 0, []), (.iconst 0, 0, 0, 0, []), (.istore 5, 0, 0, 0, []), (.nop, 6, 0, 0, [])]),
  (55, [], [2, 2, 0, 3, 0, 0, 3, 3, 3], [(.iload 5, 0, 0, 0, []), (.aload_n 1, 0, 0, 0, []), (.iload 4, 0, 0, 0, []), (.invokestatic 54, 95, 2, 106, []), (.if_icmp .ge 17, 7, 0, 0, []), (.aload_n 0, 0, 0, 0, []), (.getfield 15, 8, 1, 73, []), (.iload 5, 0, 0, 0, []), (.lconst 1, 0, 0, 0, []), (.lastore, 0, 0, 0, []), (.iinc 5 1, 0, 0, 0, []), (.goto (-22), 6, 0, 0, [])]),
  (80, [], [2, 2, 0, 3, 0, 3, 3, 3, 3], [(.iload_n 2, 0, 0, 0, []), (.ifCond .eq 10, 8, 0, 0, []), (.aload_n 1, 0, 0, 0, []), (.getfield 47, 2, 10, 77, []), (.goto 9, 9, 0, 0, [])]),
  (91, [], [2, 2, 3, 3, 0, 3, 3, 3, 3], [(.aload_n 1, 0, 0, 0, []), (.getfield 47, 2, 10, 77, []), (.iconst 1, 0, 0, 0, []), (.isub, 0, 0, 0, []), (.nop, 9, 0, 0, [])]),
  (97, [0], [2, 2, 3, 3, 0, 3, 3, 3, 3], [(.istore 5, 0, 0, 0, []), (.iconst 0, 0, 0, 0, []), (.istore 6, 0, 0, 0, []), (.nop, 10, 0, 0, [])]),
  (102, [], [2, 2, 3, 3, 0, 0, 0, 3, 3], [(.iload 6, 0, 0, 0, []), (.iload 5, 0, 0, 0, []), (.if_icmp .ge 43, 13, 0, 0, []), (.iload 4, 0, 0, 0, []), (.iconst 1, 0, 0, 0, []), (.iadd, 0, 0, 0, []), (.aload_n 1, 0, 0, 0, []), (.getfield 47, 2, 10, 77, []), (.if_icmp .ge 10, 11, 0, 0, []), (.iload 4, 0, 0, 0, []), (.iconst 1, 0, 0, 0, []), (.iadd, 0, 0, 0, []), (.goto 4, 12, 0, 0, [])]),
  (127, [], [2, 2, 3, 3, 0, 0, 0, 3, 3], [(.iconst 0, 0, 0, 0, []), (.nop, 12, 0, 0, [])]),
  (128, [0], [2, 2, 3, 3, 0, 0, 0, 3, 3], [(.istore 7, 0, 0, 0, []), (.aload_n 0, 0, 0, 0, []), (.aload_n 1, 0, 0, 0, []), (.iload 4, 0, 0, 0, []), (.iload 7, 0, 0, 0, []), (.invokevirtual 28, 96, 4, 103, []), (.iload 7, 0, 0, 0, []), (.istore 4, 0, 0, 0, []), (.iinc 6 1, 0, 0, 0, []), (.goto (-44), 10, 0, 0, [])]),
  (149, [], [2, 2, 3, 3, 0, 3, 3, 3, 3], [(.lconst 0, 0, 0, 0, []), (.lstore 6, 0, 0, 0, []), (.iconst 0, 0, 0, 0, []), (.istore 8, 0, 0, 0, []), (.nop, 14, 0, 0, [])]),
  (155, [], [2, 2, 3, 3, 0, 3, 1, 3, 0], [(.iload 8, 0, 0, 0, []), (.aload_n 1, 0, 0, 0, []), (.iload 4, 0, 0, 0, []), (.invokestatic 54, 95, 2, 106, []), (.if_icmp .ge 21, 15, 0, 0, []), (.lload 6, 0, 0, 0, []), (.aload_n 0, 0, 0, 0, []), (.getfield 15, 8, 1, 73, []), (.iload 8, 0, 0, 0, []), (.laload, 0, 0, 0, []), (.ladd, 0, 0, 0, []), (.lstore 6, 0, 0, 0, []), (.iinc 8 1, 0, 0, 0, []), (.goto (-26), 14, 0, 0, [])]),
  (184, [], [3, 3, 3, 3, 3, 3, 1, 3, 3], [(.lload 6, 0, 0, 0, []), (.lreturn, 0, 0, 0, [])])]
def P93 : List (Nat × List Nat × List Nat × List amI) := [(0, [], [2, 3], [(.iconst 0, 0, 0, 0, []), (.istore_n 1, 0, 0, 0, []), (.nop, 1, 0, 0, [])]),
  (2, [], [2, 0], [(.iload_n 1, 0, 0, 0, []), (.aload_n 0, 0, 0, 0, []), (.getfield 47, 2, 10, 77, []), (.if_icmp .ge 21, 3, 0, 0, []), (.aload_n 0, 0, 0, 0, []), (.getfield 58, 2, 0, 78, []), (.iload_n 1, 0, 0, 0, []), (.iaload, 0, 0, 0, []), (.iconst (-1), 0, 0, 0, []), (.if_icmp .eq 5, 2, 0, 0, []), (.iload_n 1, 0, 0, 0, []), (.ireturn, 0, 0, 0, [])]),
  (22, [], [2, 0], [(.iinc 1 1, 0, 0, 0, []), (.goto (-23), 1, 0, 0, [])]),
  (28, [], [3, 3], [(.iconst (-1), 0, 0, 0, []), (.ireturn, 0, 0, 0, [])])]
def P94 : List (Nat × List Nat × List Nat × List amI) := [(0, [], [2, 0], [(.iload_n 1, 0, 0, 0, []), (.iconst (-1), 0, 0, 0, []), (.if_icmp .eq 13, 1, 0, 0, []), (.aload_n 0, 0, 0, 0, []), (.getfield 58, 2, 0, 78, []), (.iload_n 1, 0, 0, 0, []), (.iaload, 0, 0, 0, []), (.iconst (-1), 0, 0, 0, []), (.if_icmp .ne 7, 2, 0, 0, []), (.nop, 1, 0, 0, [])]),
  (15, [], [3, 3], [(.iconst 1, 0, 0, 0, []), (.goto 4, 3, 0, 0, [])]),
  (19, [], [3, 3], [(.iconst 0, 0, 0, 0, []), (.nop, 3, 0, 0, [])]),
  (20, [0], [3, 3], [(.ireturn, 4, 0, 0, [])])]
def P95 : List (Nat × List Nat × List Nat × List amI) := [(0, [], [2, 0], [(.aload_n 0, 0, 0, 0, []), (.iload_n 1, 0, 0, 0, []), (.invokestatic 61, 94, 2, 107, []), (.ifCond .eq 8, 1, 0, 0, []), (.bipush 81, 0, 0, 0, []), (.goto 4, 2, 0, 0, [])]),
  (13, [], [3, 3], [(.iconst 1, 0, 0, 0, []), (.nop, 2, 0, 0, [])]),
  (14, [0], [3, 3], [(.ireturn, 0, 0, 0, [])])]
def P96 : List (Nat × List Nat × List Nat × List amI) := [(0, [], [2, 2, 0, 0, 3, 3], [(.aload_n 1, 0, 0, 0, []), (.iload_n 2, 0, 0, 0, []), (.invokestatic 61, 94, 2, 107, []), (.ifCond .ne 11, 1, 0, 0, []), (.aload_n 1, 0, 0, 0, []), (.iload_n 2, 0, 0, 0, []), (.invokevirtual 65, 70, 2, 108, []), (.ifCond .eq 23, 3, 0, 0, []), (.nop, 1, 0, 0, [])]),
  (16, [], [2, 2, 0, 0, 3, 3], [(.aload_n 1, 0, 0, 0, []), (.iload_n 3, 0, 0, 0, []), (.invokestatic 61, 94, 2, 107, []), (.ifCond .ne 11, 2, 0, 0, []), (.aload_n 1, 0, 0, 0, []), (.iload_n 3, 0, 0, 0, []), (.invokevirtual 65, 70, 2, 108, []), (.ifCond .eq 7, 3, 0, 0, []), (.nop, 2, 0, 0, [])]),
  (32, [], [2, 2, 0, 0, 3, 3], [(.iconst 1, 0, 0, 0, []), (.goto 4, 4, 0, 0, [])]),
  (36, [], [2, 2, 0, 0, 3, 3], [(.iconst 0, 0, 0, 0, []), (.nop, 4, 0, 0, [])]),
  (37, [0], [2, 2, 0, 0, 3, 3], [(.istore 4, 0, 0, 0, []), (.iconst 0, 0, 0, 0, []), (.istore 5, 0, 0, 0, []), (.nop, 5, 0, 0, [])]),
  (42, [], [2, 2, 0, 0, 0, 0], [(.iload 5, 0, 0, 0, []), (.aload_n 1, 0, 0, 0, []), (.iload_n 3, 0, 0, 0, []), (.invokestatic 54, 95, 2, 106, []), (.if_icmp .ge 48, 8, 0, 0, []), (.aload_n 0, 0, 0, 0, []), (.getfield 19, 8, 2, 74, []), (.iload 5, 0, 0, 0, []), (.aload_n 0, 0, 0, 0, []), (.aload_n 1, 0, 0, 0, []), (.iload_n 2, 0, 0, 0, []), (.aload_n 1, 0, 0, 0, []), (.iload_n 3, 0, 0, 0, []), (.invokestatic 61, 94, 2, 107, []), (.ifCond .eq 13, 6, 0, 0, []), (.aload_n 0, 0, 0, 0, []), (.getfield 9, 8, 0, 72, []), (.iload 5, 0, 0, 0, []), (.iaload, 0, 0, 0, []), (.goto 9, 7, 0, 0, [])]),
  (79, [0, 2, 2, 0, 2], [2, 2, 0, 0, 0, 0], [(.aload_n 1, 0, 0, 0, []), (.getfield 69, 2, 2, 79, []), (.iload_n 3, 0, 0, 0, []), (.iaload, 0, 0, 0, []), (.nop, 7, 0, 0, [])]),
  (85, [0, 0, 2, 2, 0, 2], [2, 2, 0, 0, 0, 0], [(.iload 4, 0, 0, 0, []), (.invokevirtual 70, 97, 5, 109, []), (.lastore, 0, 0, 0, []), (.iinc 5 1, 0, 0, 0, []), (.goto (-52), 5, 0, 0, [])]),
  (97, [], [2, 3, 3, 3, 3, 3], [(.aload_n 0, 0, 0, 0, []), (.getfield 15, 8, 1, 73, []), (.astore 5, 0, 0, 0, []), (.aload_n 0, 0, 0, 0, []), (.aload_n 0, 0, 0, 0, []), (.getfield 19, 8, 2, 74, []), (.putfield 15, 8, 1, 73, []), (.aload_n 0, 0, 0, 0, []), (.aload 5, 0, 0, 0, []), (.putfield 19, 8, 2, 74, []), (.return_, 0, 0, 0, [])])]
def P97 : List (Nat × List Nat × List Nat × List amI) := [(0, [], [2, 2, 0, 0, 0, 3, 3, 3, 3, 3], [(.aload_n 1, 0, 0, 0, []), (.iload_n 2, 0, 0, 0, []), (.invokestatic 61, 94, 2, 107, []), (.istore 5, 0, 0, 0, []), (.iload 5, 0, 0, 0, []), (.ifCond .eq 8, 1, 0, 0, []), (.bipush 81, 0, 0, 0, []), (.goto 4, 2, 0, 0, [])]),
  (17, [], [2, 2, 0, 0, 0, 0, 3, 3, 3, 3], [(.iconst 1, 0, 0, 0, []), (.nop, 2, 0, 0, [])]),
  (18, [0], [2, 2, 0, 0, 0, 0, 3, 3, 3, 3], [(.istore 6, 0, 0, 0, []), (.lconst 0, 0, 0, 0, []), (.lstore 7, 0, 0, 0, []), (.iconst 0, 0, 0, 0, []), (.istore 9, 0, 0, 0, []), (.nop, 3, 0, 0, [])]),
  (26, [], [2, 2, 0, 0, 0, 0, 0, 1, 3, 0], [(.iload 9, 0, 0, 0, []), (.iload 6, 0, 0, 0, []), (.if_icmp .ge 55, 8, 0, 0, []), (.iload 4, 0, 0, 0, []), (.ifCond .eq 32, 6, 0, 0, []), (.aload_n 1, 0, 0, 0, []), (.iload 5, 0, 0, 0, []), (.ifCond .eq 13, 4, 0, 0, []), (.aload_n 0, 0, 0, 0, []), (.getfield 9, 8, 0, 72, []), (.iload 9, 0, 0, 0, []), (.iaload, 0, 0, 0, []), (.goto 9, 5, 0, 0, [])]),
  (54, [2], [2, 2, 0, 0, 0, 0, 0, 1, 3, 0], [(.aload_n 1, 0, 0, 0, []), (.getfield 69, 2, 2, 79, []), (.iload_n 2, 0, 0, 0, []), (.iaload, 0, 0, 0, []), (.nop, 5, 0, 0, [])]),
  (60, [0, 2], [2, 2, 0, 0, 0, 0, 0, 1, 3, 0], [(.iload_n 3, 0, 0, 0, []), (.invokevirtual 74, 72, 3, 110, []), (.ifCond .eq 15, 7, 0, 0, []), (.nop, 6, 0, 0, [])]),
  (67, [], [2, 2, 0, 0, 0, 0, 0, 1, 3, 0], [(.lload 7, 0, 0, 0, []), (.aload_n 0, 0, 0, 0, []), (.getfield 15, 8, 1, 73, []), (.iload 9, 0, 0, 0, []), (.laload, 0, 0, 0, []), (.ladd, 0, 0, 0, []), (.lstore 7, 0, 0, 0, []), (.nop, 7, 0, 0, [])]),
  (79, [], [2, 2, 0, 0, 0, 0, 0, 1, 3, 0], [(.iinc 9 1, 0, 0, 0, []), (.goto (-56), 3, 0, 0, [])]),
  (85, [], [3, 3, 3, 3, 3, 3, 3, 1, 3, 3], [(.lload 7, 0, 0, 0, []), (.lreturn, 0, 0, 0, [])])]
def P98 : List (Nat × List Nat × List Nat × List amI) := [(0, [], [2, 3], [(.aload_n 0, 0, 0, 0, []), (.invokespecial 1, 9999, 0, 111, []), (.aload_n 0, 0, 0, 0, []), (.new 7, 1, 0, 4, []), (.dup, 0, 0, 0, []), (.invokespecial 9, 39, 1, 112, []), (.putfield 10, 0, 0, 80, []), (.aload_n 0, 0, 0, 0, []), (.new 7, 1, 0, 4, []), (.dup, 0, 0, 0, []), (.invokespecial 9, 39, 1, 112, []), (.putfield 16, 0, 1, 81, []), (.aload_n 0, 0, 0, 0, []), (.new 19, 4, 0, 5, []), (.dup, 0, 0, 0, []), (.invokespecial 21, 23, 1, 113, []), (.putfield 22, 0, 2, 82, []), (.aload_n 0, 0, 0, 0, []), (.new 26, 5, 0, 6, []), (.dup, 0, 0, 0, []), (.invokespecial 28, 12, 1, 114, []), (.putfield 29, 0, 3, 83, []), (.aload_n 0, 0, 0, 0, []), (.new 33, 6, 0, 7, []), (.dup, 0, 0, 0, []), (.invokespecial 35, 49, 1, 115, []), (.putfield 36, 0, 4, 84, []), (.aload_n 0, 0, 0, 0, []), (.new 40, 7, 0, 8, []), (.dup, 0, 0, 0, []), (.invokespecial 42, 0, 1, 116, []), (.putfield 43, 0, 5, 85, []), (.aload_n 0, 0, 0, 0, []), (.new 47, 8, 0, 9, []), (.dup, 0, 0, 0, []), (.invokespecial 49, 90, 1, 117, []), (.putfield 50, 0, 6, 86, []), (.aload_n 0, 0, 0, 0, []), (.new 54, 9, 0, 10, []), (.dup, 0, 0, 0, []), (.invokespecial 56, 84, 1, 118, []), (.putfield 57, 0, 7, 87, []), (.aload_n 0, 0, 0, 0, []), (.iconst 4, 0, 0, 0, []), (.anewarray 61, 24, 0, 11, []), (.putfield 63, 0, 8, 88, []), (.aload_n 0, 0, 0, 0, []), (.bipush 6, 0, 0, 0, []), (.newarray .int, 20, 0, 0, []), (.putfield 67, 0, 9, 89, []), (.iconst 0, 0, 0, 0, []), (.istore_n 1, 0, 0, 0, []), (.nop, 1, 0, 0, [])]),
  (110, [], [2, 0], [(.iload_n 1, 0, 0, 0, []), (.iconst 4, 0, 0, 0, []), (.if_icmp .ge 22, 2, 0, 0, []), (.aload_n 0, 0, 0, 0, []), (.getfield 63, 0, 8, 88, []), (.iload_n 1, 0, 0, 0, []), (.new 61, 10, 0, 11, []), (.dup, 0, 0, 0, []), (.invokespecial 71, 34, 1, 119, []), (.aastore, 24, 0, 0, []), (.iinc 1 1, 0, 0, 0, []), (.goto (-21), 1, 0, 0, [])]),
  (134, [], [3, 3], [(.return_, 0, 0, 0, [])])]
def P99 : List (Nat × List Nat × List Nat × List amI) := [(0, [], [2, 0, 0, 0], [(.iload_n 1, 0, 0, 0, []), (.iconst 1, 0, 0, 0, []), (.bipush 8, 0, 0, 0, []), (.invokestatic 72, 142, 3, 120, []), (.ifCond .eq 22, 1, 0, 0, []), (.iload_n 2, 0, 0, 0, []), (.iconst 1, 0, 0, 0, []), (.bipush 8, 0, 0, 0, []), (.invokestatic 72, 142, 3, 120, []), (.ifCond .eq 12, 1, 0, 0, []), (.iload_n 3, 0, 0, 0, []), (.iconst 0, 0, 0, 0, []), (.iconst 2, 0, 0, 0, []), (.invokestatic 72, 142, 3, 120, []), (.ifCond .ne 9, 2, 0, 0, []), (.nop, 1, 0, 0, [])]),
  (29, [], [2, 3, 3, 3], [(.aload_n 0, 0, 0, 0, []), (.iconst 1, 0, 0, 0, []), (.invokevirtual 76, 141, 2, 121, []), (.ireturn, 0, 0, 0, [])]),
  (35, [], [2, 0, 0, 0], [(.aload_n 0, 0, 0, 0, []), (.getfield 10, 0, 0, 80, []), (.getfield 80, 1, 0, 90, []), (.iload_n 1, 0, 0, 0, []), (.iload_n 2, 0, 0, 0, []), (.iload_n 3, 0, 0, 0, []), (.invokevirtual 84, 62, 4, 122, []), (.aload_n 0, 0, 0, 0, []), (.getfield 10, 0, 0, 80, []), (.getfield 80, 1, 0, 90, []), (.getfield 90, 2, 10, 91, []), (.ireturn, 0, 0, 0, [])])]
def P100 : List (Nat × List Nat × List Nat × List amI) := [(0, [], [2, 0, 0, 3, 3], [(.iload_n 1, 0, 0, 0, []), (.iconst 0, 0, 0, 0, []), (.iconst 1, 0, 0, 0, []), (.invokestatic 72, 142, 3, 120, []), (.ifCond .eq 12, 1, 0, 0, []), (.iload_n 2, 0, 0, 0, []), (.iconst 0, 0, 0, 0, []), (.iconst 4, 0, 0, 0, []), (.invokestatic 72, 142, 3, 120, []), (.ifCond .ne 9, 2, 0, 0, []), (.nop, 1, 0, 0, [])]),
  (18, [], [2, 3, 3, 3, 3], [(.aload_n 0, 0, 0, 0, []), (.iconst 1, 0, 0, 0, []), (.invokevirtual 76, 141, 2, 121, []), (.ireturn, 0, 0, 0, [])]),
  (24, [], [2, 0, 0, 3, 3], [(.aload_n 0, 0, 0, 0, []), (.getfield 10, 0, 0, 80, []), (.getfield 80, 1, 0, 90, []), (.astore_n 3, 0, 0, 0, []), (.iload_n 1, 0, 0, 0, []), (.ifCond .ne 14, 3, 0, 0, []), (.iload_n 2, 0, 0, 0, []), (.aload_n 3, 0, 0, 0, []), (.getfield 94, 2, 12, 92, []), (.if_icmp .le 20, 5, 0, 0, []), (.goto 11, 4, 0, 0, [])]),
  (47, [], [2, 0, 0, 2, 3], [(.iload_n 2, 0, 0, 0, []), (.aload_n 3, 0, 0, 0, []), (.getfield 97, 2, 11, 93, []), (.if_icmp .ge 9, 5, 0, 0, []), (.nop, 4, 0, 0, [])]),
  (55, [], [2, 3, 3, 3, 3], [(.aload_n 0, 0, 0, 0, []), (.iconst 3, 0, 0, 0, []), (.invokevirtual 76, 141, 2, 121, []), (.ireturn, 0, 0, 0, [])]),
  (61, [], [3, 0, 0, 2, 3], [(.iload_n 1, 0, 0, 0, []), (.ifCond .ne 10, 6, 0, 0, []), (.aload_n 3, 0, 0, 0, []), (.getfield 97, 2, 11, 93, []), (.goto 7, 7, 0, 0, [])]),
  (72, [], [3, 0, 0, 2, 3], [(.aload_n 3, 0, 0, 0, []), (.getfield 94, 2, 12, 92, []), (.nop, 7, 0, 0, [])]),
  (76, [0], [3, 0, 0, 2, 3], [(.istore 4, 0, 0, 0, []), (.iload_n 1, 0, 0, 0, []), (.ifCond .ne 11, 8, 0, 0, []), (.aload_n 3, 0, 0, 0, []), (.iload_n 2, 0, 0, 0, []), (.putfield 97, 2, 11, 93, []), (.goto 8, 9, 0, 0, [])]),
  (90, [], [3, 3, 0, 2, 0], [(.aload_n 3, 0, 0, 0, []), (.iload_n 2, 0, 0, 0, []), (.putfield 94, 2, 12, 92, []), (.nop, 9, 0, 0, [])]),
  (95, [], [3, 3, 3, 3, 0], [(.iload 4, 0, 0, 0, []), (.ireturn, 0, 0, 0, [])])]
def P101 : List (Nat × List Nat × List Nat × List amI) := [(0, [], [2, 0, 0, 0, 3], [(.aload_n 0, 0, 0, 0, []), (.iload_n 1, 0, 0, 0, []), (.iload_n 2, 0, 0, 0, []), (.iload_n 3, 0, 0, 0, []), (.invokevirtual 100, 148, 4, 123, []), (.istore 4, 0, 0, 0, []), (.iload 4, 0, 0, 0, []), (.ifCond .eq 10, 1, 0, 0, []), (.aload_n 0, 0, 0, 0, []), (.iload 4, 0, 0, 0, []), (.invokevirtual 76, 141, 2, 121, []), (.ireturn, 0, 0, 0, [])]),
  (21, [], [2, 0, 0, 0, 3], [(.aload_n 0, 0, 0, 0, []), (.getfield 10, 0, 0, 80, []), (.getfield 80, 1, 0, 90, []), (.iload_n 1, 0, 0, 0, []), (.iload_n 2, 0, 0, 0, []), (.bipush 10, 0, 0, 0, []), (.idiv, 0, 0, 0, []), (.iload_n 2, 0, 0, 0, []), (.bipush 10, 0, 0, 0, []), (.irem, 0, 0, 0, []), (.iload_n 3, 0, 0, 0, []), (.invokestatic 104, 6, 1, 124, []), (.invokevirtual 109, 67, 5, 125, []), (.aload_n 0, 0, 0, 0, []), (.getfield 10, 0, 0, 80, []), (.getfield 80, 1, 0, 90, []), (.invokevirtual 113, 68, 1, 126, []), (.ireturn, 0, 0, 0, [])])]
def P102 : List (Nat × List Nat × List Nat × List amI) := [(0, [], [2, 0], [(.aload_n 0, 0, 0, 0, []), (.iload_n 1, 0, 0, 0, []), (.invokevirtual 117, 143, 2, 127, []), (.ifCond .ne 9, 1, 0, 0, []), (.aload_n 0, 0, 0, 0, []), (.iconst 1, 0, 0, 0, []), (.invokevirtual 76, 141, 2, 121, []), (.ireturn, 0, 0, 0, [])]),
  (14, [], [2, 0], [(.aload_n 0, 0, 0, 0, []), (.iload_n 1, 0, 0, 0, []), (.invokevirtual 121, 144, 2, 128, []), (.ifCond .eq 9, 2, 0, 0, []), (.aload_n 0, 0, 0, 0, []), (.iconst 2, 0, 0, 0, []), (.invokevirtual 76, 141, 2, 121, []), (.ireturn, 0, 0, 0, [])]),
  (28, [], [2, 0], [(.aload_n 0, 0, 0, 0, []), (.getfield 10, 0, 0, 80, []), (.getfield 80, 1, 0, 90, []), (.getfield 124, 2, 0, 94, []), (.iload_n 1, 0, 0, 0, []), (.iconst (-1), 0, 0, 0, []), (.iastore, 0, 0, 0, []), (.aload_n 0, 0, 0, 0, []), (.getfield 10, 0, 0, 80, []), (.getfield 80, 1, 0, 90, []), (.getfield 127, 2, 2, 95, []), (.iload_n 1, 0, 0, 0, []), (.iaload, 0, 0, 0, []), (.invokestatic 130, 9, 1, 129, []), (.ireturn, 0, 0, 0, [])])]
def P103 : List (Nat × List Nat × List Nat × List amI) := [(0, [], [2, 0, 0, 3], [(.aload_n 0, 0, 0, 0, []), (.iload_n 1, 0, 0, 0, []), (.invokevirtual 117, 143, 2, 127, []), (.ifCond .eq 13, 1, 0, 0, []), (.iload_n 2, 0, 0, 0, []), (.iconst 0, 0, 0, 0, []), (.bipush 11, 0, 0, 0, []), (.invokestatic 72, 142, 3, 120, []), (.ifCond .ne 9, 2, 0, 0, []), (.nop, 1, 0, 0, [])]),
  (18, [], [2, 3, 3, 3], [(.aload_n 0, 0, 0, 0, []), (.iconst 1, 0, 0, 0, []), (.invokevirtual 76, 141, 2, 121, []), (.ireturn, 0, 0, 0, [])]),
  (24, [], [2, 0, 0, 3], [(.iload_n 2, 0, 0, 0, []), (.ifCond .ne 17, 5, 0, 0, []), (.aload_n 0, 0, 0, 0, []), (.iload_n 1, 0, 0, 0, []), (.invokevirtual 121, 144, 2, 128, []), (.ifCond .eq 7, 3, 0, 0, []), (.iconst 0, 0, 0, 0, []), (.goto 4, 4, 0, 0, [])]),
  (40, [], [3, 3, 3, 3], [(.iconst 1, 0, 0, 0, []), (.nop, 4, 0, 0, [])]),
  (41, [0], [3, 3, 3, 3], [(.ireturn, 0, 0, 0, [])]),
  (42, [], [2, 0, 0, 3], [(.aload_n 0, 0, 0, 0, []), (.iload_n 1, 0, 0, 0, []), (.invokevirtual 121, 144, 2, 128, []), (.ifCond .eq 9, 6, 0, 0, []), (.aload_n 0, 0, 0, 0, []), (.iconst 2, 0, 0, 0, []), (.invokevirtual 76, 141, 2, 121, []), (.ireturn, 0, 0, 0, [])]),
  (56, [], [2, 0, 0, 3], [(.aload_n 0, 0, 0, 0, []), (.getfield 10, 0, 0, 80, []), (.getfield 80, 1, 0, 90, []), (.astore_n 3, 0, 0, 0, []), (.iload_n 2, 0, 0, 0, []), (.iconst 1, 0, 0, 0, []), (.if_icmp .ne 10, 7, 0, 0, []), (.aload_n 3, 0, 0, 0, []), (.getfield 124, 2, 0, 94, []), (.iload_n 1, 0, 0, 0, []), (.iaload, 0, 0, 0, []), (.ireturn, 0, 0, 0, [])]),
  (76, [], [2, 0, 0, 2], [(.iload_n 2, 0, 0, 0, []), (.iconst 2, 0, 0, 0, []), (.if_icmp .ne 10, 8, 0, 0, []), (.aload_n 3, 0, 0, 0, []), (.getfield 133, 2, 1, 96, []), (.iload_n 1, 0, 0, 0, []), (.iaload, 0, 0, 0, []), (.ireturn, 0, 0, 0, [])]),
  (88, [], [2, 0, 0, 2], [(.iload_n 2, 0, 0, 0, []), (.bipush 7, 0, 0, 0, []), (.if_icmp .ge 16, 9, 0, 0, []), (.aload_n 3, 0, 0, 0, []), (.getfield 127, 2, 2, 95, []), (.iload_n 1, 0, 0, 0, []), (.iaload, 0, 0, 0, []), (.iload_n 2, 0, 0, 0, []), (.iconst 3, 0, 0, 0, []), (.isub, 0, 0, 0, []), (.invokestatic 136, 7, 2, 130, []), (.ireturn, 0, 0, 0, [])]),
  (107, [], [2, 0, 0, 2], [(.iload_n 2, 0, 0, 0, []), (.bipush 11, 0, 0, 0, []), (.if_icmp .ge 18, 10, 0, 0, []), (.aload_n 0, 0, 0, 0, []), (.getfield 10, 0, 0, 80, []), (.iload_n 1, 0, 0, 0, []), (.iload_n 2, 0, 0, 0, []), (.bipush 7, 0, 0, 0, []), (.isub, 0, 0, 0, []), (.invokevirtual 140, 44, 3, 131, []), (.goto 16, 11, 0, 0, [])]),
  (128, [], [2, 0, 3, 2], [(.aload_n 0, 0, 0, 0, []), (.getfield 10, 0, 0, 80, []), (.aload_n 3, 0, 0, 0, []), (.getfield 127, 2, 2, 95, []), (.iload_n 1, 0, 0, 0, []), (.iaload, 0, 0, 0, []), (.invokevirtual 143, 45, 2, 132, []), (.nop, 11, 0, 0, [])]),
  (141, [0], [3, 3, 3, 3], [(.ireturn, 0, 0, 0, [])])]
def P104 : List (Nat × List Nat × List Nat × List amI) := [(0, [], [2, 0, 0, 3], [(.aload_n 0, 0, 0, 0, []), (.iload_n 1, 0, 0, 0, []), (.invokevirtual 117, 143, 2, 127, []), (.ifCond .eq 10, 1, 0, 0, []), (.iload_n 2, 0, 0, 0, []), (.invokestatic 146, 146, 1, 133, []), (.ifCond .ne 9, 2, 0, 0, []), (.nop, 1, 0, 0, [])]),
  (15, [], [2, 3, 3, 3], [(.aload_n 0, 0, 0, 0, []), (.iconst 1, 0, 0, 0, []), (.invokevirtual 76, 141, 2, 121, []), (.ireturn, 0, 0, 0, [])]),
  (21, [], [2, 0, 0, 3], [(.aload_n 0, 0, 0, 0, []), (.iload_n 1, 0, 0, 0, []), (.invokevirtual 121, 144, 2, 128, []), (.ifCond .eq 9, 3, 0, 0, []), (.aload_n 0, 0, 0, 0, []), (.iconst 2, 0, 0, 0, []), (.invokevirtual 76, 141, 2, 121, []), (.ireturn, 0, 0, 0, [])]),
  (35, [], [2, 0, 0, 3], [(.aload_n 0, 0, 0, 0, []), (.getfield 10, 0, 0, 80, []), (.getfield 80, 1, 0, 90, []), (.getfield 124, 2, 0, 94, []), (.iload_n 1, 0, 0, 0, []), (.iaload, 0, 0, 0, []), (.istore_n 3, 0, 0, 0, []), (.aload_n 0, 0, 0, 0, []), (.getfield 10, 0, 0, 80, []), (.getfield 80, 1, 0, 90, []), (.getfield 124, 2, 0, 94, []), (.iload_n 1, 0, 0, 0, []), (.iload_n 2, 0, 0, 0, []), (.bipush 10, 0, 0, 0, []), (.idiv, 0, 0, 0, []), (.iastore, 0, 0, 0, []), (.aload_n 0, 0, 0, 0, []), (.getfield 10, 0, 0, 80, []), (.getfield 80, 1, 0, 90, []), (.getfield 133, 2, 1, 96, []), (.iload_n 1, 0, 0, 0, []), (.iload_n 2, 0, 0, 0, []), (.bipush 10, 0, 0, 0, []), (.irem, 0, 0, 0, []), (.iastore, 0, 0, 0, []), (.iload_n 3, 0, 0, 0, []), (.ireturn, 0, 0, 0, [])])]
def P105 : List (Nat × List Nat × List Nat × List amI) := [(0, [], [2, 0, 0], [(.aload_n 0, 0, 0, 0, []), (.iload_n 1, 0, 0, 0, []), (.invokevirtual 117, 143, 2, 127, []), (.ifCond .eq 13, 1, 0, 0, []), (.iload_n 2, 0, 0, 0, []), (.iconst 0, 0, 0, 0, []), (.bipush 6, 0, 0, 0, []), (.invokestatic 72, 142, 3, 120, []), (.ifCond .ne 9, 2, 0, 0, []), (.nop, 1, 0, 0, [])]),
  (18, [], [2, 3, 3], [(.aload_n 0, 0, 0, 0, []), (.iconst 1, 0, 0, 0, []), (.invokevirtual 76, 141, 2, 121, []), (.ireturn, 0, 0, 0, [])]),
  (24, [], [2, 0, 0], [(.aload_n 0, 0, 0, 0, []), (.iload_n 1, 0, 0, 0, []), (.invokevirtual 121, 144, 2, 128, []), (.ifCond .eq 9, 3, 0, 0, []), (.aload_n 0, 0, 0, 0, []), (.iconst 2, 0, 0, 0, []), (.invokevirtual 76, 141, 2, 121, []), (.ireturn, 0, 0, 0, [])]),
  (38, [], [2, 0, 0], [(.aload_n 0, 0, 0, 0, []), (.getfield 10, 0, 0, 80, []), (.getfield 80, 1, 0, 90, []), (.getfield 124, 2, 0, 94, []), (.iload_n 1, 0, 0, 0, []), (.iaload, 0, 0, 0, []), (.iload_n 2, 0, 0, 0, []), (.invokestatic 149, 85, 2, 134, []), (.ifCond .ne 9, 4, 0, 0, []), (.aload_n 0, 0, 0, 0, []), (.iconst 5, 0, 0, 0, []), (.invokevirtual 76, 141, 2, 121, []), (.ireturn, 0, 0, 0, [])]),
  (63, [], [2, 0, 3], [(.aload_n 0, 0, 0, 0, []), (.getfield 10, 0, 0, 80, []), (.getfield 80, 1, 0, 90, []), (.getfield 133, 2, 1, 96, []), (.iload_n 1, 0, 0, 0, []), (.iaload, 0, 0, 0, []), (.ireturn, 0, 0, 0, [])])]
def P106 : List (Nat × List Nat × List Nat × List amI) := [(0, [], [2, 0, 0, 0, 3, 3], [(.aload_n 0, 0, 0, 0, []), (.iload_n 1, 0, 0, 0, []), (.invokevirtual 117, 143, 2, 127, []), (.ifCond .eq 11, 1, 0, 0, []), (.iload_n 2, 0, 0, 0, []), (.iload_n 3, 0, 0, 0, []), (.invokestatic 153, 145, 2, 135, []), (.ifCond .ne 9, 2, 0, 0, []), (.nop, 1, 0, 0, [])]),
  (16, [], [2, 3, 3, 3, 3, 3], [(.aload_n 0, 0, 0, 0, []), (.iconst 1, 0, 0, 0, []), (.invokevirtual 76, 141, 2, 121, []), (.ireturn, 0, 0, 0, [])]),
  (22, [], [2, 0, 0, 0, 3, 3], [(.aload_n 0, 0, 0, 0, []), (.iload_n 1, 0, 0, 0, []), (.invokevirtual 121, 144, 2, 128, []), (.ifCond .eq 9, 3, 0, 0, []), (.aload_n 0, 0, 0, 0, []), (.iconst 2, 0, 0, 0, []), (.invokevirtual 76, 141, 2, 121, []), (.ireturn, 0, 0, 0, [])]),
  (36, [], [2, 0, 0, 0, 3, 3], [(.aload_n 0, 0, 0, 0, []), (.getfield 10, 0, 0, 80, []), (.getfield 80, 1, 0, 90, []), (.astore 4, 0, 0, 0, []), (.aload 4, 0, 0, 0, []), (.iload_n 1, 0, 0, 0, []), (.iload_n 2, 0, 0, 0, []), (.iload_n 3, 0, 0, 0, []), (.invokevirtual 156, 71, 4, 136, []), (.ifCond .ne 9, 4, 0, 0, []), (.aload_n 0, 0, 0, 0, []), (.iconst 3, 0, 0, 0, []), (.invokevirtual 76, 141, 2, 121, []), (.ireturn, 0, 0, 0, [])]),
  (62, [], [2, 0, 0, 0, 2, 3], [(.aload 4, 0, 0, 0, []), (.getfield 127, 2, 2, 95, []), (.iload_n 1, 0, 0, 0, []), (.iaload, 0, 0, 0, []), (.iload_n 2, 0, 0, 0, []), (.iload_n 3, 0, 0, 0, []), (.invokestatic 159, 8, 3, 137, []), (.istore 5, 0, 0, 0, []), (.aload 4, 0, 0, 0, []), (.iload_n 1, 0, 0, 0, []), (.iload 5, 0, 0, 0, []), (.invokevirtual 162, 74, 3, 138, []), (.ifCond .ne 9, 5, 0, 0, []), (.aload_n 0, 0, 0, 0, []), (.iconst 5, 0, 0, 0, []), (.invokevirtual 76, 141, 2, 121, []), (.ireturn, 0, 0, 0, [])]),
  (93, [], [2, 0, 0, 0, 3, 3], [(.aload_n 0, 0, 0, 0, []), (.getfield 10, 0, 0, 80, []), (.iload_n 1, 0, 0, 0, []), (.iload_n 2, 0, 0, 0, []), (.iload_n 3, 0, 0, 0, []), (.invokevirtual 165, 47, 4, 139, []), (.aload_n 0, 0, 0, 0, []), (.getfield 10, 0, 0, 80, []), (.getfield 168, 1, 7, 97, []), (.ireturn, 0, 0, 0, [])])]
def P107 : List (Nat × List Nat × List Nat × List amI) := [(0, [], [2, 0, 0], [(.aload_n 0, 0, 0, 0, []), (.iload_n 1, 0, 0, 0, []), (.invokevirtual 117, 143, 2, 127, []), (.ifCond .eq 11, 1, 0, 0, []), (.aload_n 0, 0, 0, 0, []), (.iload_n 2, 0, 0, 0, []), (.invokevirtual 117, 143, 2, 127, []), (.ifCond .ne 9, 2, 0, 0, []), (.nop, 1, 0, 0, [])]),
  (16, [], [2, 3, 3], [(.aload_n 0, 0, 0, 0, []), (.iconst 1, 0, 0, 0, []), (.invokevirtual 76, 141, 2, 121, []), (.ireturn, 0, 0, 0, [])]),
  (22, [], [2, 0, 0], [(.aload_n 0, 0, 0, 0, []), (.iload_n 1, 0, 0, 0, []), (.invokevirtual 121, 144, 2, 128, []), (.ifCond .ne 11, 3, 0, 0, []), (.aload_n 0, 0, 0, 0, []), (.iload_n 2, 0, 0, 0, []), (.invokevirtual 121, 144, 2, 128, []), (.ifCond .eq 9, 4, 0, 0, []), (.nop, 3, 0, 0, [])]),
  (38, [], [2, 3, 3], [(.aload_n 0, 0, 0, 0, []), (.iconst 2, 0, 0, 0, []), (.invokevirtual 76, 141, 2, 121, []), (.ireturn, 0, 0, 0, [])]),
  (44, [], [2, 0, 0], [(.aload_n 0, 0, 0, 0, []), (.getfield 10, 0, 0, 80, []), (.getfield 80, 1, 0, 90, []), (.getfield 127, 2, 2, 95, []), (.iload_n 1, 0, 0, 0, []), (.iaload, 0, 0, 0, []), (.aload_n 0, 0, 0, 0, []), (.getfield 10, 0, 0, 80, []), (.getfield 80, 1, 0, 90, []), (.getfield 127, 2, 2, 95, []), (.iload_n 2, 0, 0, 0, []), (.iaload, 0, 0, 0, []), (.invokestatic 171, 11, 2, 140, []), (.ireturn, 0, 0, 0, [])])]
def P108 : List (Nat × List Nat × List Nat × List amI) := [(0, [], [2, 0, 0, 3], [(.aload_n 0, 0, 0, 0, []), (.iload_n 1, 0, 0, 0, []), (.invokevirtual 117, 143, 2, 127, []), (.ifCond .eq 8, 1, 0, 0, []), (.iload_n 2, 0, 0, 0, []), (.iconst (-1), 0, 0, 0, []), (.if_icmp .ge 9, 2, 0, 0, []), (.nop, 1, 0, 0, [])]),
  (13, [], [2, 3, 3, 3], [(.aload_n 0, 0, 0, 0, []), (.iconst 1, 0, 0, 0, []), (.invokevirtual 76, 141, 2, 121, []), (.ireturn, 0, 0, 0, [])]),
  (19, [], [2, 0, 0, 3], [(.iload_n 2, 0, 0, 0, []), (.iconst (-1), 0, 0, 0, []), (.if_icmp .ne 15, 3, 0, 0, []), (.aload_n 0, 0, 0, 0, []), (.getfield 10, 0, 0, 80, []), (.getfield 80, 1, 0, 90, []), (.iload_n 1, 0, 0, 0, []), (.invokevirtual 174, 75, 2, 141, []), (.ireturn, 0, 0, 0, [])]),
  (36, [], [2, 0, 0, 3], [(.aload_n 0, 0, 0, 0, []), (.getfield 10, 0, 0, 80, []), (.getfield 80, 1, 0, 90, []), (.iload_n 1, 0, 0, 0, []), (.iload_n 2, 0, 0, 0, []), (.invokevirtual 177, 76, 3, 142, []), (.istore_n 3, 0, 0, 0, []), (.iload_n 3, 0, 0, 0, []), (.iconst (-1), 0, 0, 0, []), (.if_icmp .ne 11, 4, 0, 0, []), (.aload_n 0, 0, 0, 0, []), (.iconst 2, 0, 0, 0, []), (.invokevirtual 76, 141, 2, 121, []), (.goto 4, 5, 0, 0, [])]),
  (62, [], [3, 3, 3, 0], [(.iload_n 3, 0, 0, 0, []), (.nop, 5, 0, 0, [])]),
  (63, [0], [3, 3, 3, 3], [(.ireturn, 0, 0, 0, [])])]
def P109 : List (Nat × List Nat × List Nat × List amI) := [(0, [], [2, 0, 3], [(.iload_n 1, 0, 0, 0, []), (.iconst (-1), 0, 0, 0, []), (.if_icmp .ge 9, 1, 0, 0, []), (.aload_n 0, 0, 0, 0, []), (.iconst 1, 0, 0, 0, []), (.invokevirtual 76, 141, 2, 121, []), (.ireturn, 0, 0, 0, [])]),
  (11, [], [2, 0, 3], [(.aload_n 0, 0, 0, 0, []), (.getfield 10, 0, 0, 80, []), (.getfield 80, 1, 0, 90, []), (.invokevirtual 180, 79, 1, 143, []), (.istore_n 2, 0, 0, 0, []), (.iload_n 1, 0, 0, 0, []), (.iconst (-1), 0, 0, 0, []), (.if_icmp .ne 5, 2, 0, 0, []), (.iload_n 2, 0, 0, 0, []), (.ireturn, 0, 0, 0, [])]),
  (29, [], [2, 0, 0], [(.iload_n 1, 0, 0, 0, []), (.iload_n 2, 0, 0, 0, []), (.if_icmp .ge 18, 3, 0, 0, []), (.aload_n 0, 0, 0, 0, []), (.getfield 10, 0, 0, 80, []), (.getfield 80, 1, 0, 90, []), (.getfield 183, 2, 5, 98, []), (.iload_n 1, 0, 0, 0, []), (.iaload, 0, 0, 0, []), (.goto 8, 4, 0, 0, [])]),
  (49, [], [2, 3, 3], [(.aload_n 0, 0, 0, 0, []), (.iconst 2, 0, 0, 0, []), (.invokevirtual 76, 141, 2, 121, []), (.nop, 4, 0, 0, [])]),
  (54, [0], [3, 3, 3], [(.ireturn, 0, 0, 0, [])])]
def P110 : List (Nat × List Nat × List Nat × List amI) := [(0, [], [2, 1, 3, 0, 3], [(.iload_n 3, 0, 0, 0, []), (.iconst 1, 0, 0, 0, []), (.bipush 8, 0, 0, 0, []), (.invokestatic 72, 142, 3, 120, []), (.ifCond .ne 9, 1, 0, 0, []), (.aload_n 0, 0, 0, 0, []), (.iconst 1, 0, 0, 0, []), (.invokevirtual 76, 141, 2, 121, []), (.ireturn, 0, 0, 0, [])]),
  (16, [], [2, 1, 3, 0, 3], [(.aload_n 0, 0, 0, 0, []), (.getfield 10, 0, 0, 80, []), (.getfield 186, 1, 4, 99, []), (.iload_n 3, 0, 0, 0, []), (.iadd, 0, 0, 0, []), (.bipush 50, 0, 0, 0, []), (.if_icmp .le 9, 2, 0, 0, []), (.aload_n 0, 0, 0, 0, []), (.iconst 4, 0, 0, 0, []), (.invokevirtual 76, 141, 2, 121, []), (.ireturn, 0, 0, 0, [])]),
  (36, [], [2, 1, 3, 0, 3], [(.iconst 0, 0, 0, 0, []), (.istore 4, 0, 0, 0, []), (.nop, 3, 0, 0, [])]),
  (39, [], [2, 1, 3, 0, 0], [(.iload 4, 0, 0, 0, []), (.iload_n 3, 0, 0, 0, []), (.if_icmp .ge 39, 4, 0, 0, []), (.aload_n 0, 0, 0, 0, []), (.getfield 10, 0, 0, 80, []), (.getfield 189, 1, 2, 100, []), (.aload_n 0, 0, 0, 0, []), (.getfield 10, 0, 0, 80, []), (.getfield 186, 1, 4, 99, []), (.iload 4, 0, 0, 0, []), (.iadd, 0, 0, 0, []), (.lload_n 1, 0, 0, 0, []), (.bipush 8, 0, 0, 0, []), (.iload 4, 0, 0, 0, []), (.imul, 0, 0, 0, []), (.lushr, 0, 0, 0, []), (.l2i, 0, 0, 0, []), (.sipush 255, 0, 0, 0, []), (.iand, 0, 0, 0, []), (.iastore, 0, 0, 0, []), (.iinc 4 1, 0, 0, 0, []), (.goto (-39), 3, 0, 0, [])]),
  (81, [], [2, 3, 3, 0, 3], [(.aload_n 0, 0, 0, 0, []), (.getfield 10, 0, 0, 80, []), (.dup, 0, 0, 0, []), (.getfield 186, 1, 4, 99, []), (.iload_n 3, 0, 0, 0, []), (.iadd, 0, 0, 0, []), (.putfield 186, 1, 4, 99, []), (.aload_n 0, 0, 0, 0, []), (.getfield 10, 0, 0, 80, []), (.getfield 186, 1, 4, 99, []), (.ireturn, 0, 0, 0, [])])]
def P111 : List (Nat × List Nat × List Nat × List amI) := [(0, [], [2, 0, 3], [(.iload_n 1, 0, 0, 0, []), (.iconst 0, 0, 0, 0, []), (.iconst 1, 0, 0, 0, []), (.invokestatic 72, 142, 3, 120, []), (.ifCond .ne 9, 1, 0, 0, []), (.aload_n 0, 0, 0, 0, []), (.iconst 1, 0, 0, 0, []), (.invokevirtual 76, 141, 2, 121, []), (.ireturn, 0, 0, 0, [])]),
  (15, [], [2, 0, 3], [(.aload_n 0, 0, 0, 0, []), (.getfield 22, 0, 2, 82, []), (.aload_n 0, 0, 0, 0, []), (.getfield 10, 0, 0, 80, []), (.getfield 189, 1, 2, 100, []), (.aload_n 0, 0, 0, 0, []), (.getfield 10, 0, 0, 80, []), (.getfield 186, 1, 4, 99, []), (.iload_n 1, 0, 0, 0, []), (.invokevirtual 192, 24, 4, 144, []), (.istore_n 2, 0, 0, 0, []), (.aload_n 0, 0, 0, 0, []), (.getfield 10, 0, 0, 80, []), (.iconst 0, 0, 0, 0, []), (.putfield 186, 1, 4, 99, []), (.iload_n 2, 0, 0, 0, []), (.iconst (-1), 0, 0, 0, []), (.if_icmp .eq 8, 2, 0, 0, []), (.bipush (-10), 0, 0, 0, []), (.iload_n 2, 0, 0, 0, []), (.isub, 0, 0, 0, []), (.ireturn, 0, 0, 0, [])]),
  (56, [], [2, 0, 3], [(.aload_n 0, 0, 0, 0, []), (.getfield 10, 0, 0, 80, []), (.getfield 196, 1, 1, 101, []), (.iload_n 1, 0, 0, 0, []), (.aaload, 23, 0, 0, []), (.aload_n 0, 0, 0, 0, []), (.getfield 22, 0, 2, 82, []), (.getfield 200, 4, 0, 102, []), (.invokevirtual 204, 57, 2, 145, []), (.iconst 1, 0, 0, 0, []), (.ireturn, 0, 0, 0, [])])]
def P112 : List (Nat × List Nat × List Nat × List amI) := [(0, [], [2, 0, 0, 0, 0, 0], [(.iload_n 1, 0, 0, 0, []), (.iconst 0, 0, 0, 0, []), (.iconst 1, 0, 0, 0, []), (.invokestatic 72, 142, 3, 120, []), (.ifCond .ne 9, 1, 0, 0, []), (.aload_n 0, 0, 0, 0, []), (.iconst 1, 0, 0, 0, []), (.invokevirtual 76, 141, 2, 121, []), (.ireturn, 0, 0, 0, [])]),
  (15, [], [2, 0, 0, 0, 0, 0], [(.iload_n 1, 0, 0, 0, []), (.ifCond .ne 15, 2, 0, 0, []), (.aload_n 0, 0, 0, 0, []), (.getfield 10, 0, 0, 80, []), (.iload_n 2, 0, 0, 0, []), (.iload_n 3, 0, 0, 0, []), (.invokevirtual 210, 42, 3, 146, []), (.goto 16, 3, 0, 0, [])]),
  (31, [], [2, 3, 0, 0, 0, 0], [(.aload_n 0, 0, 0, 0, []), (.getfield 10, 0, 0, 80, []), (.iload_n 2, 0, 0, 0, []), (.iload_n 3, 0, 0, 0, []), (.iload 4, 0, 0, 0, []), (.iload 5, 0, 0, 0, []), (.invokevirtual 213, 43, 5, 147, []), (.nop, 3, 0, 0, [])]),
  (44, [0], [3, 3, 3, 3, 3, 3], [(.ireturn, 0, 0, 0, [])])]
def P113 : List (Nat × List Nat × List Nat × List amI) := [(0, [], [2, 0, 0, 0, 0, 3], [(.aload_n 0, 0, 0, 0, []), (.iload_n 1, 0, 0, 0, []), (.invokevirtual 117, 143, 2, 127, []), (.ifCond .eq 21, 1, 0, 0, []), (.iload_n 2, 0, 0, 0, []), (.iload_n 3, 0, 0, 0, []), (.invokestatic 153, 145, 2, 135, []), (.ifCond .eq 13, 1, 0, 0, []), (.iload 4, 0, 0, 0, []), (.iconst 0, 0, 0, 0, []), (.iconst 1, 0, 0, 0, []), (.invokestatic 72, 142, 3, 120, []), (.ifCond .ne 9, 2, 0, 0, []), (.nop, 1, 0, 0, [])]),
  (26, [], [2, 3, 3, 3, 3, 3], [(.aload_n 0, 0, 0, 0, []), (.iconst 1, 0, 0, 0, []), (.invokevirtual 76, 141, 2, 121, []), (.ireturn, 0, 0, 0, [])]),
  (32, [], [2, 0, 0, 0, 0, 3], [(.aload_n 0, 0, 0, 0, []), (.iload_n 1, 0, 0, 0, []), (.invokevirtual 121, 144, 2, 128, []), (.ifCond .eq 9, 3, 0, 0, []), (.aload_n 0, 0, 0, 0, []), (.iconst 2, 0, 0, 0, []), (.invokevirtual 76, 141, 2, 121, []), (.ireturn, 0, 0, 0, [])]),
  (46, [], [2, 0, 0, 0, 0, 3], [(.aload_n 0, 0, 0, 0, []), (.getfield 29, 0, 3, 83, []), (.aload_n 0, 0, 0, 0, []), (.getfield 10, 0, 0, 80, []), (.iload_n 1, 0, 0, 0, []), (.iload_n 2, 0, 0, 0, []), (.iload_n 3, 0, 0, 0, []), (.invokevirtual 217, 13, 5, 148, []), (.istore 5, 0, 0, 0, []), (.iload 5, 0, 0, 0, []), (.iconst (-1), 0, 0, 0, []), (.if_icmp .ne 9, 4, 0, 0, []), (.aload_n 0, 0, 0, 0, []), (.iconst 2, 0, 0, 0, []), (.invokevirtual 76, 141, 2, 121, []), (.ireturn, 0, 0, 0, [])]),
  (74, [], [2, 3, 3, 3, 0, 0], [(.iload 4, 0, 0, 0, []), (.ifCond .ne 8, 5, 0, 0, []), (.iload 5, 0, 0, 0, []), (.goto 10, 6, 0, 0, [])]),
  (84, [], [2, 3, 3, 3, 3, 3], [(.aload_n 0, 0, 0, 0, []), (.getfield 29, 0, 3, 83, []), (.getfield 221, 5, 5, 103, []), (.nop, 6, 0, 0, [])]),
  (91, [0], [3, 3, 3, 3, 3, 3], [(.ireturn, 0, 0, 0, [])])]
def P114 : List (Nat × List Nat × List Nat × List amI) := [(0, [], [2, 0, 0, 0, 3], [(.aload_n 0, 0, 0, 0, []), (.iload_n 1, 0, 0, 0, []), (.invokevirtual 117, 143, 2, 127, []), (.ifCond .eq 11, 1, 0, 0, []), (.iload_n 2, 0, 0, 0, []), (.iload_n 3, 0, 0, 0, []), (.invokestatic 153, 145, 2, 135, []), (.ifCond .ne 9, 2, 0, 0, []), (.nop, 1, 0, 0, [])]),
  (16, [], [2, 3, 3, 3, 3], [(.aload_n 0, 0, 0, 0, []), (.iconst 1, 0, 0, 0, []), (.invokevirtual 76, 141, 2, 121, []), (.ireturn, 0, 0, 0, [])]),
  (22, [], [2, 0, 0, 0, 3], [(.aload_n 0, 0, 0, 0, []), (.iload_n 1, 0, 0, 0, []), (.invokevirtual 121, 144, 2, 128, []), (.ifCond .eq 9, 3, 0, 0, []), (.aload_n 0, 0, 0, 0, []), (.iconst 2, 0, 0, 0, []), (.invokevirtual 76, 141, 2, 121, []), (.ireturn, 0, 0, 0, [])]),
  (36, [], [2, 0, 0, 0, 3], [(.aload_n 0, 0, 0, 0, []), (.getfield 10, 0, 0, 80, []), (.getfield 80, 1, 0, 90, []), (.invokevirtual 180, 79, 1, 143, []), (.ifCond .le 9, 4, 0, 0, []), (.aload_n 0, 0, 0, 0, []), (.iconst 3, 0, 0, 0, []), (.invokevirtual 76, 141, 2, 121, []), (.ireturn, 0, 0, 0, [])]),
  (55, [], [2, 0, 0, 0, 3], [(.aload_n 0, 0, 0, 0, []), (.getfield 36, 0, 4, 84, []), (.aload_n 0, 0, 0, 0, []), (.getfield 10, 0, 0, 80, []), (.getfield 80, 1, 0, 90, []), (.iload_n 1, 0, 0, 0, []), (.iload_n 2, 0, 0, 0, []), (.iload_n 3, 0, 0, 0, []), (.invokevirtual 224, 50, 5, 149, []), (.istore 4, 0, 0, 0, []), (.iload 4, 0, 0, 0, []), (.iconst (-1), 0, 0, 0, []), (.if_icmp .ne 11, 5, 0, 0, []), (.aload_n 0, 0, 0, 0, []), (.iconst 2, 0, 0, 0, []), (.invokevirtual 76, 141, 2, 121, []), (.goto 5, 6, 0, 0, [])]),
  (88, [], [3, 3, 3, 3, 0], [(.iload 4, 0, 0, 0, []), (.nop, 6, 0, 0, [])]),
  (90, [0], [3, 3, 3, 3, 3], [(.ireturn, 0, 0, 0, [])])]
def P115 : List (Nat × List Nat × List Nat × List amI) := [(0, [], [2, 3], [(.aload_n 0, 0, 0, 0, []), (.getfield 29, 0, 3, 83, []), (.aload_n 0, 0, 0, 0, []), (.getfield 10, 0, 0, 80, []), (.invokevirtual 228, 14, 2, 150, []), (.istore_n 1, 0, 0, 0, []), (.iload_n 1, 0, 0, 0, []), (.iconst (-1), 0, 0, 0, []), (.if_icmp .ne 11, 1, 0, 0, []), (.aload_n 0, 0, 0, 0, []), (.iconst 2, 0, 0, 0, []), (.invokevirtual 76, 141, 2, 121, []), (.goto 4, 2, 0, 0, [])]),
  (25, [], [3, 0], [(.iload_n 1, 0, 0, 0, []), (.nop, 2, 0, 0, [])]),
  (26, [0], [3, 3], [(.ireturn, 0, 0, 0, [])])]
def P116 : List (Nat × List Nat × List Nat × List amI) := [(0, [], [2, 0, 3, 3, 3], [(.iload_n 1, 0, 0, 0, []), (.iconst 1, 0, 0, 0, []), (.bipush 9, 0, 0, 0, []), (.invokestatic 72, 142, 3, 120, []), (.ifCond .ne 10, 1, 0, 0, []), (.aload_n 0, 0, 0, 0, []), (.iconst 1, 0, 0, 0, []), (.invokevirtual 76, 141, 2, 121, []), (.i2l, 0, 0, 0, []), (.lreturn, 0, 0, 0, [])]),
  (17, [], [2, 0, 3, 3, 3], [(.ldc2_w 232, 0, 0, 4, [(81, 0)]), (.lstore_n 2, 0, 0, 0, []), (.iconst 1, 0, 0, 0, []), (.istore 4, 0, 0, 0, []), (.nop, 2, 0, 0, [])]),
  (24, [], [2, 0, 1, 3, 0], [(.iload 4, 0, 0, 0, []), (.iload_n 1, 0, 0, 0, []), (.if_icmp .ge 23, 3, 0, 0, []), (.lload_n 2, 0, 0, 0, []), (.aload_n 0, 0, 0, 0, []), (.getfield 10, 0, 0, 80, []), (.getfield 80, 1, 0, 90, []), (.invokevirtual 234, 77, 1, 151, []), (.i2l, 0, 0, 0, []), (.lmul, 0, 0, 0, []), (.lstore_n 2, 0, 0, 0, []), (.iinc 4 1, 0, 0, 0, []), (.goto (-23), 2, 0, 0, [])]),
  (50, [], [3, 3, 1, 3, 3], [(.lload_n 2, 0, 0, 0, []), (.lreturn, 0, 0, 0, [])])]
def P117 : List (Nat × List Nat × List Nat × List amI) := [(0, [], [2, 0], [(.iload_n 1, 0, 0, 0, []), (.iconst 3, 0, 0, 0, []), (.bipush 9, 0, 0, 0, []), (.invokestatic 72, 142, 3, 120, []), (.ifCond .ne 10, 1, 0, 0, []), (.aload_n 0, 0, 0, 0, []), (.iconst 1, 0, 0, 0, []), (.invokevirtual 76, 141, 2, 121, []), (.i2l, 0, 0, 0, []), (.lreturn, 0, 0, 0, [])]),
  (17, [], [2, 0], [(.aload_n 0, 0, 0, 0, []), (.getfield 50, 0, 6, 86, []), (.aload_n 0, 0, 0, 0, []), (.getfield 10, 0, 0, 80, []), (.getfield 80, 1, 0, 90, []), (.iload_n 1, 0, 0, 0, []), (.invokevirtual 237, 91, 3, 152, []), (.lreturn, 0, 0, 0, [])])]
def P118 : List (Nat × List Nat × List Nat × List amI) := [(0, [], [2], [(.aload_n 0, 0, 0, 0, []), (.getfield 10, 0, 0, 80, []), (.getfield 80, 1, 0, 90, []), (.getfield 241, 2, 7, 104, []), (.iconst 1, 0, 0, 0, []), (.if_icmp .ne 18, 1, 0, 0, []), (.aload_n 0, 0, 0, 0, []), (.getfield 10, 0, 0, 80, []), (.getfield 80, 1, 0, 90, []), (.getfield 90, 2, 10, 91, []), (.bipush 9, 0, 0, 0, []), (.if_icmp .le 10, 2, 0, 0, []), (.nop, 1, 0, 0, [])]),
  (29, [], [2], [(.aload_n 0, 0, 0, 0, []), (.iconst 3, 0, 0, 0, []), (.invokevirtual 76, 141, 2, 121, []), (.i2l, 0, 0, 0, []), (.lreturn, 0, 0, 0, [])]),
  (36, [], [2], [(.aload_n 0, 0, 0, 0, []), (.getfield 50, 0, 6, 86, []), (.aload_n 0, 0, 0, 0, []), (.getfield 10, 0, 0, 80, []), (.getfield 80, 1, 0, 90, []), (.invokevirtual 244, 92, 2, 153, []), (.lreturn, 0, 0, 0, [])])]
def P119 : List (Nat × List Nat × List Nat × List amI) := [(0, [], [2, 0, 3, 3, 3, 3], [(.iload_n 1, 0, 0, 0, []), (.invokestatic 248, 147, 1, 154, []), (.ifCond .ne 9, 1, 0, 0, []), (.aload_n 0, 0, 0, 0, []), (.iconst 1, 0, 0, 0, []), (.invokevirtual 76, 141, 2, 121, []), (.ireturn, 0, 0, 0, [])]),
  (13, [], [2, 0, 3, 3, 3, 3], [(.aload_n 0, 0, 0, 0, []), (.getfield 63, 0, 8, 88, []), (.iload_n 1, 0, 0, 0, []), (.aaload, 24, 0, 0, []), (.astore_n 2, 0, 0, 0, []), (.aload_n 0, 0, 0, 0, []), (.getfield 10, 0, 0, 80, []), (.getfield 80, 1, 0, 90, []), (.invokevirtual 234, 77, 1, 151, []), (.istore_n 3, 0, 0, 0, []), (.aload_n 2, 0, 0, 0, []), (.invokevirtual 251, 35, 1, 155, []), (.ifCond .ne 7, 2, 0, 0, []), (.iload_n 3, 0, 0, 0, []), (.ifCond .ne 9, 3, 0, 0, []), (.nop, 2, 0, 0, [])]),
  (42, [], [2, 3, 3, 3, 3, 3], [(.aload_n 0, 0, 0, 0, []), (.iconst 2, 0, 0, 0, []), (.invokevirtual 76, 141, 2, 121, []), (.ireturn, 0, 0, 0, [])]),
  (48, [], [2, 3, 2, 0, 3, 3], [(.iconst 0, 0, 0, 0, []), (.istore 4, 0, 0, 0, []), (.iconst 0, 0, 0, 0, []), (.istore 5, 0, 0, 0, []), (.nop, 4, 0, 0, [])]),
  (54, [], [2, 3, 2, 0, 0, 0], [(.iload 5, 0, 0, 0, []), (.aload_n 2, 0, 0, 0, []), (.getfield 255, 10, 2, 105, []), (.if_icmp .ge 58, 7, 0, 0, []), (.iload 5, 0, 0, 0, []), (.ifCond .ne 16, 5, 0, 0, []), (.aload_n 0, 0, 0, 0, []), (.getfield 10, 0, 0, 80, []), (.invokevirtual 258, 41, 1, 156, []), (.bipush 81, 0, 0, 0, []), (.irem, 0, 0, 0, []), (.goto 24, 6, 0, 0, [])]),
  (81, [], [2, 3, 2, 0, 0, 0], [(.aload_n 0, 0, 0, 0, []), (.getfield 10, 0, 0, 80, []), (.getfield 80, 1, 0, 90, []), (.iload 4, 0, 0, 0, []), (.aload_n 0, 0, 0, 0, []), (.getfield 10, 0, 0, 80, []), (.invokevirtual 258, 41, 1, 156, []), (.iload_n 3, 0, 0, 0, []), (.irem, 0, 0, 0, []), (.invokevirtual 261, 78, 3, 157, []), (.nop, 6, 0, 0, [])]),
  (102, [0], [2, 3, 2, 0, 3, 0], [(.istore 4, 0, 0, 0, []), (.aload_n 2, 0, 0, 0, []), (.iload 5, 0, 0, 0, []), (.iload 4, 0, 0, 0, []), (.invokevirtual 264, 37, 3, 158, []), (.iinc 5 1, 0, 0, 0, []), (.goto (-61), 4, 0, 0, [])]),
  (118, [], [3, 3, 2, 3, 3, 3], [(.aload_n 2, 0, 0, 0, []), (.getfield 255, 10, 2, 105, []), (.ireturn, 0, 0, 0, [])])]
def P120 : List (Nat × List Nat × List Nat × List amI) := [(0, [], [2, 0, 0], [(.iload_n 1, 0, 0, 0, []), (.iload_n 2, 0, 0, 0, []), (.invokestatic 153, 145, 2, 135, []), (.ifCond .ne 9, 1, 0, 0, []), (.aload_n 0, 0, 0, 0, []), (.iconst 1, 0, 0, 0, []), (.invokevirtual 76, 141, 2, 121, []), (.ireturn, 0, 0, 0, [])]),
  (14, [], [2, 0, 0], [(.aload_n 0, 0, 0, 0, []), (.getfield 10, 0, 0, 80, []), (.getfield 80, 1, 0, 90, []), (.iload_n 1, 0, 0, 0, []), (.iload_n 2, 0, 0, 0, []), (.invokevirtual 268, 82, 3, 159, []), (.ireturn, 0, 0, 0, [])])]
def P121 : List (Nat × List Nat × List Nat × List amI) := [(0, [], [2, 0, 0], [(.iload_n 1, 0, 0, 0, []), (.iload_n 2, 0, 0, 0, []), (.invokestatic 153, 145, 2, 135, []), (.ifCond .ne 9, 1, 0, 0, []), (.aload_n 0, 0, 0, 0, []), (.iconst 1, 0, 0, 0, []), (.invokevirtual 76, 141, 2, 121, []), (.ireturn, 0, 0, 0, [])]),
  (14, [], [2, 0, 0], [(.aload_n 0, 0, 0, 0, []), (.getfield 10, 0, 0, 80, []), (.getfield 80, 1, 0, 90, []), (.iload_n 1, 0, 0, 0, []), (.iload_n 2, 0, 0, 0, []), (.invokevirtual 271, 83, 3, 160, []), (.ireturn, 0, 0, 0, [])])]
def P122 : List (Nat × List Nat × List Nat × List amI) := [(0, [], [2, 3, 3, 3, 3], [(.iconst 0, 0, 0, 0, []), (.istore_n 1, 0, 0, 0, []), (.iconst (-1), 0, 0, 0, []), (.istore_n 2, 0, 0, 0, []), (.iconst 0, 0, 0, 0, []), (.istore_n 3, 0, 0, 0, []), (.nop, 1, 0, 0, [])]),
  (6, [], [2, 0, 0, 0, 3], [(.iload_n 3, 0, 0, 0, []), (.bipush 12, 0, 0, 0, []), (.if_icmp .ge 38, 3, 0, 0, []), (.aload_n 0, 0, 0, 0, []), (.getfield 10, 0, 0, 80, []), (.getfield 80, 1, 0, 90, []), (.iload_n 3, 0, 0, 0, []), (.iconst 3, 0, 0, 0, []), (.idiv, 0, 0, 0, []), (.iload_n 3, 0, 0, 0, []), (.iconst 3, 0, 0, 0, []), (.irem, 0, 0, 0, []), (.invokevirtual 271, 83, 3, 160, []), (.istore 4, 0, 0, 0, []), (.iload 4, 0, 0, 0, []), (.iload_n 2, 0, 0, 0, []), (.if_icmp .le 8, 2, 0, 0, []), (.iload 4, 0, 0, 0, []), (.istore_n 2, 0, 0, 0, []), (.iload_n 3, 0, 0, 0, []), (.istore_n 1, 0, 0, 0, []), (.nop, 2, 0, 0, [])]),
  (41, [], [2, 0, 0, 0, 3], [(.iinc 3 1, 0, 0, 0, []), (.goto (-38), 1, 0, 0, [])]),
  (47, [], [3, 0, 3, 3, 3], [(.iload_n 1, 0, 0, 0, []), (.ireturn, 0, 0, 0, [])])]
def P123 : List (Nat × List Nat × List Nat × List amI) := [(0, [], [2, 3], [(.aload_n 0, 0, 0, 0, []), (.getfield 43, 0, 5, 85, []), (.aload_n 0, 0, 0, 0, []), (.getfield 10, 0, 0, 80, []), (.getfield 80, 1, 0, 90, []), (.invokevirtual 274, 1, 2, 161, []), (.istore_n 1, 0, 0, 0, []), (.iload_n 1, 0, 0, 0, []), (.ifCond .ne 13, 1, 0, 0, []), (.aload_n 0, 0, 0, 0, []), (.getfield 43, 0, 5, 85, []), (.getfield 278, 7, 2, 106, []), (.goto 8, 2, 0, 0, [])]),
  (29, [], [2, 0], [(.aload_n 0, 0, 0, 0, []), (.iload_n 1, 0, 0, 0, []), (.invokevirtual 76, 141, 2, 121, []), (.nop, 2, 0, 0, [])]),
  (34, [0], [3, 3], [(.ireturn, 0, 0, 0, [])])]
def P124 : List (Nat × List Nat × List Nat × List amI) := [(0, [], [2, 3, 3], [(.iconst 0, 0, 0, 0, []), (.istore_n 1, 0, 0, 0, []), (.iconst 0, 0, 0, 0, []), (.istore_n 2, 0, 0, 0, []), (.nop, 1, 0, 0, [])]),
  (4, [], [2, 0, 0], [(.iload_n 2, 0, 0, 0, []), (.aload_n 0, 0, 0, 0, []), (.getfield 10, 0, 0, 80, []), (.getfield 80, 1, 0, 90, []), (.getfield 90, 2, 10, 91, []), (.if_icmp .ge 39, 3, 0, 0, []), (.aload_n 0, 0, 0, 0, []), (.iload_n 2, 0, 0, 0, []), (.invokevirtual 121, 144, 2, 128, []), (.ifCond .ne 25, 2, 0, 0, []), (.iload_n 1, 0, 0, 0, []), (.aload_n 0, 0, 0, 0, []), (.getfield 10, 0, 0, 80, []), (.aload_n 0, 0, 0, 0, []), (.getfield 10, 0, 0, 80, []), (.getfield 80, 1, 0, 90, []), (.getfield 127, 2, 2, 95, []), (.iload_n 2, 0, 0, 0, []), (.iaload, 0, 0, 0, []), (.invokevirtual 143, 45, 2, 132, []), (.iadd, 0, 0, 0, []), (.istore_n 1, 0, 0, 0, []), (.nop, 2, 0, 0, [])]),
  (48, [], [2, 0, 0], [(.iinc 2 1, 0, 0, 0, []), (.goto (-47), 1, 0, 0, [])]),
  (54, [], [3, 0, 3], [(.iload_n 1, 0, 0, 0, []), (.ireturn, 0, 0, 0, [])])]
def P125 : List (Nat × List Nat × List Nat × List amI) := [(0, [], [2, 0, 3, 3, 3, 3, 3, 3, 3], [(.iload_n 1, 0, 0, 0, []), (.iconst 0, 0, 0, 0, []), (.iconst 1, 0, 0, 0, []), (.invokestatic 72, 142, 3, 120, []), (.ifCond .ne 9, 1, 0, 0, []), (.aload_n 0, 0, 0, 0, []), (.iconst 1, 0, 0, 0, []), (.invokevirtual 76, 141, 2, 121, []), (.ireturn, 0, 0, 0, [])]),
  (15, [], [2, 0, 3, 3, 3, 3, 3, 3, 3], [(.aload_n 0, 0, 0, 0, []), (.getfield 10, 0, 0, 80, []), (.getfield 80, 1, 0, 90, []), (.invokevirtual 180, 79, 1, 143, []), (.istore_n 2, 0, 0, 0, []), (.iconst (-1), 0, 0, 0, []), (.istore_n 3, 0, 0, 0, []), (.iconst 0, 0, 0, 0, []), (.istore 4, 0, 0, 0, []), (.iconst 0, 0, 0, 0, []), (.istore 5, 0, 0, 0, []), (.nop, 2, 0, 0, [])]),
  (34, [], [2, 0, 0, 0, 0, 0, 3, 3, 3], [(.iload 5, 0, 0, 0, []), (.aload_n 0, 0, 0, 0, []), (.getfield 10, 0, 0, 80, []), (.getfield 80, 1, 0, 90, []), (.getfield 90, 2, 10, 91, []), (.iconst 4, 0, 0, 0, []), (.imul, 0, 0, 0, []), (.iconst 3, 0, 0, 0, []), (.imul, 0, 0, 0, []), (.if_icmp .ge 82, 5, 0, 0, []), (.iload 5, 0, 0, 0, []), (.bipush 12, 0, 0, 0, []), (.idiv, 0, 0, 0, []), (.istore 6, 0, 0, 0, []), (.iload 5, 0, 0, 0, []), (.iconst 3, 0, 0, 0, []), (.idiv, 0, 0, 0, []), (.iconst 4, 0, 0, 0, []), (.irem, 0, 0, 0, []), (.istore 7, 0, 0, 0, []), (.aload_n 0, 0, 0, 0, []), (.getfield 10, 0, 0, 80, []), (.getfield 80, 1, 0, 90, []), (.iload 6, 0, 0, 0, []), (.iload 7, 0, 0, 0, []), (.iload 5, 0, 0, 0, []), (.iconst 3, 0, 0, 0, []), (.irem, 0, 0, 0, []), (.iload_n 2, 0, 0, 0, []), (.invokevirtual 279, 81, 5, 162, []), (.ifCond .eq 39, 4, 0, 0, []), (.aload_n 0, 0, 0, 0, []), (.getfield 10, 0, 0, 80, []), (.iload 6, 0, 0, 0, []), (.iload 7, 0, 0, 0, []), (.iload 5, 0, 0, 0, []), (.iconst 3, 0, 0, 0, []), (.irem, 0, 0, 0, []), (.invokevirtual 283, 46, 4, 163, []), (.istore 8, 0, 0, 0, []), (.iload_n 3, 0, 0, 0, []), (.iconst (-1), 0, 0, 0, []), (.if_icmp .eq 10, 3, 0, 0, []), (.iload 8, 0, 0, 0, []), (.iload 4, 0, 0, 0, []), (.if_icmp .le 10, 4, 0, 0, []), (.nop, 3, 0, 0, [])]),
  (119, [], [2, 0, 0, 3, 3, 0, 3, 3, 0], [(.iload 5, 0, 0, 0, []), (.istore_n 3, 0, 0, 0, []), (.iload 8, 0, 0, 0, []), (.istore 4, 0, 0, 0, []), (.nop, 4, 0, 0, [])]),
  (126, [], [2, 0, 0, 0, 0, 0, 3, 3, 3], [(.iinc 5 1, 0, 0, 0, []), (.goto (-95), 2, 0, 0, [])]),
  (132, [], [2, 0, 3, 0, 0, 3, 3, 3, 3], [(.iload_n 3, 0, 0, 0, []), (.iconst (-1), 0, 0, 0, []), (.if_icmp .ne 9, 6, 0, 0, []), (.aload_n 0, 0, 0, 0, []), (.iconst 2, 0, 0, 0, []), (.invokevirtual 76, 141, 2, 121, []), (.ireturn, 0, 0, 0, [])]),
  (143, [], [3, 0, 3, 0, 0, 3, 3, 3, 3], [(.iload_n 1, 0, 0, 0, []), (.ifCond .ne 7, 7, 0, 0, []), (.iload_n 3, 0, 0, 0, []), (.goto 5, 8, 0, 0, [])]),
  (151, [], [3, 3, 3, 3, 0, 3, 3, 3, 3], [(.iload 4, 0, 0, 0, []), (.nop, 8, 0, 0, [])]),
  (153, [0], [3, 3, 3, 3, 3, 3, 3, 3, 3], [(.ireturn, 0, 0, 0, [])])]
def P126 : List (Nat × List Nat × List Nat × List amI) := [(0, [], [2, 0], [(.iload_n 1, 0, 0, 0, []), (.iconst 1, 0, 0, 0, []), (.sipush 200, 0, 0, 0, []), (.invokestatic 72, 142, 3, 120, []), (.ifCond .ne 9, 1, 0, 0, []), (.aload_n 0, 0, 0, 0, []), (.iconst 1, 0, 0, 0, []), (.invokevirtual 76, 141, 2, 121, []), (.ireturn, 0, 0, 0, [])]),
  (17, [], [2, 0], [(.aload_n 0, 0, 0, 0, []), (.getfield 10, 0, 0, 80, []), (.getfield 286, 1, 6, 107, []), (.iload_n 1, 0, 0, 0, []), (.iadd, 0, 0, 0, []), (.sipush 9999, 0, 0, 0, []), (.if_icmp .le 9, 2, 0, 0, []), (.aload_n 0, 0, 0, 0, []), (.iconst 3, 0, 0, 0, []), (.invokevirtual 76, 141, 2, 121, []), (.ireturn, 0, 0, 0, [])]),
  (38, [], [2, 0], [(.aload_n 0, 0, 0, 0, []), (.getfield 10, 0, 0, 80, []), (.iload_n 1, 0, 0, 0, []), (.invokevirtual 289, 48, 2, 164, []), (.ireturn, 0, 0, 0, [])])]
def P127 : List (Nat × List Nat × List Nat × List amI) := [(0, [], [2, 0, 3], [(.aload_n 0, 0, 0, 0, []), (.getfield 10, 0, 0, 80, []), (.getfield 292, 1, 8, 108, []), (.istore_n 2, 0, 0, 0, []), (.aload_n 0, 0, 0, 0, []), (.getfield 10, 0, 0, 80, []), (.iload_n 1, 0, 0, 0, []), (.putfield 292, 1, 8, 108, []), (.iload_n 2, 0, 0, 0, []), (.ireturn, 0, 0, 0, [])])]
def P128 : List (Nat × List Nat × List Nat × List amI) := [(0, [], [2, 0, 0, 0], [(.aload_n 0, 0, 0, 0, []), (.iload_n 1, 0, 0, 0, []), (.invokevirtual 117, 143, 2, 127, []), (.ifCond .eq 12, 1, 0, 0, []), (.iload_n 2, 0, 0, 0, []), (.iconst 0, 0, 0, 0, []), (.iconst 3, 0, 0, 0, []), (.invokestatic 72, 142, 3, 120, []), (.ifCond .ne 9, 2, 0, 0, []), (.nop, 1, 0, 0, [])]),
  (17, [], [2, 3, 3, 3], [(.aload_n 0, 0, 0, 0, []), (.iconst 1, 0, 0, 0, []), (.invokevirtual 76, 141, 2, 121, []), (.ireturn, 0, 0, 0, [])]),
  (23, [], [2, 0, 0, 0], [(.aload_n 0, 0, 0, 0, []), (.iload_n 1, 0, 0, 0, []), (.invokevirtual 121, 144, 2, 128, []), (.ifCond .eq 9, 3, 0, 0, []), (.aload_n 0, 0, 0, 0, []), (.iconst 2, 0, 0, 0, []), (.invokevirtual 76, 141, 2, 121, []), (.ireturn, 0, 0, 0, [])]),
  (37, [], [2, 0, 0, 0], [(.aload_n 0, 0, 0, 0, []), (.getfield 57, 0, 7, 87, []), (.aload_n 0, 0, 0, 0, []), (.getfield 10, 0, 0, 80, []), (.getfield 80, 1, 0, 90, []), (.iload_n 1, 0, 0, 0, []), (.iload_n 2, 0, 0, 0, []), (.iload_n 3, 0, 0, 0, []), (.invokevirtual 295, 86, 5, 165, []), (.ireturn, 0, 0, 0, [])])]
def P129 : List (Nat × List Nat × List Nat × List amI) := [(0, [], [2, 0], [(.iload_n 1, 0, 0, 0, []), (.iconst 0, 0, 0, 0, []), (.aload_n 0, 0, 0, 0, []), (.getfield 57, 0, 7, 87, []), (.getfield 298, 9, 1, 109, []), (.iconst 1, 0, 0, 0, []), (.isub, 0, 0, 0, []), (.invokestatic 72, 142, 3, 120, []), (.ifCond .eq 15, 1, 0, 0, []), (.aload_n 0, 0, 0, 0, []), (.getfield 57, 0, 7, 87, []), (.getfield 299, 9, 0, 110, []), (.iload_n 1, 0, 0, 0, []), (.iaload, 0, 0, 0, []), (.goto 8, 2, 0, 0, [])]),
  (29, [], [2, 3], [(.aload_n 0, 0, 0, 0, []), (.iconst 2, 0, 0, 0, []), (.invokevirtual 76, 141, 2, 121, []), (.nop, 2, 0, 0, [])]),
  (34, [0], [3, 3], [(.ireturn, 0, 0, 0, [])])]
def P130 : List (Nat × List Nat × List Nat × List amI) := [(0, [], [2, 0, 0, 0], [(.iload_n 1, 0, 0, 0, []), (.invokestatic 248, 147, 1, 154, []), (.ifCond .eq 25, 1, 0, 0, []), (.iload_n 2, 0, 0, 0, []), (.ifCond .eq 27, 2, 0, 0, []), (.iload_n 2, 0, 0, 0, []), (.bipush 8, 0, 0, 0, []), (.if_icmp .eq 21, 2, 0, 0, []), (.iload_n 2, 0, 0, 0, []), (.bipush 16, 0, 0, 0, []), (.if_icmp .eq 15, 2, 0, 0, []), (.iload_n 2, 0, 0, 0, []), (.bipush 32, 0, 0, 0, []), (.if_icmp .eq 9, 2, 0, 0, []), (.nop, 1, 0, 0, [])]),
  (29, [], [2, 3, 3, 3], [(.aload_n 0, 0, 0, 0, []), (.iconst 1, 0, 0, 0, []), (.invokevirtual 76, 141, 2, 121, []), (.ireturn, 0, 0, 0, [])]),
  (35, [], [2, 0, 0, 0], [(.iload_n 2, 0, 0, 0, []), (.ifCond .eq 13, 3, 0, 0, []), (.iload_n 3, 0, 0, 0, []), (.ifCond .ge 9, 3, 0, 0, []), (.aload_n 0, 0, 0, 0, []), (.iconst 3, 0, 0, 0, []), (.invokevirtual 76, 141, 2, 121, []), (.ireturn, 0, 0, 0, [])]),
  (49, [], [2, 0, 0, 0], [(.iload_n 2, 0, 0, 0, []), (.ifCond .eq 15, 4, 0, 0, []), (.iload_n 3, 0, 0, 0, []), (.bipush 64, 0, 0, 0, []), (.if_icmp .le 9, 4, 0, 0, []), (.aload_n 0, 0, 0, 0, []), (.iconst 1, 0, 0, 0, []), (.invokevirtual 76, 141, 2, 121, []), (.ireturn, 0, 0, 0, [])]),
  (65, [], [2, 0, 0, 0], [(.aload_n 0, 0, 0, 0, []), (.getfield 63, 0, 8, 88, []), (.iload_n 1, 0, 0, 0, []), (.aaload, 24, 0, 0, []), (.iload_n 2, 0, 0, 0, []), (.iload_n 2, 0, 0, 0, []), (.ifCond .ne 7, 5, 0, 0, []), (.iconst 0, 0, 0, 0, []), (.goto 4, 6, 0, 0, [])]),
  (80, [0, 2], [3, 3, 3, 0], [(.iload_n 3, 0, 0, 0, []), (.nop, 6, 0, 0, [])]),
  (81, [0, 0, 2], [3, 3, 3, 3], [(.invokevirtual 302, 36, 3, 166, []), (.iconst 1, 0, 0, 0, []), (.ireturn, 0, 0, 0, [])])]
def P131 : List (Nat × List Nat × List Nat × List amI) := [(0, [], [2, 0, 0, 0], [(.iload_n 1, 0, 0, 0, []), (.invokestatic 248, 147, 1, 154, []), (.ifCond .ne 9, 1, 0, 0, []), (.aload_n 0, 0, 0, 0, []), (.iconst 1, 0, 0, 0, []), (.invokevirtual 76, 141, 2, 121, []), (.ireturn, 0, 0, 0, [])]),
  (13, [], [2, 0, 0, 0], [(.aload_n 0, 0, 0, 0, []), (.getfield 63, 0, 8, 88, []), (.iload_n 1, 0, 0, 0, []), (.aaload, 24, 0, 0, []), (.invokevirtual 251, 35, 1, 155, []), (.ifCond .eq 9, 2, 0, 0, []), (.aload_n 0, 0, 0, 0, []), (.iconst 2, 0, 0, 0, []), (.invokevirtual 76, 141, 2, 121, []), (.ireturn, 0, 0, 0, [])]),
  (31, [], [2, 0, 0, 0], [(.iload_n 2, 0, 0, 0, []), (.iconst 0, 0, 0, 0, []), (.aload_n 0, 0, 0, 0, []), (.getfield 63, 0, 8, 88, []), (.iload_n 1, 0, 0, 0, []), (.aaload, 24, 0, 0, []), (.getfield 255, 10, 2, 105, []), (.iconst 1, 0, 0, 0, []), (.isub, 0, 0, 0, []), (.invokestatic 72, 142, 3, 120, []), (.ifCond .ne 9, 3, 0, 0, []), (.aload_n 0, 0, 0, 0, []), (.iconst 1, 0, 0, 0, []), (.invokevirtual 76, 141, 2, 121, []), (.ireturn, 0, 0, 0, [])]),
  (56, [], [2, 0, 0, 0], [(.aload_n 0, 0, 0, 0, []), (.getfield 63, 0, 8, 88, []), (.iload_n 1, 0, 0, 0, []), (.aaload, 24, 0, 0, []), (.iload_n 2, 0, 0, 0, []), (.iload_n 3, 0, 0, 0, []), (.invokevirtual 264, 37, 3, 158, []), (.iconst 1, 0, 0, 0, []), (.ireturn, 0, 0, 0, [])])]
def P132 : List (Nat × List Nat × List Nat × List amI) := [(0, [], [2, 0, 0, 0, 0, 0, 3, 3], [(.iload_n 1, 0, 0, 0, []), (.invokestatic 248, 147, 1, 154, []), (.ifCond .eq 10, 1, 0, 0, []), (.iload_n 3, 0, 0, 0, []), (.invokestatic 248, 147, 1, 154, []), (.ifCond .ne 9, 2, 0, 0, []), (.nop, 1, 0, 0, [])]),
  (14, [], [2, 3, 3, 3, 3, 3, 3, 3], [(.aload_n 0, 0, 0, 0, []), (.iconst 1, 0, 0, 0, []), (.invokevirtual 76, 141, 2, 121, []), (.ireturn, 0, 0, 0, [])]),
  (20, [], [2, 0, 0, 0, 0, 0, 3, 3], [(.aload_n 0, 0, 0, 0, []), (.getfield 63, 0, 8, 88, []), (.iload_n 1, 0, 0, 0, []), (.aaload, 24, 0, 0, []), (.astore 6, 0, 0, 0, []), (.aload_n 0, 0, 0, 0, []), (.getfield 63, 0, 8, 88, []), (.iload_n 3, 0, 0, 0, []), (.aaload, 24, 0, 0, []), (.astore 7, 0, 0, 0, []), (.aload 6, 0, 0, 0, []), (.invokevirtual 251, 35, 1, 155, []), (.ifCond .ne 11, 3, 0, 0, []), (.aload 7, 0, 0, 0, []), (.invokevirtual 251, 35, 1, 155, []), (.ifCond .eq 9, 4, 0, 0, []), (.nop, 3, 0, 0, [])]),
  (52, [], [2, 3, 3, 3, 3, 3, 3, 3], [(.aload_n 0, 0, 0, 0, []), (.iconst 2, 0, 0, 0, []), (.invokevirtual 76, 141, 2, 121, []), (.ireturn, 0, 0, 0, [])]),
  (58, [], [2, 3, 0, 3, 0, 0, 2, 2], [(.aload 6, 0, 0, 0, []), (.getfield 305, 10, 1, 111, []), (.aload 7, 0, 0, 0, []), (.getfield 305, 10, 1, 111, []), (.if_icmp .eq 9, 5, 0, 0, []), (.aload_n 0, 0, 0, 0, []), (.iconst 5, 0, 0, 0, []), (.invokevirtual 76, 141, 2, 121, []), (.ireturn, 0, 0, 0, [])]),
  (77, [], [2, 3, 0, 3, 0, 0, 2, 2], [(.aload 6, 0, 0, 0, []), (.iload_n 2, 0, 0, 0, []), (.iload 5, 0, 0, 0, []), (.invokevirtual 308, 38, 3, 167, []), (.ifCond .eq 15, 6, 0, 0, []), (.aload 7, 0, 0, 0, []), (.iload 4, 0, 0, 0, []), (.iload 5, 0, 0, 0, []), (.invokevirtual 308, 38, 3, 167, []), (.ifCond .ne 9, 7, 0, 0, []), (.nop, 6, 0, 0, [])]),
  (100, [], [2, 3, 3, 3, 3, 3, 3, 3], [(.aload_n 0, 0, 0, 0, []), (.iconst 1, 0, 0, 0, []), (.invokevirtual 76, 141, 2, 121, []), (.ireturn, 0, 0, 0, [])]),
  (106, [], [3, 3, 0, 3, 0, 0, 2, 2], [(.aload 6, 0, 0, 0, []), (.getfield 311, 10, 0, 112, []), (.iload_n 2, 0, 0, 0, []), (.aload 7, 0, 0, 0, []), (.getfield 311, 10, 0, 112, []), (.iload 4, 0, 0, 0, []), (.iload 5, 0, 0, 0, []), (.invokestatic 314, 9999, 0, 168, []), (.iload 5, 0, 0, 0, []), (.ireturn, 0, 0, 0, [])])]
def P133 : List (Nat × List Nat × List Nat × List amI) := [(0, [], [2, 0, 3, 3], [(.iload_n 1, 0, 0, 0, []), (.invokestatic 248, 147, 1, 154, []), (.ifCond .ne 9, 1, 0, 0, []), (.aload_n 0, 0, 0, 0, []), (.iconst 1, 0, 0, 0, []), (.invokevirtual 76, 141, 2, 121, []), (.ireturn, 0, 0, 0, [])]),
  (13, [], [2, 0, 3, 3], [(.aload_n 0, 0, 0, 0, []), (.getfield 63, 0, 8, 88, []), (.iload_n 1, 0, 0, 0, []), (.aaload, 24, 0, 0, []), (.astore_n 2, 0, 0, 0, []), (.aload_n 2, 0, 0, 0, []), (.invokevirtual 251, 35, 1, 155, []), (.ifCond .eq 9, 2, 0, 0, []), (.aload_n 0, 0, 0, 0, []), (.iconst 2, 0, 0, 0, []), (.invokevirtual 76, 141, 2, 121, []), (.ireturn, 0, 0, 0, [])]),
  (33, [], [2, 3, 2, 3], [(.iconst 0, 0, 0, 0, []), (.istore_n 3, 0, 0, 0, []), (.nop, 3, 0, 0, [])]),
  (35, [], [2, 3, 2, 0], [(.iload_n 3, 0, 0, 0, []), (.aload_n 2, 0, 0, 0, []), (.getfield 255, 10, 2, 105, []), (.if_icmp .ge 48, 5, 0, 0, []), (.aload_n 0, 0, 0, 0, []), (.iload_n 3, 0, 0, 0, []), (.iconst 0, 0, 0, 0, []), (.aload_n 2, 0, 0, 0, []), (.getfield 311, 10, 0, 112, []), (.iload_n 3, 0, 0, 0, []), (.iaload, 0, 0, 0, []), (.invokevirtual 100, 148, 4, 123, []), (.ifCond .eq 5, 4, 0, 0, []), (.iload_n 3, 0, 0, 0, []), (.ireturn, 0, 0, 0, [])]),
  (60, [], [2, 3, 2, 0], [(.aload_n 0, 0, 0, 0, []), (.getfield 10, 0, 0, 80, []), (.getfield 80, 1, 0, 90, []), (.iload_n 3, 0, 0, 0, []), (.iconst 0, 0, 0, 0, []), (.iconst 0, 0, 0, 0, []), (.aload_n 2, 0, 0, 0, []), (.getfield 311, 10, 0, 112, []), (.iload_n 3, 0, 0, 0, []), (.iaload, 0, 0, 0, []), (.invokestatic 104, 6, 1, 124, []), (.invokevirtual 109, 67, 5, 125, []), (.iinc 3 1, 0, 0, 0, []), (.goto (-50), 3, 0, 0, [])]),
  (88, [], [3, 3, 2, 3], [(.aload_n 2, 0, 0, 0, []), (.getfield 255, 10, 2, 105, []), (.ireturn, 0, 0, 0, [])])]
def P134 : List (Nat × List Nat × List Nat × List amI) := [(0, [], [2, 0, 3, 3, 3], [(.iload_n 1, 0, 0, 0, []), (.invokestatic 248, 147, 1, 154, []), (.ifCond .ne 9, 1, 0, 0, []), (.aload_n 0, 0, 0, 0, []), (.iconst 1, 0, 0, 0, []), (.invokevirtual 76, 141, 2, 121, []), (.ireturn, 0, 0, 0, [])]),
  (13, [], [2, 0, 3, 3, 3], [(.aload_n 0, 0, 0, 0, []), (.getfield 63, 0, 8, 88, []), (.iload_n 1, 0, 0, 0, []), (.aaload, 24, 0, 0, []), (.astore_n 2, 0, 0, 0, []), (.aload_n 2, 0, 0, 0, []), (.invokevirtual 251, 35, 1, 155, []), (.ifCond .eq 9, 2, 0, 0, []), (.aload_n 0, 0, 0, 0, []), (.iconst 2, 0, 0, 0, []), (.invokevirtual 76, 141, 2, 121, []), (.ireturn, 0, 0, 0, [])]),
  (33, [], [2, 3, 2, 3, 3], [(.aload_n 0, 0, 0, 0, []), (.getfield 10, 0, 0, 80, []), (.getfield 80, 1, 0, 90, []), (.getfield 90, 2, 10, 91, []), (.istore_n 3, 0, 0, 0, []), (.iconst 0, 0, 0, 0, []), (.istore 4, 0, 0, 0, []), (.nop, 3, 0, 0, [])]),
  (47, [], [2, 3, 2, 0, 0], [(.iload 4, 0, 0, 0, []), (.aload_n 2, 0, 0, 0, []), (.getfield 255, 10, 2, 105, []), (.if_icmp .ge 40, 5, 0, 0, []), (.iload 4, 0, 0, 0, []), (.iload_n 3, 0, 0, 0, []), (.if_icmp .ge 34, 5, 0, 0, []), (.aload_n 0, 0, 0, 0, []), (.getfield 10, 0, 0, 80, []), (.getfield 80, 1, 0, 90, []), (.iload 4, 0, 0, 0, []), (.aload_n 2, 0, 0, 0, []), (.getfield 311, 10, 0, 112, []), (.iload 4, 0, 0, 0, []), (.iaload, 0, 0, 0, []), (.invokevirtual 320, 69, 3, 169, []), (.ifCond .ne 6, 4, 0, 0, []), (.iload 4, 0, 0, 0, []), (.ireturn, 0, 0, 0, [])]),
  (87, [], [2, 3, 2, 0, 0], [(.iinc 4 1, 0, 0, 0, []), (.goto (-43), 3, 0, 0, [])]),
  (93, [], [3, 3, 2, 0, 3], [(.aload_n 2, 0, 0, 0, []), (.getfield 255, 10, 2, 105, []), (.iload_n 3, 0, 0, 0, []), (.if_icmp .ne 7, 6, 0, 0, []), (.iconst (-1), 0, 0, 0, []), (.goto 11, 7, 0, 0, [])]),
  (105, [], [3, 3, 2, 0, 3], [(.aload_n 2, 0, 0, 0, []), (.getfield 255, 10, 2, 105, []), (.iload_n 3, 0, 0, 0, []), (.invokestatic 323, 9997, 0, 170, []), (.nop, 7, 0, 0, [])]),
  (113, [0], [3, 3, 3, 3, 3], [(.ireturn, 0, 0, 0, [])])]
def P135 : List (Nat × List Nat × List Nat × List amI) := [(0, [], [2], [(.aload_n 0, 0, 0, 0, []), (.getfield 16, 0, 1, 81, []), (.aload_n 0, 0, 0, 0, []), (.getfield 10, 0, 0, 80, []), (.invokevirtual 328, 40, 2, 171, []), (.aload_n 0, 0, 0, 0, []), (.dup, 0, 0, 0, []), (.getfield 331, 0, 10, 113, []), (.iconst 1, 0, 0, 0, []), (.iadd, 0, 0, 0, []), (.putfield 331, 0, 10, 113, []), (.aload_n 0, 0, 0, 0, []), (.getfield 331, 0, 10, 113, []), (.ireturn, 0, 0, 0, [])])]
def P136 : List (Nat × List Nat × List Nat × List amI) := [(0, [], [2], [(.aload_n 0, 0, 0, 0, []), (.getfield 331, 0, 10, 113, []), (.ifCond .ne 9, 1, 0, 0, []), (.aload_n 0, 0, 0, 0, []), (.iconst 2, 0, 0, 0, []), (.invokevirtual 76, 141, 2, 121, []), (.ireturn, 0, 0, 0, [])]),
  (13, [], [2], [(.aload_n 0, 0, 0, 0, []), (.getfield 10, 0, 0, 80, []), (.aload_n 0, 0, 0, 0, []), (.getfield 16, 0, 1, 81, []), (.invokevirtual 328, 40, 2, 171, []), (.aload_n 0, 0, 0, 0, []), (.getfield 10, 0, 0, 80, []), (.getfield 286, 1, 6, 107, []), (.ireturn, 0, 0, 0, [])])]
def P137 : List (Nat × List Nat × List Nat × List amI) := [(0, [], [2, 0], [(.aload_n 0, 0, 0, 0, []), (.getfield 10, 0, 0, 80, []), (.getfield 334, 1, 5, 114, []), (.bipush 20, 0, 0, 0, []), (.if_icmp .lt 9, 1, 0, 0, []), (.aload_n 0, 0, 0, 0, []), (.iconst 4, 0, 0, 0, []), (.invokevirtual 76, 141, 2, 121, []), (.ireturn, 0, 0, 0, [])]),
  (18, [], [2, 0], [(.aload_n 0, 0, 0, 0, []), (.getfield 10, 0, 0, 80, []), (.getfield 337, 1, 3, 115, []), (.aload_n 0, 0, 0, 0, []), (.getfield 10, 0, 0, 80, []), (.getfield 334, 1, 5, 114, []), (.iload_n 1, 0, 0, 0, []), (.iastore, 0, 0, 0, []), (.aload_n 0, 0, 0, 0, []), (.getfield 10, 0, 0, 80, []), (.dup, 0, 0, 0, []), (.getfield 334, 1, 5, 114, []), (.iconst 1, 0, 0, 0, []), (.iadd, 0, 0, 0, []), (.putfield 334, 1, 5, 114, []), (.aload_n 0, 0, 0, 0, []), (.getfield 10, 0, 0, 80, []), (.getfield 334, 1, 5, 114, []), (.ireturn, 0, 0, 0, [])])]
def P138 : List (Nat × List Nat × List Nat × List amI) := [(0, [], [2, 3, 3], [(.aload_n 0, 0, 0, 0, []), (.getfield 10, 0, 0, 80, []), (.getfield 334, 1, 5, 114, []), (.istore_n 1, 0, 0, 0, []), (.aload_n 0, 0, 0, 0, []), (.getfield 10, 0, 0, 80, []), (.iconst 0, 0, 0, 0, []), (.putfield 334, 1, 5, 114, []), (.iconst 0, 0, 0, 0, []), (.istore_n 2, 0, 0, 0, []), (.nop, 1, 0, 0, [])]),
  (18, [], [2, 0, 0], [(.iload_n 2, 0, 0, 0, []), (.iload_n 1, 0, 0, 0, []), (.if_icmp .ge 50, 4, 0, 0, []), (.iload_n 2, 0, 0, 0, []), (.aload_n 0, 0, 0, 0, []), (.getfield 10, 0, 0, 80, []), (.getfield 80, 1, 0, 90, []), (.getfield 90, 2, 10, 91, []), (.if_icmp .ge 26, 2, 0, 0, []), (.aload_n 0, 0, 0, 0, []), (.getfield 10, 0, 0, 80, []), (.getfield 80, 1, 0, 90, []), (.iload_n 2, 0, 0, 0, []), (.invokevirtual 174, 75, 2, 141, []), (.aload_n 0, 0, 0, 0, []), (.getfield 10, 0, 0, 80, []), (.getfield 337, 1, 3, 115, []), (.iload_n 2, 0, 0, 0, []), (.iaload, 0, 0, 0, []), (.if_icmp .eq 7, 3, 0, 0, []), (.nop, 2, 0, 0, [])]),
  (60, [], [3, 3, 0], [(.iconst 1, 0, 0, 0, []), (.iload_n 2, 0, 0, 0, []), (.iadd, 0, 0, 0, []), (.ireturn, 0, 0, 0, [])]),
  (64, [], [2, 0, 0], [(.iinc 2 1, 0, 0, 0, []), (.goto (-49), 1, 0, 0, [])]),
  (70, [], [3, 3, 3], [(.iconst 0, 0, 0, 0, []), (.ireturn, 0, 0, 0, [])])]
def P139 : List (Nat × List Nat × List Nat × List amI) := [(0, [], [2, 0], [(.iload_n 1, 0, 0, 0, []), (.tableswitch 177 0 11 #[63, 74, 85, 96, 107, 118, 129, 137, 145, 153, 161, 169], 13, 0, 0, [(0, 1), (1, 2), (2, 3), (3, 4), (4, 5), (5, 6), (6, 7), (7, 8), (8, 9), (9, 10), (10, 11), (11, 12)])]),
  (64, [], [2, 3], [(.aload_n 0, 0, 0, 0, []), (.getfield 10, 0, 0, 80, []), (.getfield 80, 1, 0, 90, []), (.getfield 241, 2, 7, 104, []), (.ireturn, 0, 0, 0, [])]),
  (75, [], [2, 3], [(.aload_n 0, 0, 0, 0, []), (.getfield 10, 0, 0, 80, []), (.getfield 80, 1, 0, 90, []), (.getfield 340, 2, 8, 116, []), (.ireturn, 0, 0, 0, [])]),
  (86, [], [2, 3], [(.aload_n 0, 0, 0, 0, []), (.getfield 10, 0, 0, 80, []), (.getfield 80, 1, 0, 90, []), (.getfield 343, 2, 9, 117, []), (.ireturn, 0, 0, 0, [])]),
  (97, [], [2, 3], [(.aload_n 0, 0, 0, 0, []), (.getfield 10, 0, 0, 80, []), (.getfield 80, 1, 0, 90, []), (.getfield 97, 2, 11, 93, []), (.ireturn, 0, 0, 0, [])]),
  (108, [], [2, 3], [(.aload_n 0, 0, 0, 0, []), (.getfield 10, 0, 0, 80, []), (.getfield 80, 1, 0, 90, []), (.getfield 94, 2, 12, 92, []), (.ireturn, 0, 0, 0, [])]),
  (119, [], [2, 3], [(.aload_n 0, 0, 0, 0, []), (.getfield 10, 0, 0, 80, []), (.getfield 80, 1, 0, 90, []), (.invokevirtual 113, 68, 1, 126, []), (.ireturn, 0, 0, 0, [])]),
  (130, [], [2, 3], [(.aload_n 0, 0, 0, 0, []), (.getfield 10, 0, 0, 80, []), (.getfield 286, 1, 6, 107, []), (.ireturn, 0, 0, 0, [])]),
  (138, [], [2, 3], [(.aload_n 0, 0, 0, 0, []), (.getfield 10, 0, 0, 80, []), (.getfield 168, 1, 7, 97, []), (.ireturn, 0, 0, 0, [])]),
  (146, [], [2, 3], [(.aload_n 0, 0, 0, 0, []), (.getfield 10, 0, 0, 80, []), (.getfield 186, 1, 4, 99, []), (.ireturn, 0, 0, 0, [])]),
  (154, [], [2, 3], [(.aload_n 0, 0, 0, 0, []), (.getfield 10, 0, 0, 80, []), (.getfield 334, 1, 5, 114, []), (.ireturn, 0, 0, 0, [])]),
  (162, [], [2, 3], [(.aload_n 0, 0, 0, 0, []), (.getfield 57, 0, 7, 87, []), (.getfield 298, 9, 1, 109, []), (.ireturn, 0, 0, 0, [])]),
  (170, [], [2, 3], [(.aload_n 0, 0, 0, 0, []), (.getfield 10, 0, 0, 80, []), (.getfield 292, 1, 8, 108, []), (.ireturn, 0, 0, 0, [])]),
  (178, [], [2, 3], [(.aload_n 0, 0, 0, 0, []), (.iconst 1, 0, 0, 0, []), (.invokevirtual 76, 141, 2, 121, []), (.ireturn, 0, 0, 0, [])])]
def P140 : List (Nat × List Nat × List Nat × List amI) := [(0, [], [2, 0], [(.iload_n 1, 0, 0, 0, []), (.iconst 1, 0, 0, 0, []), (.iconst 5, 0, 0, 0, []), (.invokestatic 72, 142, 3, 120, []), (.ifCond .eq 12, 1, 0, 0, []), (.aload_n 0, 0, 0, 0, []), (.getfield 67, 0, 9, 89, []), (.iload_n 1, 0, 0, 0, []), (.iaload, 0, 0, 0, []), (.goto 8, 2, 0, 0, [])]),
  (18, [], [2, 3], [(.aload_n 0, 0, 0, 0, []), (.iconst 1, 0, 0, 0, []), (.invokevirtual 76, 141, 2, 121, []), (.nop, 2, 0, 0, [])]),
  (23, [0], [3, 3], [(.ireturn, 0, 0, 0, [])])]
def P141 : List (Nat × List Nat × List Nat × List amI) := [(0, [], [2, 0], [(.aload_n 0, 0, 0, 0, []), (.getfield 67, 0, 9, 89, []), (.iload_n 1, 0, 0, 0, []), (.dup2, 0, 0, 0, []), (.iaload, 0, 0, 0, []), (.iconst 1, 0, 0, 0, []), (.iadd, 0, 0, 0, []), (.iastore, 0, 0, 0, []), (.ldc_w 346, 0, 0, 5, [((-1000000000), 0)]), (.iload_n 1, 0, 0, 0, []), (.isub, 0, 0, 0, []), (.ireturn, 0, 0, 0, [])])]
def P142 : List (Nat × List Nat × List Nat × List amI) := [(0, [], [0, 0, 0], [(.iload_n 0, 0, 0, 0, []), (.iload_n 1, 0, 0, 0, []), (.if_icmp .lt 12, 1, 0, 0, []), (.iload_n 0, 0, 0, 0, []), (.iload_n 2, 0, 0, 0, []), (.if_icmp .gt 7, 1, 0, 0, []), (.iconst 1, 0, 0, 0, []), (.goto 4, 2, 0, 0, [])]),
  (14, [], [3, 3, 3], [(.iconst 0, 0, 0, 0, []), (.nop, 2, 0, 0, [])]),
  (15, [0], [3, 3, 3], [(.ireturn, 4, 0, 0, [])])]
def P143 : List (Nat × List Nat × List Nat × List amI) := [(0, [], [2, 0], [(.iload_n 1, 0, 0, 0, []), (.iconst 0, 0, 0, 0, []), (.aload_n 0, 0, 0, 0, []), (.getfield 10, 0, 0, 80, []), (.getfield 80, 1, 0, 90, []), (.getfield 90, 2, 10, 91, []), (.iconst 1, 0, 0, 0, []), (.isub, 0, 0, 0, []), (.invokestatic 72, 142, 3, 120, []), (.ireturn, 4, 0, 0, [])])]
def P144 : List (Nat × List Nat × List Nat × List amI) := [(0, [], [2, 0], [(.aload_n 0, 0, 0, 0, []), (.getfield 10, 0, 0, 80, []), (.getfield 80, 1, 0, 90, []), (.getfield 124, 2, 0, 94, []), (.iload_n 1, 0, 0, 0, []), (.iaload, 0, 0, 0, []), (.iconst (-1), 0, 0, 0, []), (.if_icmp .ne 7, 1, 0, 0, []), (.iconst 1, 0, 0, 0, []), (.goto 4, 2, 0, 0, [])]),
  (20, [], [3, 3], [(.iconst 0, 0, 0, 0, []), (.nop, 2, 0, 0, [])]),
  (21, [0], [3, 3], [(.ireturn, 4, 0, 0, [])])]
def P145 : List (Nat × List Nat × List Nat × List amI) := [(0, [], [0, 0], [(.iload_n 0, 0, 0, 0, []), (.iconst 0, 0, 0, 0, []), (.iconst 3, 0, 0, 0, []), (.invokestatic 72, 142, 3, 120, []), (.ifCond .eq 16, 1, 0, 0, []), (.iload_n 1, 0, 0, 0, []), (.iconst 0, 0, 0, 0, []), (.iconst 2, 0, 0, 0, []), (.invokestatic 72, 142, 3, 120, []), (.ifCond .eq 7, 1, 0, 0, []), (.iconst 1, 0, 0, 0, []), (.goto 4, 2, 0, 0, [])]),
  (22, [], [3, 3], [(.iconst 0, 0, 0, 0, []), (.nop, 2, 0, 0, [])]),
  (23, [0], [3, 3], [(.ireturn, 4, 0, 0, [])])]
def P146 : List (Nat × List Nat × List Nat × List amI) := [(0, [], [0], [(.iload_n 0, 0, 0, 0, []), (.iconst 0, 0, 0, 0, []), (.bipush 69, 0, 0, 0, []), (.invokestatic 72, 142, 3, 120, []), (.ireturn, 4, 0, 0, [])])]
def P147 : List (Nat × List Nat × List Nat × List amI) := [(0, [], [0], [(.iload_n 0, 0, 0, 0, []), (.iconst 0, 0, 0, 0, []), (.iconst 3, 0, 0, 0, []), (.invokestatic 72, 142, 3, 120, []), (.ireturn, 4, 0, 0, [])])]
def P148 : List (Nat × List Nat × List Nat × List amI) := [(0, [], [2, 0, 0, 0, 3], [(.aload_n 0, 0, 0, 0, []), (.iload_n 1, 0, 0, 0, []), (.invokevirtual 117, 143, 2, 127, []), (.ifCond .eq 20, 1, 0, 0, []), (.iload_n 2, 0, 0, 0, []), (.invokestatic 146, 146, 1, 133, []), (.ifCond .eq 13, 1, 0, 0, []), (.iload_n 3, 0, 0, 0, []), (.iconst 0, 0, 0, 0, []), (.bipush 80, 0, 0, 0, []), (.invokestatic 72, 142, 3, 120, []), (.ifCond .ne 5, 2, 0, 0, []), (.nop, 1, 0, 0, [])]),
  (25, [], [3, 3, 3, 3, 3], [(.iconst 1, 0, 0, 0, []), (.ireturn, 0, 0, 0, [])]),
  (27, [], [2, 0, 0, 0, 3], [(.aload_n 0, 0, 0, 0, []), (.iload_n 1, 0, 0, 0, []), (.invokevirtual 121, 144, 2, 128, []), (.ifCond .ne 5, 3, 0, 0, []), (.iconst 3, 0, 0, 0, []), (.ireturn, 0, 0, 0, [])]),
  (37, [], [2, 0, 0, 0, 3], [(.iload_n 2, 0, 0, 0, []), (.bipush 10, 0, 0, 0, []), (.idiv, 0, 0, 0, []), (.iconst 5, 0, 0, 0, []), (.if_icmp .eq 21, 4, 0, 0, []), (.aload_n 0, 0, 0, 0, []), (.getfield 10, 0, 0, 80, []), (.getfield 80, 1, 0, 90, []), (.iload_n 1, 0, 0, 0, []), (.iload_n 3, 0, 0, 0, []), (.invokestatic 104, 6, 1, 124, []), (.invokevirtual 162, 74, 3, 138, []), (.ifCond .eq 7, 5, 0, 0, []), (.nop, 4, 0, 0, [])]),
  (63, [], [3, 3, 3, 3, 3], [(.iconst 1, 0, 0, 0, []), (.goto 4, 6, 0, 0, [])]),
  (67, [], [3, 3, 3, 3, 3], [(.iconst 0, 0, 0, 0, []), (.nop, 6, 0, 0, [])]),
  (68, [0], [3, 3, 3, 3, 3], [(.istore 4, 0, 0, 0, []), (.iload 4, 0, 0, 0, []), (.ifCond .eq 7, 7, 0, 0, []), (.iconst 0, 0, 0, 0, []), (.goto 4, 8, 0, 0, [])]),
  (79, [], [3, 3, 3, 3, 3], [(.iconst 5, 0, 0, 0, []), (.nop, 8, 0, 0, [])]),
  (80, [0], [3, 3, 3, 3, 3], [(.ireturn, 0, 0, 0, [])])]
def P149 : List (Nat × List Nat × List Nat × List amI) := [(0, [], [2], [(.aload_n 0, 0, 0, 0, []), (.invokespecial 1, 9999, 0, 172, []), (.aload_n 0, 0, 0, 0, []), (.sipush 576, 0, 0, 0, []), (.newarray .int, 20, 0, 0, []), (.putfield 7, 11, 0, 118, []), (.aload_n 0, 0, 0, 0, []), (.sipush 576, 0, 0, 0, []), (.newarray .int, 20, 0, 0, []), (.putfield 13, 11, 1, 119, []), (.aload_n 0, 0, 0, 0, []), (.bipush 6, 0, 0, 0, []), (.newarray .int, 20, 0, 0, []), (.putfield 16, 11, 3, 120, []), (.aload_n 0, 0, 0, 0, []), (.iconst 4, 0, 0, 0, []), (.newarray .int, 20, 0, 0, []), (.putfield 19, 11, 10, 121, []), (.aload_n 0, 0, 0, 0, []), (.sipush 128, 0, 0, 0, []), (.newarray .int, 20, 0, 0, []), (.putfield 22, 11, 11, 122, []), (.aload_n 0, 0, 0, 0, []), (.sipush 128, 0, 0, 0, []), (.newarray .int, 20, 0, 0, []), (.putfield 25, 11, 12, 123, []), (.aload_n 0, 0, 0, 0, []), (.bipush 6, 0, 0, 0, []), (.newarray .int, 20, 0, 0, []), (.putfield 28, 11, 16, 124, []), (.aload_n 0, 0, 0, 0, []), (.bipush 6, 0, 0, 0, []), (.newarray .int, 20, 0, 0, []), (.putfield 31, 11, 17, 125, []), (.aload_n 0, 0, 0, 0, []), (.bipush 6, 0, 0, 0, []), (.newarray .int, 20, 0, 0, []), (.putfield 34, 11, 18, 126, []), (.aload_n 0, 0, 0, 0, []), (.bipush 6, 0, 0, 0, []), (.newarray .int, 20, 0, 0, []), (.putfield 37, 11, 19, 127, []), (.aload_n 0, 0, 0, 0, []), (.bipush 6, 0, 0, 0, []), (.newarray .int, 20, 0, 0, []), (.putfield 40, 11, 20, 128, []), (.aload_n 0, 0, 0, 0, []), (.iconst 5, 0, 0, 0, []), (.newarray .int, 20, 0, 0, []), (.putfield 43, 11, 24, 129, []), (.aload_n 0, 0, 0, 0, []), (.bipush 82, 0, 0, 0, []), (.newarray .long, 21, 0, 0, []), (.putfield 46, 11, 26, 130, []), (.aload_n 0, 0, 0, 0, []), (.bipush 82, 0, 0, 0, []), (.newarray .long, 21, 0, 0, []), (.putfield 50, 11, 27, 131, []), (.aload_n 0, 0, 0, 0, []), (.sipush 6561, 0, 0, 0, []), (.newarray .boolean, 22, 0, 0, []), (.putfield 53, 11, 28, 132, []), (.aload_n 0, 0, 0, 0, []), (.sipush 256, 0, 0, 0, []), (.newarray .int, 20, 0, 0, []), (.putfield 57, 11, 29, 133, []), (.aload_n 0, 0, 0, 0, []), (.bipush 64, 0, 0, 0, []), (.newarray .int, 20, 0, 0, []), (.putfield 60, 11, 30, 134, []), (.aload_n 0, 0, 0, 0, []), (.bipush 64, 0, 0, 0, []), (.newarray .int, 20, 0, 0, []), (.putfield 63, 11, 31, 135, []), (.aload_n 0, 0, 0, 0, []), (.bipush 40, 0, 0, 0, []), (.newarray .int, 20, 0, 0, []), (.putfield 66, 11, 32, 136, []), (.aload_n 0, 0, 0, 0, []), (.iconst 4, 0, 0, 0, []), (.newarray .int, 20, 0, 0, []), (.putfield 69, 11, 35, 137, []), (.aload_n 0, 0, 0, 0, []), (.iconst 4, 0, 0, 0, []), (.newarray .int, 20, 0, 0, []), (.putfield 72, 11, 36, 138, []), (.aload_n 0, 0, 0, 0, []), (.sipush 256, 0, 0, 0, []), (.newarray .int, 20, 0, 0, []), (.putfield 75, 11, 37, 139, []), (.aload_n 0, 0, 0, 0, []), (.bipush 64, 0, 0, 0, []), (.newarray .int, 20, 0, 0, []), (.putfield 78, 11, 38, 140, []), (.aload_n 0, 0, 0, 0, []), (.getfield 7, 11, 0, 118, []), (.iconst 0, 0, 0, 0, []), (.iconst 1, 0, 0, 0, []), (.iastore, 0, 0, 0, []), (.aload_n 0, 0, 0, 0, []), (.getfield 7, 11, 0, 118, []), (.iconst 1, 0, 0, 0, []), (.iconst 4, 0, 0, 0, []), (.iastore, 0, 0, 0, []), (.aload_n 0, 0, 0, 0, []), (.getfield 7, 11, 0, 118, []), (.iconst 3, 0, 0, 0, []), (.iconst 1, 0, 0, 0, []), (.iastore, 0, 0, 0, []), (.aload_n 0, 0, 0, 0, []), (.getfield 7, 11, 0, 118, []), (.iconst 4, 0, 0, 0, []), (.iconst 1, 0, 0, 0, []), (.iastore, 0, 0, 0, []), (.aload_n 0, 0, 0, 0, []), (.getfield 7, 11, 0, 118, []), (.bipush 7, 0, 0, 0, []), (.iconst 1, 0, 0, 0, []), (.iastore, 0, 0, 0, []), (.return_, 0, 0, 0, [])])]
def P150 : List (Nat × List Nat × List Nat × List amI) := [(0, [], [2, 0], [(.aload_n 0, 0, 0, 0, []), (.getfield 16, 11, 3, 120, []), (.iload_n 1, 0, 0, 0, []), (.dup2, 0, 0, 0, []), (.iaload, 0, 0, 0, []), (.iconst 1, 0, 0, 0, []), (.iadd, 0, 0, 0, []), (.iastore, 0, 0, 0, []), (.ldc 81, 0, 0, 6, [((-1000000000), 0)]), (.iload_n 1, 0, 0, 0, []), (.isub, 0, 0, 0, []), (.ireturn, 0, 0, 0, [])])]
def P151 : List (Nat × List Nat × List Nat × List amI) := [(0, [], [1, 3, 1, 3, 1, 3], [(.lload_n 0, 0, 0, 0, []), (.lload_n 2, 0, 0, 0, []), (.lcmp, 0, 0, 0, []), (.ifCond .lt 14, 1, 0, 0, []), (.lload_n 0, 0, 0, 0, []), (.lload 4, 0, 0, 0, []), (.lcmp, 0, 0, 0, []), (.ifCond .gt 7, 1, 0, 0, []), (.iconst 1, 0, 0, 0, []), (.goto 4, 2, 0, 0, [])]),
  (17, [], [3, 3, 3, 3, 3, 3], [(.iconst 0, 0, 0, 0, []), (.nop, 2, 0, 0, [])]),
  (18, [0], [3, 3, 3, 3, 3, 3], [(.ireturn, 4, 0, 0, [])])]
def P152 : List (Nat × List Nat × List Nat × List amI) := [(0, [], [0, 0, 0], [(.iload_n 0, 0, 0, 0, []), (.iload_n 1, 0, 0, 0, []), (.if_icmp .ge 7, 1, 0, 0, []), (.iload_n 1, 0, 0, 0, []), (.goto 13, 3, 0, 0, [])]),
  (9, [], [0, 3, 0], [(.iload_n 0, 0, 0, 0, []), (.iload_n 2, 0, 0, 0, []), (.if_icmp .le 7, 2, 0, 0, []), (.iload_n 2, 0, 0, 0, []), (.goto 4, 3, 0, 0, [])]),
  (18, [], [0, 3, 3], [(.iload_n 0, 0, 0, 0, []), (.nop, 3, 0, 0, [])]),
  (19, [0], [3, 3, 3], [(.ireturn, 0, 0, 0, [])])]
def P153 : List (Nat × List Nat × List Nat × List amI) := [(0, [], [2], [(.aload_n 0, 0, 0, 0, []), (.getfield 7, 11, 0, 118, []), (.iconst 0, 0, 0, 0, []), (.iaload, 0, 0, 0, []), (.aload_n 0, 0, 0, 0, []), (.getfield 7, 11, 0, 118, []), (.iconst 1, 0, 0, 0, []), (.iaload, 0, 0, 0, []), (.imul, 0, 0, 0, []), (.ireturn, 0, 0, 0, [])])]
def P154 : List (Nat × List Nat × List Nat × List amI) := [(0, [], [2, 0], [(.iload_n 1, 0, 0, 0, []), (.i2l, 0, 0, 0, []), (.lconst 0, 0, 0, 0, []), (.aload_n 0, 0, 0, 0, []), (.invokevirtual 82, 153, 1, 173, []), (.iconst 1, 0, 0, 0, []), (.isub, 0, 0, 0, []), (.i2l, 0, 0, 0, []), (.invokestatic 86, 151, 3, 174, []), (.ireturn, 4, 0, 0, [])])]
def P155 : List (Nat × List Nat × List Nat × List amI) := [(0, [], [2, 0], [(.aload_n 0, 0, 0, 0, []), (.getfield 7, 11, 0, 118, []), (.bipush 20, 0, 0, 0, []), (.iload_n 1, 0, 0, 0, []), (.iadd, 0, 0, 0, []), (.iaload, 0, 0, 0, []), (.ifCond .ne 7, 1, 0, 0, []), (.iconst 1, 0, 0, 0, []), (.goto 4, 2, 0, 0, [])]),
  (16, [], [3, 3], [(.iconst 0, 0, 0, 0, []), (.nop, 2, 0, 0, [])]),
  (17, [0], [3, 3], [(.ireturn, 4, 0, 0, [])])]
def P156 : List (Nat × List Nat × List Nat × List amI) := [(0, [], [2, 0], [(.aload_n 0, 0, 0, 0, []), (.getfield 7, 11, 0, 118, []), (.bipush 20, 0, 0, 0, []), (.iload_n 1, 0, 0, 0, []), (.iadd, 0, 0, 0, []), (.iaload, 0, 0, 0, []), (.iconst 1, 0, 0, 0, []), (.isub, 0, 0, 0, []), (.ireturn, 0, 0, 0, [])])]
def P157 : List (Nat × List Nat × List Nat × List amI) := [(0, [], [2, 0, 0], [(.aload_n 0, 0, 0, 0, []), (.getfield 7, 11, 0, 118, []), (.sipush 148, 0, 0, 0, []), (.iconst 4, 0, 0, 0, []), (.iload_n 1, 0, 0, 0, []), (.imul, 0, 0, 0, []), (.iadd, 0, 0, 0, []), (.iload_n 2, 0, 0, 0, []), (.iadd, 0, 0, 0, []), (.iaload, 0, 0, 0, []), (.ireturn, 0, 0, 0, [])])]
def P158 : List (Nat × List Nat × List Nat × List amI) := [(0, [], [2, 0, 0, 0], [(.aload_n 0, 0, 0, 0, []), (.getfield 7, 11, 0, 118, []), (.sipush 148, 0, 0, 0, []), (.iconst 4, 0, 0, 0, []), (.iload_n 1, 0, 0, 0, []), (.imul, 0, 0, 0, []), (.iadd, 0, 0, 0, []), (.iload_n 2, 0, 0, 0, []), (.iadd, 0, 0, 0, []), (.iload_n 3, 0, 0, 0, []), (.iastore, 0, 0, 0, []), (.return_, 0, 0, 0, [])])]
def P159 : List (Nat × List Nat × List Nat × List amI) := [(0, [], [2], [(.aload_n 0, 0, 0, 0, []), (.getfield 90, 11, 5, 141, []), (.aload_n 0, 0, 0, 0, []), (.getfield 94, 11, 6, 142, []), (.if_icmp .ge 27, 1, 0, 0, []), (.aload_n 0, 0, 0, 0, []), (.getfield 97, 11, 7, 143, []), (.ifCond .ge 20, 1, 0, 0, []), (.aload_n 0, 0, 0, 0, []), (.getfield 7, 11, 0, 118, []), (.aload_n 0, 0, 0, 0, []), (.getfield 100, 11, 4, 144, []), (.aload_n 0, 0, 0, 0, []), (.getfield 90, 11, 5, 141, []), (.iadd, 0, 0, 0, []), (.iaload, 0, 0, 0, []), (.goto 4, 2, 0, 0, [])]),
  (35, [], [3], [(.iconst (-1), 0, 0, 0, []), (.nop, 2, 0, 0, [])]),
  (36, [0], [3], [(.ireturn, 0, 0, 0, [])])]
def P160 : List (Nat × List Nat × List Nat × List amI) := [(0, [], [2], [(.aload_n 0, 0, 0, 0, []), (.aload_n 0, 0, 0, 0, []), (.getfield 97, 11, 7, 143, []), (.ifCond .ge 10, 1, 0, 0, []), (.aload_n 0, 0, 0, 0, []), (.getfield 90, 11, 5, 141, []), (.goto 7, 2, 0, 0, [])]),
  (15, [2], [2], [(.aload_n 0, 0, 0, 0, []), (.getfield 97, 11, 7, 143, []), (.nop, 2, 0, 0, [])]),
  (19, [0, 2], [3], [(.putfield 97, 11, 7, 143, []), (.iconst 0, 0, 0, 0, []), (.ireturn, 0, 0, 0, [])])]
def P161 : List (Nat × List Nat × List Nat × List amI) := [(0, [], [2, 0], [(.aload_n 0, 0, 0, 0, []), (.invokevirtual 103, 159, 1, 175, []), (.iload_n 1, 0, 0, 0, []), (.if_icmp .eq 5, 1, 0, 0, []), (.iconst 0, 0, 0, 0, []), (.ireturn, 4, 0, 0, [])]),
  (10, [], [2, 3], [(.aload_n 0, 0, 0, 0, []), (.dup, 0, 0, 0, []), (.getfield 90, 11, 5, 141, []), (.iconst 1, 0, 0, 0, []), (.iadd, 0, 0, 0, []), (.putfield 90, 11, 5, 141, []), (.iconst 1, 0, 0, 0, []), (.ireturn, 4, 0, 0, [])])]
def P162 : List (Nat × List Nat × List Nat × List amI) := [(0, [], [2, 0], [(.aload_n 0, 0, 0, 0, []), (.getfield 106, 11, 9, 145, []), (.ifCond .eq 45, 6, 0, 0, []), (.iload_n 1, 0, 0, 0, []), (.bipush 99, 0, 0, 0, []), (.if_icmp .ne 7, 1, 0, 0, []), (.iconst 0, 0, 0, 0, []), (.goto 34, 5, 0, 0, [])]),
  (17, [], [3, 0], [(.iload_n 1, 0, 0, 0, []), (.bipush 114, 0, 0, 0, []), (.if_icmp .ne 7, 2, 0, 0, []), (.iconst 1, 0, 0, 0, []), (.goto 24, 5, 0, 0, [])]),
  (27, [], [3, 0], [(.iload_n 1, 0, 0, 0, []), (.bipush 100, 0, 0, 0, []), (.if_icmp .ne 7, 3, 0, 0, []), (.iconst 2, 0, 0, 0, []), (.goto 14, 5, 0, 0, [])]),
  (37, [], [3, 0], [(.iload_n 1, 0, 0, 0, []), (.bipush 118, 0, 0, 0, []), (.if_icmp .ne 7, 4, 0, 0, []), (.iconst 3, 0, 0, 0, []), (.goto 4, 5, 0, 0, [])]),
  (47, [], [3, 3], [(.iconst (-1), 0, 0, 0, []), (.nop, 5, 0, 0, [])]),
  (48, [0], [3, 3], [(.ireturn, 0, 0, 0, [])]),
  (49, [], [3, 0], [(.iload_n 1, 0, 0, 0, []), (.bipush 107, 0, 0, 0, []), (.if_icmp .ne 7, 7, 0, 0, []), (.iconst 0, 0, 0, 0, []), (.goto 14, 9, 0, 0, [])]),
  (59, [], [3, 0], [(.iload_n 1, 0, 0, 0, []), (.bipush 109, 0, 0, 0, []), (.if_icmp .ne 7, 8, 0, 0, []), (.iconst 1, 0, 0, 0, []), (.goto 4, 9, 0, 0, [])]),
  (69, [], [3, 3], [(.iconst (-1), 0, 0, 0, []), (.nop, 9, 0, 0, [])]),
  (70, [0], [3, 3], [(.ireturn, 0, 0, 0, [])])]
def P163 : List (Nat × List Nat × List Nat × List amI) := [(0, [], [2, 3, 3], [(.aload_n 0, 0, 0, 0, []), (.invokevirtual 110, 164, 1, 176, []), (.istore_n 1, 0, 0, 0, []), (.nop, 1, 0, 0, [])]),
  (5, [], [2, 0, 3], [(.aload_n 0, 0, 0, 0, []), (.bipush 124, 0, 0, 0, []), (.invokevirtual 113, 161, 2, 177, []), (.ifCond .eq 25, 5, 0, 0, []), (.aload_n 0, 0, 0, 0, []), (.invokevirtual 110, 164, 1, 176, []), (.istore_n 2, 0, 0, 0, []), (.iload_n 1, 0, 0, 0, []), (.ifCond .ne 7, 2, 0, 0, []), (.iload_n 2, 0, 0, 0, []), (.ifCond .eq 7, 3, 0, 0, []), (.nop, 2, 0, 0, [])]),
  (27, [], [2, 3, 3], [(.iconst 1, 0, 0, 0, []), (.goto 4, 4, 0, 0, [])]),
  (31, [], [2, 3, 3], [(.iconst 0, 0, 0, 0, []), (.nop, 4, 0, 0, [])]),
  (32, [0], [2, 3, 3], [(.istore_n 1, 0, 0, 0, []), (.goto (-28), 1, 0, 0, [])]),
  (36, [], [3, 0, 3], [(.iload_n 1, 0, 0, 0, []), (.ireturn, 0, 0, 0, [])])]
def P164 : List (Nat × List Nat × List Nat × List amI) := [(0, [], [2, 3, 3], [(.aload_n 0, 0, 0, 0, []), (.invokevirtual 117, 165, 1, 178, []), (.istore_n 1, 0, 0, 0, []), (.nop, 1, 0, 0, [])]),
  (5, [], [2, 0, 3], [(.aload_n 0, 0, 0, 0, []), (.bipush 38, 0, 0, 0, []), (.invokevirtual 113, 161, 2, 177, []), (.ifCond .eq 25, 4, 0, 0, []), (.aload_n 0, 0, 0, 0, []), (.invokevirtual 117, 165, 1, 178, []), (.istore_n 2, 0, 0, 0, []), (.iload_n 1, 0, 0, 0, []), (.ifCond .eq 11, 2, 0, 0, []), (.iload_n 2, 0, 0, 0, []), (.ifCond .eq 7, 2, 0, 0, []), (.iconst 1, 0, 0, 0, []), (.goto 4, 3, 0, 0, [])]),
  (31, [], [2, 3, 3], [(.iconst 0, 0, 0, 0, []), (.nop, 3, 0, 0, [])]),
  (32, [0], [2, 3, 3], [(.istore_n 1, 0, 0, 0, []), (.goto (-28), 1, 0, 0, [])]),
  (36, [], [3, 0, 3], [(.iload_n 1, 0, 0, 0, []), (.ireturn, 0, 0, 0, [])])]
def P165 : List (Nat × List Nat × List Nat × List amI) := [(0, [], [2, 3, 3, 3], [(.aload_n 0, 0, 0, 0, []), (.invokevirtual 120, 166, 1, 179, []), (.istore_n 1, 0, 0, 0, []), (.aload_n 0, 0, 0, 0, []), (.invokevirtual 103, 159, 1, 175, []), (.istore_n 2, 0, 0, 0, []), (.iload_n 2, 0, 0, 0, []), (.bipush 60, 0, 0, 0, []), (.if_icmp .eq 17, 1, 0, 0, []), (.iload_n 2, 0, 0, 0, []), (.bipush 61, 0, 0, 0, []), (.if_icmp .eq 11, 1, 0, 0, []), (.iload_n 2, 0, 0, 0, []), (.bipush 62, 0, 0, 0, []), (.if_icmp .eq 5, 1, 0, 0, []), (.iload_n 1, 0, 0, 0, []), (.ireturn, 0, 0, 0, [])]),
  (30, [], [2, 0, 0, 3], [(.aload_n 0, 0, 0, 0, []), (.dup, 0, 0, 0, []), (.getfield 90, 11, 5, 141, []), (.iconst 1, 0, 0, 0, []), (.iadd, 0, 0, 0, []), (.putfield 90, 11, 5, 141, []), (.aload_n 0, 0, 0, 0, []), (.invokevirtual 120, 166, 1, 179, []), (.istore_n 3, 0, 0, 0, []), (.iload_n 2, 0, 0, 0, []), (.bipush 60, 0, 0, 0, []), (.if_icmp .ne 11, 2, 0, 0, []), (.iload_n 1, 0, 0, 0, []), (.iload_n 3, 0, 0, 0, []), (.if_icmp .ge 29, 5, 0, 0, []), (.goto 22, 4, 0, 0, [])]),
  (59, [], [3, 0, 0, 0], [(.iload_n 2, 0, 0, 0, []), (.bipush 61, 0, 0, 0, []), (.if_icmp .ne 11, 3, 0, 0, []), (.iload_n 1, 0, 0, 0, []), (.iload_n 3, 0, 0, 0, []), (.if_icmp .ne 15, 5, 0, 0, []), (.goto 8, 4, 0, 0, [])]),
  (73, [], [3, 0, 3, 0], [(.iload_n 1, 0, 0, 0, []), (.iload_n 3, 0, 0, 0, []), (.if_icmp .le 7, 5, 0, 0, []), (.nop, 4, 0, 0, [])]),
  (78, [], [3, 3, 3, 3], [(.iconst 1, 0, 0, 0, []), (.goto 4, 6, 0, 0, [])]),
  (82, [], [3, 3, 3, 3], [(.iconst 0, 0, 0, 0, []), (.nop, 6, 0, 0, [])]),
  (83, [0], [3, 3, 3, 3], [(.ireturn, 0, 0, 0, [])])]
def P166 : List (Nat × List Nat × List Nat × List amI) := [(0, [], [2, 3, 3, 3], [(.aload_n 0, 0, 0, 0, []), (.invokevirtual 123, 167, 1, 180, []), (.istore_n 1, 0, 0, 0, []), (.nop, 1, 0, 0, [])]),
  (5, [], [2, 0, 3, 3], [(.aload_n 0, 0, 0, 0, []), (.invokevirtual 103, 159, 1, 175, []), (.bipush 43, 0, 0, 0, []), (.if_icmp .eq 12, 2, 0, 0, []), (.aload_n 0, 0, 0, 0, []), (.invokevirtual 103, 159, 1, 175, []), (.bipush 45, 0, 0, 0, []), (.if_icmp .ne 42, 5, 0, 0, []), (.nop, 2, 0, 0, [])]),
  (23, [], [2, 0, 3, 3], [(.aload_n 0, 0, 0, 0, []), (.invokevirtual 103, 159, 1, 175, []), (.istore_n 2, 0, 0, 0, []), (.aload_n 0, 0, 0, 0, []), (.dup, 0, 0, 0, []), (.getfield 90, 11, 5, 141, []), (.iconst 1, 0, 0, 0, []), (.iadd, 0, 0, 0, []), (.putfield 90, 11, 5, 141, []), (.aload_n 0, 0, 0, 0, []), (.invokevirtual 123, 167, 1, 180, []), (.istore_n 3, 0, 0, 0, []), (.iload_n 2, 0, 0, 0, []), (.bipush 43, 0, 0, 0, []), (.if_icmp .ne 9, 3, 0, 0, []), (.iload_n 1, 0, 0, 0, []), (.iload_n 3, 0, 0, 0, []), (.iadd, 0, 0, 0, []), (.goto 6, 4, 0, 0, [])]),
  (55, [], [2, 0, 3, 0], [(.iload_n 1, 0, 0, 0, []), (.iload_n 3, 0, 0, 0, []), (.isub, 0, 0, 0, []), (.nop, 4, 0, 0, [])]),
  (58, [0], [2, 3, 3, 3], [(.istore_n 1, 0, 0, 0, []), (.goto (-54), 1, 0, 0, [])]),
  (62, [], [3, 0, 3, 3], [(.iload_n 1, 0, 0, 0, []), (.ireturn, 0, 0, 0, [])])]
def P167 : List (Nat × List Nat × List Nat × List amI) := [(0, [], [2, 3, 3, 3], [(.aload_n 0, 0, 0, 0, []), (.invokevirtual 126, 168, 1, 181, []), (.istore_n 1, 0, 0, 0, []), (.nop, 1, 0, 0, [])]),
  (5, [], [2, 0, 3, 3], [(.aload_n 0, 0, 0, 0, []), (.invokevirtual 103, 159, 1, 175, []), (.bipush 42, 0, 0, 0, []), (.if_icmp .eq 21, 2, 0, 0, []), (.aload_n 0, 0, 0, 0, []), (.invokevirtual 103, 159, 1, 175, []), (.bipush 47, 0, 0, 0, []), (.if_icmp .eq 12, 2, 0, 0, []), (.aload_n 0, 0, 0, 0, []), (.invokevirtual 103, 159, 1, 175, []), (.bipush 37, 0, 0, 0, []), (.if_icmp .ne 62, 7, 0, 0, []), (.nop, 2, 0, 0, [])]),
  (32, [], [2, 0, 3, 3], [(.aload_n 0, 0, 0, 0, []), (.invokevirtual 103, 159, 1, 175, []), (.istore_n 2, 0, 0, 0, []), (.aload_n 0, 0, 0, 0, []), (.dup, 0, 0, 0, []), (.getfield 90, 11, 5, 141, []), (.iconst 1, 0, 0, 0, []), (.iadd, 0, 0, 0, []), (.putfield 90, 11, 5, 141, []), (.aload_n 0, 0, 0, 0, []), (.invokevirtual 126, 168, 1, 181, []), (.istore_n 3, 0, 0, 0, []), (.iload_n 2, 0, 0, 0, []), (.bipush 42, 0, 0, 0, []), (.if_icmp .ne 9, 3, 0, 0, []), (.iload_n 1, 0, 0, 0, []), (.iload_n 3, 0, 0, 0, []), (.imul, 0, 0, 0, []), (.goto 26, 6, 0, 0, [])]),
  (64, [], [2, 0, 0, 0], [(.iload_n 3, 0, 0, 0, []), (.ifCond .ne 7, 4, 0, 0, []), (.iconst 0, 0, 0, 0, []), (.goto 18, 6, 0, 0, [])]),
  (72, [], [2, 0, 0, 0], [(.iload_n 2, 0, 0, 0, []), (.bipush 47, 0, 0, 0, []), (.if_icmp .ne 9, 5, 0, 0, []), (.iload_n 1, 0, 0, 0, []), (.iload_n 3, 0, 0, 0, []), (.idiv, 0, 0, 0, []), (.goto 6, 6, 0, 0, [])]),
  (84, [], [2, 0, 3, 0], [(.iload_n 1, 0, 0, 0, []), (.iload_n 3, 0, 0, 0, []), (.irem, 0, 0, 0, []), (.nop, 6, 0, 0, [])]),
  (87, [0], [2, 3, 3, 3], [(.istore_n 1, 0, 0, 0, []), (.goto (-83), 1, 0, 0, [])]),
  (91, [], [3, 0, 3, 3], [(.iload_n 1, 0, 0, 0, []), (.ireturn, 0, 0, 0, [])])]
def P168 : List (Nat × List Nat × List Nat × List amI) := [(0, [], [2, 3, 3, 3, 3], [(.aload_n 0, 0, 0, 0, []), (.invokevirtual 103, 159, 1, 175, []), (.istore_n 1, 0, 0, 0, []), (.iload_n 1, 0, 0, 0, []), (.bipush 33, 0, 0, 0, []), (.if_icmp .eq 9, 1, 0, 0, []), (.iload_n 1, 0, 0, 0, []), (.bipush 40, 0, 0, 0, []), (.if_icmp .ne 104, 9, 0, 0, []), (.nop, 1, 0, 0, [])]),
  (17, [], [2, 0, 3, 3, 3], [(.aload_n 0, 0, 0, 0, []), (.getfield 129, 11, 8, 146, []), (.iconst 5, 0, 0, 0, []), (.if_icmp .ne 8, 2, 0, 0, []), (.aload_n 0, 0, 0, 0, []), (.invokevirtual 132, 160, 1, 182, []), (.ireturn, 0, 0, 0, [])]),
  (30, [], [2, 0, 3, 3, 3], [(.aload_n 0, 0, 0, 0, []), (.dup, 0, 0, 0, []), (.getfield 129, 11, 8, 146, []), (.iconst 1, 0, 0, 0, []), (.iadd, 0, 0, 0, []), (.putfield 129, 11, 8, 146, []), (.aload_n 0, 0, 0, 0, []), (.dup, 0, 0, 0, []), (.getfield 90, 11, 5, 141, []), (.iconst 1, 0, 0, 0, []), (.iadd, 0, 0, 0, []), (.putfield 90, 11, 5, 141, []), (.iload_n 1, 0, 0, 0, []), (.bipush 40, 0, 0, 0, []), (.if_icmp .ne 10, 3, 0, 0, []), (.aload_n 0, 0, 0, 0, []), (.invokevirtual 135, 163, 1, 183, []), (.goto 7, 4, 0, 0, [])]),
  (63, [], [2, 0, 3, 3, 3], [(.aload_n 0, 0, 0, 0, []), (.invokevirtual 126, 168, 1, 181, []), (.nop, 4, 0, 0, [])]),
  (67, [0], [2, 0, 3, 3, 3], [(.istore_n 2, 0, 0, 0, []), (.iload_n 1, 0, 0, 0, []), (.bipush 40, 0, 0, 0, []), (.if_icmp .ne 17, 5, 0, 0, []), (.aload_n 0, 0, 0, 0, []), (.bipush 41, 0, 0, 0, []), (.invokevirtual 113, 161, 2, 177, []), (.ifCond .ne 8, 5, 0, 0, []), (.aload_n 0, 0, 0, 0, []), (.invokevirtual 132, 160, 1, 182, []), (.ireturn, 0, 0, 0, [])]),
  (88, [], [2, 0, 0, 3, 3], [(.aload_n 0, 0, 0, 0, []), (.dup, 0, 0, 0, []), (.getfield 129, 11, 8, 146, []), (.iconst 1, 0, 0, 0, []), (.isub, 0, 0, 0, []), (.putfield 129, 11, 8, 146, []), (.iload_n 1, 0, 0, 0, []), (.bipush 40, 0, 0, 0, []), (.if_icmp .ne 7, 6, 0, 0, []), (.iload_n 2, 0, 0, 0, []), (.goto 12, 8, 0, 0, [])]),
  (108, [], [3, 3, 0, 3, 3], [(.iload_n 2, 0, 0, 0, []), (.ifCond .ne 7, 7, 0, 0, []), (.iconst 1, 0, 0, 0, []), (.goto 4, 8, 0, 0, [])]),
  (116, [], [3, 3, 3, 3, 3], [(.iconst 0, 0, 0, 0, []), (.nop, 8, 0, 0, [])]),
  (117, [0], [3, 3, 3, 3, 3], [(.ireturn, 0, 0, 0, [])]),
  (118, [], [2, 0, 3, 3, 3], [(.aload_n 0, 0, 0, 0, []), (.iload_n 1, 0, 0, 0, []), (.invokevirtual 138, 162, 2, 184, []), (.istore_n 2, 0, 0, 0, []), (.iload_n 2, 0, 0, 0, []), (.ifCond .lt 20, 10, 0, 0, []), (.aload_n 0, 0, 0, 0, []), (.dup, 0, 0, 0, []), (.getfield 90, 11, 5, 141, []), (.iconst 1, 0, 0, 0, []), (.iadd, 0, 0, 0, []), (.putfield 90, 11, 5, 141, []), (.aload_n 0, 0, 0, 0, []), (.getfield 19, 11, 10, 121, []), (.iload_n 2, 0, 0, 0, []), (.iaload, 0, 0, 0, []), (.ireturn, 0, 0, 0, [])]),
  (145, [], [2, 3, 3, 3, 3], [(.iconst 0, 0, 0, 0, []), (.istore_n 3, 0, 0, 0, []), (.iconst 0, 0, 0, 0, []), (.istore 4, 0, 0, 0, []), (.nop, 11, 0, 0, [])]),
  (150, [], [2, 3, 3, 0, 0], [(.iload 4, 0, 0, 0, []), (.iconst 4, 0, 0, 0, []), (.if_icmp .ge 49, 12, 0, 0, []), (.aload_n 0, 0, 0, 0, []), (.invokevirtual 103, 159, 1, 175, []), (.i2l, 0, 0, 0, []), (.ldc2_w 142, 0, 0, 7, [(48, 0)]), (.ldc2_w 144, 0, 0, 8, [(57, 0)]), (.invokestatic 86, 151, 3, 174, []), (.ifCond .eq 32, 12, 0, 0, []), (.bipush 10, 0, 0, 0, []), (.iload_n 3, 0, 0, 0, []), (.imul, 0, 0, 0, []), (.aload_n 0, 0, 0, 0, []), (.invokevirtual 103, 159, 1, 175, []), (.iadd, 0, 0, 0, []), (.bipush 48, 0, 0, 0, []), (.isub, 0, 0, 0, []), (.istore_n 3, 0, 0, 0, []), (.aload_n 0, 0, 0, 0, []), (.dup, 0, 0, 0, []), (.getfield 90, 11, 5, 141, []), (.iconst 1, 0, 0, 0, []), (.iadd, 0, 0, 0, []), (.putfield 90, 11, 5, 141, []), (.iinc 4 1, 0, 0, 0, []), (.goto (-49), 11, 0, 0, [])]),
  (202, [], [2, 3, 3, 0, 0], [(.iload 4, 0, 0, 0, []), (.ifCond .ne 10, 13, 0, 0, []), (.aload_n 0, 0, 0, 0, []), (.invokevirtual 132, 160, 1, 182, []), (.goto 4, 14, 0, 0, [])]),
  (214, [], [3, 3, 3, 0, 3], [(.iload_n 3, 0, 0, 0, []), (.nop, 14, 0, 0, [])]),
  (215, [0], [3, 3, 3, 3, 3], [(.ireturn, 0, 0, 0, [])])]
def P169 : List (Nat × List Nat × List Nat × List amI) := [(0, [], [2, 0, 0, 0, 3], [(.aload_n 0, 0, 0, 0, []), (.iload_n 1, 0, 0, 0, []), (.putfield 100, 11, 4, 144, []), (.aload_n 0, 0, 0, 0, []), (.iconst 0, 0, 0, 0, []), (.putfield 90, 11, 5, 141, []), (.aload_n 0, 0, 0, 0, []), (.iload_n 2, 0, 0, 0, []), (.putfield 94, 11, 6, 142, []), (.aload_n 0, 0, 0, 0, []), (.iconst (-1), 0, 0, 0, []), (.putfield 97, 11, 7, 143, []), (.aload_n 0, 0, 0, 0, []), (.iconst 0, 0, 0, 0, []), (.putfield 129, 11, 8, 146, []), (.aload_n 0, 0, 0, 0, []), (.iload_n 3, 0, 0, 0, []), (.iconst 1, 0, 0, 0, []), (.if_icmp .ne 7, 1, 0, 0, []), (.iconst 1, 0, 0, 0, []), (.goto 4, 2, 0, 0, [])]),
  (35, [2], [2, 3, 3, 3, 3], [(.iconst 0, 0, 0, 0, []), (.nop, 2, 0, 0, [])]),
  (36, [0, 2], [2, 3, 3, 3, 3], [(.putfield 106, 11, 9, 145, []), (.aload_n 0, 0, 0, 0, []), (.invokevirtual 135, 163, 1, 183, []), (.istore 4, 0, 0, 0, []), (.aload_n 0, 0, 0, 0, []), (.getfield 97, 11, 7, 143, []), (.ifCond .ge 19, 3, 0, 0, []), (.aload_n 0, 0, 0, 0, []), (.getfield 90, 11, 5, 141, []), (.aload_n 0, 0, 0, 0, []), (.getfield 94, 11, 6, 142, []), (.if_icmp .ge 8, 3, 0, 0, []), (.aload_n 0, 0, 0, 0, []), (.invokevirtual 132, 160, 1, 182, []), (.ireturn, 0, 0, 0, [])]),
  (68, [], [3, 3, 3, 3, 0], [(.iload 4, 0, 0, 0, []), (.ireturn, 0, 0, 0, [])])]
def P170 : List (Nat × List Nat × List Nat × List amI) := [(0, [], [2, 1, 3, 0, 3], [(.iload_n 3, 0, 0, 0, []), (.i2l, 0, 0, 0, []), (.lconst 1, 0, 0, 0, []), (.ldc2_w 146, 0, 0, 9, [(8, 0)]), (.invokestatic 86, 151, 3, 174, []), (.ifCond .ne 9, 1, 0, 0, []), (.aload_n 0, 0, 0, 0, []), (.iconst 1, 0, 0, 0, []), (.invokevirtual 148, 150, 2, 185, []), (.ireturn, 0, 0, 0, [])]),
  (18, [], [2, 1, 3, 0, 3], [(.aload_n 0, 0, 0, 0, []), (.getfield 7, 11, 0, 118, []), (.bipush 8, 0, 0, 0, []), (.iaload, 0, 0, 0, []), (.iload_n 3, 0, 0, 0, []), (.iadd, 0, 0, 0, []), (.bipush 50, 0, 0, 0, []), (.if_icmp .le 9, 2, 0, 0, []), (.aload_n 0, 0, 0, 0, []), (.iconst 4, 0, 0, 0, []), (.invokevirtual 148, 150, 2, 185, []), (.ireturn, 0, 0, 0, [])]),
  (38, [], [2, 1, 3, 0, 3], [(.iconst 0, 0, 0, 0, []), (.istore 4, 0, 0, 0, []), (.nop, 3, 0, 0, [])]),
  (41, [], [2, 1, 3, 0, 0], [(.iload 4, 0, 0, 0, []), (.iload_n 3, 0, 0, 0, []), (.if_icmp .ge 48, 4, 0, 0, []), (.aload_n 0, 0, 0, 0, []), (.getfield 7, 11, 0, 118, []), (.sipush 526, 0, 0, 0, []), (.aload_n 0, 0, 0, 0, []), (.getfield 7, 11, 0, 118, []), (.bipush 8, 0, 0, 0, []), (.iaload, 0, 0, 0, []), (.iadd, 0, 0, 0, []), (.lload_n 1, 0, 0, 0, []), (.bipush 8, 0, 0, 0, []), (.iload 4, 0, 0, 0, []), (.imul, 0, 0, 0, []), (.lshr, 0, 0, 0, []), (.ldc2_w 151, 0, 0, 10, [(255, 0)]), (.land, 0, 0, 0, []), (.l2i, 0, 0, 0, []), (.iastore, 0, 0, 0, []), (.aload_n 0, 0, 0, 0, []), (.getfield 7, 11, 0, 118, []), (.bipush 8, 0, 0, 0, []), (.dup2, 0, 0, 0, []), (.iaload, 0, 0, 0, []), (.iconst 1, 0, 0, 0, []), (.iadd, 0, 0, 0, []), (.iastore, 0, 0, 0, []), (.iinc 4 1, 0, 0, 0, []), (.goto (-48), 3, 0, 0, [])]),
  (92, [], [2, 3, 3, 3, 3], [(.aload_n 0, 0, 0, 0, []), (.getfield 7, 11, 0, 118, []), (.bipush 8, 0, 0, 0, []), (.iaload, 0, 0, 0, []), (.ireturn, 0, 0, 0, [])])]
def P171 : List (Nat × List Nat × List Nat × List amI) := [(0, [], [2, 0, 3, 3, 3], [(.iload_n 1, 0, 0, 0, []), (.i2l, 0, 0, 0, []), (.lconst 0, 0, 0, 0, []), (.lconst 1, 0, 0, 0, []), (.invokestatic 86, 151, 3, 174, []), (.ifCond .ne 9, 1, 0, 0, []), (.aload_n 0, 0, 0, 0, []), (.iconst 1, 0, 0, 0, []), (.invokevirtual 148, 150, 2, 185, []), (.ireturn, 0, 0, 0, [])]),
  (16, [], [2, 0, 3, 3, 3], [(.aload_n 0, 0, 0, 0, []), (.getfield 7, 11, 0, 118, []), (.bipush 8, 0, 0, 0, []), (.iaload, 0, 0, 0, []), (.istore_n 2, 0, 0, 0, []), (.aload_n 0, 0, 0, 0, []), (.getfield 7, 11, 0, 118, []), (.bipush 8, 0, 0, 0, []), (.iconst 0, 0, 0, 0, []), (.iastore, 0, 0, 0, []), (.aload_n 0, 0, 0, 0, []), (.sipush 526, 0, 0, 0, []), (.iload_n 2, 0, 0, 0, []), (.iload_n 1, 0, 0, 0, []), (.invokevirtual 153, 169, 4, 186, []), (.istore_n 3, 0, 0, 0, []), (.aload_n 0, 0, 0, 0, []), (.getfield 97, 11, 7, 143, []), (.ifCond .lt 11, 2, 0, 0, []), (.bipush (-10), 0, 0, 0, []), (.aload_n 0, 0, 0, 0, []), (.getfield 97, 11, 7, 143, []), (.isub, 0, 0, 0, []), (.ireturn, 0, 0, 0, [])]),
  (57, [], [2, 0, 0, 3, 3], [(.aload_n 0, 0, 0, 0, []), (.getfield 7, 11, 0, 118, []), (.sipush 404, 0, 0, 0, []), (.iload_n 1, 0, 0, 0, []), (.iadd, 0, 0, 0, []), (.iload_n 2, 0, 0, 0, []), (.iastore, 0, 0, 0, []), (.iconst 0, 0, 0, 0, []), (.istore 4, 0, 0, 0, []), (.nop, 3, 0, 0, [])]),
  (71, [], [2, 0, 0, 3, 0], [(.iload 4, 0, 0, 0, []), (.iload_n 2, 0, 0, 0, []), (.if_icmp .ge 36, 4, 0, 0, []), (.aload_n 0, 0, 0, 0, []), (.getfield 7, 11, 0, 118, []), (.sipush 426, 0, 0, 0, []), (.bipush 50, 0, 0, 0, []), (.iload_n 1, 0, 0, 0, []), (.imul, 0, 0, 0, []), (.iadd, 0, 0, 0, []), (.iload 4, 0, 0, 0, []), (.iadd, 0, 0, 0, []), (.aload_n 0, 0, 0, 0, []), (.getfield 7, 11, 0, 118, []), (.sipush 526, 0, 0, 0, []), (.iload 4, 0, 0, 0, []), (.iadd, 0, 0, 0, []), (.iaload, 0, 0, 0, []), (.iastore, 0, 0, 0, []), (.iinc 4 1, 0, 0, 0, []), (.goto (-36), 3, 0, 0, [])]),
  (110, [], [3, 3, 3, 3, 3], [(.iconst 1, 0, 0, 0, []), (.ireturn, 0, 0, 0, [])])]
def P172 : List (Nat × List Nat × List Nat × List amI) := [(0, [], [2, 0, 0, 0, 0, 0, 3], [(.iload_n 1, 0, 0, 0, []), (.ifCond .ne 10, 1, 0, 0, []), (.bipush 10, 0, 0, 0, []), (.iload_n 3, 0, 0, 0, []), (.iadd, 0, 0, 0, []), (.goto 4, 2, 0, 0, [])]),
  (11, [], [2, 0, 0, 0, 0, 0, 3], [(.iconst 0, 0, 0, 0, []), (.nop, 2, 0, 0, [])]),
  (12, [0], [2, 0, 0, 0, 0, 0, 3], [(.istore 6, 0, 0, 0, []), (.aload_n 0, 0, 0, 0, []), (.getfield 7, 11, 0, 118, []), (.sipush 404, 0, 0, 0, []), (.iload_n 1, 0, 0, 0, []), (.iadd, 0, 0, 0, []), (.iaload, 0, 0, 0, []), (.ifCond .le 58, 3, 0, 0, []), (.aload_n 0, 0, 0, 0, []), (.getfield 19, 11, 10, 121, []), (.iconst 0, 0, 0, 0, []), (.iload_n 2, 0, 0, 0, []), (.iastore, 0, 0, 0, []), (.aload_n 0, 0, 0, 0, []), (.getfield 19, 11, 10, 121, []), (.iconst 1, 0, 0, 0, []), (.iload_n 3, 0, 0, 0, []), (.iastore, 0, 0, 0, []), (.aload_n 0, 0, 0, 0, []), (.getfield 19, 11, 10, 121, []), (.iconst 2, 0, 0, 0, []), (.iload 4, 0, 0, 0, []), (.iastore, 0, 0, 0, []), (.aload_n 0, 0, 0, 0, []), (.getfield 19, 11, 10, 121, []), (.iconst 3, 0, 0, 0, []), (.iload 5, 0, 0, 0, []), (.iastore, 0, 0, 0, []), (.aload_n 0, 0, 0, 0, []), (.sipush 426, 0, 0, 0, []), (.bipush 50, 0, 0, 0, []), (.iload_n 1, 0, 0, 0, []), (.imul, 0, 0, 0, []), (.iadd, 0, 0, 0, []), (.aload_n 0, 0, 0, 0, []), (.getfield 7, 11, 0, 118, []), (.sipush 404, 0, 0, 0, []), (.iload_n 1, 0, 0, 0, []), (.iadd, 0, 0, 0, []), (.iaload, 0, 0, 0, []), (.iload_n 1, 0, 0, 0, []), (.invokevirtual 153, 169, 4, 186, []), (.istore 6, 0, 0, 0, []), (.nop, 3, 0, 0, [])]),
  (82, [], [3, 0, 3, 3, 3, 3, 0], [(.iload_n 1, 0, 0, 0, []), (.ifCond .ne 14, 4, 0, 0, []), (.iload 6, 0, 0, 0, []), (.iconst 0, 0, 0, 0, []), (.bipush 99, 0, 0, 0, []), (.invokestatic 157, 152, 3, 187, []), (.goto 12, 5, 0, 0, [])]),
  (97, [], [3, 3, 3, 3, 3, 3, 0], [(.iload 6, 0, 0, 0, []), (.bipush (-99), 0, 0, 0, []), (.bipush 99, 0, 0, 0, []), (.invokestatic 157, 152, 3, 187, []), (.nop, 5, 0, 0, [])]),
  (106, [0], [3, 3, 3, 3, 3, 3, 3], [(.ireturn, 0, 0, 0, [])])]
def P173 : List (Nat × List Nat × List Nat × List amI) := [(0, [], [2, 0, 0, 0, 0, 0], [(.iload_n 1, 0, 0, 0, []), (.i2l, 0, 0, 0, []), (.lconst 0, 0, 0, 0, []), (.lconst 1, 0, 0, 0, []), (.invokestatic 86, 151, 3, 174, []), (.ifCond .eq 17, 1, 0, 0, []), (.aload_n 0, 0, 0, 0, []), (.iload_n 1, 0, 0, 0, []), (.iload_n 2, 0, 0, 0, []), (.iload_n 3, 0, 0, 0, []), (.iload 4, 0, 0, 0, []), (.iload 5, 0, 0, 0, []), (.invokevirtual 160, 172, 6, 188, []), (.goto 8, 2, 0, 0, [])]),
  (24, [], [2, 3, 3, 3, 3, 3], [(.aload_n 0, 0, 0, 0, []), (.iconst 1, 0, 0, 0, []), (.invokevirtual 148, 150, 2, 185, []), (.nop, 2, 0, 0, [])]),
  (29, [0], [3, 3, 3, 3, 3, 3], [(.ireturn, 0, 0, 0, [])])]
def P174 : List (Nat × List Nat × List Nat × List amI) := [(0, [], [2, 0, 0], [(.aload_n 0, 0, 0, 0, []), (.getfield 22, 11, 11, 122, []), (.aload_n 0, 0, 0, 0, []), (.getfield 164, 11, 13, 147, []), (.iload_n 1, 0, 0, 0, []), (.iastore, 0, 0, 0, []), (.aload_n 0, 0, 0, 0, []), (.getfield 25, 11, 12, 123, []), (.aload_n 0, 0, 0, 0, []), (.getfield 164, 11, 13, 147, []), (.iload_n 2, 0, 0, 0, []), (.iastore, 0, 0, 0, []), (.aload_n 0, 0, 0, 0, []), (.dup, 0, 0, 0, []), (.getfield 164, 11, 13, 147, []), (.iconst 1, 0, 0, 0, []), (.iadd, 0, 0, 0, []), (.putfield 164, 11, 13, 147, []), (.return_, 0, 0, 0, [])])]
def P175 : List (Nat × List Nat × List Nat × List amI) := [(0, [], [2, 3, 3, 3], [(.aload_n 0, 0, 0, 0, []), (.iconst 0, 0, 0, 0, []), (.putfield 164, 11, 13, 147, []), (.aload_n 0, 0, 0, 0, []), (.getfield 7, 11, 0, 118, []), (.iconst 1, 0, 0, 0, []), (.iaload, 0, 0, 0, []), (.istore_n 1, 0, 0, 0, []), (.iconst 0, 0, 0, 0, []), (.istore_n 2, 0, 0, 0, []), (.nop, 1, 0, 0, [])]),
  (14, [], [2, 0, 0, 3], [(.iload_n 2, 0, 0, 0, []), (.aload_n 0, 0, 0, 0, []), (.invokevirtual 82, 153, 1, 173, []), (.if_icmp .ge 116, 6, 0, 0, []), (.iload_n 2, 0, 0, 0, []), (.iload_n 1, 0, 0, 0, []), (.irem, 0, 0, 0, []), (.istore_n 3, 0, 0, 0, []), (.iload_n 3, 0, 0, 0, []), (.iconst 1, 0, 0, 0, []), (.iadd, 0, 0, 0, []), (.iload_n 1, 0, 0, 0, []), (.if_icmp .ge 11, 2, 0, 0, []), (.aload_n 0, 0, 0, 0, []), (.iload_n 2, 0, 0, 0, []), (.iload_n 2, 0, 0, 0, []), (.iconst 1, 0, 0, 0, []), (.iadd, 0, 0, 0, []), (.invokevirtual 167, 174, 3, 189, []), (.nop, 2, 0, 0, [])]),
  (41, [], [2, 0, 0, 0], [(.aload_n 0, 0, 0, 0, []), (.getfield 7, 11, 0, 118, []), (.iconst 2, 0, 0, 0, []), (.iaload, 0, 0, 0, []), (.ifCond .le 22, 3, 0, 0, []), (.iload_n 1, 0, 0, 0, []), (.iconst 2, 0, 0, 0, []), (.if_icmp .le 17, 3, 0, 0, []), (.iload_n 3, 0, 0, 0, []), (.ifCond .ne 13, 3, 0, 0, []), (.aload_n 0, 0, 0, 0, []), (.iload_n 2, 0, 0, 0, []), (.iload_n 2, 0, 0, 0, []), (.iload_n 1, 0, 0, 0, []), (.iadd, 0, 0, 0, []), (.iconst 1, 0, 0, 0, []), (.isub, 0, 0, 0, []), (.invokevirtual 167, 174, 3, 189, []), (.nop, 3, 0, 0, [])]),
  (69, [], [2, 0, 0, 3], [(.iload_n 2, 0, 0, 0, []), (.iload_n 1, 0, 0, 0, []), (.iadd, 0, 0, 0, []), (.aload_n 0, 0, 0, 0, []), (.invokevirtual 82, 153, 1, 173, []), (.if_icmp .ge 11, 4, 0, 0, []), (.aload_n 0, 0, 0, 0, []), (.iload_n 2, 0, 0, 0, []), (.iload_n 2, 0, 0, 0, []), (.iload_n 1, 0, 0, 0, []), (.iadd, 0, 0, 0, []), (.invokevirtual 167, 174, 3, 189, []), (.nop, 4, 0, 0, [])]),
  (87, [], [2, 0, 0, 3], [(.aload_n 0, 0, 0, 0, []), (.getfield 7, 11, 0, 118, []), (.iconst 2, 0, 0, 0, []), (.iaload, 0, 0, 0, []), (.iconst 2, 0, 0, 0, []), (.if_icmp .ne 35, 5, 0, 0, []), (.aload_n 0, 0, 0, 0, []), (.getfield 7, 11, 0, 118, []), (.iconst 0, 0, 0, 0, []), (.iaload, 0, 0, 0, []), (.iconst 2, 0, 0, 0, []), (.if_icmp .le 25, 5, 0, 0, []), (.iload_n 2, 0, 0, 0, []), (.iload_n 1, 0, 0, 0, []), (.if_icmp .ge 20, 5, 0, 0, []), (.aload_n 0, 0, 0, 0, []), (.iload_n 2, 0, 0, 0, []), (.iload_n 2, 0, 0, 0, []), (.aload_n 0, 0, 0, 0, []), (.getfield 7, 11, 0, 118, []), (.iconst 0, 0, 0, 0, []), (.iaload, 0, 0, 0, []), (.iconst 1, 0, 0, 0, []), (.isub, 0, 0, 0, []), (.iload_n 1, 0, 0, 0, []), (.imul, 0, 0, 0, []), (.iadd, 0, 0, 0, []), (.invokevirtual 167, 174, 3, 189, []), (.nop, 5, 0, 0, [])]),
  (129, [], [2, 0, 0, 3], [(.iinc 2 1, 0, 0, 0, []), (.goto (-118), 1, 0, 0, [])]),
  (135, [], [3, 3, 3, 3], [(.return_, 0, 0, 0, [])])]
def P176 : List (Nat × List Nat × List Nat × List amI) := [(0, [], [2, 0, 0, 3, 3], [(.iconst 0, 0, 0, 0, []), (.istore_n 3, 0, 0, 0, []), (.iconst 0, 0, 0, 0, []), (.istore 4, 0, 0, 0, []), (.nop, 1, 0, 0, [])]),
  (5, [], [2, 0, 0, 0, 0], [(.iload 4, 0, 0, 0, []), (.iconst 4, 0, 0, 0, []), (.if_icmp .ge 45, 4, 0, 0, []), (.iload_n 3, 0, 0, 0, []), (.aload_n 0, 0, 0, 0, []), (.iload_n 1, 0, 0, 0, []), (.iload 4, 0, 0, 0, []), (.invokevirtual 171, 157, 3, 190, []), (.iconst 3, 0, 0, 0, []), (.if_icmp .ge 24, 2, 0, 0, []), (.aload_n 0, 0, 0, 0, []), (.iload_n 1, 0, 0, 0, []), (.iload 4, 0, 0, 0, []), (.invokevirtual 171, 157, 3, 190, []), (.aload_n 0, 0, 0, 0, []), (.iload_n 2, 0, 0, 0, []), (.iload 4, 0, 0, 0, []), (.invokevirtual 171, 157, 3, 190, []), (.if_icmp .ne 7, 2, 0, 0, []), (.iconst 1, 0, 0, 0, []), (.goto 4, 3, 0, 0, [])]),
  (44, [0], [2, 0, 0, 3, 0], [(.iconst 0, 0, 0, 0, []), (.nop, 3, 0, 0, [])]),
  (45, [0, 0], [2, 0, 0, 3, 0], [(.iadd, 0, 0, 0, []), (.istore_n 3, 0, 0, 0, []), (.iinc 4 1, 0, 0, 0, []), (.goto (-45), 1, 0, 0, [])]),
  (53, [], [3, 3, 3, 0, 3], [(.iload_n 3, 0, 0, 0, []), (.ireturn, 0, 0, 0, [])])]
def P177 : List (Nat × List Nat × List Nat × List amI) := [(0, [], [2, 0], [(.aload_n 0, 0, 0, 0, []), (.iload_n 1, 0, 0, 0, []), (.invokevirtual 175, 155, 2, 191, []), (.ifCond .ne 16, 1, 0, 0, []), (.aload_n 0, 0, 0, 0, []), (.iload_n 1, 0, 0, 0, []), (.invokevirtual 178, 156, 2, 192, []), (.iconst 5, 0, 0, 0, []), (.if_icmp .eq 7, 1, 0, 0, []), (.iconst 1, 0, 0, 0, []), (.goto 4, 2, 0, 0, [])]),
  (21, [], [3, 3], [(.iconst 0, 0, 0, 0, []), (.nop, 2, 0, 0, [])]),
  (22, [0], [3, 3], [(.ireturn, 4, 0, 0, [])])]
def P178 : List (Nat × List Nat × List Nat × List amI) := [(0, [], [2, 0], [(.aload_n 0, 0, 0, 0, []), (.aload_n 0, 0, 0, 0, []), (.getfield 22, 11, 11, 122, []), (.iload_n 1, 0, 0, 0, []), (.iaload, 0, 0, 0, []), (.invokevirtual 181, 177, 2, 193, []), (.ifCond .eq 57, 1, 0, 0, []), (.aload_n 0, 0, 0, 0, []), (.aload_n 0, 0, 0, 0, []), (.getfield 25, 11, 12, 123, []), (.iload_n 1, 0, 0, 0, []), (.iaload, 0, 0, 0, []), (.invokevirtual 181, 177, 2, 193, []), (.ifCond .eq 44, 1, 0, 0, []), (.aload_n 0, 0, 0, 0, []), (.aload_n 0, 0, 0, 0, []), (.getfield 22, 11, 11, 122, []), (.iload_n 1, 0, 0, 0, []), (.iaload, 0, 0, 0, []), (.aload_n 0, 0, 0, 0, []), (.getfield 25, 11, 12, 123, []), (.iload_n 1, 0, 0, 0, []), (.iaload, 0, 0, 0, []), (.invokevirtual 184, 176, 3, 194, []), (.i2l, 0, 0, 0, []), (.aload_n 0, 0, 0, 0, []), (.getfield 7, 11, 0, 118, []), (.iconst 3, 0, 0, 0, []), (.iaload, 0, 0, 0, []), (.i2l, 0, 0, 0, []), (.aload_n 0, 0, 0, 0, []), (.getfield 7, 11, 0, 118, []), (.iconst 4, 0, 0, 0, []), (.iaload, 0, 0, 0, []), (.i2l, 0, 0, 0, []), (.invokestatic 86, 151, 3, 174, []), (.ifCond .ne 7, 1, 0, 0, []), (.iconst 1, 0, 0, 0, []), (.goto 4, 2, 0, 0, [])]),
  (67, [], [3, 3], [(.iconst 0, 0, 0, 0, []), (.nop, 2, 0, 0, [])]),
  (68, [0], [3, 3], [(.ireturn, 4, 0, 0, [])])]
def P179 : List (Nat × List Nat × List Nat × List amI) := [(0, [], [2, 0, 3, 3], [(.iconst 1, 0, 0, 0, []), (.istore_n 2, 0, 0, 0, []), (.iconst 0, 0, 0, 0, []), (.istore_n 3, 0, 0, 0, []), (.nop, 1, 0, 0, [])]),
  (4, [], [2, 0, 0, 0], [(.iload_n 3, 0, 0, 0, []), (.aload_n 0, 0, 0, 0, []), (.getfield 164, 11, 13, 147, []), (.if_icmp .ge 47, 6, 0, 0, []), (.iload_n 2, 0, 0, 0, []), (.ifCond .eq 35, 4, 0, 0, []), (.aload_n 0, 0, 0, 0, []), (.getfield 22, 11, 11, 122, []), (.iload_n 3, 0, 0, 0, []), (.iaload, 0, 0, 0, []), (.iload_n 1, 0, 0, 0, []), (.if_icmp .eq 13, 2, 0, 0, []), (.aload_n 0, 0, 0, 0, []), (.getfield 25, 11, 12, 123, []), (.iload_n 3, 0, 0, 0, []), (.iaload, 0, 0, 0, []), (.iload_n 1, 0, 0, 0, []), (.if_icmp .ne 11, 3, 0, 0, []), (.nop, 2, 0, 0, [])]),
  (36, [], [2, 0, 3, 0], [(.aload_n 0, 0, 0, 0, []), (.iload_n 3, 0, 0, 0, []), (.invokevirtual 187, 178, 2, 195, []), (.ifCond .ne 7, 4, 0, 0, []), (.nop, 3, 0, 0, [])]),
  (44, [], [2, 0, 3, 0], [(.iconst 1, 0, 0, 0, []), (.goto 4, 5, 0, 0, [])]),
  (48, [], [2, 0, 3, 0], [(.iconst 0, 0, 0, 0, []), (.nop, 5, 0, 0, [])]),
  (49, [0], [2, 0, 3, 0], [(.istore_n 2, 0, 0, 0, []), (.iinc 3 1, 0, 0, 0, []), (.goto (-49), 1, 0, 0, [])]),
  (56, [], [3, 3, 0, 3], [(.iload_n 2, 0, 0, 0, []), (.ireturn, 4, 0, 0, [])])]
def P180 : List (Nat × List Nat × List Nat × List amI) := [(0, [], [2, 3], [(.aload_n 0, 0, 0, 0, []), (.iconst 0, 0, 0, 0, []), (.putfield 190, 11, 14, 148, []), (.aload_n 0, 0, 0, 0, []), (.iconst (-1), 0, 0, 0, []), (.putfield 193, 11, 15, 149, []), (.aload_n 0, 0, 0, 0, []), (.getfield 164, 11, 13, 147, []), (.iconst 1, 0, 0, 0, []), (.isub, 0, 0, 0, []), (.istore_n 1, 0, 0, 0, []), (.nop, 1, 0, 0, [])]),
  (17, [], [2, 0], [(.iload_n 1, 0, 0, 0, []), (.ifCond .lt 32, 3, 0, 0, []), (.aload_n 0, 0, 0, 0, []), (.iload_n 1, 0, 0, 0, []), (.invokevirtual 187, 178, 2, 195, []), (.ifCond .eq 18, 2, 0, 0, []), (.aload_n 0, 0, 0, 0, []), (.dup, 0, 0, 0, []), (.getfield 190, 11, 14, 148, []), (.iconst 1, 0, 0, 0, []), (.iadd, 0, 0, 0, []), (.putfield 190, 11, 14, 148, []), (.aload_n 0, 0, 0, 0, []), (.iload_n 1, 0, 0, 0, []), (.putfield 193, 11, 15, 149, []), (.nop, 2, 0, 0, [])]),
  (44, [], [2, 0], [(.iinc 1 (-1), 0, 0, 0, []), (.goto (-30), 1, 0, 0, [])]),
  (50, [], [3, 3], [(.return_, 0, 0, 0, [])])]
def P181 : List (Nat × List Nat × List Nat × List amI) := [(0, [], [2], [(.aload_n 0, 0, 0, 0, []), (.invokevirtual 196, 180, 1, 196, []), (.aload_n 0, 0, 0, 0, []), (.getfield 190, 11, 14, 148, []), (.ifCond .ne 7, 1, 0, 0, []), (.iconst 1, 0, 0, 0, []), (.goto 4, 2, 0, 0, [])]),
  (15, [], [3], [(.iconst 0, 0, 0, 0, []), (.nop, 2, 0, 0, [])]),
  (16, [0], [3], [(.ireturn, 4, 0, 0, [])])]
def P182 : List (Nat × List Nat × List Nat × List amI) := [(0, [], [2, 0, 0, 0], [(.aload_n 0, 0, 0, 0, []), (.getfield 7, 11, 0, 118, []), (.bipush 20, 0, 0, 0, []), (.iload_n 1, 0, 0, 0, []), (.iadd, 0, 0, 0, []), (.iconst 1, 0, 0, 0, []), (.iload_n 2, 0, 0, 0, []), (.bipush 10, 0, 0, 0, []), (.idiv, 0, 0, 0, []), (.iadd, 0, 0, 0, []), (.iastore, 0, 0, 0, []), (.aload_n 0, 0, 0, 0, []), (.getfield 7, 11, 0, 118, []), (.bipush 84, 0, 0, 0, []), (.iload_n 1, 0, 0, 0, []), (.iadd, 0, 0, 0, []), (.iload_n 2, 0, 0, 0, []), (.bipush 10, 0, 0, 0, []), (.irem, 0, 0, 0, []), (.iastore, 0, 0, 0, []), (.aload_n 0, 0, 0, 0, []), (.iload_n 1, 0, 0, 0, []), (.iconst 0, 0, 0, 0, []), (.iload_n 3, 0, 0, 0, []), (.bipush 27, 0, 0, 0, []), (.idiv, 0, 0, 0, []), (.invokevirtual 199, 158, 4, 197, []), (.aload_n 0, 0, 0, 0, []), (.iload_n 1, 0, 0, 0, []), (.iconst 1, 0, 0, 0, []), (.iload_n 3, 0, 0, 0, []), (.bipush 9, 0, 0, 0, []), (.idiv, 0, 0, 0, []), (.iconst 3, 0, 0, 0, []), (.irem, 0, 0, 0, []), (.invokevirtual 199, 158, 4, 197, []), (.aload_n 0, 0, 0, 0, []), (.iload_n 1, 0, 0, 0, []), (.iconst 2, 0, 0, 0, []), (.iload_n 3, 0, 0, 0, []), (.iconst 3, 0, 0, 0, []), (.idiv, 0, 0, 0, []), (.iconst 3, 0, 0, 0, []), (.irem, 0, 0, 0, []), (.invokevirtual 199, 158, 4, 197, []), (.aload_n 0, 0, 0, 0, []), (.iload_n 1, 0, 0, 0, []), (.iconst 3, 0, 0, 0, []), (.iload_n 3, 0, 0, 0, []), (.iconst 3, 0, 0, 0, []), (.irem, 0, 0, 0, []), (.invokevirtual 199, 158, 4, 197, []), (.return_, 0, 0, 0, [])])]
def P183 : List (Nat × List Nat × List Nat × List amI) := [(0, [], [2, 0, 3], [(.aload_n 0, 0, 0, 0, []), (.getfield 7, 11, 0, 118, []), (.bipush 20, 0, 0, 0, []), (.iload_n 1, 0, 0, 0, []), (.iadd, 0, 0, 0, []), (.iconst 0, 0, 0, 0, []), (.iastore, 0, 0, 0, []), (.aload_n 0, 0, 0, 0, []), (.getfield 7, 11, 0, 118, []), (.bipush 84, 0, 0, 0, []), (.iload_n 1, 0, 0, 0, []), (.iadd, 0, 0, 0, []), (.iconst 0, 0, 0, 0, []), (.iastore, 0, 0, 0, []), (.iconst 0, 0, 0, 0, []), (.istore_n 2, 0, 0, 0, []), (.nop, 1, 0, 0, [])]),
  (22, [], [2, 0, 0], [(.iload_n 2, 0, 0, 0, []), (.iconst 4, 0, 0, 0, []), (.if_icmp .ge 16, 2, 0, 0, []), (.aload_n 0, 0, 0, 0, []), (.iload_n 1, 0, 0, 0, []), (.iload_n 2, 0, 0, 0, []), (.iconst 0, 0, 0, 0, []), (.invokevirtual 199, 158, 4, 197, []), (.iinc 2 1, 0, 0, 0, []), (.goto (-15), 1, 0, 0, [])]),
  (40, [], [3, 3, 3], [(.return_, 0, 0, 0, [])])]
def P184 : List (Nat × List Nat × List Nat × List amI) := [(0, [], [2, 3, 3], [(.iconst 0, 0, 0, 0, []), (.istore_n 1, 0, 0, 0, []), (.iconst 0, 0, 0, 0, []), (.istore_n 2, 0, 0, 0, []), (.nop, 1, 0, 0, [])]),
  (4, [], [2, 0, 0], [(.iload_n 2, 0, 0, 0, []), (.aload_n 0, 0, 0, 0, []), (.invokevirtual 82, 153, 1, 173, []), (.if_icmp .ge 25, 4, 0, 0, []), (.iload_n 1, 0, 0, 0, []), (.aload_n 0, 0, 0, 0, []), (.iload_n 2, 0, 0, 0, []), (.invokevirtual 175, 155, 2, 191, []), (.ifCond .eq 7, 2, 0, 0, []), (.iconst 0, 0, 0, 0, []), (.goto 4, 3, 0, 0, [])]),
  (25, [0], [2, 3, 0], [(.iconst 1, 0, 0, 0, []), (.nop, 3, 0, 0, [])]),
  (26, [0, 0], [2, 3, 0], [(.iadd, 0, 0, 0, []), (.istore_n 1, 0, 0, 0, []), (.iinc 2 1, 0, 0, 0, []), (.goto (-27), 1, 0, 0, [])]),
  (34, [], [3, 0, 3], [(.iload_n 1, 0, 0, 0, []), (.ireturn, 0, 0, 0, [])])]
def P185 : List (Nat × List Nat × List Nat × List amI) := [(0, [], [2, 0, 0, 3, 3], [(.aload_n 0, 0, 0, 0, []), (.getfield 7, 11, 0, 118, []), (.bipush 84, 0, 0, 0, []), (.iload_n 1, 0, 0, 0, []), (.iadd, 0, 0, 0, []), (.iaload, 0, 0, 0, []), (.istore_n 3, 0, 0, 0, []), (.aload_n 0, 0, 0, 0, []), (.iconst 0, 0, 0, 0, []), (.iload_n 2, 0, 0, 0, []), (.iload_n 3, 0, 0, 0, []), (.iconst 0, 0, 0, 0, []), (.iconst 0, 0, 0, 0, []), (.invokevirtual 160, 172, 6, 188, []), (.istore 4, 0, 0, 0, []), (.aload_n 0, 0, 0, 0, []), (.iload_n 1, 0, 0, 0, []), (.invokevirtual 178, 156, 2, 192, []), (.tableswitch 72 1 6 #[38, 43, 48, 50, 57, 59], 9, 0, 0, [(1, 1), (2, 2), (3, 3), (4, 4), (5, 5), (6, 6)])]),
  (64, [], [3, 3, 3, 3, 0], [(.iload 4, 0, 0, 0, []), (.iconst 2, 0, 0, 0, []), (.idiv, 0, 0, 0, []), (.ireturn, 0, 0, 0, [])]),
  (69, [], [3, 3, 3, 3, 0], [(.iconst 2, 0, 0, 0, []), (.iload 4, 0, 0, 0, []), (.imul, 0, 0, 0, []), (.ireturn, 0, 0, 0, [])]),
  (74, [], [3, 3, 3, 0, 3], [(.iload_n 3, 0, 0, 0, []), (.ireturn, 0, 0, 0, [])]),
  (76, [], [3, 3, 3, 3, 0], [(.iload 4, 0, 0, 0, []), (.iconst 2, 0, 0, 0, []), (.idiv, 0, 0, 0, []), (.iconst 5, 0, 0, 0, []), (.iadd, 0, 0, 0, []), (.ireturn, 0, 0, 0, [])]),
  (83, [], [3, 3, 3, 3, 3], [(.iconst (-1), 0, 0, 0, []), (.ireturn, 0, 0, 0, [])]),
  (85, [], [3, 3, 3, 0, 3], [(.iload_n 3, 0, 0, 0, []), (.iconst 3, 0, 0, 0, []), (.if_icmp .ge 7, 7, 0, 0, []), (.iconst 0, 0, 0, 0, []), (.goto 6, 8, 0, 0, [])]),
  (94, [], [3, 3, 3, 0, 3], [(.iload_n 3, 0, 0, 0, []), (.iconst 3, 0, 0, 0, []), (.isub, 0, 0, 0, []), (.nop, 8, 0, 0, [])]),
  (97, [0], [3, 3, 3, 3, 3], [(.ireturn, 0, 0, 0, [])]),
  (98, [], [3, 3, 3, 3, 0], [(.iload 4, 0, 0, 0, []), (.ireturn, 0, 0, 0, [])])]
def P186 : List (Nat × List Nat × List Nat × List amI) := [(0, [], [2, 0], [(.aload_n 0, 0, 0, 0, []), (.iconst 1, 0, 0, 0, []), (.aload_n 0, 0, 0, 0, []), (.iload_n 1, 0, 0, 0, []), (.iconst 0, 0, 0, 0, []), (.invokevirtual 171, 157, 3, 190, []), (.aload_n 0, 0, 0, 0, []), (.iload_n 1, 0, 0, 0, []), (.iconst 1, 0, 0, 0, []), (.invokevirtual 171, 157, 3, 190, []), (.aload_n 0, 0, 0, 0, []), (.iload_n 1, 0, 0, 0, []), (.iconst 2, 0, 0, 0, []), (.invokevirtual 171, 157, 3, 190, []), (.aload_n 0, 0, 0, 0, []), (.iload_n 1, 0, 0, 0, []), (.iconst 3, 0, 0, 0, []), (.invokevirtual 171, 157, 3, 190, []), (.invokevirtual 160, 172, 6, 188, []), (.ireturn, 0, 0, 0, [])])]
def P187 : List (Nat × List Nat × List Nat × List amI) := [(0, [], [2, 0, 0, 0, 3], [(.iload_n 1, 0, 0, 0, []), (.i2l, 0, 0, 0, []), (.lconst 1, 0, 0, 0, []), (.ldc2_w 146, 0, 0, 9, [(8, 0)]), (.invokestatic 86, 151, 3, 174, []), (.ifCond .eq 27, 1, 0, 0, []), (.iload_n 2, 0, 0, 0, []), (.i2l, 0, 0, 0, []), (.lconst 1, 0, 0, 0, []), (.ldc2_w 146, 0, 0, 9, [(8, 0)]), (.invokestatic 86, 151, 3, 174, []), (.ifCond .eq 15, 1, 0, 0, []), (.iload_n 3, 0, 0, 0, []), (.i2l, 0, 0, 0, []), (.lconst 0, 0, 0, 0, []), (.ldc2_w 203, 0, 0, 11, [(2, 0)]), (.invokestatic 86, 151, 3, 174, []), (.ifCond .ne 9, 2, 0, 0, []), (.nop, 1, 0, 0, [])]),
  (36, [], [2, 3, 3, 3, 3], [(.aload_n 0, 0, 0, 0, []), (.iconst 1, 0, 0, 0, []), (.invokevirtual 148, 150, 2, 185, []), (.ireturn, 0, 0, 0, [])]),
  (42, [], [2, 0, 0, 0, 3], [(.aload_n 0, 0, 0, 0, []), (.getfield 7, 11, 0, 118, []), (.iconst 0, 0, 0, 0, []), (.iload_n 1, 0, 0, 0, []), (.iastore, 0, 0, 0, []), (.aload_n 0, 0, 0, 0, []), (.getfield 7, 11, 0, 118, []), (.iconst 1, 0, 0, 0, []), (.iload_n 2, 0, 0, 0, []), (.iastore, 0, 0, 0, []), (.aload_n 0, 0, 0, 0, []), (.getfield 7, 11, 0, 118, []), (.iconst 2, 0, 0, 0, []), (.iload_n 3, 0, 0, 0, []), (.iastore, 0, 0, 0, []), (.iconst 0, 0, 0, 0, []), (.istore 4, 0, 0, 0, []), (.nop, 3, 0, 0, [])]),
  (66, [], [2, 3, 3, 3, 0], [(.iload 4, 0, 0, 0, []), (.bipush 64, 0, 0, 0, []), (.if_icmp .ge 15, 4, 0, 0, []), (.aload_n 0, 0, 0, 0, []), (.iload 4, 0, 0, 0, []), (.invokevirtual 205, 183, 2, 198, []), (.iinc 4 1, 0, 0, 0, []), (.goto (-16), 3, 0, 0, [])]),
  (85, [], [2, 3, 3, 3, 3], [(.aload_n 0, 0, 0, 0, []), (.invokevirtual 82, 153, 1, 173, []), (.ireturn, 0, 0, 0, [])])]
def P188 : List (Nat × List Nat × List Nat × List amI) := [(0, [], [2, 0, 0, 3], [(.iload_n 1, 0, 0, 0, []), (.i2l, 0, 0, 0, []), (.lconst 0, 0, 0, 0, []), (.lconst 1, 0, 0, 0, []), (.invokestatic 86, 151, 3, 174, []), (.ifCond .eq 15, 1, 0, 0, []), (.iload_n 2, 0, 0, 0, []), (.i2l, 0, 0, 0, []), (.lconst 0, 0, 0, 0, []), (.ldc2_w 209, 0, 0, 12, [(4, 0)]), (.invokestatic 86, 151, 3, 174, []), (.ifCond .ne 9, 2, 0, 0, []), (.nop, 1, 0, 0, [])]),
  (22, [], [2, 3, 3, 3], [(.aload_n 0, 0, 0, 0, []), (.iconst 1, 0, 0, 0, []), (.invokevirtual 148, 150, 2, 185, []), (.ireturn, 0, 0, 0, [])]),
  (28, [], [2, 0, 0, 3], [(.iload_n 1, 0, 0, 0, []), (.ifCond .ne 16, 3, 0, 0, []), (.iload_n 2, 0, 0, 0, []), (.aload_n 0, 0, 0, 0, []), (.getfield 7, 11, 0, 118, []), (.iconst 4, 0, 0, 0, []), (.iaload, 0, 0, 0, []), (.if_icmp .le 22, 5, 0, 0, []), (.goto 13, 4, 0, 0, [])]),
  (45, [], [2, 0, 0, 3], [(.iload_n 2, 0, 0, 0, []), (.aload_n 0, 0, 0, 0, []), (.getfield 7, 11, 0, 118, []), (.iconst 3, 0, 0, 0, []), (.iaload, 0, 0, 0, []), (.if_icmp .ge 9, 5, 0, 0, []), (.nop, 4, 0, 0, [])]),
  (55, [], [2, 3, 3, 3], [(.aload_n 0, 0, 0, 0, []), (.iconst 3, 0, 0, 0, []), (.invokevirtual 148, 150, 2, 185, []), (.ireturn, 0, 0, 0, [])]),
  (61, [], [2, 0, 0, 3], [(.aload_n 0, 0, 0, 0, []), (.getfield 7, 11, 0, 118, []), (.iconst 3, 0, 0, 0, []), (.iload_n 1, 0, 0, 0, []), (.iadd, 0, 0, 0, []), (.iaload, 0, 0, 0, []), (.istore_n 3, 0, 0, 0, []), (.aload_n 0, 0, 0, 0, []), (.getfield 7, 11, 0, 118, []), (.iconst 3, 0, 0, 0, []), (.iload_n 1, 0, 0, 0, []), (.iadd, 0, 0, 0, []), (.iload_n 2, 0, 0, 0, []), (.iastore, 0, 0, 0, []), (.iload_n 3, 0, 0, 0, []), (.ireturn, 0, 0, 0, [])])]
def P189 : List (Nat × List Nat × List Nat × List amI) := [(0, [], [2, 0, 0, 0], [(.aload_n 0, 0, 0, 0, []), (.iload_n 1, 0, 0, 0, []), (.iload_n 2, 0, 0, 0, []), (.iload_n 3, 0, 0, 0, []), (.invokevirtual 211, 182, 4, 199, []), (.aload_n 0, 0, 0, 0, []), (.invokevirtual 214, 175, 1, 200, []), (.aload_n 0, 0, 0, 0, []), (.iload_n 1, 0, 0, 0, []), (.invokevirtual 217, 179, 2, 201, []), (.ifCond .eq 5, 1, 0, 0, []), (.iconst 1, 0, 0, 0, []), (.ireturn, 4, 0, 0, [])]),
  (21, [], [2, 0, 3, 3], [(.aload_n 0, 0, 0, 0, []), (.iload_n 1, 0, 0, 0, []), (.invokevirtual 205, 183, 2, 198, []), (.iconst 0, 0, 0, 0, []), (.ireturn, 4, 0, 0, [])])]
def P190 : List (Nat × List Nat × List Nat × List amI) := [(0, [], [2, 0, 0, 0], [(.aload_n 0, 0, 0, 0, []), (.iload_n 1, 0, 0, 0, []), (.invokevirtual 220, 154, 2, 202, []), (.ifCond .eq 27, 1, 0, 0, []), (.iload_n 2, 0, 0, 0, []), (.i2l, 0, 0, 0, []), (.lconst 0, 0, 0, 0, []), (.ldc2_w 223, 0, 0, 13, [(69, 0)]), (.invokestatic 86, 151, 3, 174, []), (.ifCond .eq 15, 1, 0, 0, []), (.iload_n 3, 0, 0, 0, []), (.i2l, 0, 0, 0, []), (.lconst 0, 0, 0, 0, []), (.ldc2_w 225, 0, 0, 14, [(80, 0)]), (.invokestatic 86, 151, 3, 174, []), (.ifCond .ne 9, 2, 0, 0, []), (.nop, 1, 0, 0, [])]),
  (32, [], [2, 3, 3, 3], [(.aload_n 0, 0, 0, 0, []), (.iconst 1, 0, 0, 0, []), (.invokevirtual 148, 150, 2, 185, []), (.ireturn, 0, 0, 0, [])]),
  (38, [], [2, 0, 0, 0], [(.aload_n 0, 0, 0, 0, []), (.iload_n 1, 0, 0, 0, []), (.invokevirtual 175, 155, 2, 191, []), (.ifCond .ne 9, 3, 0, 0, []), (.aload_n 0, 0, 0, 0, []), (.iconst 3, 0, 0, 0, []), (.invokevirtual 148, 150, 2, 185, []), (.ireturn, 0, 0, 0, [])]),
  (52, [], [2, 0, 0, 0], [(.aload_n 0, 0, 0, 0, []), (.iload_n 1, 0, 0, 0, []), (.iload_n 2, 0, 0, 0, []), (.iload_n 3, 0, 0, 0, []), (.invokevirtual 227, 189, 4, 203, []), (.ifCond .eq 10, 4, 0, 0, []), (.aload_n 0, 0, 0, 0, []), (.invokevirtual 231, 184, 1, 204, []), (.goto 8, 5, 0, 0, [])]),
  (69, [], [2, 3, 3, 3], [(.aload_n 0, 0, 0, 0, []), (.iconst 5, 0, 0, 0, []), (.invokevirtual 148, 150, 2, 185, []), (.nop, 5, 0, 0, [])]),
  (74, [0], [3, 3, 3, 3], [(.ireturn, 0, 0, 0, [])])]
def P191 : List (Nat × List Nat × List Nat × List amI) := [(0, [], [2, 0, 3, 3], [(.iconst 0, 0, 0, 0, []), (.istore_n 2, 0, 0, 0, []), (.iconst 0, 0, 0, 0, []), (.istore_n 3, 0, 0, 0, []), (.nop, 1, 0, 0, [])]),
  (4, [], [2, 0, 0, 0], [(.iload_n 3, 0, 0, 0, []), (.iconst 4, 0, 0, 0, []), (.if_icmp .ge 22, 2, 0, 0, []), (.iconst 3, 0, 0, 0, []), (.iload_n 2, 0, 0, 0, []), (.imul, 0, 0, 0, []), (.aload_n 0, 0, 0, 0, []), (.iload_n 1, 0, 0, 0, []), (.iload_n 3, 0, 0, 0, []), (.invokevirtual 171, 157, 3, 190, []), (.iconst 3, 0, 0, 0, []), (.irem, 0, 0, 0, []), (.iadd, 0, 0, 0, []), (.istore_n 2, 0, 0, 0, []), (.iinc 3 1, 0, 0, 0, []), (.goto (-21), 1, 0, 0, [])]),
  (28, [], [3, 3, 0, 3], [(.iload_n 2, 0, 0, 0, []), (.ireturn, 0, 0, 0, [])])]
def P192 : List (Nat × List Nat × List Nat × List amI) := [(0, [], [2, 0, 3], [(.aload_n 0, 0, 0, 0, []), (.iload_n 1, 0, 0, 0, []), (.invokevirtual 220, 154, 2, 202, []), (.ifCond .ne 9, 1, 0, 0, []), (.aload_n 0, 0, 0, 0, []), (.iconst 1, 0, 0, 0, []), (.invokevirtual 148, 150, 2, 185, []), (.ireturn, 0, 0, 0, [])]),
  (14, [], [2, 0, 3], [(.aload_n 0, 0, 0, 0, []), (.iload_n 1, 0, 0, 0, []), (.invokevirtual 175, 155, 2, 191, []), (.ifCond .eq 9, 2, 0, 0, []), (.aload_n 0, 0, 0, 0, []), (.iconst 2, 0, 0, 0, []), (.invokevirtual 148, 150, 2, 185, []), (.ireturn, 0, 0, 0, [])]),
  (28, [], [2, 0, 3], [(.aload_n 0, 0, 0, 0, []), (.iload_n 1, 0, 0, 0, []), (.invokevirtual 234, 191, 2, 205, []), (.istore_n 2, 0, 0, 0, []), (.aload_n 0, 0, 0, 0, []), (.iload_n 1, 0, 0, 0, []), (.invokevirtual 205, 183, 2, 198, []), (.iload_n 2, 0, 0, 0, []), (.ireturn, 0, 0, 0, [])])]
def P193 : List (Nat × List Nat × List Nat × List amI) := [(0, [], [2, 0, 0], [(.aload_n 0, 0, 0, 0, []), (.iload_n 1, 0, 0, 0, []), (.invokevirtual 220, 154, 2, 202, []), (.ifCond .eq 15, 1, 0, 0, []), (.iload_n 2, 0, 0, 0, []), (.i2l, 0, 0, 0, []), (.lconst 0, 0, 0, 0, []), (.ldc2_w 237, 0, 0, 15, [(11, 0)]), (.invokestatic 86, 151, 3, 174, []), (.ifCond .ne 9, 2, 0, 0, []), (.nop, 1, 0, 0, [])]),
  (20, [], [2, 3, 3], [(.aload_n 0, 0, 0, 0, []), (.iconst 1, 0, 0, 0, []), (.invokevirtual 148, 150, 2, 185, []), (.ireturn, 0, 0, 0, [])]),
  (26, [], [2, 0, 0], [(.iload_n 2, 0, 0, 0, []), (.ifCond .ne 17, 5, 0, 0, []), (.aload_n 0, 0, 0, 0, []), (.iload_n 1, 0, 0, 0, []), (.invokevirtual 175, 155, 2, 191, []), (.ifCond .eq 7, 3, 0, 0, []), (.iconst 0, 0, 0, 0, []), (.goto 4, 4, 0, 0, [])]),
  (42, [], [3, 3, 3], [(.iconst 1, 0, 0, 0, []), (.nop, 4, 0, 0, [])]),
  (43, [0], [3, 3, 3], [(.ireturn, 0, 0, 0, [])]),
  (44, [], [2, 0, 0], [(.aload_n 0, 0, 0, 0, []), (.iload_n 1, 0, 0, 0, []), (.invokevirtual 175, 155, 2, 191, []), (.ifCond .eq 9, 6, 0, 0, []), (.aload_n 0, 0, 0, 0, []), (.iconst 2, 0, 0, 0, []), (.invokevirtual 148, 150, 2, 185, []), (.ireturn, 0, 0, 0, [])]),
  (58, [], [2, 0, 0], [(.iload_n 2, 0, 0, 0, []), (.iconst 1, 0, 0, 0, []), (.if_icmp .ne 11, 7, 0, 0, []), (.aload_n 0, 0, 0, 0, []), (.iload_n 1, 0, 0, 0, []), (.invokevirtual 178, 156, 2, 192, []), (.goto 60, 11, 0, 0, [])]),
  (71, [], [2, 0, 0], [(.iload_n 2, 0, 0, 0, []), (.iconst 2, 0, 0, 0, []), (.if_icmp .ne 15, 8, 0, 0, []), (.aload_n 0, 0, 0, 0, []), (.getfield 7, 11, 0, 118, []), (.bipush 84, 0, 0, 0, []), (.iload_n 1, 0, 0, 0, []), (.iadd, 0, 0, 0, []), (.iaload, 0, 0, 0, []), (.goto 43, 11, 0, 0, [])]),
  (88, [], [2, 0, 0], [(.iload_n 2, 0, 0, 0, []), (.bipush 7, 0, 0, 0, []), (.if_icmp .ge 14, 9, 0, 0, []), (.aload_n 0, 0, 0, 0, []), (.iload_n 1, 0, 0, 0, []), (.iload_n 2, 0, 0, 0, []), (.iconst 3, 0, 0, 0, []), (.isub, 0, 0, 0, []), (.invokevirtual 171, 157, 3, 190, []), (.goto 26, 11, 0, 0, [])]),
  (105, [], [2, 0, 0], [(.iload_n 2, 0, 0, 0, []), (.bipush 11, 0, 0, 0, []), (.if_icmp .ge 15, 10, 0, 0, []), (.aload_n 0, 0, 0, 0, []), (.iload_n 1, 0, 0, 0, []), (.iload_n 2, 0, 0, 0, []), (.bipush 7, 0, 0, 0, []), (.isub, 0, 0, 0, []), (.invokevirtual 239, 185, 3, 206, []), (.goto 8, 11, 0, 0, [])]),
  (123, [], [2, 0, 3], [(.aload_n 0, 0, 0, 0, []), (.iload_n 1, 0, 0, 0, []), (.invokevirtual 242, 186, 2, 207, []), (.nop, 11, 0, 0, [])]),
  (128, [0], [3, 3, 3], [(.ireturn, 0, 0, 0, [])])]
def P194 : List (Nat × List Nat × List Nat × List amI) := [(0, [], [2, 0, 0, 3], [(.aload_n 0, 0, 0, 0, []), (.iload_n 1, 0, 0, 0, []), (.invokevirtual 220, 154, 2, 202, []), (.ifCond .eq 15, 1, 0, 0, []), (.iload_n 2, 0, 0, 0, []), (.i2l, 0, 0, 0, []), (.lconst 0, 0, 0, 0, []), (.ldc2_w 223, 0, 0, 13, [(69, 0)]), (.invokestatic 86, 151, 3, 174, []), (.ifCond .ne 9, 2, 0, 0, []), (.nop, 1, 0, 0, [])]),
  (20, [], [2, 3, 3, 3], [(.aload_n 0, 0, 0, 0, []), (.iconst 1, 0, 0, 0, []), (.invokevirtual 148, 150, 2, 185, []), (.ireturn, 0, 0, 0, [])]),
  (26, [], [2, 0, 0, 3], [(.aload_n 0, 0, 0, 0, []), (.iload_n 1, 0, 0, 0, []), (.invokevirtual 175, 155, 2, 191, []), (.ifCond .eq 9, 3, 0, 0, []), (.aload_n 0, 0, 0, 0, []), (.iconst 2, 0, 0, 0, []), (.invokevirtual 148, 150, 2, 185, []), (.ireturn, 0, 0, 0, [])]),
  (40, [], [2, 0, 0, 3], [(.aload_n 0, 0, 0, 0, []), (.iload_n 1, 0, 0, 0, []), (.invokevirtual 178, 156, 2, 192, []), (.istore_n 3, 0, 0, 0, []), (.aload_n 0, 0, 0, 0, []), (.getfield 7, 11, 0, 118, []), (.bipush 20, 0, 0, 0, []), (.iload_n 1, 0, 0, 0, []), (.iadd, 0, 0, 0, []), (.iconst 1, 0, 0, 0, []), (.iload_n 2, 0, 0, 0, []), (.bipush 10, 0, 0, 0, []), (.idiv, 0, 0, 0, []), (.iadd, 0, 0, 0, []), (.iastore, 0, 0, 0, []), (.aload_n 0, 0, 0, 0, []), (.getfield 7, 11, 0, 118, []), (.bipush 84, 0, 0, 0, []), (.iload_n 1, 0, 0, 0, []), (.iadd, 0, 0, 0, []), (.iload_n 2, 0, 0, 0, []), (.bipush 10, 0, 0, 0, []), (.irem, 0, 0, 0, []), (.iastore, 0, 0, 0, []), (.iload_n 3, 0, 0, 0, []), (.ireturn, 0, 0, 0, [])])]
def P195 : List (Nat × List Nat × List Nat × List amI) := [(0, [], [0], [(.iload_n 0, 0, 0, 0, []), (.iconst 4, 0, 0, 0, []), (.if_icmp .ge 7, 1, 0, 0, []), (.iconst 0, 0, 0, 0, []), (.goto 6, 2, 0, 0, [])]),
  (9, [], [0], [(.iload_n 0, 0, 0, 0, []), (.iconst 3, 0, 0, 0, []), (.isub, 0, 0, 0, []), (.nop, 2, 0, 0, [])]),
  (12, [0], [3], [(.ireturn, 0, 0, 0, [])])]
def P196 : List (Nat × List Nat × List Nat × List amI) := [(0, [], [2, 0, 0, 3], [(.aload_n 0, 0, 0, 0, []), (.iload_n 1, 0, 0, 0, []), (.invokevirtual 220, 154, 2, 202, []), (.ifCond .eq 15, 1, 0, 0, []), (.iload_n 2, 0, 0, 0, []), (.i2l, 0, 0, 0, []), (.lconst 0, 0, 0, 0, []), (.ldc2_w 245, 0, 0, 16, [(6, 0)]), (.invokestatic 86, 151, 3, 174, []), (.ifCond .ne 9, 2, 0, 0, []), (.nop, 1, 0, 0, [])]),
  (20, [], [2, 3, 3, 3], [(.aload_n 0, 0, 0, 0, []), (.iconst 1, 0, 0, 0, []), (.invokevirtual 148, 150, 2, 185, []), (.ireturn, 0, 0, 0, [])]),
  (26, [], [2, 0, 0, 3], [(.aload_n 0, 0, 0, 0, []), (.iload_n 1, 0, 0, 0, []), (.invokevirtual 175, 155, 2, 191, []), (.ifCond .eq 9, 3, 0, 0, []), (.aload_n 0, 0, 0, 0, []), (.iconst 2, 0, 0, 0, []), (.invokevirtual 148, 150, 2, 185, []), (.ireturn, 0, 0, 0, [])]),
  (40, [], [2, 0, 0, 3], [(.aload_n 0, 0, 0, 0, []), (.iload_n 1, 0, 0, 0, []), (.invokevirtual 178, 156, 2, 192, []), (.istore_n 3, 0, 0, 0, []), (.iload_n 2, 0, 0, 0, []), (.ifCond .eq 16, 4, 0, 0, []), (.iload_n 2, 0, 0, 0, []), (.iload_n 3, 0, 0, 0, []), (.if_icmp .eq 11, 4, 0, 0, []), (.iload_n 2, 0, 0, 0, []), (.iload_n 3, 0, 0, 0, []), (.invokestatic 247, 195, 1, 208, []), (.if_icmp .ne 15, 5, 0, 0, []), (.nop, 4, 0, 0, [])]),
  (63, [], [2, 0, 3, 3], [(.aload_n 0, 0, 0, 0, []), (.getfield 7, 11, 0, 118, []), (.bipush 84, 0, 0, 0, []), (.iload_n 1, 0, 0, 0, []), (.iadd, 0, 0, 0, []), (.iaload, 0, 0, 0, []), (.goto 8, 6, 0, 0, [])]),
  (75, [], [2, 3, 3, 3], [(.aload_n 0, 0, 0, 0, []), (.iconst 5, 0, 0, 0, []), (.invokevirtual 148, 150, 2, 185, []), (.nop, 6, 0, 0, [])]),
  (80, [0], [3, 3, 3, 3], [(.ireturn, 0, 0, 0, [])])]
def P197 : List (Nat × List Nat × List Nat × List amI) := [(0, [], [0, 0], [(.iload_n 0, 0, 0, 0, []), (.i2l, 0, 0, 0, []), (.lconst 0, 0, 0, 0, []), (.ldc2_w 250, 0, 0, 17, [(3, 0)]), (.invokestatic 86, 151, 3, 174, []), (.ifCond .eq 19, 1, 0, 0, []), (.iload_n 1, 0, 0, 0, []), (.i2l, 0, 0, 0, []), (.lconst 0, 0, 0, 0, []), (.ldc2_w 203, 0, 0, 11, [(2, 0)]), (.invokestatic 86, 151, 3, 174, []), (.ifCond .eq 7, 1, 0, 0, []), (.iconst 1, 0, 0, 0, []), (.goto 4, 2, 0, 0, [])]),
  (28, [], [3, 3], [(.iconst 0, 0, 0, 0, []), (.nop, 2, 0, 0, [])]),
  (29, [0], [3, 3], [(.ireturn, 4, 0, 0, [])])]
def P198 : List (Nat × List Nat × List Nat × List amI) := [(0, [], [2, 0], [(.aload_n 0, 0, 0, 0, []), (.getfield 7, 11, 0, 118, []), (.bipush 6, 0, 0, 0, []), (.aload_n 0, 0, 0, 0, []), (.getfield 7, 11, 0, 118, []), (.bipush 6, 0, 0, 0, []), (.iaload, 0, 0, 0, []), (.iload_n 1, 0, 0, 0, []), (.iadd, 0, 0, 0, []), (.iconst 0, 0, 0, 0, []), (.ldc 252, 0, 0, 18, [(999999, 0)]), (.invokestatic 157, 152, 3, 187, []), (.iastore, 0, 0, 0, []), (.return_, 0, 0, 0, [])])]
def P199 : List (Nat × List Nat × List Nat × List amI) := [(0, [], [2, 0, 0, 0, 3], [(.aload_n 0, 0, 0, 0, []), (.iload_n 1, 0, 0, 0, []), (.invokevirtual 220, 154, 2, 202, []), (.ifCond .eq 11, 1, 0, 0, []), (.iload_n 2, 0, 0, 0, []), (.iload_n 3, 0, 0, 0, []), (.invokestatic 253, 197, 2, 209, []), (.ifCond .ne 9, 2, 0, 0, []), (.nop, 1, 0, 0, [])]),
  (16, [], [2, 3, 3, 3, 3], [(.aload_n 0, 0, 0, 0, []), (.iconst 1, 0, 0, 0, []), (.invokevirtual 148, 150, 2, 185, []), (.ireturn, 0, 0, 0, [])]),
  (22, [], [2, 0, 0, 0, 3], [(.aload_n 0, 0, 0, 0, []), (.iload_n 1, 0, 0, 0, []), (.invokevirtual 175, 155, 2, 191, []), (.ifCond .eq 9, 3, 0, 0, []), (.aload_n 0, 0, 0, 0, []), (.iconst 2, 0, 0, 0, []), (.invokevirtual 148, 150, 2, 185, []), (.ireturn, 0, 0, 0, [])]),
  (36, [], [2, 0, 0, 0, 3], [(.aload_n 0, 0, 0, 0, []), (.iload_n 1, 0, 0, 0, []), (.iload_n 2, 0, 0, 0, []), (.invokevirtual 171, 157, 3, 190, []), (.istore 4, 0, 0, 0, []), (.iload 4, 0, 0, 0, []), (.iload_n 3, 0, 0, 0, []), (.if_icmp .eq 12, 4, 0, 0, []), (.aload_n 0, 0, 0, 0, []), (.iload_n 1, 0, 0, 0, []), (.invokevirtual 178, 156, 2, 192, []), (.iconst 5, 0, 0, 0, []), (.if_icmp .ne 9, 5, 0, 0, []), (.nop, 4, 0, 0, [])]),
  (59, [], [2, 3, 3, 3, 3], [(.aload_n 0, 0, 0, 0, []), (.iconst 3, 0, 0, 0, []), (.invokevirtual 148, 150, 2, 185, []), (.ireturn, 0, 0, 0, [])]),
  (65, [], [2, 0, 0, 0, 0], [(.aload_n 0, 0, 0, 0, []), (.iload_n 1, 0, 0, 0, []), (.iload_n 2, 0, 0, 0, []), (.iload_n 3, 0, 0, 0, []), (.invokevirtual 199, 158, 4, 197, []), (.aload_n 0, 0, 0, 0, []), (.invokevirtual 214, 175, 1, 200, []), (.aload_n 0, 0, 0, 0, []), (.iload_n 1, 0, 0, 0, []), (.invokevirtual 217, 179, 2, 201, []), (.ifCond .ne 17, 6, 0, 0, []), (.aload_n 0, 0, 0, 0, []), (.iload_n 1, 0, 0, 0, []), (.iload_n 2, 0, 0, 0, []), (.iload 4, 0, 0, 0, []), (.invokevirtual 199, 158, 4, 197, []), (.aload_n 0, 0, 0, 0, []), (.iconst 5, 0, 0, 0, []), (.invokevirtual 148, 150, 2, 185, []), (.ireturn, 0, 0, 0, [])]),
  (98, [], [2, 0, 0, 3, 3], [(.aload_n 0, 0, 0, 0, []), (.aload_n 0, 0, 0, 0, []), (.iload_n 1, 0, 0, 0, []), (.iload_n 2, 0, 0, 0, []), (.invokevirtual 239, 185, 3, 206, []), (.invokevirtual 257, 198, 2, 210, []), (.aload_n 0, 0, 0, 0, []), (.getfield 7, 11, 0, 118, []), (.bipush 6, 0, 0, 0, []), (.iaload, 0, 0, 0, []), (.ireturn, 0, 0, 0, [])])]
def P200 : List (Nat × List Nat × List Nat × List amI) := [(0, [], [2, 0, 0], [(.aload_n 0, 0, 0, 0, []), (.iload_n 1, 0, 0, 0, []), (.invokevirtual 220, 154, 2, 202, []), (.ifCond .eq 11, 1, 0, 0, []), (.aload_n 0, 0, 0, 0, []), (.iload_n 2, 0, 0, 0, []), (.invokevirtual 220, 154, 2, 202, []), (.ifCond .ne 9, 2, 0, 0, []), (.nop, 1, 0, 0, [])]),
  (16, [], [2, 3, 3], [(.aload_n 0, 0, 0, 0, []), (.iconst 1, 0, 0, 0, []), (.invokevirtual 148, 150, 2, 185, []), (.ireturn, 0, 0, 0, [])]),
  (22, [], [2, 0, 0], [(.aload_n 0, 0, 0, 0, []), (.iload_n 1, 0, 0, 0, []), (.invokevirtual 175, 155, 2, 191, []), (.ifCond .ne 11, 3, 0, 0, []), (.aload_n 0, 0, 0, 0, []), (.iload_n 2, 0, 0, 0, []), (.invokevirtual 175, 155, 2, 191, []), (.ifCond .eq 11, 4, 0, 0, []), (.nop, 3, 0, 0, [])]),
  (38, [], [2, 3, 3], [(.aload_n 0, 0, 0, 0, []), (.iconst 2, 0, 0, 0, []), (.invokevirtual 148, 150, 2, 185, []), (.goto 9, 5, 0, 0, [])]),
  (46, [], [2, 0, 0], [(.aload_n 0, 0, 0, 0, []), (.iload_n 1, 0, 0, 0, []), (.iload_n 2, 0, 0, 0, []), (.invokevirtual 184, 176, 3, 194, []), (.nop, 5, 0, 0, [])]),
  (52, [0], [3, 3, 3], [(.ireturn, 0, 0, 0, [])])]
def P201 : List (Nat × List Nat × List Nat × List amI) := [(0, [], [2, 0, 0, 3, 3, 3], [(.iconst 1, 0, 0, 0, []), (.istore_n 3, 0, 0, 0, []), (.iconst 0, 0, 0, 0, []), (.istore 4, 0, 0, 0, []), (.nop, 1, 0, 0, [])]),
  (5, [], [2, 0, 0, 0, 0, 3], [(.iload 4, 0, 0, 0, []), (.aload_n 0, 0, 0, 0, []), (.getfield 164, 11, 13, 147, []), (.if_icmp .ge 98, 6, 0, 0, []), (.iload_n 3, 0, 0, 0, []), (.ifCond .eq 94, 6, 0, 0, []), (.aload_n 0, 0, 0, 0, []), (.getfield 22, 11, 11, 122, []), (.iload 4, 0, 0, 0, []), (.iaload, 0, 0, 0, []), (.iload_n 1, 0, 0, 0, []), (.if_icmp .ne 13, 2, 0, 0, []), (.aload_n 0, 0, 0, 0, []), (.getfield 25, 11, 12, 123, []), (.iload 4, 0, 0, 0, []), (.iaload, 0, 0, 0, []), (.goto 25, 4, 0, 0, [])]),
  (39, [], [2, 0, 0, 0, 0, 3], [(.aload_n 0, 0, 0, 0, []), (.getfield 25, 11, 12, 123, []), (.iload 4, 0, 0, 0, []), (.iaload, 0, 0, 0, []), (.iload_n 1, 0, 0, 0, []), (.if_icmp .ne 13, 3, 0, 0, []), (.aload_n 0, 0, 0, 0, []), (.getfield 22, 11, 11, 122, []), (.iload 4, 0, 0, 0, []), (.iaload, 0, 0, 0, []), (.goto 4, 4, 0, 0, [])]),
  (60, [], [2, 0, 0, 0, 0, 3], [(.iconst (-1), 0, 0, 0, []), (.nop, 4, 0, 0, [])]),
  (61, [0], [2, 0, 0, 0, 0, 3], [(.istore 5, 0, 0, 0, []), (.iload 5, 0, 0, 0, []), (.ifCond .lt 38, 5, 0, 0, []), (.aload_n 0, 0, 0, 0, []), (.iload 5, 0, 0, 0, []), (.invokevirtual 181, 177, 2, 193, []), (.ifCond .eq 29, 5, 0, 0, []), (.aload_n 0, 0, 0, 0, []), (.iload 5, 0, 0, 0, []), (.iload_n 2, 0, 0, 0, []), (.invokevirtual 260, 202, 3, 211, []), (.i2l, 0, 0, 0, []), (.aload_n 0, 0, 0, 0, []), (.getfield 7, 11, 0, 118, []), (.iconst 3, 0, 0, 0, []), (.iaload, 0, 0, 0, []), (.i2l, 0, 0, 0, []), (.aload_n 0, 0, 0, 0, []), (.getfield 7, 11, 0, 118, []), (.iconst 4, 0, 0, 0, []), (.iaload, 0, 0, 0, []), (.i2l, 0, 0, 0, []), (.invokestatic 86, 151, 3, 174, []), (.istore_n 3, 0, 0, 0, []), (.nop, 5, 0, 0, [])]),
  (103, [], [2, 0, 0, 0, 0, 3], [(.iinc 4 1, 0, 0, 0, []), (.goto (-101), 1, 0, 0, [])]),
  (109, [], [3, 3, 3, 0, 3, 3], [(.iload_n 3, 0, 0, 0, []), (.ireturn, 4, 0, 0, [])])]
def P202 : List (Nat × List Nat × List Nat × List amI) := [(0, [], [2, 0, 0, 3, 3, 3], [(.iconst 0, 0, 0, 0, []), (.istore_n 3, 0, 0, 0, []), (.iload_n 2, 0, 0, 0, []), (.istore 4, 0, 0, 0, []), (.iconst 3, 0, 0, 0, []), (.istore 5, 0, 0, 0, []), (.nop, 1, 0, 0, [])]),
  (8, [], [2, 0, 3, 0, 0, 0], [(.iload 5, 0, 0, 0, []), (.ifCond .lt 37, 4, 0, 0, []), (.iload_n 3, 0, 0, 0, []), (.aload_n 0, 0, 0, 0, []), (.iload_n 1, 0, 0, 0, []), (.iload 5, 0, 0, 0, []), (.invokevirtual 171, 157, 3, 190, []), (.iload 4, 0, 0, 0, []), (.iconst 3, 0, 0, 0, []), (.irem, 0, 0, 0, []), (.if_icmp .ne 7, 2, 0, 0, []), (.iconst 1, 0, 0, 0, []), (.goto 4, 3, 0, 0, [])]),
  (32, [0], [2, 0, 3, 3, 0, 0], [(.iconst 0, 0, 0, 0, []), (.nop, 3, 0, 0, [])]),
  (33, [0, 0], [2, 0, 3, 3, 0, 0], [(.iadd, 0, 0, 0, []), (.istore_n 3, 0, 0, 0, []), (.iload 4, 0, 0, 0, []), (.iconst 3, 0, 0, 0, []), (.idiv, 0, 0, 0, []), (.istore 4, 0, 0, 0, []), (.iinc 5 (-1), 0, 0, 0, []), (.goto (-36), 1, 0, 0, [])]),
  (47, [], [3, 3, 3, 0, 3, 3], [(.iload_n 3, 0, 0, 0, []), (.ireturn, 0, 0, 0, [])])]
def P203 : List (Nat × List Nat × List Nat × List amI) := [(0, [], [2, 0, 3, 3], [(.iconst 0, 0, 0, 0, []), (.istore_n 2, 0, 0, 0, []), (.iconst 0, 0, 0, 0, []), (.istore_n 3, 0, 0, 0, []), (.nop, 1, 0, 0, [])]),
  (4, [], [2, 0, 0, 0], [(.iload_n 3, 0, 0, 0, []), (.bipush 81, 0, 0, 0, []), (.if_icmp .ge 26, 4, 0, 0, []), (.iload_n 2, 0, 0, 0, []), (.aload_n 0, 0, 0, 0, []), (.iload_n 1, 0, 0, 0, []), (.iload_n 3, 0, 0, 0, []), (.invokevirtual 263, 201, 3, 212, []), (.ifCond .eq 7, 2, 0, 0, []), (.iconst 1, 0, 0, 0, []), (.goto 4, 3, 0, 0, [])]),
  (24, [0], [2, 0, 3, 0], [(.iconst 0, 0, 0, 0, []), (.nop, 3, 0, 0, [])]),
  (25, [0, 0], [2, 0, 3, 0], [(.iadd, 0, 0, 0, []), (.istore_n 2, 0, 0, 0, []), (.iinc 3 1, 0, 0, 0, []), (.goto (-26), 1, 0, 0, [])]),
  (33, [], [3, 3, 0, 3], [(.iload_n 2, 0, 0, 0, []), (.ireturn, 0, 0, 0, [])])]
def P204 : List (Nat × List Nat × List Nat × List amI) := [(0, [], [2, 0, 0, 3, 3], [(.aload_n 0, 0, 0, 0, []), (.iload_n 1, 0, 0, 0, []), (.invokevirtual 220, 154, 2, 202, []), (.ifCond .eq 8, 1, 0, 0, []), (.iload_n 2, 0, 0, 0, []), (.iconst (-1), 0, 0, 0, []), (.if_icmp .ge 9, 2, 0, 0, []), (.nop, 1, 0, 0, [])]),
  (13, [], [2, 3, 3, 3, 3], [(.aload_n 0, 0, 0, 0, []), (.iconst 1, 0, 0, 0, []), (.invokevirtual 148, 150, 2, 185, []), (.ireturn, 0, 0, 0, [])]),
  (19, [], [2, 0, 0, 3, 3], [(.aload_n 0, 0, 0, 0, []), (.invokevirtual 214, 175, 1, 200, []), (.iload_n 2, 0, 0, 0, []), (.ifCond .ge 9, 3, 0, 0, []), (.aload_n 0, 0, 0, 0, []), (.iload_n 1, 0, 0, 0, []), (.invokevirtual 266, 203, 2, 213, []), (.ireturn, 0, 0, 0, [])]),
  (33, [], [2, 0, 0, 3, 3], [(.iconst 0, 0, 0, 0, []), (.istore_n 3, 0, 0, 0, []), (.iconst 0, 0, 0, 0, []), (.istore 4, 0, 0, 0, []), (.nop, 4, 0, 0, [])]),
  (38, [], [2, 0, 0, 0, 0], [(.iload 4, 0, 0, 0, []), (.bipush 81, 0, 0, 0, []), (.if_icmp .ge 30, 7, 0, 0, []), (.aload_n 0, 0, 0, 0, []), (.iload_n 1, 0, 0, 0, []), (.iload 4, 0, 0, 0, []), (.invokevirtual 263, 201, 3, 212, []), (.ifCond .eq 14, 6, 0, 0, []), (.iload_n 3, 0, 0, 0, []), (.iload_n 2, 0, 0, 0, []), (.if_icmp .ne 6, 5, 0, 0, []), (.iload 4, 0, 0, 0, []), (.ireturn, 0, 0, 0, [])]),
  (63, [], [2, 0, 0, 0, 0], [(.iinc 3 1, 0, 0, 0, []), (.nop, 6, 0, 0, [])]),
  (66, [], [2, 0, 0, 0, 0], [(.iinc 4 1, 0, 0, 0, []), (.goto (-31), 4, 0, 0, [])]),
  (72, [], [2, 3, 3, 3, 3], [(.aload_n 0, 0, 0, 0, []), (.iconst 2, 0, 0, 0, []), (.invokevirtual 148, 150, 2, 185, []), (.ireturn, 0, 0, 0, [])])]
def P205 : List (Nat × List Nat × List Nat × List amI) := [(0, [], [2, 0, 3, 3], [(.iload_n 1, 0, 0, 0, []), (.iconst (-1), 0, 0, 0, []), (.if_icmp .ge 9, 1, 0, 0, []), (.aload_n 0, 0, 0, 0, []), (.iconst 1, 0, 0, 0, []), (.invokevirtual 148, 150, 2, 185, []), (.ireturn, 0, 0, 0, [])]),
  (11, [], [2, 0, 3, 3], [(.aload_n 0, 0, 0, 0, []), (.invokevirtual 214, 175, 1, 200, []), (.aload_n 0, 0, 0, 0, []), (.invokevirtual 196, 180, 1, 196, []), (.iload_n 1, 0, 0, 0, []), (.ifCond .ge 8, 2, 0, 0, []), (.aload_n 0, 0, 0, 0, []), (.getfield 190, 11, 14, 148, []), (.ireturn, 0, 0, 0, [])]),
  (28, [], [2, 0, 3, 3], [(.iconst 0, 0, 0, 0, []), (.istore_n 2, 0, 0, 0, []), (.iconst 0, 0, 0, 0, []), (.istore_n 3, 0, 0, 0, []), (.nop, 3, 0, 0, [])]),
  (32, [], [2, 0, 0, 0], [(.iload_n 3, 0, 0, 0, []), (.aload_n 0, 0, 0, 0, []), (.getfield 164, 11, 13, 147, []), (.if_icmp .ge 42, 6, 0, 0, []), (.aload_n 0, 0, 0, 0, []), (.iload_n 3, 0, 0, 0, []), (.invokevirtual 187, 178, 2, 195, []), (.ifCond .eq 28, 5, 0, 0, []), (.iload_n 2, 0, 0, 0, []), (.iload_n 1, 0, 0, 0, []), (.if_icmp .ne 20, 4, 0, 0, []), (.bipush 64, 0, 0, 0, []), (.aload_n 0, 0, 0, 0, []), (.getfield 22, 11, 11, 122, []), (.iload_n 3, 0, 0, 0, []), (.iaload, 0, 0, 0, []), (.imul, 0, 0, 0, []), (.aload_n 0, 0, 0, 0, []), (.getfield 25, 11, 12, 123, []), (.iload_n 3, 0, 0, 0, []), (.iaload, 0, 0, 0, []), (.iadd, 0, 0, 0, []), (.ireturn, 0, 0, 0, [])]),
  (70, [], [2, 0, 0, 0], [(.iinc 2 1, 0, 0, 0, []), (.nop, 5, 0, 0, [])]),
  (73, [], [2, 0, 0, 0], [(.iinc 3 1, 0, 0, 0, []), (.goto (-44), 3, 0, 0, [])]),
  (79, [], [2, 3, 3, 3], [(.aload_n 0, 0, 0, 0, []), (.iconst 2, 0, 0, 0, []), (.invokevirtual 148, 150, 2, 185, []), (.ireturn, 0, 0, 0, [])])]
def P206 : List (Nat × List Nat × List Nat × List amI) := [(0, [], [2, 0, 0, 0, 3, 3], [(.aload_n 0, 0, 0, 0, []), (.getfield 269, 11, 21, 150, []), (.iconst 4, 0, 0, 0, []), (.iload_n 1, 0, 0, 0, []), (.imul, 0, 0, 0, []), (.iload_n 2, 0, 0, 0, []), (.iadd, 0, 0, 0, []), (.if_icmp .ne 7, 1, 0, 0, []), (.iconst 1, 0, 0, 0, []), (.goto 4, 2, 0, 0, [])]),
  (16, [], [2, 0, 0, 0, 3, 3], [(.iconst 0, 0, 0, 0, []), (.nop, 2, 0, 0, [])]),
  (17, [0], [2, 0, 0, 0, 3, 3], [(.istore 4, 0, 0, 0, []), (.iconst 0, 0, 0, 0, []), (.istore 5, 0, 0, 0, []), (.nop, 3, 0, 0, [])]),
  (22, [], [2, 0, 0, 0, 0, 0], [(.iload 5, 0, 0, 0, []), (.iload_n 3, 0, 0, 0, []), (.if_icmp .ge 43, 7, 0, 0, []), (.iload 4, 0, 0, 0, []), (.ifCond .ne 25, 4, 0, 0, []), (.aload_n 0, 0, 0, 0, []), (.getfield 34, 11, 18, 126, []), (.iload 5, 0, 0, 0, []), (.iaload, 0, 0, 0, []), (.iload_n 1, 0, 0, 0, []), (.if_icmp .ne 18, 5, 0, 0, []), (.aload_n 0, 0, 0, 0, []), (.getfield 37, 11, 19, 127, []), (.iload 5, 0, 0, 0, []), (.iaload, 0, 0, 0, []), (.iload_n 2, 0, 0, 0, []), (.if_icmp .ne 7, 5, 0, 0, []), (.nop, 4, 0, 0, [])]),
  (55, [], [2, 0, 0, 0, 3, 0], [(.iconst 1, 0, 0, 0, []), (.goto 4, 6, 0, 0, [])]),
  (59, [], [2, 0, 0, 0, 3, 0], [(.iconst 0, 0, 0, 0, []), (.nop, 6, 0, 0, [])]),
  (60, [0], [2, 0, 0, 0, 3, 0], [(.istore 4, 0, 0, 0, []), (.iinc 5 1, 0, 0, 0, []), (.goto (-43), 3, 0, 0, [])]),
  (68, [], [3, 3, 3, 3, 0, 3], [(.iload 4, 0, 0, 0, []), (.ireturn, 4, 0, 0, [])])]
def P207 : List (Nat × List Nat × List Nat × List amI) := [(0, [], [2, 0, 3, 3, 3, 3, 3, 3, 3, 3], [(.iconst (-1), 0, 0, 0, []), (.istore_n 2, 0, 0, 0, []), (.iconst 0, 0, 0, 0, []), (.istore_n 3, 0, 0, 0, []), (.iconst 0, 0, 0, 0, []), (.istore 4, 0, 0, 0, []), (.iconst 1, 0, 0, 0, []), (.istore 5, 0, 0, 0, []), (.nop, 1, 0, 0, [])]),
  (10, [], [2, 0, 0, 0, 0, 0, 3, 3, 3, 3], [(.iload 4, 0, 0, 0, []), (.ifCond .lt 314, 12, 0, 0, []), (.iload 5, 0, 0, 0, []), (.ifCond .eq 82, 7, 0, 0, []), (.aload_n 0, 0, 0, 0, []), (.invokevirtual 196, 180, 1, 196, []), (.aload_n 0, 0, 0, 0, []), (.getfield 31, 11, 17, 125, []), (.iload 4, 0, 0, 0, []), (.bipush 24, 0, 0, 0, []), (.iastore, 0, 0, 0, []), (.aload_n 0, 0, 0, 0, []), (.getfield 28, 11, 16, 124, []), (.iload 4, 0, 0, 0, []), (.aload_n 0, 0, 0, 0, []), (.getfield 193, 11, 15, 149, []), (.iastore, 0, 0, 0, []), (.aload_n 0, 0, 0, 0, []), (.getfield 190, 11, 14, 148, []), (.ifCond .ne 21, 5, 0, 0, []), (.iload_n 2, 0, 0, 0, []), (.ifCond .lt 8, 2, 0, 0, []), (.iload_n 3, 0, 0, 0, []), (.iload_n 2, 0, 0, 0, []), (.if_icmp .ge 7, 3, 0, 0, []), (.nop, 2, 0, 0, [])]),
  (60, [], [2, 0, 3, 0, 0, 3, 3, 3, 3, 3], [(.iload_n 3, 0, 0, 0, []), (.goto 4, 4, 0, 0, [])]),
  (64, [], [2, 0, 0, 0, 0, 3, 3, 3, 3, 3], [(.iload_n 2, 0, 0, 0, []), (.nop, 4, 0, 0, [])]),
  (65, [0], [2, 0, 3, 0, 0, 3, 3, 3, 3, 3], [(.istore_n 2, 0, 0, 0, []), (.goto 30, 6, 0, 0, [])]),
  (69, [], [2, 0, 0, 0, 0, 3, 3, 3, 3, 3], [(.iload 4, 0, 0, 0, []), (.iload_n 1, 0, 0, 0, []), (.if_icmp .ge 24, 6, 0, 0, []), (.aload_n 0, 0, 0, 0, []), (.getfield 190, 11, 14, 148, []), (.iconst 4, 0, 0, 0, []), (.iload_n 1, 0, 0, 0, []), (.iload 4, 0, 0, 0, []), (.isub, 0, 0, 0, []), (.imul, 0, 0, 0, []), (.if_icmp .gt 11, 6, 0, 0, []), (.aload_n 0, 0, 0, 0, []), (.getfield 31, 11, 17, 125, []), (.iload 4, 0, 0, 0, []), (.iconst (-1), 0, 0, 0, []), (.iastore, 0, 0, 0, []), (.nop, 6, 0, 0, [])]),
  (96, [], [2, 0, 0, 0, 0, 3, 3, 3, 3, 3], [(.iconst 0, 0, 0, 0, []), (.istore 5, 0, 0, 0, []), (.nop, 7, 0, 0, [])]),
  (99, [], [2, 0, 0, 0, 0, 0, 3, 3, 3, 3], [(.aload_n 0, 0, 0, 0, []), (.getfield 31, 11, 17, 125, []), (.iload 4, 0, 0, 0, []), (.dup2, 0, 0, 0, []), (.iaload, 0, 0, 0, []), (.iconst 1, 0, 0, 0, []), (.iadd, 0, 0, 0, []), (.iastore, 0, 0, 0, []), (.aload_n 0, 0, 0, 0, []), (.getfield 31, 11, 17, 125, []), (.iload 4, 0, 0, 0, []), (.iaload, 0, 0, 0, []), (.istore 6, 0, 0, 0, []), (.iload 6, 0, 0, 0, []), (.bipush 24, 0, 0, 0, []), (.if_icmp .lt 60, 8, 0, 0, []), (.iinc 4 (-1), 0, 0, 0, []), (.iload 4, 0, 0, 0, []), (.ifCond .lt (-121), 1, 0, 0, []), (.aload_n 0, 0, 0, 0, []), (.aload_n 0, 0, 0, 0, []), (.getfield 34, 11, 18, 126, []), (.iload 4, 0, 0, 0, []), (.iaload, 0, 0, 0, []), (.aload_n 0, 0, 0, 0, []), (.getfield 37, 11, 19, 127, []), (.iload 4, 0, 0, 0, []), (.iaload, 0, 0, 0, []), (.aload_n 0, 0, 0, 0, []), (.getfield 40, 11, 20, 128, []), (.iload 4, 0, 0, 0, []), (.iaload, 0, 0, 0, []), (.invokevirtual 199, 158, 4, 197, []), (.iload_n 3, 0, 0, 0, []), (.aload_n 0, 0, 0, 0, []), (.aload_n 0, 0, 0, 0, []), (.getfield 34, 11, 18, 126, []), (.iload 4, 0, 0, 0, []), (.iaload, 0, 0, 0, []), (.aload_n 0, 0, 0, 0, []), (.getfield 37, 11, 19, 127, []), (.iload 4, 0, 0, 0, []), (.iaload, 0, 0, 0, []), (.invokevirtual 239, 185, 3, 206, []), (.isub, 0, 0, 0, []), (.istore_n 3, 0, 0, 0, []), (.goto (-170), 1, 0, 0, [])]),
  (183, [], [2, 0, 0, 0, 0, 0, 0, 3, 3, 3], [(.iload 6, 0, 0, 0, []), (.bipush 12, 0, 0, 0, []), (.if_icmp .ge 18, 9, 0, 0, []), (.aload_n 0, 0, 0, 0, []), (.getfield 22, 11, 11, 122, []), (.aload_n 0, 0, 0, 0, []), (.getfield 28, 11, 16, 124, []), (.iload 4, 0, 0, 0, []), (.iaload, 0, 0, 0, []), (.iaload, 0, 0, 0, []), (.goto 15, 10, 0, 0, [])]),
  (205, [], [2, 0, 0, 0, 0, 0, 0, 3, 3, 3], [(.aload_n 0, 0, 0, 0, []), (.getfield 25, 11, 12, 123, []), (.aload_n 0, 0, 0, 0, []), (.getfield 28, 11, 16, 124, []), (.iload 4, 0, 0, 0, []), (.iaload, 0, 0, 0, []), (.iaload, 0, 0, 0, []), (.nop, 10, 0, 0, [])]),
  (217, [0], [2, 0, 0, 0, 0, 0, 0, 3, 3, 3], [(.istore 7, 0, 0, 0, []), (.iload 6, 0, 0, 0, []), (.bipush 12, 0, 0, 0, []), (.irem, 0, 0, 0, []), (.iconst 3, 0, 0, 0, []), (.idiv, 0, 0, 0, []), (.istore 8, 0, 0, 0, []), (.iload 6, 0, 0, 0, []), (.iconst 3, 0, 0, 0, []), (.irem, 0, 0, 0, []), (.istore 9, 0, 0, 0, []), (.aload_n 0, 0, 0, 0, []), (.iload 7, 0, 0, 0, []), (.iload 8, 0, 0, 0, []), (.invokevirtual 171, 157, 3, 190, []), (.iload 9, 0, 0, 0, []), (.if_icmp .eq (-234), 1, 0, 0, []), (.aload_n 0, 0, 0, 0, []), (.iload 7, 0, 0, 0, []), (.iload 8, 0, 0, 0, []), (.iload 4, 0, 0, 0, []), (.invokevirtual 272, 206, 4, 214, []), (.ifCond .eq 6, 11, 0, 0, []), (.goto (-250), 1, 0, 0, [])]),
  (263, [], [2, 0, 0, 0, 0, 3, 3, 0, 0, 0], [(.aload_n 0, 0, 0, 0, []), (.getfield 34, 11, 18, 126, []), (.iload 4, 0, 0, 0, []), (.iload 7, 0, 0, 0, []), (.iastore, 0, 0, 0, []), (.aload_n 0, 0, 0, 0, []), (.getfield 37, 11, 19, 127, []), (.iload 4, 0, 0, 0, []), (.iload 8, 0, 0, 0, []), (.iastore, 0, 0, 0, []), (.aload_n 0, 0, 0, 0, []), (.getfield 40, 11, 20, 128, []), (.iload 4, 0, 0, 0, []), (.aload_n 0, 0, 0, 0, []), (.iload 7, 0, 0, 0, []), (.iload 8, 0, 0, 0, []), (.invokevirtual 171, 157, 3, 190, []), (.iastore, 0, 0, 0, []), (.iload_n 3, 0, 0, 0, []), (.aload_n 0, 0, 0, 0, []), (.iload 7, 0, 0, 0, []), (.iload 8, 0, 0, 0, []), (.invokevirtual 239, 185, 3, 206, []), (.iadd, 0, 0, 0, []), (.istore_n 3, 0, 0, 0, []), (.aload_n 0, 0, 0, 0, []), (.iload 7, 0, 0, 0, []), (.iload 8, 0, 0, 0, []), (.iload 9, 0, 0, 0, []), (.invokevirtual 199, 158, 4, 197, []), (.iinc 4 1, 0, 0, 0, []), (.iconst 1, 0, 0, 0, []), (.istore 5, 0, 0, 0, []), (.goto (-313), 1, 0, 0, [])]),
  (326, [], [3, 3, 0, 3, 3, 3, 3, 3, 3, 3], [(.iload_n 2, 0, 0, 0, []), (.ireturn, 0, 0, 0, [])])]
def P208 : List (Nat × List Nat × List Nat × List amI) := [(0, [], [2, 0, 3, 3], [(.iconst 0, 0, 0, 0, []), (.istore_n 2, 0, 0, 0, []), (.nop, 1, 0, 0, [])]),
  (2, [], [2, 0, 0, 3], [(.iload_n 2, 0, 0, 0, []), (.iload_n 1, 0, 0, 0, []), (.iadd, 0, 0, 0, []), (.iconst 4, 0, 0, 0, []), (.if_icmp .gt 33, 3, 0, 0, []), (.aload_n 0, 0, 0, 0, []), (.iload_n 2, 0, 0, 0, []), (.invokevirtual 275, 207, 2, 215, []), (.istore_n 3, 0, 0, 0, []), (.iload_n 3, 0, 0, 0, []), (.ifCond .lt 17, 2, 0, 0, []), (.aload_n 0, 0, 0, 0, []), (.iload_n 2, 0, 0, 0, []), (.iload_n 1, 0, 0, 0, []), (.iadd, 0, 0, 0, []), (.putfield 278, 11, 22, 151, []), (.aload_n 0, 0, 0, 0, []), (.iload_n 3, 0, 0, 0, []), (.putfield 281, 11, 23, 152, []), (.iconst 1, 0, 0, 0, []), (.ireturn, 4, 0, 0, [])]),
  (33, [], [2, 0, 0, 3], [(.iinc 2 1, 0, 0, 0, []), (.goto (-34), 1, 0, 0, [])]),
  (39, [], [3, 3, 3, 3], [(.iconst 0, 0, 0, 0, []), (.ireturn, 4, 0, 0, [])])]
def P209 : List (Nat × List Nat × List Nat × List amI) := [(0, [], [2, 0, 0, 0, 3, 3, 3], [(.aload_n 0, 0, 0, 0, []), (.iload_n 1, 0, 0, 0, []), (.iload_n 2, 0, 0, 0, []), (.invokevirtual 171, 157, 3, 190, []), (.istore 4, 0, 0, 0, []), (.iload 4, 0, 0, 0, []), (.iload_n 3, 0, 0, 0, []), (.if_icmp .eq 14, 1, 0, 0, []), (.aload_n 0, 0, 0, 0, []), (.iload_n 1, 0, 0, 0, []), (.invokevirtual 178, 156, 2, 192, []), (.iconst 5, 0, 0, 0, []), (.if_icmp .ne 5, 1, 0, 0, []), (.iconst 0, 0, 0, 0, []), (.ireturn, 4, 0, 0, [])]),
  (25, [], [2, 0, 0, 0, 0, 3, 3], [(.aload_n 0, 0, 0, 0, []), (.invokevirtual 214, 175, 1, 200, []), (.aload_n 0, 0, 0, 0, []), (.iconst 4, 0, 0, 0, []), (.iload_n 1, 0, 0, 0, []), (.imul, 0, 0, 0, []), (.iload_n 2, 0, 0, 0, []), (.iadd, 0, 0, 0, []), (.putfield 269, 11, 21, 150, []), (.iload 4, 0, 0, 0, []), (.iload_n 3, 0, 0, 0, []), (.if_icmp .ne 7, 2, 0, 0, []), (.iconst 0, 0, 0, 0, []), (.goto 9, 3, 0, 0, [])]),
  (48, [], [2, 0, 0, 0, 0, 3, 3], [(.aload_n 0, 0, 0, 0, []), (.iload_n 1, 0, 0, 0, []), (.iload_n 2, 0, 0, 0, []), (.invokevirtual 239, 185, 3, 206, []), (.nop, 3, 0, 0, [])]),
  (54, [0], [2, 0, 0, 0, 0, 3, 3], [(.istore 5, 0, 0, 0, []), (.aload_n 0, 0, 0, 0, []), (.iload_n 1, 0, 0, 0, []), (.iload_n 2, 0, 0, 0, []), (.iload_n 3, 0, 0, 0, []), (.invokevirtual 199, 158, 4, 197, []), (.aload_n 0, 0, 0, 0, []), (.iload 4, 0, 0, 0, []), (.iload_n 3, 0, 0, 0, []), (.if_icmp .ne 7, 4, 0, 0, []), (.iconst 0, 0, 0, 0, []), (.goto 4, 5, 0, 0, [])]),
  (74, [2], [2, 0, 0, 3, 0, 0, 3], [(.iconst 1, 0, 0, 0, []), (.nop, 5, 0, 0, [])]),
  (75, [0, 2], [2, 0, 0, 3, 0, 0, 3], [(.invokevirtual 284, 208, 2, 216, []), (.istore 6, 0, 0, 0, []), (.aload_n 0, 0, 0, 0, []), (.iload_n 1, 0, 0, 0, []), (.iload_n 2, 0, 0, 0, []), (.iload 4, 0, 0, 0, []), (.invokevirtual 199, 158, 4, 197, []), (.aload_n 0, 0, 0, 0, []), (.dup, 0, 0, 0, []), (.getfield 281, 11, 23, 152, []), (.iload 5, 0, 0, 0, []), (.iadd, 0, 0, 0, []), (.putfield 281, 11, 23, 152, []), (.iload 6, 0, 0, 0, []), (.ireturn, 4, 0, 0, [])])]
def P210 : List (Nat × List Nat × List Nat × List amI) := [(0, [], [2, 0, 0, 0, 0], [(.aload_n 0, 0, 0, 0, []), (.iload_n 1, 0, 0, 0, []), (.invokevirtual 220, 154, 2, 202, []), (.ifCond .eq 22, 1, 0, 0, []), (.iload_n 2, 0, 0, 0, []), (.iload_n 3, 0, 0, 0, []), (.invokestatic 253, 197, 2, 209, []), (.ifCond .eq 14, 1, 0, 0, []), (.iload 4, 0, 0, 0, []), (.i2l, 0, 0, 0, []), (.lconst 0, 0, 0, 0, []), (.lconst 1, 0, 0, 0, []), (.invokestatic 86, 151, 3, 174, []), (.ifCond .ne 9, 2, 0, 0, []), (.nop, 1, 0, 0, [])]),
  (27, [], [2, 3, 3, 3, 3], [(.aload_n 0, 0, 0, 0, []), (.iconst 1, 0, 0, 0, []), (.invokevirtual 148, 150, 2, 185, []), (.ireturn, 0, 0, 0, [])]),
  (33, [], [2, 0, 0, 0, 0], [(.aload_n 0, 0, 0, 0, []), (.iload_n 1, 0, 0, 0, []), (.invokevirtual 175, 155, 2, 191, []), (.ifCond .ne 13, 3, 0, 0, []), (.aload_n 0, 0, 0, 0, []), (.iload_n 1, 0, 0, 0, []), (.iload_n 2, 0, 0, 0, []), (.iload_n 3, 0, 0, 0, []), (.invokevirtual 287, 209, 4, 217, []), (.ifCond .ne 9, 4, 0, 0, []), (.nop, 3, 0, 0, [])]),
  (51, [], [2, 3, 3, 3, 3], [(.aload_n 0, 0, 0, 0, []), (.iconst 2, 0, 0, 0, []), (.invokevirtual 148, 150, 2, 185, []), (.ireturn, 0, 0, 0, [])]),
  (57, [], [2, 3, 3, 3, 0], [(.iload 4, 0, 0, 0, []), (.ifCond .ne 10, 5, 0, 0, []), (.aload_n 0, 0, 0, 0, []), (.getfield 278, 11, 22, 151, []), (.goto 7, 6, 0, 0, [])]),
  (69, [], [2, 3, 3, 3, 3], [(.aload_n 0, 0, 0, 0, []), (.getfield 281, 11, 23, 152, []), (.nop, 6, 0, 0, [])]),
  (73, [0], [3, 3, 3, 3, 3], [(.ireturn, 0, 0, 0, [])])]
def P211 : List (Nat × List Nat × List Nat × List amI) := [(0, [], [2], [(.aload_n 0, 0, 0, 0, []), (.invokevirtual 214, 175, 1, 200, []), (.aload_n 0, 0, 0, 0, []), (.iconst (-1), 0, 0, 0, []), (.putfield 269, 11, 21, 150, []), (.aload_n 0, 0, 0, 0, []), (.iconst 0, 0, 0, 0, []), (.invokevirtual 284, 208, 2, 216, []), (.ifCond .eq 10, 1, 0, 0, []), (.aload_n 0, 0, 0, 0, []), (.getfield 278, 11, 22, 151, []), (.goto 8, 2, 0, 0, [])]),
  (24, [], [2], [(.aload_n 0, 0, 0, 0, []), (.iconst 2, 0, 0, 0, []), (.invokevirtual 148, 150, 2, 185, []), (.nop, 2, 0, 0, [])]),
  (29, [0], [3], [(.ireturn, 0, 0, 0, [])])]
def P212 : List (Nat × List Nat × List Nat × List amI) := [(0, [], [2, 0, 3, 3], [(.aload_n 0, 0, 0, 0, []), (.getfield 43, 11, 24, 129, []), (.iconst 0, 0, 0, 0, []), (.iload_n 1, 0, 0, 0, []), (.iastore, 0, 0, 0, []), (.aload_n 0, 0, 0, 0, []), (.iconst 1, 0, 0, 0, []), (.putfield 290, 11, 25, 153, []), (.iconst 0, 0, 0, 0, []), (.istore_n 2, 0, 0, 0, []), (.nop, 1, 0, 0, [])]),
  (14, [], [2, 0, 0, 3], [(.iload_n 2, 0, 0, 0, []), (.aload_n 0, 0, 0, 0, []), (.getfield 164, 11, 13, 147, []), (.if_icmp .ge 73, 6, 0, 0, []), (.aload_n 0, 0, 0, 0, []), (.getfield 22, 11, 11, 122, []), (.iload_n 2, 0, 0, 0, []), (.iaload, 0, 0, 0, []), (.iload_n 1, 0, 0, 0, []), (.if_icmp .ne 12, 2, 0, 0, []), (.aload_n 0, 0, 0, 0, []), (.getfield 25, 11, 12, 123, []), (.iload_n 2, 0, 0, 0, []), (.iaload, 0, 0, 0, []), (.goto 23, 4, 0, 0, [])]),
  (41, [], [2, 0, 0, 3], [(.aload_n 0, 0, 0, 0, []), (.getfield 25, 11, 12, 123, []), (.iload_n 2, 0, 0, 0, []), (.iaload, 0, 0, 0, []), (.iload_n 1, 0, 0, 0, []), (.if_icmp .ne 12, 3, 0, 0, []), (.aload_n 0, 0, 0, 0, []), (.getfield 22, 11, 11, 122, []), (.iload_n 2, 0, 0, 0, []), (.iaload, 0, 0, 0, []), (.goto 4, 4, 0, 0, [])]),
  (60, [], [2, 0, 0, 3], [(.iconst (-1), 0, 0, 0, []), (.nop, 4, 0, 0, [])]),
  (61, [0], [2, 0, 0, 3], [(.istore_n 3, 0, 0, 0, []), (.iload_n 3, 0, 0, 0, []), (.ifCond .lt 23, 5, 0, 0, []), (.aload_n 0, 0, 0, 0, []), (.getfield 43, 11, 24, 129, []), (.aload_n 0, 0, 0, 0, []), (.getfield 290, 11, 25, 153, []), (.iload_n 3, 0, 0, 0, []), (.iastore, 0, 0, 0, []), (.aload_n 0, 0, 0, 0, []), (.dup, 0, 0, 0, []), (.getfield 290, 11, 25, 153, []), (.iconst 1, 0, 0, 0, []), (.iadd, 0, 0, 0, []), (.putfield 290, 11, 25, 153, []), (.nop, 5, 0, 0, [])]),
  (86, [], [2, 0, 0, 3], [(.iinc 2 1, 0, 0, 0, []), (.goto (-75), 1, 0, 0, [])]),
  (92, [], [3, 3, 3, 3], [(.return_, 0, 0, 0, [])])]
def P213 : List (Nat × List Nat × List Nat × List amI) := [(0, [], [2, 0, 0, 0], [(.aload_n 0, 0, 0, 0, []), (.iload_n 1, 0, 0, 0, []), (.invokevirtual 181, 177, 2, 193, []), (.ifCond .eq 17, 1, 0, 0, []), (.aload_n 0, 0, 0, 0, []), (.iload_n 1, 0, 0, 0, []), (.iload_n 2, 0, 0, 0, []), (.invokevirtual 171, 157, 3, 190, []), (.iload_n 3, 0, 0, 0, []), (.if_icmp .eq 7, 1, 0, 0, []), (.iconst 1, 0, 0, 0, []), (.goto 4, 2, 0, 0, [])]),
  (22, [], [3, 3, 3, 3], [(.iconst 0, 0, 0, 0, []), (.nop, 2, 0, 0, [])]),
  (23, [0], [3, 3, 3, 3], [(.ireturn, 4, 0, 0, [])])]
def P214 : List (Nat × List Nat × List Nat × List amI) := [(0, [], [2, 0, 0, 0, 3, 3], [(.aload_n 0, 0, 0, 0, []), (.iload_n 1, 0, 0, 0, []), (.iload_n 2, 0, 0, 0, []), (.iload_n 3, 0, 0, 0, []), (.invokevirtual 293, 213, 4, 218, []), (.ifCond .ne 5, 1, 0, 0, []), (.iconst 0, 0, 0, 0, []), (.ireturn, 4, 0, 0, [])]),
  (12, [], [2, 0, 0, 0, 3, 3], [(.aload_n 0, 0, 0, 0, []), (.iload_n 1, 0, 0, 0, []), (.iload_n 2, 0, 0, 0, []), (.invokevirtual 171, 157, 3, 190, []), (.istore 4, 0, 0, 0, []), (.aload_n 0, 0, 0, 0, []), (.iload_n 1, 0, 0, 0, []), (.iload_n 2, 0, 0, 0, []), (.iload_n 3, 0, 0, 0, []), (.invokevirtual 199, 158, 4, 197, []), (.aload_n 0, 0, 0, 0, []), (.iload_n 1, 0, 0, 0, []), (.invokevirtual 217, 179, 2, 201, []), (.istore 5, 0, 0, 0, []), (.aload_n 0, 0, 0, 0, []), (.iload_n 1, 0, 0, 0, []), (.iload_n 2, 0, 0, 0, []), (.iload 4, 0, 0, 0, []), (.invokevirtual 199, 158, 4, 197, []), (.iload 5, 0, 0, 0, []), (.ireturn, 4, 0, 0, [])])]
def P215 : List (Nat × List Nat × List Nat × List amI) := [(0, [], [2, 0, 0, 0, 0, 3, 3, 3, 3, 3], [(.iload_n 1, 0, 0, 0, []), (.ifCond .ne 12, 1, 0, 0, []), (.aload_n 0, 0, 0, 0, []), (.iload_n 2, 0, 0, 0, []), (.iload_n 3, 0, 0, 0, []), (.iload 4, 0, 0, 0, []), (.invokevirtual 296, 214, 4, 219, []), (.ireturn, 4, 0, 0, [])]),
  (13, [], [2, 0, 0, 0, 0, 3, 3, 3, 3, 3], [(.iconst 0, 0, 0, 0, []), (.istore 5, 0, 0, 0, []), (.iconst 0, 0, 0, 0, []), (.istore 6, 0, 0, 0, []), (.nop, 2, 0, 0, [])]),
  (19, [], [2, 0, 0, 0, 0, 0, 0, 3, 3, 3], [(.iload 6, 0, 0, 0, []), (.bipush 12, 0, 0, 0, []), (.aload_n 0, 0, 0, 0, []), (.getfield 290, 11, 25, 153, []), (.imul, 0, 0, 0, []), (.if_icmp .ge 120, 8, 0, 0, []), (.iload 5, 0, 0, 0, []), (.ifCond .ne 115, 8, 0, 0, []), (.aload_n 0, 0, 0, 0, []), (.getfield 43, 11, 24, 129, []), (.iload 6, 0, 0, 0, []), (.bipush 12, 0, 0, 0, []), (.idiv, 0, 0, 0, []), (.iaload, 0, 0, 0, []), (.istore 7, 0, 0, 0, []), (.iload 6, 0, 0, 0, []), (.bipush 12, 0, 0, 0, []), (.irem, 0, 0, 0, []), (.iconst 3, 0, 0, 0, []), (.idiv, 0, 0, 0, []), (.istore 8, 0, 0, 0, []), (.aload_n 0, 0, 0, 0, []), (.iload 7, 0, 0, 0, []), (.iload 8, 0, 0, 0, []), (.iload 6, 0, 0, 0, []), (.iconst 3, 0, 0, 0, []), (.irem, 0, 0, 0, []), (.invokevirtual 293, 213, 4, 218, []), (.ifCond .ne 6, 3, 0, 0, []), (.goto 70, 7, 0, 0, [])]),
  (75, [], [2, 0, 0, 0, 0, 0, 0, 0, 0, 3], [(.aload_n 0, 0, 0, 0, []), (.iload 7, 0, 0, 0, []), (.iload 8, 0, 0, 0, []), (.invokevirtual 171, 157, 3, 190, []), (.istore 9, 0, 0, 0, []), (.aload_n 0, 0, 0, 0, []), (.iload 7, 0, 0, 0, []), (.iload 8, 0, 0, 0, []), (.iload 6, 0, 0, 0, []), (.iconst 3, 0, 0, 0, []), (.irem, 0, 0, 0, []), (.invokevirtual 199, 158, 4, 197, []), (.aload_n 0, 0, 0, 0, []), (.iload 7, 0, 0, 0, []), (.invokevirtual 217, 179, 2, 201, []), (.ifCond .eq 29, 6, 0, 0, []), (.iload_n 1, 0, 0, 0, []), (.iconst 1, 0, 0, 0, []), (.if_icmp .ne 14, 4, 0, 0, []), (.aload_n 0, 0, 0, 0, []), (.iload_n 2, 0, 0, 0, []), (.iload_n 3, 0, 0, 0, []), (.iload 4, 0, 0, 0, []), (.invokevirtual 296, 214, 4, 219, []), (.goto 11, 5, 0, 0, [])]),
  (122, [], [2, 0, 0, 0, 0, 3, 0, 0, 0, 0], [(.aload_n 0, 0, 0, 0, []), (.iload_n 2, 0, 0, 0, []), (.iload_n 3, 0, 0, 0, []), (.iload 4, 0, 0, 0, []), (.invokevirtual 299, 216, 4, 220, []), (.nop, 5, 0, 0, [])]),
  (130, [0], [2, 0, 0, 0, 0, 3, 0, 0, 0, 0], [(.istore 5, 0, 0, 0, []), (.nop, 6, 0, 0, [])]),
  (132, [], [2, 0, 0, 0, 0, 0, 0, 0, 0, 0], [(.aload_n 0, 0, 0, 0, []), (.iload 7, 0, 0, 0, []), (.iload 8, 0, 0, 0, []), (.iload 9, 0, 0, 0, []), (.invokevirtual 199, 158, 4, 197, []), (.nop, 7, 0, 0, [])]),
  (142, [], [2, 0, 0, 0, 0, 0, 0, 3, 3, 3], [(.iinc 6 1, 0, 0, 0, []), (.goto (-126), 2, 0, 0, [])]),
  (148, [], [3, 3, 3, 3, 3, 0, 3, 3, 3, 3], [(.iload 5, 0, 0, 0, []), (.ireturn, 4, 0, 0, [])])]
def P216 : List (Nat × List Nat × List Nat × List amI) := [(0, [], [2, 0, 0, 0, 3, 3, 3, 3, 3], [(.iconst 0, 0, 0, 0, []), (.istore 4, 0, 0, 0, []), (.iconst 0, 0, 0, 0, []), (.istore 5, 0, 0, 0, []), (.nop, 1, 0, 0, [])]),
  (6, [], [2, 0, 0, 0, 0, 0, 3, 3, 3], [(.iload 5, 0, 0, 0, []), (.bipush 12, 0, 0, 0, []), (.aload_n 0, 0, 0, 0, []), (.getfield 290, 11, 25, 153, []), (.imul, 0, 0, 0, []), (.if_icmp .ge 111, 6, 0, 0, []), (.iload 4, 0, 0, 0, []), (.ifCond .ne 106, 6, 0, 0, []), (.aload_n 0, 0, 0, 0, []), (.getfield 43, 11, 24, 129, []), (.iload 5, 0, 0, 0, []), (.bipush 12, 0, 0, 0, []), (.idiv, 0, 0, 0, []), (.iaload, 0, 0, 0, []), (.istore 6, 0, 0, 0, []), (.iload 5, 0, 0, 0, []), (.bipush 12, 0, 0, 0, []), (.irem, 0, 0, 0, []), (.iconst 3, 0, 0, 0, []), (.idiv, 0, 0, 0, []), (.istore 7, 0, 0, 0, []), (.aload_n 0, 0, 0, 0, []), (.iload 6, 0, 0, 0, []), (.iload 7, 0, 0, 0, []), (.iload 5, 0, 0, 0, []), (.iconst 3, 0, 0, 0, []), (.irem, 0, 0, 0, []), (.invokevirtual 293, 213, 4, 218, []), (.ifCond .ne 6, 2, 0, 0, []), (.goto 61, 5, 0, 0, [])]),
  (62, [], [2, 0, 0, 0, 3, 0, 0, 0, 3], [(.aload_n 0, 0, 0, 0, []), (.iload 6, 0, 0, 0, []), (.iload 7, 0, 0, 0, []), (.invokevirtual 171, 157, 3, 190, []), (.istore 8, 0, 0, 0, []), (.aload_n 0, 0, 0, 0, []), (.iload 6, 0, 0, 0, []), (.iload 7, 0, 0, 0, []), (.iload 5, 0, 0, 0, []), (.iconst 3, 0, 0, 0, []), (.irem, 0, 0, 0, []), (.invokevirtual 199, 158, 4, 197, []), (.aload_n 0, 0, 0, 0, []), (.iload 6, 0, 0, 0, []), (.invokevirtual 217, 179, 2, 201, []), (.ifCond .eq 17, 3, 0, 0, []), (.aload_n 0, 0, 0, 0, []), (.iload_n 1, 0, 0, 0, []), (.iload_n 2, 0, 0, 0, []), (.iload_n 3, 0, 0, 0, []), (.invokevirtual 296, 214, 4, 219, []), (.ifCond .eq 7, 3, 0, 0, []), (.iconst 1, 0, 0, 0, []), (.goto 4, 4, 0, 0, [])]),
  (107, [], [2, 0, 0, 0, 3, 0, 0, 0, 0], [(.iconst 0, 0, 0, 0, []), (.nop, 4, 0, 0, [])]),
  (108, [0], [2, 0, 0, 0, 3, 0, 0, 0, 0], [(.istore 4, 0, 0, 0, []), (.aload_n 0, 0, 0, 0, []), (.iload 6, 0, 0, 0, []), (.iload 7, 0, 0, 0, []), (.iload 8, 0, 0, 0, []), (.invokevirtual 199, 158, 4, 197, []), (.nop, 5, 0, 0, [])]),
  (120, [], [2, 0, 0, 0, 0, 0, 3, 3, 3], [(.iinc 5 1, 0, 0, 0, []), (.goto (-117), 1, 0, 0, [])]),
  (126, [], [3, 3, 3, 3, 0, 3, 3, 3, 3], [(.iload 4, 0, 0, 0, []), (.ireturn, 4, 0, 0, [])])]
def P217 : List (Nat × List Nat × List Nat × List amI) := [(0, [], [2, 0, 0, 0, 3], [(.aload_n 0, 0, 0, 0, []), (.iload_n 1, 0, 0, 0, []), (.invokevirtual 220, 154, 2, 202, []), (.ifCond .eq 11, 1, 0, 0, []), (.iload_n 2, 0, 0, 0, []), (.iload_n 3, 0, 0, 0, []), (.invokestatic 253, 197, 2, 209, []), (.ifCond .ne 9, 2, 0, 0, []), (.nop, 1, 0, 0, [])]),
  (16, [], [2, 3, 3, 3, 3], [(.aload_n 0, 0, 0, 0, []), (.iconst 1, 0, 0, 0, []), (.invokevirtual 148, 150, 2, 185, []), (.ireturn, 0, 0, 0, [])]),
  (22, [], [2, 0, 0, 0, 3], [(.aload_n 0, 0, 0, 0, []), (.iload_n 1, 0, 0, 0, []), (.invokevirtual 175, 155, 2, 191, []), (.ifCond .eq 9, 3, 0, 0, []), (.aload_n 0, 0, 0, 0, []), (.iconst 2, 0, 0, 0, []), (.invokevirtual 148, 150, 2, 185, []), (.ireturn, 0, 0, 0, [])]),
  (36, [], [2, 0, 0, 0, 3], [(.aload_n 0, 0, 0, 0, []), (.invokevirtual 214, 175, 1, 200, []), (.aload_n 0, 0, 0, 0, []), (.invokevirtual 302, 181, 1, 221, []), (.ifCond .ne 9, 4, 0, 0, []), (.aload_n 0, 0, 0, 0, []), (.iconst 3, 0, 0, 0, []), (.invokevirtual 148, 150, 2, 185, []), (.ireturn, 0, 0, 0, [])]),
  (53, [], [2, 0, 0, 0, 3], [(.aload_n 0, 0, 0, 0, []), (.iload_n 1, 0, 0, 0, []), (.iload_n 2, 0, 0, 0, []), (.invokevirtual 171, 157, 3, 190, []), (.iload_n 3, 0, 0, 0, []), (.if_icmp .ne 5, 5, 0, 0, []), (.iconst 0, 0, 0, 0, []), (.ireturn, 0, 0, 0, [])]),
  (65, [], [2, 0, 0, 0, 3], [(.aload_n 0, 0, 0, 0, []), (.iload_n 1, 0, 0, 0, []), (.invokevirtual 306, 212, 2, 222, []), (.iconst 0, 0, 0, 0, []), (.istore 4, 0, 0, 0, []), (.nop, 6, 0, 0, [])]),
  (73, [], [2, 0, 0, 0, 0], [(.iload 4, 0, 0, 0, []), (.iconst 3, 0, 0, 0, []), (.if_icmp .ge 26, 8, 0, 0, []), (.aload_n 0, 0, 0, 0, []), (.iload 4, 0, 0, 0, []), (.iload_n 1, 0, 0, 0, []), (.iload_n 2, 0, 0, 0, []), (.iload_n 3, 0, 0, 0, []), (.invokevirtual 309, 215, 5, 223, []), (.ifCond .eq 8, 7, 0, 0, []), (.iload 4, 0, 0, 0, []), (.iconst 1, 0, 0, 0, []), (.iadd, 0, 0, 0, []), (.ireturn, 0, 0, 0, [])]),
  (96, [], [2, 0, 0, 0, 0], [(.iinc 4 1, 0, 0, 0, []), (.goto (-26), 6, 0, 0, [])]),
  (102, [], [2, 3, 3, 3, 3], [(.aload_n 0, 0, 0, 0, []), (.iconst 2, 0, 0, 0, []), (.invokevirtual 148, 150, 2, 185, []), (.ireturn, 0, 0, 0, [])])]
def P218 : List (Nat × List Nat × List Nat × List amI) := [(0, [], [0, 0, 3, 3, 3, 3], [(.iconst 0, 0, 0, 0, []), (.istore_n 2, 0, 0, 0, []), (.iload_n 0, 0, 0, 0, []), (.istore_n 3, 0, 0, 0, []), (.iload_n 1, 0, 0, 0, []), (.istore 4, 0, 0, 0, []), (.iconst 0, 0, 0, 0, []), (.istore 5, 0, 0, 0, []), (.nop, 1, 0, 0, [])]),
  (10, [], [3, 3, 0, 0, 0, 0], [(.iload 5, 0, 0, 0, []), (.iconst 4, 0, 0, 0, []), (.if_icmp .ge 37, 4, 0, 0, []), (.iload_n 2, 0, 0, 0, []), (.iload_n 3, 0, 0, 0, []), (.iconst 3, 0, 0, 0, []), (.irem, 0, 0, 0, []), (.iload 4, 0, 0, 0, []), (.iconst 3, 0, 0, 0, []), (.irem, 0, 0, 0, []), (.if_icmp .ne 7, 2, 0, 0, []), (.iconst 1, 0, 0, 0, []), (.goto 4, 3, 0, 0, [])]),
  (31, [0], [3, 3, 3, 0, 0, 0], [(.iconst 0, 0, 0, 0, []), (.nop, 3, 0, 0, [])]),
  (32, [0, 0], [3, 3, 3, 0, 0, 0], [(.iadd, 0, 0, 0, []), (.istore_n 2, 0, 0, 0, []), (.iload_n 3, 0, 0, 0, []), (.iconst 3, 0, 0, 0, []), (.idiv, 0, 0, 0, []), (.istore_n 3, 0, 0, 0, []), (.iload 4, 0, 0, 0, []), (.iconst 3, 0, 0, 0, []), (.idiv, 0, 0, 0, []), (.istore 4, 0, 0, 0, []), (.iinc 5 1, 0, 0, 0, []), (.goto (-37), 1, 0, 0, [])]),
  (50, [], [3, 3, 0, 3, 3, 3], [(.iload_n 2, 0, 0, 0, []), (.ireturn, 0, 0, 0, [])])]
def P219 : List (Nat × List Nat × List Nat × List amI) := [(0, [], [2, 3, 3], [(.iconst 0, 0, 0, 0, []), (.istore_n 1, 0, 0, 0, []), (.nop, 1, 0, 0, [])]),
  (2, [], [2, 0, 3], [(.iload_n 1, 0, 0, 0, []), (.bipush 81, 0, 0, 0, []), (.if_icmp .ge 57, 4, 0, 0, []), (.iconst 0, 0, 0, 0, []), (.istore_n 2, 0, 0, 0, []), (.nop, 2, 0, 0, [])]),
  (10, [], [2, 0, 0], [(.iload_n 2, 0, 0, 0, []), (.bipush 81, 0, 0, 0, []), (.if_icmp .ge 43, 3, 0, 0, []), (.aload_n 0, 0, 0, 0, []), (.getfield 53, 11, 28, 132, []), (.bipush 81, 0, 0, 0, []), (.iload_n 1, 0, 0, 0, []), (.imul, 0, 0, 0, []), (.iload_n 2, 0, 0, 0, []), (.iadd, 0, 0, 0, []), (.iload_n 1, 0, 0, 0, []), (.iload_n 2, 0, 0, 0, []), (.invokestatic 313, 218, 2, 224, []), (.i2l, 0, 0, 0, []), (.aload_n 0, 0, 0, 0, []), (.getfield 7, 11, 0, 118, []), (.iconst 3, 0, 0, 0, []), (.iaload, 0, 0, 0, []), (.i2l, 0, 0, 0, []), (.aload_n 0, 0, 0, 0, []), (.getfield 7, 11, 0, 118, []), (.iconst 4, 0, 0, 0, []), (.iaload, 0, 0, 0, []), (.i2l, 0, 0, 0, []), (.invokestatic 86, 151, 3, 174, []), (.bastore, 0, 0, 0, []), (.iinc 2 1, 0, 0, 0, []), (.goto (-43), 2, 0, 0, [])]),
  (56, [], [2, 0, 3], [(.iinc 1 1, 0, 0, 0, []), (.goto (-57), 1, 0, 0, [])]),
  (62, [], [3, 3, 3], [(.return_, 0, 0, 0, [])])]
def P220 : List (Nat × List Nat × List Nat × List amI) := [(0, [], [2, 3, 3], [(.iconst 0, 0, 0, 0, []), (.istore_n 1, 0, 0, 0, []), (.nop, 1, 0, 0, [])]),
  (2, [], [2, 0, 3], [(.iload_n 1, 0, 0, 0, []), (.bipush 81, 0, 0, 0, []), (.if_icmp .ge 63, 6, 0, 0, []), (.aload_n 0, 0, 0, 0, []), (.getfield 50, 11, 27, 131, []), (.iload_n 1, 0, 0, 0, []), (.lconst 0, 0, 0, 0, []), (.lastore, 0, 0, 0, []), (.iconst 0, 0, 0, 0, []), (.istore_n 2, 0, 0, 0, []), (.nop, 2, 0, 0, [])]),
  (17, [], [2, 0, 0], [(.iload_n 2, 0, 0, 0, []), (.bipush 81, 0, 0, 0, []), (.if_icmp .ge 42, 5, 0, 0, []), (.aload_n 0, 0, 0, 0, []), (.getfield 50, 11, 27, 131, []), (.iload_n 1, 0, 0, 0, []), (.dup2, 0, 0, 0, []), (.laload, 0, 0, 0, []), (.aload_n 0, 0, 0, 0, []), (.getfield 53, 11, 28, 132, []), (.bipush 81, 0, 0, 0, []), (.iload_n 2, 0, 0, 0, []), (.imul, 0, 0, 0, []), (.iload_n 1, 0, 0, 0, []), (.iadd, 0, 0, 0, []), (.baload, 0, 0, 0, []), (.ifCond .eq 12, 3, 0, 0, []), (.aload_n 0, 0, 0, 0, []), (.getfield 46, 11, 26, 130, []), (.iload_n 2, 0, 0, 0, []), (.laload, 0, 0, 0, []), (.goto 4, 4, 0, 0, [])]),
  (53, [1, 0, 2], [2, 0, 0], [(.lconst 0, 0, 0, 0, []), (.nop, 4, 0, 0, [])]),
  (54, [1, 1, 0, 2], [2, 0, 0], [(.ladd, 0, 0, 0, []), (.lastore, 0, 0, 0, []), (.iinc 2 1, 0, 0, 0, []), (.goto (-42), 2, 0, 0, [])]),
  (62, [], [2, 0, 3], [(.iinc 1 1, 0, 0, 0, []), (.goto (-63), 1, 0, 0, [])]),
  (68, [], [2, 3, 3], [(.iconst 0, 0, 0, 0, []), (.istore_n 1, 0, 0, 0, []), (.nop, 7, 0, 0, [])]),
  (70, [], [2, 0, 3], [(.iload_n 1, 0, 0, 0, []), (.bipush 81, 0, 0, 0, []), (.if_icmp .ge 21, 8, 0, 0, []), (.aload_n 0, 0, 0, 0, []), (.getfield 46, 11, 26, 130, []), (.iload_n 1, 0, 0, 0, []), (.aload_n 0, 0, 0, 0, []), (.getfield 50, 11, 27, 131, []), (.iload_n 1, 0, 0, 0, []), (.laload, 0, 0, 0, []), (.lastore, 0, 0, 0, []), (.iinc 1 1, 0, 0, 0, []), (.goto (-21), 7, 0, 0, [])]),
  (94, [], [3, 3, 3], [(.return_, 0, 0, 0, [])])]
def P221 : List (Nat × List Nat × List Nat × List amI) := [(0, [], [2, 0, 3, 3, 3], [(.iload_n 1, 0, 0, 0, []), (.i2l, 0, 0, 0, []), (.lconst 1, 0, 0, 0, []), (.ldc2_w 316, 0, 0, 19, [(9, 0)]), (.invokestatic 86, 151, 3, 174, []), (.ifCond .ne 10, 1, 0, 0, []), (.aload_n 0, 0, 0, 0, []), (.iconst 1, 0, 0, 0, []), (.invokevirtual 148, 150, 2, 185, []), (.i2l, 0, 0, 0, []), (.lreturn, 0, 0, 0, [])]),
  (19, [], [2, 0, 3, 3, 3], [(.aload_n 0, 0, 0, 0, []), (.invokevirtual 318, 219, 1, 225, []), (.lconst 0, 0, 0, 0, []), (.lstore_n 2, 0, 0, 0, []), (.iconst 0, 0, 0, 0, []), (.istore 4, 0, 0, 0, []), (.nop, 2, 0, 0, [])]),
  (28, [], [2, 0, 1, 3, 0], [(.iload 4, 0, 0, 0, []), (.bipush 81, 0, 0, 0, []), (.if_icmp .ge 17, 3, 0, 0, []), (.aload_n 0, 0, 0, 0, []), (.getfield 46, 11, 26, 130, []), (.iload 4, 0, 0, 0, []), (.lconst 1, 0, 0, 0, []), (.lastore, 0, 0, 0, []), (.iinc 4 1, 0, 0, 0, []), (.goto (-18), 2, 0, 0, [])]),
  (49, [], [2, 0, 1, 3, 3], [(.iconst 1, 0, 0, 0, []), (.istore 4, 0, 0, 0, []), (.nop, 4, 0, 0, [])]),
  (52, [], [2, 0, 1, 3, 0], [(.iload 4, 0, 0, 0, []), (.iload_n 1, 0, 0, 0, []), (.if_icmp .ge 13, 5, 0, 0, []), (.aload_n 0, 0, 0, 0, []), (.invokevirtual 321, 220, 1, 226, []), (.iinc 4 1, 0, 0, 0, []), (.goto (-13), 4, 0, 0, [])]),
  (68, [], [2, 3, 1, 3, 3], [(.iconst 0, 0, 0, 0, []), (.istore 4, 0, 0, 0, []), (.nop, 6, 0, 0, [])]),
  (71, [], [2, 3, 1, 3, 0], [(.iload 4, 0, 0, 0, []), (.bipush 81, 0, 0, 0, []), (.if_icmp .ge 19, 7, 0, 0, []), (.lload_n 2, 0, 0, 0, []), (.aload_n 0, 0, 0, 0, []), (.getfield 46, 11, 26, 130, []), (.iload 4, 0, 0, 0, []), (.laload, 0, 0, 0, []), (.ladd, 0, 0, 0, []), (.lstore_n 2, 0, 0, 0, []), (.iinc 4 1, 0, 0, 0, []), (.goto (-20), 6, 0, 0, [])]),
  (94, [], [3, 3, 1, 3, 3], [(.lload_n 2, 0, 0, 0, []), (.lreturn, 0, 0, 0, [])])]
def P222 : List (Nat × List Nat × List Nat × List amI) := [(0, [], [2, 0, 3, 3, 3, 3], [(.iload_n 1, 0, 0, 0, []), (.i2l, 0, 0, 0, []), (.ldc2_w 250, 0, 0, 17, [(3, 0)]), (.ldc2_w 316, 0, 0, 19, [(9, 0)]), (.invokestatic 86, 151, 3, 174, []), (.ifCond .ne 10, 1, 0, 0, []), (.aload_n 0, 0, 0, 0, []), (.iconst 1, 0, 0, 0, []), (.invokevirtual 148, 150, 2, 185, []), (.i2l, 0, 0, 0, []), (.lreturn, 0, 0, 0, [])]),
  (21, [], [2, 0, 3, 3, 3, 3], [(.aload_n 0, 0, 0, 0, []), (.invokevirtual 318, 219, 1, 225, []), (.lconst 0, 0, 0, 0, []), (.lstore_n 2, 0, 0, 0, []), (.iconst 0, 0, 0, 0, []), (.istore 4, 0, 0, 0, []), (.nop, 2, 0, 0, [])]),
  (30, [], [2, 0, 1, 3, 0, 3], [(.iload 4, 0, 0, 0, []), (.bipush 81, 0, 0, 0, []), (.if_icmp .ge 109, 13, 0, 0, []), (.iconst 0, 0, 0, 0, []), (.istore 5, 0, 0, 0, []), (.nop, 3, 0, 0, [])]),
  (40, [], [2, 0, 1, 3, 0, 0], [(.iload 5, 0, 0, 0, []), (.bipush 81, 0, 0, 0, []), (.if_icmp .ge 28, 6, 0, 0, []), (.aload_n 0, 0, 0, 0, []), (.getfield 46, 11, 26, 130, []), (.iload 5, 0, 0, 0, []), (.iload 5, 0, 0, 0, []), (.iload 4, 0, 0, 0, []), (.if_icmp .ne 7, 4, 0, 0, []), (.lconst 1, 0, 0, 0, []), (.goto 4, 5, 0, 0, [])]),
  (64, [0, 2], [2, 0, 1, 3, 0, 0], [(.lconst 0, 0, 0, 0, []), (.nop, 5, 0, 0, [])]),
  (65, [1, 0, 2], [2, 0, 1, 3, 0, 0], [(.lastore, 0, 0, 0, []), (.iinc 5 1, 0, 0, 0, []), (.goto (-29), 3, 0, 0, [])]),
  (72, [], [2, 0, 1, 3, 0, 3], [(.iconst 1, 0, 0, 0, []), (.istore 5, 0, 0, 0, []), (.nop, 7, 0, 0, [])]),
  (75, [], [2, 0, 1, 3, 0, 0], [(.iload 5, 0, 0, 0, []), (.iload_n 1, 0, 0, 0, []), (.if_icmp .ge 13, 8, 0, 0, []), (.aload_n 0, 0, 0, 0, []), (.invokevirtual 321, 220, 1, 226, []), (.iinc 5 1, 0, 0, 0, []), (.goto (-13), 7, 0, 0, [])]),
  (91, [], [2, 0, 1, 3, 0, 3], [(.iconst 0, 0, 0, 0, []), (.istore 5, 0, 0, 0, []), (.nop, 9, 0, 0, [])]),
  (94, [], [2, 0, 1, 3, 0, 0], [(.iload 5, 0, 0, 0, []), (.bipush 81, 0, 0, 0, []), (.if_icmp .ge 39, 12, 0, 0, []), (.lload_n 2, 0, 0, 0, []), (.aload_n 0, 0, 0, 0, []), (.getfield 53, 11, 28, 132, []), (.bipush 81, 0, 0, 0, []), (.iload 5, 0, 0, 0, []), (.imul, 0, 0, 0, []), (.iload 4, 0, 0, 0, []), (.iadd, 0, 0, 0, []), (.baload, 0, 0, 0, []), (.ifCond .eq 13, 10, 0, 0, []), (.aload_n 0, 0, 0, 0, []), (.getfield 46, 11, 26, 130, []), (.iload 5, 0, 0, 0, []), (.laload, 0, 0, 0, []), (.goto 4, 11, 0, 0, [])]),
  (128, [1], [2, 0, 3, 3, 0, 0], [(.lconst 0, 0, 0, 0, []), (.nop, 11, 0, 0, [])]),
  (129, [1, 1], [2, 0, 3, 3, 0, 0], [(.ladd, 0, 0, 0, []), (.lstore_n 2, 0, 0, 0, []), (.iinc 5 1, 0, 0, 0, []), (.goto (-40), 9, 0, 0, [])]),
  (137, [], [2, 0, 1, 3, 0, 3], [(.iinc 4 1, 0, 0, 0, []), (.goto (-110), 2, 0, 0, [])]),
  (143, [], [3, 3, 1, 3, 3, 3], [(.lload_n 2, 0, 0, 0, []), (.lreturn, 0, 0, 0, [])])]
def P223 : List (Nat × List Nat × List Nat × List amI) := [(0, [], [2, 0, 0, 0, 0], [(.iload_n 2, 0, 0, 0, []), (.bipush 81, 0, 0, 0, []), (.if_icmp .ne 59, 4, 0, 0, []), (.iload 4, 0, 0, 0, []), (.bipush 81, 0, 0, 0, []), (.if_icmp .ne 52, 4, 0, 0, []), (.aload_n 0, 0, 0, 0, []), (.iload_n 1, 0, 0, 0, []), (.invokevirtual 181, 177, 2, 193, []), (.ifCond .eq 38, 1, 0, 0, []), (.aload_n 0, 0, 0, 0, []), (.iload_n 3, 0, 0, 0, []), (.invokevirtual 181, 177, 2, 193, []), (.ifCond .eq 30, 1, 0, 0, []), (.aload_n 0, 0, 0, 0, []), (.iload_n 1, 0, 0, 0, []), (.iload_n 3, 0, 0, 0, []), (.invokevirtual 184, 176, 3, 194, []), (.i2l, 0, 0, 0, []), (.aload_n 0, 0, 0, 0, []), (.getfield 7, 11, 0, 118, []), (.iconst 3, 0, 0, 0, []), (.iaload, 0, 0, 0, []), (.i2l, 0, 0, 0, []), (.aload_n 0, 0, 0, 0, []), (.getfield 7, 11, 0, 118, []), (.iconst 4, 0, 0, 0, []), (.iaload, 0, 0, 0, []), (.i2l, 0, 0, 0, []), (.invokestatic 86, 151, 3, 174, []), (.ifCond .eq 7, 2, 0, 0, []), (.nop, 1, 0, 0, [])]),
  (56, [], [3, 3, 3, 3, 3], [(.iconst 1, 0, 0, 0, []), (.goto 4, 3, 0, 0, [])]),
  (60, [], [3, 3, 3, 3, 3], [(.iconst 0, 0, 0, 0, []), (.nop, 3, 0, 0, [])]),
  (61, [0], [3, 3, 3, 3, 3], [(.ireturn, 4, 0, 0, [])]),
  (62, [], [2, 0, 0, 0, 0], [(.iload_n 2, 0, 0, 0, []), (.bipush 81, 0, 0, 0, []), (.if_icmp .ne 45, 8, 0, 0, []), (.aload_n 0, 0, 0, 0, []), (.iload_n 1, 0, 0, 0, []), (.invokevirtual 181, 177, 2, 193, []), (.ifCond .eq 31, 5, 0, 0, []), (.aload_n 0, 0, 0, 0, []), (.iload_n 1, 0, 0, 0, []), (.iload 4, 0, 0, 0, []), (.invokevirtual 260, 202, 3, 211, []), (.i2l, 0, 0, 0, []), (.aload_n 0, 0, 0, 0, []), (.getfield 7, 11, 0, 118, []), (.iconst 3, 0, 0, 0, []), (.iaload, 0, 0, 0, []), (.i2l, 0, 0, 0, []), (.aload_n 0, 0, 0, 0, []), (.getfield 7, 11, 0, 118, []), (.iconst 4, 0, 0, 0, []), (.iaload, 0, 0, 0, []), (.i2l, 0, 0, 0, []), (.invokestatic 86, 151, 3, 174, []), (.ifCond .eq 7, 6, 0, 0, []), (.nop, 5, 0, 0, [])]),
  (104, [], [3, 3, 3, 3, 3], [(.iconst 1, 0, 0, 0, []), (.goto 4, 7, 0, 0, [])]),
  (108, [], [3, 3, 3, 3, 3], [(.iconst 0, 0, 0, 0, []), (.nop, 7, 0, 0, [])]),
  (109, [0], [3, 3, 3, 3, 3], [(.ireturn, 4, 0, 0, [])]),
  (110, [], [2, 3, 0, 0, 0], [(.iload 4, 0, 0, 0, []), (.bipush 81, 0, 0, 0, []), (.if_icmp .ne 44, 12, 0, 0, []), (.aload_n 0, 0, 0, 0, []), (.iload_n 3, 0, 0, 0, []), (.invokevirtual 181, 177, 2, 193, []), (.ifCond .eq 30, 9, 0, 0, []), (.aload_n 0, 0, 0, 0, []), (.iload_n 3, 0, 0, 0, []), (.iload_n 2, 0, 0, 0, []), (.invokevirtual 260, 202, 3, 211, []), (.i2l, 0, 0, 0, []), (.aload_n 0, 0, 0, 0, []), (.getfield 7, 11, 0, 118, []), (.iconst 3, 0, 0, 0, []), (.iaload, 0, 0, 0, []), (.i2l, 0, 0, 0, []), (.aload_n 0, 0, 0, 0, []), (.getfield 7, 11, 0, 118, []), (.iconst 4, 0, 0, 0, []), (.iaload, 0, 0, 0, []), (.i2l, 0, 0, 0, []), (.invokestatic 86, 151, 3, 174, []), (.ifCond .eq 7, 10, 0, 0, []), (.nop, 9, 0, 0, [])]),
  (152, [], [3, 3, 3, 3, 3], [(.iconst 1, 0, 0, 0, []), (.goto 4, 11, 0, 0, [])]),
  (156, [], [3, 3, 3, 3, 3], [(.iconst 0, 0, 0, 0, []), (.nop, 11, 0, 0, [])]),
  (157, [0], [3, 3, 3, 3, 3], [(.ireturn, 4, 0, 0, [])]),
  (158, [], [2, 3, 0, 3, 0], [(.aload_n 0, 0, 0, 0, []), (.getfield 53, 11, 28, 132, []), (.bipush 81, 0, 0, 0, []), (.iload_n 2, 0, 0, 0, []), (.imul, 0, 0, 0, []), (.iload 4, 0, 0, 0, []), (.iadd, 0, 0, 0, []), (.baload, 0, 0, 0, []), (.ireturn, 4, 0, 0, [])])]
def P224 : List (Nat × List Nat × List Nat × List amI) := [(0, [], [2, 0, 0], [(.aload_n 0, 0, 0, 0, []), (.iload_n 1, 0, 0, 0, []), (.invokevirtual 175, 155, 2, 191, []), (.iload_n 2, 0, 0, 0, []), (.bipush 81, 0, 0, 0, []), (.if_icmp .ge 7, 1, 0, 0, []), (.iconst 1, 0, 0, 0, []), (.goto 4, 2, 0, 0, [])]),
  (15, [0], [3, 3, 3], [(.iconst 0, 0, 0, 0, []), (.nop, 2, 0, 0, [])]),
  (16, [0, 0], [3, 3, 3], [(.if_icmp .ne 7, 3, 0, 0, []), (.iconst 1, 0, 0, 0, []), (.goto 4, 4, 0, 0, [])]),
  (23, [], [3, 3, 3], [(.iconst 0, 0, 0, 0, []), (.nop, 4, 0, 0, [])]),
  (24, [0], [3, 3, 3], [(.ireturn, 4, 0, 0, [])])]
def P225 : List (Nat × List Nat × List Nat × List amI) := [(0, [], [2, 0, 3, 3, 3, 3, 3], [(.aload_n 0, 0, 0, 0, []), (.getfield 7, 11, 0, 118, []), (.iconst 1, 0, 0, 0, []), (.iaload, 0, 0, 0, []), (.istore_n 2, 0, 0, 0, []), (.iconst 0, 0, 0, 0, []), (.istore_n 3, 0, 0, 0, []), (.nop, 1, 0, 0, [])]),
  (9, [], [2, 0, 0, 0, 3, 3, 3], [(.iload_n 3, 0, 0, 0, []), (.bipush 81, 0, 0, 0, []), (.if_icmp .gt 25, 4, 0, 0, []), (.aload_n 0, 0, 0, 0, []), (.getfield 46, 11, 26, 130, []), (.iload_n 3, 0, 0, 0, []), (.iload_n 3, 0, 0, 0, []), (.iload_n 1, 0, 0, 0, []), (.if_icmp .ne 7, 2, 0, 0, []), (.lconst 1, 0, 0, 0, []), (.goto 4, 3, 0, 0, [])]),
  (29, [0, 2], [2, 0, 0, 0, 3, 3, 3], [(.lconst 0, 0, 0, 0, []), (.nop, 3, 0, 0, [])]),
  (30, [1, 0, 2], [2, 0, 0, 0, 3, 3, 3], [(.lastore, 0, 0, 0, []), (.iinc 3 1, 0, 0, 0, []), (.goto (-25), 1, 0, 0, [])]),
  (37, [], [2, 0, 0, 3, 3, 3, 3], [(.iconst 1, 0, 0, 0, []), (.istore_n 3, 0, 0, 0, []), (.nop, 5, 0, 0, [])]),
  (39, [], [2, 0, 0, 0, 3, 3, 3], [(.iload_n 3, 0, 0, 0, []), (.iload_n 2, 0, 0, 0, []), (.if_icmp .ge 137, 14, 0, 0, []), (.iconst 0, 0, 0, 0, []), (.istore 4, 0, 0, 0, []), (.nop, 6, 0, 0, [])]),
  (47, [], [2, 0, 0, 0, 0, 3, 3], [(.iload 4, 0, 0, 0, []), (.bipush 81, 0, 0, 0, []), (.if_icmp .gt 91, 11, 0, 0, []), (.aload_n 0, 0, 0, 0, []), (.getfield 50, 11, 27, 131, []), (.iload 4, 0, 0, 0, []), (.lconst 0, 0, 0, 0, []), (.lastore, 0, 0, 0, []), (.iconst 0, 0, 0, 0, []), (.istore 5, 0, 0, 0, []), (.nop, 7, 0, 0, [])]),
  (65, [], [2, 0, 0, 0, 0, 0, 3], [(.iload 5, 0, 0, 0, []), (.bipush 81, 0, 0, 0, []), (.if_icmp .gt 67, 10, 0, 0, []), (.aload_n 0, 0, 0, 0, []), (.iload_n 3, 0, 0, 0, []), (.iload 4, 0, 0, 0, []), (.invokevirtual 324, 224, 3, 227, []), (.ifCond .eq 57, 10, 0, 0, []), (.aload_n 0, 0, 0, 0, []), (.getfield 50, 11, 27, 131, []), (.iload 4, 0, 0, 0, []), (.dup2, 0, 0, 0, []), (.laload, 0, 0, 0, []), (.aload_n 0, 0, 0, 0, []), (.getfield 46, 11, 26, 130, []), (.iload 5, 0, 0, 0, []), (.laload, 0, 0, 0, []), (.lconst 0, 0, 0, 0, []), (.lcmp, 0, 0, 0, []), (.ifCond .le 28, 8, 0, 0, []), (.aload_n 0, 0, 0, 0, []), (.iload_n 3, 0, 0, 0, []), (.iconst 1, 0, 0, 0, []), (.isub, 0, 0, 0, []), (.iload 5, 0, 0, 0, []), (.iload_n 3, 0, 0, 0, []), (.iload 4, 0, 0, 0, []), (.invokevirtual 327, 223, 5, 228, []), (.ifCond .eq 13, 8, 0, 0, []), (.aload_n 0, 0, 0, 0, []), (.getfield 46, 11, 26, 130, []), (.iload 5, 0, 0, 0, []), (.laload, 0, 0, 0, []), (.goto 4, 9, 0, 0, [])]),
  (127, [1, 0, 2], [2, 0, 0, 0, 0, 0, 3], [(.lconst 0, 0, 0, 0, []), (.nop, 9, 0, 0, [])]),
  (128, [1, 1, 0, 2], [2, 0, 0, 0, 0, 0, 3], [(.ladd, 0, 0, 0, []), (.lastore, 0, 0, 0, []), (.iinc 5 1, 0, 0, 0, []), (.goto (-68), 7, 0, 0, [])]),
  (136, [], [2, 0, 0, 0, 0, 3, 3], [(.iinc 4 1, 0, 0, 0, []), (.goto (-92), 6, 0, 0, [])]),
  (142, [], [2, 0, 0, 0, 3, 3, 3], [(.iconst 0, 0, 0, 0, []), (.istore 4, 0, 0, 0, []), (.nop, 12, 0, 0, [])]),
  (145, [], [2, 0, 0, 0, 0, 3, 3], [(.iload 4, 0, 0, 0, []), (.bipush 81, 0, 0, 0, []), (.if_icmp .gt 23, 13, 0, 0, []), (.aload_n 0, 0, 0, 0, []), (.getfield 46, 11, 26, 130, []), (.iload 4, 0, 0, 0, []), (.aload_n 0, 0, 0, 0, []), (.getfield 50, 11, 27, 131, []), (.iload 4, 0, 0, 0, []), (.laload, 0, 0, 0, []), (.lastore, 0, 0, 0, []), (.iinc 4 1, 0, 0, 0, []), (.goto (-24), 12, 0, 0, [])]),
  (172, [], [2, 0, 0, 0, 3, 3, 3], [(.iinc 3 1, 0, 0, 0, []), (.goto (-136), 5, 0, 0, [])]),
  (178, [], [2, 0, 0, 3, 3, 3, 3], [(.aload_n 0, 0, 0, 0, []), (.getfield 7, 11, 0, 118, []), (.iconst 2, 0, 0, 0, []), (.iaload, 0, 0, 0, []), (.ifCond .le 12, 15, 0, 0, []), (.iload_n 2, 0, 0, 0, []), (.iconst 2, 0, 0, 0, []), (.if_icmp .le 7, 15, 0, 0, []), (.iconst 1, 0, 0, 0, []), (.goto 4, 16, 0, 0, [])]),
  (196, [], [2, 0, 0, 3, 3, 3, 3], [(.iconst 0, 0, 0, 0, []), (.nop, 16, 0, 0, [])]),
  (197, [0], [2, 0, 0, 3, 3, 3, 3], [(.istore_n 3, 0, 0, 0, []), (.lconst 0, 0, 0, 0, []), (.lstore 4, 0, 0, 0, []), (.iconst 0, 0, 0, 0, []), (.istore 6, 0, 0, 0, []), (.nop, 17, 0, 0, [])]),
  (204, [], [2, 0, 0, 0, 1, 3, 0], [(.iload 6, 0, 0, 0, []), (.bipush 81, 0, 0, 0, []), (.if_icmp .gt 55, 21, 0, 0, []), (.lload 4, 0, 0, 0, []), (.aload_n 0, 0, 0, 0, []), (.getfield 46, 11, 26, 130, []), (.iload 6, 0, 0, 0, []), (.laload, 0, 0, 0, []), (.lconst 0, 0, 0, 0, []), (.lcmp, 0, 0, 0, []), (.ifCond .le 31, 19, 0, 0, []), (.iload_n 3, 0, 0, 0, []), (.ifCond .eq 17, 18, 0, 0, []), (.aload_n 0, 0, 0, 0, []), (.iload_n 2, 0, 0, 0, []), (.iconst 1, 0, 0, 0, []), (.isub, 0, 0, 0, []), (.iload 6, 0, 0, 0, []), (.iconst 0, 0, 0, 0, []), (.iload_n 1, 0, 0, 0, []), (.invokevirtual 327, 223, 5, 228, []), (.ifCond .eq 13, 19, 0, 0, []), (.nop, 18, 0, 0, [])]),
  (243, [1], [2, 0, 0, 0, 3, 3, 0], [(.aload_n 0, 0, 0, 0, []), (.getfield 46, 11, 26, 130, []), (.iload 6, 0, 0, 0, []), (.laload, 0, 0, 0, []), (.goto 4, 20, 0, 0, [])]),
  (253, [1], [2, 0, 0, 0, 3, 3, 0], [(.lconst 0, 0, 0, 0, []), (.nop, 20, 0, 0, [])]),
  (254, [1, 1], [2, 0, 0, 0, 3, 3, 0], [(.ladd, 0, 0, 0, []), (.lstore 4, 0, 0, 0, []), (.iinc 6 1, 0, 0, 0, []), (.goto (-56), 17, 0, 0, [])]),
  (263, [], [3, 3, 3, 3, 1, 3, 3], [(.lload 4, 0, 0, 0, []), (.lreturn, 0, 0, 0, [])])]
def P226 : List (Nat × List Nat × List Nat × List amI) := [(0, [], [2, 3, 3, 3], [(.aload_n 0, 0, 0, 0, []), (.getfield 7, 11, 0, 118, []), (.iconst 0, 0, 0, 0, []), (.iaload, 0, 0, 0, []), (.iconst 1, 0, 0, 0, []), (.if_icmp .ne 12, 1, 0, 0, []), (.aload_n 0, 0, 0, 0, []), (.invokevirtual 82, 153, 1, 173, []), (.bipush 9, 0, 0, 0, []), (.if_icmp .le 10, 2, 0, 0, []), (.nop, 1, 0, 0, [])]),
  (19, [], [2, 3, 3, 3], [(.aload_n 0, 0, 0, 0, []), (.iconst 3, 0, 0, 0, []), (.invokevirtual 148, 150, 2, 185, []), (.i2l, 0, 0, 0, []), (.lreturn, 0, 0, 0, [])]),
  (26, [], [2, 3, 3, 3], [(.aload_n 0, 0, 0, 0, []), (.invokevirtual 318, 219, 1, 225, []), (.lconst 0, 0, 0, 0, []), (.lstore_n 1, 0, 0, 0, []), (.iconst 0, 0, 0, 0, []), (.istore_n 3, 0, 0, 0, []), (.nop, 3, 0, 0, [])]),
  (34, [], [2, 1, 3, 0], [(.iload_n 3, 0, 0, 0, []), (.bipush 81, 0, 0, 0, []), (.if_icmp .gt 30, 6, 0, 0, []), (.lload_n 1, 0, 0, 0, []), (.aload_n 0, 0, 0, 0, []), (.iconst 0, 0, 0, 0, []), (.iload_n 3, 0, 0, 0, []), (.invokevirtual 324, 224, 3, 227, []), (.ifCond .eq 11, 4, 0, 0, []), (.aload_n 0, 0, 0, 0, []), (.iload_n 3, 0, 0, 0, []), (.invokevirtual 330, 225, 2, 229, []), (.goto 4, 5, 0, 0, [])]),
  (58, [1], [2, 3, 3, 0], [(.lconst 0, 0, 0, 0, []), (.nop, 5, 0, 0, [])]),
  (59, [1, 1], [2, 3, 3, 0], [(.ladd, 0, 0, 0, []), (.lstore_n 1, 0, 0, 0, []), (.iinc 3 1, 0, 0, 0, []), (.goto (-30), 3, 0, 0, [])]),
  (67, [], [3, 1, 3, 3], [(.lload_n 1, 0, 0, 0, []), (.lreturn, 0, 0, 0, [])])]
def P227 : List (Nat × List Nat × List Nat × List amI) := [(0, [], [2], [(.aload_n 0, 0, 0, 0, []), (.getfield 7, 11, 0, 118, []), (.bipush 7, 0, 0, 0, []), (.aload_n 0, 0, 0, 0, []), (.getfield 7, 11, 0, 118, []), (.bipush 7, 0, 0, 0, []), (.iaload, 0, 0, 0, []), (.ldc_w 334, 0, 0, 20, [(1103515245, 0)]), (.imul, 0, 0, 0, []), (.sipush 12345, 0, 0, 0, []), (.iadd, 0, 0, 0, []), (.iastore, 0, 0, 0, []), (.aload_n 0, 0, 0, 0, []), (.getfield 7, 11, 0, 118, []), (.bipush 7, 0, 0, 0, []), (.iaload, 0, 0, 0, []), (.bipush 8, 0, 0, 0, []), (.iushr, 0, 0, 0, []), (.ireturn, 0, 0, 0, [])])]
def P228 : List (Nat × List Nat × List Nat × List amI) := [(0, [], [2, 3], [(.iconst 0, 0, 0, 0, []), (.istore_n 1, 0, 0, 0, []), (.nop, 1, 0, 0, [])]),
  (2, [], [2, 0], [(.iload_n 1, 0, 0, 0, []), (.sipush 256, 0, 0, 0, []), (.if_icmp .ge 25, 2, 0, 0, []), (.aload_n 0, 0, 0, 0, []), (.getfield 57, 11, 29, 133, []), (.iload_n 1, 0, 0, 0, []), (.aload_n 0, 0, 0, 0, []), (.getfield 7, 11, 0, 118, []), (.sipush 148, 0, 0, 0, []), (.iload_n 1, 0, 0, 0, []), (.iadd, 0, 0, 0, []), (.iaload, 0, 0, 0, []), (.iastore, 0, 0, 0, []), (.iinc 1 1, 0, 0, 0, []), (.goto (-26), 1, 0, 0, [])]),
  (31, [], [3, 3], [(.return_, 0, 0, 0, [])])]
def P229 : List (Nat × List Nat × List Nat × List amI) := [(0, [], [2, 3], [(.iconst 0, 0, 0, 0, []), (.istore_n 1, 0, 0, 0, []), (.nop, 1, 0, 0, [])]),
  (2, [], [2, 0], [(.iload_n 1, 0, 0, 0, []), (.sipush 256, 0, 0, 0, []), (.if_icmp .ge 25, 2, 0, 0, []), (.aload_n 0, 0, 0, 0, []), (.getfield 7, 11, 0, 118, []), (.sipush 148, 0, 0, 0, []), (.iload_n 1, 0, 0, 0, []), (.iadd, 0, 0, 0, []), (.aload_n 0, 0, 0, 0, []), (.getfield 57, 11, 29, 133, []), (.iload_n 1, 0, 0, 0, []), (.iaload, 0, 0, 0, []), (.iastore, 0, 0, 0, []), (.iinc 1 1, 0, 0, 0, []), (.goto (-26), 1, 0, 0, [])]),
  (31, [], [3, 3], [(.return_, 0, 0, 0, [])])]
def P230 : List (Nat × List Nat × List Nat × List amI) := [(0, [], [2, 0, 0, 3, 3], [(.iconst 0, 0, 0, 0, []), (.istore_n 3, 0, 0, 0, []), (.iconst 0, 0, 0, 0, []), (.istore 4, 0, 0, 0, []), (.nop, 1, 0, 0, [])]),
  (5, [], [2, 0, 0, 0, 0], [(.iload 4, 0, 0, 0, []), (.aload_n 0, 0, 0, 0, []), (.invokevirtual 82, 153, 1, 173, []), (.if_icmp .ge 40, 3, 0, 0, []), (.aload_n 0, 0, 0, 0, []), (.iload 4, 0, 0, 0, []), (.invokevirtual 181, 177, 2, 193, []), (.ifCond .eq 25, 2, 0, 0, []), (.aload_n 0, 0, 0, 0, []), (.iload 4, 0, 0, 0, []), (.iload_n 1, 0, 0, 0, []), (.invokevirtual 171, 157, 3, 190, []), (.iload_n 2, 0, 0, 0, []), (.if_icmp .ne 14, 2, 0, 0, []), (.aload_n 0, 0, 0, 0, []), (.iload 4, 0, 0, 0, []), (.iload_n 1, 0, 0, 0, []), (.iconst 3, 0, 0, 0, []), (.invokevirtual 199, 158, 4, 197, []), (.iinc 3 1, 0, 0, 0, []), (.nop, 2, 0, 0, [])]),
  (45, [], [2, 0, 0, 0, 0], [(.iinc 4 1, 0, 0, 0, []), (.goto (-43), 1, 0, 0, [])]),
  (51, [], [3, 3, 3, 0, 3], [(.iload_n 3, 0, 0, 0, []), (.ireturn, 0, 0, 0, [])])]
def P231 : List (Nat × List Nat × List Nat × List amI) := [(0, [], [2, 0, 0], [(.iload_n 1, 0, 0, 0, []), (.iload_n 2, 0, 0, 0, []), (.invokestatic 253, 197, 2, 209, []), (.ifCond .eq 12, 1, 0, 0, []), (.aload_n 0, 0, 0, 0, []), (.iload_n 1, 0, 0, 0, []), (.iload_n 2, 0, 0, 0, []), (.invokevirtual 335, 230, 3, 230, []), (.goto 8, 2, 0, 0, [])]),
  (17, [], [2, 3, 3], [(.aload_n 0, 0, 0, 0, []), (.iconst 1, 0, 0, 0, []), (.invokevirtual 148, 150, 2, 185, []), (.nop, 2, 0, 0, [])]),
  (22, [0], [3, 3, 3], [(.ireturn, 0, 0, 0, [])])]
def P232 : List (Nat × List Nat × List Nat × List amI) := [(0, [], [2, 0, 0, 3], [(.aload_n 0, 0, 0, 0, []), (.invokevirtual 337, 228, 1, 231, []), (.aload_n 0, 0, 0, 0, []), (.iload_n 1, 0, 0, 0, []), (.iload_n 2, 0, 0, 0, []), (.invokevirtual 335, 230, 3, 230, []), (.istore_n 3, 0, 0, 0, []), (.aload_n 0, 0, 0, 0, []), (.invokevirtual 214, 175, 1, 200, []), (.aload_n 0, 0, 0, 0, []), (.invokevirtual 196, 180, 1, 196, []), (.aload_n 0, 0, 0, 0, []), (.invokevirtual 340, 229, 1, 232, []), (.aload_n 0, 0, 0, 0, []), (.getfield 190, 11, 14, 148, []), (.ireturn, 0, 0, 0, [])])]
def P233 : List (Nat × List Nat × List Nat × List amI) := [(0, [], [2, 0, 0], [(.iload_n 1, 0, 0, 0, []), (.iload_n 2, 0, 0, 0, []), (.invokestatic 253, 197, 2, 209, []), (.ifCond .eq 12, 1, 0, 0, []), (.aload_n 0, 0, 0, 0, []), (.iload_n 1, 0, 0, 0, []), (.iload_n 2, 0, 0, 0, []), (.invokevirtual 343, 232, 3, 233, []), (.goto 8, 2, 0, 0, [])]),
  (17, [], [2, 3, 3], [(.aload_n 0, 0, 0, 0, []), (.iconst 1, 0, 0, 0, []), (.invokevirtual 148, 150, 2, 185, []), (.nop, 2, 0, 0, [])]),
  (22, [0], [3, 3, 3], [(.ireturn, 0, 0, 0, [])])]
def P234 : List (Nat × List Nat × List Nat × List amI) := [(0, [], [2, 3, 3, 3, 3], [(.iconst 0, 0, 0, 0, []), (.istore_n 1, 0, 0, 0, []), (.iconst (-1), 0, 0, 0, []), (.istore_n 2, 0, 0, 0, []), (.iconst 0, 0, 0, 0, []), (.istore_n 3, 0, 0, 0, []), (.nop, 1, 0, 0, [])]),
  (6, [], [2, 0, 0, 0, 3], [(.iload_n 3, 0, 0, 0, []), (.bipush 12, 0, 0, 0, []), (.if_icmp .ge 46, 6, 0, 0, []), (.aload_n 0, 0, 0, 0, []), (.iload_n 3, 0, 0, 0, []), (.iconst 3, 0, 0, 0, []), (.idiv, 0, 0, 0, []), (.iload_n 3, 0, 0, 0, []), (.iconst 3, 0, 0, 0, []), (.irem, 0, 0, 0, []), (.invokevirtual 343, 232, 3, 233, []), (.istore 4, 0, 0, 0, []), (.iload 4, 0, 0, 0, []), (.iload_n 2, 0, 0, 0, []), (.if_icmp .le 7, 2, 0, 0, []), (.iload_n 3, 0, 0, 0, []), (.goto 4, 3, 0, 0, [])]),
  (34, [], [2, 0, 0, 0, 0], [(.iload_n 1, 0, 0, 0, []), (.nop, 3, 0, 0, [])]),
  (35, [0], [2, 3, 0, 0, 0], [(.istore_n 1, 0, 0, 0, []), (.iload 4, 0, 0, 0, []), (.iload_n 2, 0, 0, 0, []), (.if_icmp .le 8, 4, 0, 0, []), (.iload 4, 0, 0, 0, []), (.goto 4, 5, 0, 0, [])]),
  (47, [], [2, 0, 0, 0, 3], [(.iload_n 2, 0, 0, 0, []), (.nop, 5, 0, 0, [])]),
  (48, [0], [2, 0, 3, 0, 3], [(.istore_n 2, 0, 0, 0, []), (.iinc 3 1, 0, 0, 0, []), (.goto (-46), 1, 0, 0, [])]),
  (55, [], [3, 0, 3, 3, 3], [(.iload_n 1, 0, 0, 0, []), (.ireturn, 0, 0, 0, [])])]
def P235 : List (Nat × List Nat × List Nat × List amI) := [(0, [], [2, 3, 3, 3, 3], [(.aload_n 0, 0, 0, 0, []), (.invokevirtual 214, 175, 1, 200, []), (.iconst 0, 0, 0, 0, []), (.istore_n 1, 0, 0, 0, []), (.iconst 0, 0, 0, 0, []), (.istore_n 2, 0, 0, 0, []), (.nop, 1, 0, 0, [])]),
  (8, [], [2, 0, 0, 3, 3], [(.iload_n 2, 0, 0, 0, []), (.aload_n 0, 0, 0, 0, []), (.invokevirtual 82, 153, 1, 173, []), (.if_icmp .ge 27, 3, 0, 0, []), (.aload_n 0, 0, 0, 0, []), (.iload_n 2, 0, 0, 0, []), (.invokevirtual 175, 155, 2, 191, []), (.ifCond .eq 13, 2, 0, 0, []), (.aload_n 0, 0, 0, 0, []), (.getfield 60, 11, 30, 134, []), (.iload_n 1, 0, 0, 0, []), (.iload_n 2, 0, 0, 0, []), (.iastore, 0, 0, 0, []), (.iinc 1 1, 0, 0, 0, []), (.nop, 2, 0, 0, [])]),
  (34, [], [2, 0, 0, 3, 3], [(.iinc 2 1, 0, 0, 0, []), (.goto (-29), 1, 0, 0, [])]),
  (40, [], [2, 0, 3, 3, 3], [(.iconst 0, 0, 0, 0, []), (.istore_n 2, 0, 0, 0, []), (.iconst 0, 0, 0, 0, []), (.istore_n 3, 0, 0, 0, []), (.iload_n 1, 0, 0, 0, []), (.ifCond .le 10, 4, 0, 0, []), (.aload_n 0, 0, 0, 0, []), (.getfield 63, 11, 31, 135, []), (.iconst 0, 0, 0, 0, []), (.iconst (-1), 0, 0, 0, []), (.iastore, 0, 0, 0, []), (.nop, 4, 0, 0, [])]),
  (55, [], [2, 0, 0, 0, 3], [(.iload_n 3, 0, 0, 0, []), (.ifCond .lt 112, 7, 0, 0, []), (.iload_n 3, 0, 0, 0, []), (.iload_n 1, 0, 0, 0, []), (.if_icmp .ge 107, 7, 0, 0, []), (.iload_n 2, 0, 0, 0, []), (.sipush 20000, 0, 0, 0, []), (.if_icmp .gt 100, 7, 0, 0, []), (.aload_n 0, 0, 0, 0, []), (.getfield 60, 11, 30, 134, []), (.iload_n 3, 0, 0, 0, []), (.iaload, 0, 0, 0, []), (.istore 4, 0, 0, 0, []), (.aload_n 0, 0, 0, 0, []), (.iload 4, 0, 0, 0, []), (.invokevirtual 205, 183, 2, 198, []), (.aload_n 0, 0, 0, 0, []), (.getfield 63, 11, 31, 135, []), (.iload_n 3, 0, 0, 0, []), (.dup2, 0, 0, 0, []), (.iaload, 0, 0, 0, []), (.iconst 1, 0, 0, 0, []), (.iadd, 0, 0, 0, []), (.iastore, 0, 0, 0, []), (.aload_n 0, 0, 0, 0, []), (.getfield 63, 11, 31, 135, []), (.iload_n 3, 0, 0, 0, []), (.iaload, 0, 0, 0, []), (.bipush 81, 0, 0, 0, []), (.if_icmp .ne 9, 5, 0, 0, []), (.iinc 3 (-1), 0, 0, 0, []), (.goto (-54), 4, 0, 0, [])]),
  (112, [], [2, 0, 0, 0, 0], [(.iinc 2 1, 0, 0, 0, []), (.iload_n 2, 0, 0, 0, []), (.sipush 20000, 0, 0, 0, []), (.if_icmp .gt 46, 6, 0, 0, []), (.aload_n 0, 0, 0, 0, []), (.iload 4, 0, 0, 0, []), (.aload_n 0, 0, 0, 0, []), (.getfield 63, 11, 31, 135, []), (.iload_n 3, 0, 0, 0, []), (.iaload, 0, 0, 0, []), (.invokevirtual 263, 201, 3, 212, []), (.ifCond .eq 31, 6, 0, 0, []), (.aload_n 0, 0, 0, 0, []), (.iload 4, 0, 0, 0, []), (.iconst 0, 0, 0, 0, []), (.aload_n 0, 0, 0, 0, []), (.getfield 63, 11, 31, 135, []), (.iload_n 3, 0, 0, 0, []), (.iaload, 0, 0, 0, []), (.invokevirtual 211, 182, 4, 199, []), (.iinc 3 1, 0, 0, 0, []), (.iload_n 3, 0, 0, 0, []), (.iload_n 1, 0, 0, 0, []), (.if_icmp .ge 10, 6, 0, 0, []), (.aload_n 0, 0, 0, 0, []), (.getfield 63, 11, 31, 135, []), (.iload_n 3, 0, 0, 0, []), (.iconst (-1), 0, 0, 0, []), (.iastore, 0, 0, 0, []), (.nop, 6, 0, 0, [])]),
  (165, [], [2, 0, 0, 0, 3], [(.goto (-110), 4, 0, 0, [])]),
  (168, [], [2, 0, 0, 0, 3], [(.iload_n 3, 0, 0, 0, []), (.iload_n 1, 0, 0, 0, []), (.if_icmp .ne 5, 8, 0, 0, []), (.iload_n 1, 0, 0, 0, []), (.ireturn, 0, 0, 0, [])]),
  (175, [], [2, 0, 0, 3, 3], [(.iconst 0, 0, 0, 0, []), (.istore 4, 0, 0, 0, []), (.nop, 9, 0, 0, [])]),
  (178, [], [2, 0, 0, 3, 0], [(.iload 4, 0, 0, 0, []), (.iload_n 1, 0, 0, 0, []), (.if_icmp .ge 20, 10, 0, 0, []), (.aload_n 0, 0, 0, 0, []), (.aload_n 0, 0, 0, 0, []), (.getfield 60, 11, 30, 134, []), (.iload 4, 0, 0, 0, []), (.iaload, 0, 0, 0, []), (.invokevirtual 205, 183, 2, 198, []), (.iinc 4 1, 0, 0, 0, []), (.goto (-20), 9, 0, 0, [])]),
  (201, [], [2, 3, 0, 3, 3], [(.aload_n 0, 0, 0, 0, []), (.iload_n 2, 0, 0, 0, []), (.sipush 20000, 0, 0, 0, []), (.if_icmp .le 7, 11, 0, 0, []), (.iconst 4, 0, 0, 0, []), (.goto 4, 12, 0, 0, [])]),
  (213, [2], [3, 3, 3, 3, 3], [(.iconst 2, 0, 0, 0, []), (.nop, 12, 0, 0, [])]),
  (214, [0, 2], [3, 3, 3, 3, 3], [(.invokevirtual 148, 150, 2, 185, []), (.ireturn, 0, 0, 0, [])])]
def P236 : List (Nat × List Nat × List Nat × List amI) := [(0, [], [2, 3, 3], [(.iconst 0, 0, 0, 0, []), (.istore_n 1, 0, 0, 0, []), (.iconst 0, 0, 0, 0, []), (.istore_n 2, 0, 0, 0, []), (.nop, 1, 0, 0, [])]),
  (4, [], [2, 0, 0], [(.iload_n 2, 0, 0, 0, []), (.aload_n 0, 0, 0, 0, []), (.invokevirtual 82, 153, 1, 173, []), (.if_icmp .ge 29, 4, 0, 0, []), (.iload_n 1, 0, 0, 0, []), (.aload_n 0, 0, 0, 0, []), (.iload_n 2, 0, 0, 0, []), (.invokevirtual 175, 155, 2, 191, []), (.ifCond .eq 7, 2, 0, 0, []), (.iconst 0, 0, 0, 0, []), (.goto 8, 3, 0, 0, [])]),
  (25, [0], [2, 3, 0], [(.aload_n 0, 0, 0, 0, []), (.iload_n 2, 0, 0, 0, []), (.invokevirtual 242, 186, 2, 207, []), (.nop, 3, 0, 0, [])]),
  (30, [0, 0], [2, 3, 0], [(.iadd, 0, 0, 0, []), (.istore_n 1, 0, 0, 0, []), (.iinc 2 1, 0, 0, 0, []), (.goto (-31), 1, 0, 0, [])]),
  (38, [], [3, 0, 3], [(.iload_n 1, 0, 0, 0, []), (.ireturn, 0, 0, 0, [])])]
def P237 : List (Nat × List Nat × List Nat × List amI) := [(0, [], [2, 0, 3, 3, 3, 3, 3, 3, 3, 3, 3], [(.iload_n 1, 0, 0, 0, []), (.i2l, 0, 0, 0, []), (.lconst 0, 0, 0, 0, []), (.lconst 1, 0, 0, 0, []), (.invokestatic 86, 151, 3, 174, []), (.ifCond .ne 9, 1, 0, 0, []), (.aload_n 0, 0, 0, 0, []), (.iconst 1, 0, 0, 0, []), (.invokevirtual 148, 150, 2, 185, []), (.ireturn, 0, 0, 0, [])]),
  (16, [], [2, 0, 3, 3, 3, 3, 3, 3, 3, 3, 3], [(.aload_n 0, 0, 0, 0, []), (.invokevirtual 214, 175, 1, 200, []), (.iconst (-1), 0, 0, 0, []), (.istore_n 2, 0, 0, 0, []), (.iconst 0, 0, 0, 0, []), (.istore_n 3, 0, 0, 0, []), (.iconst 0, 0, 0, 0, []), (.istore 4, 0, 0, 0, []), (.nop, 2, 0, 0, [])]),
  (27, [], [2, 0, 0, 0, 0, 3, 3, 3, 3, 3, 3], [(.iload 4, 0, 0, 0, []), (.bipush 12, 0, 0, 0, []), (.aload_n 0, 0, 0, 0, []), (.invokevirtual 82, 153, 1, 173, []), (.imul, 0, 0, 0, []), (.if_icmp .ge 128, 7, 0, 0, []), (.iload 4, 0, 0, 0, []), (.bipush 12, 0, 0, 0, []), (.idiv, 0, 0, 0, []), (.istore 5, 0, 0, 0, []), (.iload 4, 0, 0, 0, []), (.bipush 12, 0, 0, 0, []), (.irem, 0, 0, 0, []), (.iconst 3, 0, 0, 0, []), (.idiv, 0, 0, 0, []), (.istore 6, 0, 0, 0, []), (.iload 4, 0, 0, 0, []), (.iconst 3, 0, 0, 0, []), (.irem, 0, 0, 0, []), (.istore 7, 0, 0, 0, []), (.aload_n 0, 0, 0, 0, []), (.iload 5, 0, 0, 0, []), (.iload 6, 0, 0, 0, []), (.iload 7, 0, 0, 0, []), (.invokevirtual 293, 213, 4, 218, []), (.ifCond .ne 6, 3, 0, 0, []), (.goto 84, 6, 0, 0, [])]),
  (77, [], [2, 0, 0, 0, 0, 0, 0, 0, 3, 3, 3], [(.aload_n 0, 0, 0, 0, []), (.iload 5, 0, 0, 0, []), (.iload 6, 0, 0, 0, []), (.invokevirtual 171, 157, 3, 190, []), (.istore 8, 0, 0, 0, []), (.aload_n 0, 0, 0, 0, []), (.iload 5, 0, 0, 0, []), (.invokevirtual 242, 186, 2, 207, []), (.istore 9, 0, 0, 0, []), (.aload_n 0, 0, 0, 0, []), (.iload 5, 0, 0, 0, []), (.iload 6, 0, 0, 0, []), (.iload 7, 0, 0, 0, []), (.invokevirtual 199, 158, 4, 197, []), (.aload_n 0, 0, 0, 0, []), (.iload 5, 0, 0, 0, []), (.invokevirtual 242, 186, 2, 207, []), (.iload 9, 0, 0, 0, []), (.isub, 0, 0, 0, []), (.aload_n 0, 0, 0, 0, []), (.iload 5, 0, 0, 0, []), (.iload 6, 0, 0, 0, []), (.invokevirtual 239, 185, 3, 206, []), (.isub, 0, 0, 0, []), (.istore 10, 0, 0, 0, []), (.iload_n 2, 0, 0, 0, []), (.ifCond .lt 9, 4, 0, 0, []), (.iload 10, 0, 0, 0, []), (.iload_n 3, 0, 0, 0, []), (.if_icmp .le 16, 5, 0, 0, []), (.nop, 4, 0, 0, [])]),
  (135, [], [2, 0, 0, 0, 0, 0, 0, 3, 0, 3, 0], [(.aload_n 0, 0, 0, 0, []), (.invokevirtual 302, 181, 1, 221, []), (.ifCond .eq 9, 5, 0, 0, []), (.iload 4, 0, 0, 0, []), (.istore_n 2, 0, 0, 0, []), (.iload 10, 0, 0, 0, []), (.istore_n 3, 0, 0, 0, []), (.nop, 5, 0, 0, [])]),
  (148, [], [2, 0, 0, 0, 0, 0, 0, 3, 0, 3, 3], [(.aload_n 0, 0, 0, 0, []), (.iload 5, 0, 0, 0, []), (.iload 6, 0, 0, 0, []), (.iload 8, 0, 0, 0, []), (.invokevirtual 199, 158, 4, 197, []), (.nop, 6, 0, 0, [])]),
  (158, [], [2, 0, 0, 0, 0, 3, 3, 3, 3, 3, 3], [(.iinc 4 1, 0, 0, 0, []), (.goto (-134), 2, 0, 0, [])]),
  (164, [], [2, 0, 0, 0, 3, 3, 3, 3, 3, 3, 3], [(.iload_n 2, 0, 0, 0, []), (.ifCond .ge 11, 8, 0, 0, []), (.aload_n 0, 0, 0, 0, []), (.iconst 2, 0, 0, 0, []), (.invokevirtual 148, 150, 2, 185, []), (.goto 12, 10, 0, 0, [])]),
  (176, [], [3, 0, 0, 0, 3, 3, 3, 3, 3, 3, 3], [(.iload_n 1, 0, 0, 0, []), (.ifCond .ne 7, 9, 0, 0, []), (.iload_n 2, 0, 0, 0, []), (.goto 4, 10, 0, 0, [])]),
  (184, [], [3, 3, 3, 0, 3, 3, 3, 3, 3, 3, 3], [(.iload_n 3, 0, 0, 0, []), (.nop, 10, 0, 0, [])]),
  (185, [0], [3, 3, 3, 3, 3, 3, 3, 3, 3, 3, 3], [(.ireturn, 0, 0, 0, [])])]
def P238 : List (Nat × List Nat × List Nat × List amI) := [(0, [], [2, 3, 3, 3, 3], [(.aload_n 0, 0, 0, 0, []), (.invokevirtual 346, 227, 1, 234, []), (.aload_n 0, 0, 0, 0, []), (.invokevirtual 82, 153, 1, 173, []), (.irem, 0, 0, 0, []), (.istore_n 1, 0, 0, 0, []), (.aload_n 0, 0, 0, 0, []), (.invokevirtual 346, 227, 1, 234, []), (.iconst 4, 0, 0, 0, []), (.irem, 0, 0, 0, []), (.istore_n 2, 0, 0, 0, []), (.aload_n 0, 0, 0, 0, []), (.invokevirtual 346, 227, 1, 234, []), (.iconst 3, 0, 0, 0, []), (.irem, 0, 0, 0, []), (.istore_n 3, 0, 0, 0, []), (.aload_n 0, 0, 0, 0, []), (.getfield 7, 11, 0, 118, []), (.iconst 5, 0, 0, 0, []), (.dup2, 0, 0, 0, []), (.iaload, 0, 0, 0, []), (.iconst 1, 0, 0, 0, []), (.iadd, 0, 0, 0, []), (.iastore, 0, 0, 0, []), (.aload_n 0, 0, 0, 0, []), (.iload_n 1, 0, 0, 0, []), (.iload_n 2, 0, 0, 0, []), (.iload_n 3, 0, 0, 0, []), (.invokevirtual 293, 213, 4, 218, []), (.ifCond .ne 5, 1, 0, 0, []), (.iconst 0, 0, 0, 0, []), (.ireturn, 4, 0, 0, [])]),
  (46, [], [2, 0, 0, 0, 3], [(.aload_n 0, 0, 0, 0, []), (.iload_n 1, 0, 0, 0, []), (.iload_n 2, 0, 0, 0, []), (.invokevirtual 171, 157, 3, 190, []), (.istore 4, 0, 0, 0, []), (.aload_n 0, 0, 0, 0, []), (.iload_n 1, 0, 0, 0, []), (.iload_n 2, 0, 0, 0, []), (.iload_n 3, 0, 0, 0, []), (.invokevirtual 199, 158, 4, 197, []), (.aload_n 0, 0, 0, 0, []), (.invokevirtual 302, 181, 1, 221, []), (.ifCond .eq 15, 2, 0, 0, []), (.aload_n 0, 0, 0, 0, []), (.aload_n 0, 0, 0, 0, []), (.iload_n 1, 0, 0, 0, []), (.iload_n 2, 0, 0, 0, []), (.invokevirtual 239, 185, 3, 206, []), (.invokevirtual 257, 198, 2, 210, []), (.iconst 1, 0, 0, 0, []), (.ireturn, 4, 0, 0, [])]),
  (80, [], [2, 0, 0, 3, 0], [(.aload_n 0, 0, 0, 0, []), (.iload_n 1, 0, 0, 0, []), (.iload_n 2, 0, 0, 0, []), (.iload 4, 0, 0, 0, []), (.invokevirtual 199, 158, 4, 197, []), (.iconst 0, 0, 0, 0, []), (.ireturn, 4, 0, 0, [])])]
def P239 : List (Nat × List Nat × List Nat × List amI) := [(0, [], [2, 0, 3, 3], [(.iload_n 1, 0, 0, 0, []), (.i2l, 0, 0, 0, []), (.lconst 1, 0, 0, 0, []), (.ldc2_w 349, 0, 0, 21, [(200, 0)]), (.invokestatic 86, 151, 3, 174, []), (.ifCond .ne 9, 1, 0, 0, []), (.aload_n 0, 0, 0, 0, []), (.iconst 1, 0, 0, 0, []), (.invokevirtual 148, 150, 2, 185, []), (.ireturn, 0, 0, 0, [])]),
  (18, [], [2, 0, 3, 3], [(.aload_n 0, 0, 0, 0, []), (.getfield 7, 11, 0, 118, []), (.iconst 5, 0, 0, 0, []), (.iaload, 0, 0, 0, []), (.iload_n 1, 0, 0, 0, []), (.iadd, 0, 0, 0, []), (.sipush 9999, 0, 0, 0, []), (.if_icmp .le 9, 2, 0, 0, []), (.aload_n 0, 0, 0, 0, []), (.iconst 3, 0, 0, 0, []), (.invokevirtual 148, 150, 2, 185, []), (.ireturn, 0, 0, 0, [])]),
  (38, [], [2, 0, 3, 3], [(.aload_n 0, 0, 0, 0, []), (.invokevirtual 214, 175, 1, 200, []), (.iconst 0, 0, 0, 0, []), (.istore_n 2, 0, 0, 0, []), (.iconst 0, 0, 0, 0, []), (.istore_n 3, 0, 0, 0, []), (.nop, 3, 0, 0, [])]),
  (46, [], [2, 0, 0, 0], [(.iload_n 3, 0, 0, 0, []), (.iload_n 1, 0, 0, 0, []), (.if_icmp .ge 24, 6, 0, 0, []), (.iload_n 2, 0, 0, 0, []), (.aload_n 0, 0, 0, 0, []), (.invokevirtual 351, 238, 1, 235, []), (.ifCond .eq 7, 4, 0, 0, []), (.iconst 1, 0, 0, 0, []), (.goto 4, 5, 0, 0, [])]),
  (63, [0], [2, 0, 3, 0], [(.iconst 0, 0, 0, 0, []), (.nop, 5, 0, 0, [])]),
  (64, [0, 0], [2, 0, 3, 0], [(.iadd, 0, 0, 0, []), (.istore_n 2, 0, 0, 0, []), (.iinc 3 1, 0, 0, 0, []), (.goto (-23), 3, 0, 0, [])]),
  (72, [], [3, 3, 0, 3], [(.iload_n 2, 0, 0, 0, []), (.ireturn, 0, 0, 0, [])])]
def P240 : List (Nat × List Nat × List Nat × List amI) := [(0, [], [2, 0, 3], [(.aload_n 0, 0, 0, 0, []), (.getfield 7, 11, 0, 118, []), (.bipush 7, 0, 0, 0, []), (.iaload, 0, 0, 0, []), (.istore_n 2, 0, 0, 0, []), (.aload_n 0, 0, 0, 0, []), (.getfield 7, 11, 0, 118, []), (.bipush 7, 0, 0, 0, []), (.iload_n 1, 0, 0, 0, []), (.iastore, 0, 0, 0, []), (.iload_n 2, 0, 0, 0, []), (.ireturn, 0, 0, 0, [])])]
def P241 : List (Nat × List Nat × List Nat × List amI) := [(0, [], [2, 0], [(.aload_n 0, 0, 0, 0, []), (.getfield 354, 11, 33, 154, []), (.bipush 40, 0, 0, 0, []), (.if_icmp .ge 23, 1, 0, 0, []), (.aload_n 0, 0, 0, 0, []), (.getfield 66, 11, 32, 136, []), (.aload_n 0, 0, 0, 0, []), (.getfield 354, 11, 33, 154, []), (.iload_n 1, 0, 0, 0, []), (.iastore, 0, 0, 0, []), (.aload_n 0, 0, 0, 0, []), (.dup, 0, 0, 0, []), (.getfield 354, 11, 33, 154, []), (.iconst 1, 0, 0, 0, []), (.iadd, 0, 0, 0, []), (.putfield 354, 11, 33, 154, []), (.nop, 1, 0, 0, [])]),
  (29, [], [3, 3], [(.return_, 0, 0, 0, [])])]
def P242 : List (Nat × List Nat × List Nat × List amI) := [(0, [], [2], [(.aload_n 0, 0, 0, 0, []), (.aload_n 0, 0, 0, 0, []), (.getfield 357, 11, 34, 155, []), (.invokevirtual 178, 156, 2, 192, []), (.ireturn, 0, 0, 0, [])])]
def P243 : List (Nat × List Nat × List Nat × List amI) := [(0, [], [2, 0, 0], [(.iload_n 1, 0, 0, 0, []), (.lookupswitch 58 #[(0, 27), (2, 40)], 3, 0, 0, [(0, 1), (2, 2)])]),
  (28, [], [2, 3, 0], [(.aload_n 0, 0, 0, 0, []), (.bipush 10, 0, 0, 0, []), (.invokevirtual 360, 241, 2, 236, []), (.iload_n 2, 0, 0, 0, []), (.aload_n 0, 0, 0, 0, []), (.getfield 357, 11, 34, 155, []), (.iadd, 0, 0, 0, []), (.ireturn, 0, 0, 0, [])]),
  (41, [], [2, 3, 0], [(.aload_n 0, 0, 0, 0, []), (.bipush 30, 0, 0, 0, []), (.invokevirtual 360, 241, 2, 236, []), (.aload_n 0, 0, 0, 0, []), (.iconst 2, 0, 0, 0, []), (.invokestatic 247, 195, 1, 208, []), (.iload_n 2, 0, 0, 0, []), (.invokevirtual 363, 243, 3, 237, []), (.iconst 3, 0, 0, 0, []), (.imul, 0, 0, 0, []), (.ireturn, 0, 0, 0, [])]),
  (59, [], [2, 0, 0], [(.aload_n 0, 0, 0, 0, []), (.iload_n 1, 0, 0, 0, []), (.invokestatic 247, 195, 1, 208, []), (.iload_n 2, 0, 0, 0, []), (.invokevirtual 363, 243, 3, 237, []), (.ireturn, 0, 0, 0, [])])]
def P244 : List (Nat × List Nat × List Nat × List amI) := [(0, [], [2, 0, 0, 3], [(.iload_n 1, 0, 0, 0, []), (.tableswitch 99 0 4 #[35, 53, 99, 99, 81], 4, 0, 0, [(0, 1), (1, 2), (2, 4), (3, 4), (4, 3)])]),
  (36, [], [2, 3, 0, 3], [(.aload_n 0, 0, 0, 0, []), (.bipush 11, 0, 0, 0, []), (.invokevirtual 360, 241, 2, 236, []), (.aload_n 0, 0, 0, 0, []), (.aload_n 0, 0, 0, 0, []), (.invokevirtual 366, 242, 1, 238, []), (.iload_n 2, 0, 0, 0, []), (.invokevirtual 363, 243, 3, 237, []), (.iconst 2, 0, 0, 0, []), (.imul, 0, 0, 0, []), (.ireturn, 0, 0, 0, [])]),
  (54, [], [2, 3, 0, 3], [(.aload_n 0, 0, 0, 0, []), (.bipush 20, 0, 0, 0, []), (.invokevirtual 360, 241, 2, 236, []), (.aload_n 0, 0, 0, 0, []), (.iconst 1, 0, 0, 0, []), (.invokestatic 247, 195, 1, 208, []), (.iload_n 2, 0, 0, 0, []), (.invokevirtual 369, 244, 3, 239, []), (.istore_n 3, 0, 0, 0, []), (.iload_n 3, 0, 0, 0, []), (.aload_n 0, 0, 0, 0, []), (.aload_n 0, 0, 0, 0, []), (.invokevirtual 366, 242, 1, 238, []), (.iconst 1, 0, 0, 0, []), (.invokevirtual 372, 245, 3, 240, []), (.isub, 0, 0, 0, []), (.ireturn, 0, 0, 0, [])]),
  (82, [], [2, 3, 0, 3], [(.aload_n 0, 0, 0, 0, []), (.bipush 50, 0, 0, 0, []), (.invokevirtual 360, 241, 2, 236, []), (.aload_n 0, 0, 0, 0, []), (.iconst 4, 0, 0, 0, []), (.invokestatic 247, 195, 1, 208, []), (.iload_n 2, 0, 0, 0, []), (.iconst 1, 0, 0, 0, []), (.iadd, 0, 0, 0, []), (.invokevirtual 369, 244, 3, 239, []), (.ireturn, 0, 0, 0, [])]),
  (100, [], [2, 0, 0, 3], [(.aload_n 0, 0, 0, 0, []), (.iload_n 1, 0, 0, 0, []), (.invokestatic 247, 195, 1, 208, []), (.iload_n 2, 0, 0, 0, []), (.invokevirtual 369, 244, 3, 239, []), (.ireturn, 0, 0, 0, [])])]
def P245 : List (Nat × List Nat × List Nat × List amI) := [(0, [], [2, 0, 0], [(.iload_n 1, 0, 0, 0, []), (.lookupswitch 95 #[(0, 35), (3, 56), (6, 73)], 4, 0, 0, [(0, 1), (3, 2), (6, 3)])]),
  (36, [], [2, 3, 0], [(.aload_n 0, 0, 0, 0, []), (.bipush 12, 0, 0, 0, []), (.invokevirtual 360, 241, 2, 236, []), (.iload_n 2, 0, 0, 0, []), (.aload_n 0, 0, 0, 0, []), (.getfield 7, 11, 0, 118, []), (.bipush 84, 0, 0, 0, []), (.aload_n 0, 0, 0, 0, []), (.getfield 357, 11, 34, 155, []), (.iadd, 0, 0, 0, []), (.iaload, 0, 0, 0, []), (.isub, 0, 0, 0, []), (.ireturn, 0, 0, 0, [])]),
  (57, [], [2, 3, 0], [(.aload_n 0, 0, 0, 0, []), (.bipush 40, 0, 0, 0, []), (.invokevirtual 360, 241, 2, 236, []), (.aload_n 0, 0, 0, 0, []), (.iconst 3, 0, 0, 0, []), (.invokestatic 247, 195, 1, 208, []), (.iload_n 2, 0, 0, 0, []), (.invokevirtual 372, 245, 3, 240, []), (.ineg, 0, 0, 0, []), (.ireturn, 0, 0, 0, [])]),
  (74, [], [2, 3, 0], [(.aload_n 0, 0, 0, 0, []), (.bipush 70, 0, 0, 0, []), (.invokevirtual 360, 241, 2, 236, []), (.aload_n 0, 0, 0, 0, []), (.bipush 6, 0, 0, 0, []), (.invokestatic 247, 195, 1, 208, []), (.iload_n 2, 0, 0, 0, []), (.invokevirtual 372, 245, 3, 240, []), (.aload_n 0, 0, 0, 0, []), (.getfield 357, 11, 34, 155, []), (.ixor, 0, 0, 0, []), (.ireturn, 0, 0, 0, [])]),
  (96, [], [2, 0, 0], [(.aload_n 0, 0, 0, 0, []), (.iload_n 1, 0, 0, 0, []), (.invokestatic 247, 195, 1, 208, []), (.iload_n 2, 0, 0, 0, []), (.invokevirtual 372, 245, 3, 240, []), (.ireturn, 0, 0, 0, [])])]
def P246 : List (Nat × List Nat × List Nat × List amI) := [(0, [], [2, 0, 0, 3], [(.iload_n 1, 0, 0, 0, []), (.lookupswitch 120 #[(0, 35), (5, 63), (6, 91)], 4, 0, 0, [(0, 1), (5, 2), (6, 3)])]),
  (36, [], [2, 3, 0, 3], [(.aload_n 0, 0, 0, 0, []), (.bipush 13, 0, 0, 0, []), (.invokevirtual 360, 241, 2, 236, []), (.aload_n 0, 0, 0, 0, []), (.aload_n 0, 0, 0, 0, []), (.invokevirtual 366, 242, 1, 238, []), (.iload_n 2, 0, 0, 0, []), (.invokevirtual 369, 244, 3, 239, []), (.istore_n 3, 0, 0, 0, []), (.iload_n 3, 0, 0, 0, []), (.aload_n 0, 0, 0, 0, []), (.aload_n 0, 0, 0, 0, []), (.invokevirtual 366, 242, 1, 238, []), (.iload_n 2, 0, 0, 0, []), (.invokevirtual 372, 245, 3, 240, []), (.ixor, 0, 0, 0, []), (.ireturn, 0, 0, 0, [])]),
  (64, [], [2, 3, 0, 3], [(.aload_n 0, 0, 0, 0, []), (.bipush 60, 0, 0, 0, []), (.invokevirtual 360, 241, 2, 236, []), (.aload_n 0, 0, 0, 0, []), (.iconst 5, 0, 0, 0, []), (.invokestatic 247, 195, 1, 208, []), (.iload_n 2, 0, 0, 0, []), (.invokevirtual 375, 246, 3, 241, []), (.istore_n 3, 0, 0, 0, []), (.iload_n 3, 0, 0, 0, []), (.aload_n 0, 0, 0, 0, []), (.aload_n 0, 0, 0, 0, []), (.invokevirtual 366, 242, 1, 238, []), (.iconst 2, 0, 0, 0, []), (.invokevirtual 363, 243, 3, 237, []), (.isub, 0, 0, 0, []), (.ireturn, 0, 0, 0, [])]),
  (92, [], [2, 3, 0, 3], [(.aload_n 0, 0, 0, 0, []), (.bipush 71, 0, 0, 0, []), (.invokevirtual 360, 241, 2, 236, []), (.aload_n 0, 0, 0, 0, []), (.aload_n 0, 0, 0, 0, []), (.invokevirtual 366, 242, 1, 238, []), (.iload_n 2, 0, 0, 0, []), (.invokevirtual 369, 244, 3, 239, []), (.istore_n 3, 0, 0, 0, []), (.iload_n 3, 0, 0, 0, []), (.aload_n 0, 0, 0, 0, []), (.bipush 6, 0, 0, 0, []), (.invokestatic 247, 195, 1, 208, []), (.iload_n 2, 0, 0, 0, []), (.invokevirtual 375, 246, 3, 241, []), (.isub, 0, 0, 0, []), (.ireturn, 0, 0, 0, [])]),
  (121, [], [2, 0, 0, 3], [(.aload_n 0, 0, 0, 0, []), (.iload_n 1, 0, 0, 0, []), (.invokestatic 247, 195, 1, 208, []), (.iload_n 2, 0, 0, 0, []), (.invokevirtual 375, 246, 3, 241, []), (.ireturn, 0, 0, 0, [])])]
def P247 : List (Nat × List Nat × List Nat × List amI) := [(0, [], [2, 0, 0, 0, 3], [(.aload_n 0, 0, 0, 0, []), (.iload_n 1, 0, 0, 0, []), (.invokevirtual 220, 154, 2, 202, []), (.ifCond .eq 15, 1, 0, 0, []), (.iload_n 2, 0, 0, 0, []), (.i2l, 0, 0, 0, []), (.lconst 0, 0, 0, 0, []), (.ldc2_w 250, 0, 0, 17, [(3, 0)]), (.invokestatic 86, 151, 3, 174, []), (.ifCond .ne 9, 2, 0, 0, []), (.nop, 1, 0, 0, [])]),
  (20, [], [2, 3, 3, 3, 3], [(.aload_n 0, 0, 0, 0, []), (.iconst 1, 0, 0, 0, []), (.invokevirtual 148, 150, 2, 185, []), (.ireturn, 0, 0, 0, [])]),
  (26, [], [2, 0, 0, 0, 3], [(.aload_n 0, 0, 0, 0, []), (.iload_n 1, 0, 0, 0, []), (.invokevirtual 175, 155, 2, 191, []), (.ifCond .eq 9, 3, 0, 0, []), (.aload_n 0, 0, 0, 0, []), (.iconst 2, 0, 0, 0, []), (.invokevirtual 148, 150, 2, 185, []), (.ireturn, 0, 0, 0, [])]),
  (40, [], [2, 0, 0, 0, 3], [(.aload_n 0, 0, 0, 0, []), (.iconst 0, 0, 0, 0, []), (.putfield 354, 11, 33, 154, []), (.aload_n 0, 0, 0, 0, []), (.iload_n 1, 0, 0, 0, []), (.putfield 357, 11, 34, 155, []), (.aload_n 0, 0, 0, 0, []), (.invokevirtual 366, 242, 1, 238, []), (.istore 4, 0, 0, 0, []), (.iload_n 2, 0, 0, 0, []), (.ifCond .ne 13, 4, 0, 0, []), (.aload_n 0, 0, 0, 0, []), (.iload 4, 0, 0, 0, []), (.iload_n 3, 0, 0, 0, []), (.invokevirtual 363, 243, 3, 237, []), (.goto 40, 7, 0, 0, [])]),
  (70, [], [2, 3, 0, 0, 0], [(.iload_n 2, 0, 0, 0, []), (.iconst 1, 0, 0, 0, []), (.if_icmp .ne 13, 5, 0, 0, []), (.aload_n 0, 0, 0, 0, []), (.iload 4, 0, 0, 0, []), (.iload_n 3, 0, 0, 0, []), (.invokevirtual 369, 244, 3, 239, []), (.goto 25, 7, 0, 0, [])]),
  (85, [], [2, 3, 0, 0, 0], [(.iload_n 2, 0, 0, 0, []), (.iconst 2, 0, 0, 0, []), (.if_icmp .ne 13, 6, 0, 0, []), (.aload_n 0, 0, 0, 0, []), (.iload 4, 0, 0, 0, []), (.iload_n 3, 0, 0, 0, []), (.invokevirtual 372, 245, 3, 240, []), (.goto 10, 7, 0, 0, [])]),
  (100, [], [2, 3, 3, 0, 0], [(.aload_n 0, 0, 0, 0, []), (.iload 4, 0, 0, 0, []), (.iload_n 3, 0, 0, 0, []), (.invokevirtual 375, 246, 3, 241, []), (.nop, 7, 0, 0, [])]),
  (107, [0], [3, 3, 3, 3, 3], [(.ireturn, 0, 0, 0, [])])]
def P248 : List (Nat × List Nat × List Nat × List amI) := [(0, [], [2, 0], [(.iload_n 1, 0, 0, 0, []), (.i2l, 0, 0, 0, []), (.lconst 0, 0, 0, 0, []), (.aload_n 0, 0, 0, 0, []), (.getfield 354, 11, 33, 154, []), (.iconst 1, 0, 0, 0, []), (.isub, 0, 0, 0, []), (.i2l, 0, 0, 0, []), (.invokestatic 86, 151, 3, 174, []), (.ifCond .eq 12, 1, 0, 0, []), (.aload_n 0, 0, 0, 0, []), (.getfield 66, 11, 32, 136, []), (.iload_n 1, 0, 0, 0, []), (.iaload, 0, 0, 0, []), (.goto 8, 2, 0, 0, [])]),
  (25, [], [2, 3], [(.aload_n 0, 0, 0, 0, []), (.iconst 2, 0, 0, 0, []), (.invokevirtual 148, 150, 2, 185, []), (.nop, 2, 0, 0, [])]),
  (30, [0], [3, 3], [(.ireturn, 0, 0, 0, [])])]
def P249 : List (Nat × List Nat × List Nat × List amI) := [(0, [], [0], [(.iload_n 0, 0, 0, 0, []), (.i2l, 0, 0, 0, []), (.lconst 0, 0, 0, 0, []), (.ldc2_w 250, 0, 0, 17, [(3, 0)]), (.invokestatic 86, 151, 3, 174, []), (.ireturn, 4, 0, 0, [])])]
def P250 : List (Nat × List Nat × List Nat × List amI) := [(0, [], [2, 0, 0, 0, 3], [(.iload_n 1, 0, 0, 0, []), (.invokestatic 378, 249, 1, 242, []), (.ifCond .eq 25, 1, 0, 0, []), (.iload_n 2, 0, 0, 0, []), (.ifCond .eq 27, 2, 0, 0, []), (.iload_n 2, 0, 0, 0, []), (.bipush 8, 0, 0, 0, []), (.if_icmp .eq 21, 2, 0, 0, []), (.iload_n 2, 0, 0, 0, []), (.bipush 16, 0, 0, 0, []), (.if_icmp .eq 15, 2, 0, 0, []), (.iload_n 2, 0, 0, 0, []), (.bipush 32, 0, 0, 0, []), (.if_icmp .eq 9, 2, 0, 0, []), (.nop, 1, 0, 0, [])]),
  (29, [], [2, 3, 3, 3, 3], [(.aload_n 0, 0, 0, 0, []), (.iconst 1, 0, 0, 0, []), (.invokevirtual 148, 150, 2, 185, []), (.ireturn, 0, 0, 0, [])]),
  (35, [], [2, 0, 0, 0, 3], [(.iload_n 2, 0, 0, 0, []), (.ifCond .eq 13, 3, 0, 0, []), (.iload_n 3, 0, 0, 0, []), (.ifCond .ge 9, 3, 0, 0, []), (.aload_n 0, 0, 0, 0, []), (.iconst 3, 0, 0, 0, []), (.invokevirtual 148, 150, 2, 185, []), (.ireturn, 0, 0, 0, [])]),
  (49, [], [2, 0, 0, 0, 3], [(.iload_n 2, 0, 0, 0, []), (.ifCond .eq 15, 4, 0, 0, []), (.iload_n 3, 0, 0, 0, []), (.bipush 64, 0, 0, 0, []), (.if_icmp .le 9, 4, 0, 0, []), (.aload_n 0, 0, 0, 0, []), (.iconst 1, 0, 0, 0, []), (.invokevirtual 148, 150, 2, 185, []), (.ireturn, 0, 0, 0, [])]),
  (65, [], [2, 0, 0, 0, 3], [(.aload_n 0, 0, 0, 0, []), (.getfield 69, 11, 35, 137, []), (.iload_n 1, 0, 0, 0, []), (.iload_n 2, 0, 0, 0, []), (.iastore, 0, 0, 0, []), (.aload_n 0, 0, 0, 0, []), (.getfield 72, 11, 36, 138, []), (.iload_n 1, 0, 0, 0, []), (.iload_n 2, 0, 0, 0, []), (.ifCond .ne 7, 5, 0, 0, []), (.iconst 0, 0, 0, 0, []), (.goto 4, 6, 0, 0, [])]),
  (85, [0, 2], [2, 0, 3, 0, 3], [(.iload_n 3, 0, 0, 0, []), (.nop, 6, 0, 0, [])]),
  (86, [0, 0, 2], [2, 0, 3, 3, 3], [(.iastore, 0, 0, 0, []), (.iconst 0, 0, 0, 0, []), (.istore 4, 0, 0, 0, []), (.nop, 7, 0, 0, [])]),
  (90, [], [2, 0, 3, 3, 0], [(.iload 4, 0, 0, 0, []), (.bipush 64, 0, 0, 0, []), (.if_icmp .ge 22, 8, 0, 0, []), (.aload_n 0, 0, 0, 0, []), (.getfield 75, 11, 37, 139, []), (.bipush 64, 0, 0, 0, []), (.iload_n 1, 0, 0, 0, []), (.imul, 0, 0, 0, []), (.iload 4, 0, 0, 0, []), (.iadd, 0, 0, 0, []), (.iconst 0, 0, 0, 0, []), (.iastore, 0, 0, 0, []), (.iinc 4 1, 0, 0, 0, []), (.goto (-23), 7, 0, 0, [])]),
  (116, [], [3, 3, 3, 3, 3], [(.iconst 1, 0, 0, 0, []), (.ireturn, 0, 0, 0, [])])]
def P251 : List (Nat × List Nat × List Nat × List amI) := [(0, [], [2, 0, 0, 0], [(.iload_n 1, 0, 0, 0, []), (.invokestatic 378, 249, 1, 242, []), (.ifCond .ne 9, 1, 0, 0, []), (.aload_n 0, 0, 0, 0, []), (.iconst 1, 0, 0, 0, []), (.invokevirtual 148, 150, 2, 185, []), (.ireturn, 0, 0, 0, [])]),
  (13, [], [2, 0, 0, 0], [(.aload_n 0, 0, 0, 0, []), (.getfield 69, 11, 35, 137, []), (.iload_n 1, 0, 0, 0, []), (.iaload, 0, 0, 0, []), (.ifCond .ne 9, 2, 0, 0, []), (.aload_n 0, 0, 0, 0, []), (.iconst 2, 0, 0, 0, []), (.invokevirtual 148, 150, 2, 185, []), (.ireturn, 0, 0, 0, [])]),
  (28, [], [2, 0, 0, 0], [(.iload_n 2, 0, 0, 0, []), (.i2l, 0, 0, 0, []), (.lconst 0, 0, 0, 0, []), (.aload_n 0, 0, 0, 0, []), (.getfield 72, 11, 36, 138, []), (.iload_n 1, 0, 0, 0, []), (.iaload, 0, 0, 0, []), (.iconst 1, 0, 0, 0, []), (.isub, 0, 0, 0, []), (.i2l, 0, 0, 0, []), (.invokestatic 86, 151, 3, 174, []), (.ifCond .ne 9, 3, 0, 0, []), (.aload_n 0, 0, 0, 0, []), (.iconst 1, 0, 0, 0, []), (.invokevirtual 148, 150, 2, 185, []), (.ireturn, 0, 0, 0, [])]),
  (52, [], [2, 0, 0, 0], [(.aload_n 0, 0, 0, 0, []), (.getfield 75, 11, 37, 139, []), (.bipush 64, 0, 0, 0, []), (.iload_n 1, 0, 0, 0, []), (.imul, 0, 0, 0, []), (.iload_n 2, 0, 0, 0, []), (.iadd, 0, 0, 0, []), (.aload_n 0, 0, 0, 0, []), (.getfield 69, 11, 35, 137, []), (.iload_n 1, 0, 0, 0, []), (.iaload, 0, 0, 0, []), (.bipush 8, 0, 0, 0, []), (.if_icmp .ne 8, 4, 0, 0, []), (.iload_n 3, 0, 0, 0, []), (.i2b, 0, 0, 0, []), (.goto 20, 6, 0, 0, [])]),
  (78, [0, 2], [2, 0, 3, 0], [(.aload_n 0, 0, 0, 0, []), (.getfield 69, 11, 35, 137, []), (.iload_n 1, 0, 0, 0, []), (.iaload, 0, 0, 0, []), (.bipush 16, 0, 0, 0, []), (.if_icmp .ne 8, 5, 0, 0, []), (.iload_n 3, 0, 0, 0, []), (.i2s, 0, 0, 0, []), (.goto 4, 6, 0, 0, [])]),
  (94, [0, 2], [3, 3, 3, 0], [(.iload_n 3, 0, 0, 0, []), (.nop, 6, 0, 0, [])]),
  (95, [0, 0, 2], [3, 3, 3, 3], [(.iastore, 0, 0, 0, []), (.iconst 1, 0, 0, 0, []), (.ireturn, 0, 0, 0, [])])]
def P252 : List (Nat × List Nat × List Nat × List amI) := [(0, [], [2, 0, 0, 0, 0, 0, 3], [(.iload_n 1, 0, 0, 0, []), (.invokestatic 378, 249, 1, 242, []), (.ifCond .eq 10, 1, 0, 0, []), (.iload_n 3, 0, 0, 0, []), (.invokestatic 378, 249, 1, 242, []), (.ifCond .ne 9, 2, 0, 0, []), (.nop, 1, 0, 0, [])]),
  (14, [], [2, 3, 3, 3, 3, 3, 3], [(.aload_n 0, 0, 0, 0, []), (.iconst 1, 0, 0, 0, []), (.invokevirtual 148, 150, 2, 185, []), (.ireturn, 0, 0, 0, [])]),
  (20, [], [2, 0, 0, 0, 0, 0, 3], [(.aload_n 0, 0, 0, 0, []), (.getfield 69, 11, 35, 137, []), (.iload_n 1, 0, 0, 0, []), (.iaload, 0, 0, 0, []), (.ifCond .eq 12, 3, 0, 0, []), (.aload_n 0, 0, 0, 0, []), (.getfield 69, 11, 35, 137, []), (.iload_n 3, 0, 0, 0, []), (.iaload, 0, 0, 0, []), (.ifCond .ne 9, 4, 0, 0, []), (.nop, 3, 0, 0, [])]),
  (38, [], [2, 3, 3, 3, 3, 3, 3], [(.aload_n 0, 0, 0, 0, []), (.iconst 2, 0, 0, 0, []), (.invokevirtual 148, 150, 2, 185, []), (.ireturn, 0, 0, 0, [])]),
  (44, [], [2, 0, 0, 0, 0, 0, 3], [(.aload_n 0, 0, 0, 0, []), (.getfield 69, 11, 35, 137, []), (.iload_n 1, 0, 0, 0, []), (.iaload, 0, 0, 0, []), (.aload_n 0, 0, 0, 0, []), (.getfield 69, 11, 35, 137, []), (.iload_n 3, 0, 0, 0, []), (.iaload, 0, 0, 0, []), (.if_icmp .eq 9, 5, 0, 0, []), (.aload_n 0, 0, 0, 0, []), (.iconst 5, 0, 0, 0, []), (.invokevirtual 148, 150, 2, 185, []), (.ireturn, 0, 0, 0, [])]),
  (65, [], [2, 0, 0, 0, 0, 0, 3], [(.iload 5, 0, 0, 0, []), (.ifCond .lt 39, 6, 0, 0, []), (.iload_n 2, 0, 0, 0, []), (.ifCond .lt 35, 6, 0, 0, []), (.iload 4, 0, 0, 0, []), (.ifCond .lt 30, 6, 0, 0, []), (.iload 5, 0, 0, 0, []), (.aload_n 0, 0, 0, 0, []), (.getfield 72, 11, 36, 138, []), (.iload_n 1, 0, 0, 0, []), (.iaload, 0, 0, 0, []), (.iload_n 2, 0, 0, 0, []), (.isub, 0, 0, 0, []), (.if_icmp .gt 17, 6, 0, 0, []), (.iload 5, 0, 0, 0, []), (.aload_n 0, 0, 0, 0, []), (.getfield 72, 11, 36, 138, []), (.iload_n 3, 0, 0, 0, []), (.iaload, 0, 0, 0, []), (.iload 4, 0, 0, 0, []), (.isub, 0, 0, 0, []), (.if_icmp .le 9, 7, 0, 0, []), (.nop, 6, 0, 0, [])]),
  (106, [], [2, 3, 3, 3, 3, 3, 3], [(.aload_n 0, 0, 0, 0, []), (.iconst 1, 0, 0, 0, []), (.invokevirtual 148, 150, 2, 185, []), (.ireturn, 0, 0, 0, [])]),
  (112, [], [2, 0, 0, 0, 0, 0, 3], [(.iconst 0, 0, 0, 0, []), (.istore 6, 0, 0, 0, []), (.nop, 8, 0, 0, [])]),
  (115, [], [2, 0, 0, 0, 0, 0, 0], [(.iload 6, 0, 0, 0, []), (.iload 5, 0, 0, 0, []), (.if_icmp .ge 30, 9, 0, 0, []), (.aload_n 0, 0, 0, 0, []), (.getfield 78, 11, 38, 140, []), (.iload 6, 0, 0, 0, []), (.aload_n 0, 0, 0, 0, []), (.getfield 75, 11, 37, 139, []), (.bipush 64, 0, 0, 0, []), (.iload_n 1, 0, 0, 0, []), (.imul, 0, 0, 0, []), (.iload_n 2, 0, 0, 0, []), (.iadd, 0, 0, 0, []), (.iload 6, 0, 0, 0, []), (.iadd, 0, 0, 0, []), (.iaload, 0, 0, 0, []), (.iastore, 0, 0, 0, []), (.iinc 6 1, 0, 0, 0, []), (.goto (-31), 8, 0, 0, [])]),
  (149, [], [2, 3, 3, 0, 0, 0, 3], [(.iconst 0, 0, 0, 0, []), (.istore 6, 0, 0, 0, []), (.nop, 10, 0, 0, [])]),
  (152, [], [2, 3, 3, 0, 0, 0, 0], [(.iload 6, 0, 0, 0, []), (.iload 5, 0, 0, 0, []), (.if_icmp .ge 31, 11, 0, 0, []), (.aload_n 0, 0, 0, 0, []), (.getfield 75, 11, 37, 139, []), (.bipush 64, 0, 0, 0, []), (.iload_n 3, 0, 0, 0, []), (.imul, 0, 0, 0, []), (.iload 4, 0, 0, 0, []), (.iadd, 0, 0, 0, []), (.iload 6, 0, 0, 0, []), (.iadd, 0, 0, 0, []), (.aload_n 0, 0, 0, 0, []), (.getfield 78, 11, 38, 140, []), (.iload 6, 0, 0, 0, []), (.iaload, 0, 0, 0, []), (.iastore, 0, 0, 0, []), (.iinc 6 1, 0, 0, 0, []), (.goto (-32), 10, 0, 0, [])]),
  (187, [], [3, 3, 3, 3, 3, 0, 3], [(.iload 5, 0, 0, 0, []), (.ireturn, 0, 0, 0, [])])]
def P253 : List (Nat × List Nat × List Nat × List amI) := [(0, [], [2, 0, 3, 3, 3, 3], [(.iload_n 1, 0, 0, 0, []), (.invokestatic 378, 249, 1, 242, []), (.ifCond .ne 9, 1, 0, 0, []), (.aload_n 0, 0, 0, 0, []), (.iconst 1, 0, 0, 0, []), (.invokevirtual 148, 150, 2, 185, []), (.ireturn, 0, 0, 0, [])]),
  (13, [], [2, 0, 3, 3, 3, 3], [(.aload_n 0, 0, 0, 0, []), (.getfield 69, 11, 35, 137, []), (.iload_n 1, 0, 0, 0, []), (.iaload, 0, 0, 0, []), (.ifCond .ne 9, 2, 0, 0, []), (.aload_n 0, 0, 0, 0, []), (.iconst 2, 0, 0, 0, []), (.invokevirtual 148, 150, 2, 185, []), (.ireturn, 0, 0, 0, [])]),
  (28, [], [2, 0, 3, 3, 3, 3], [(.aload_n 0, 0, 0, 0, []), (.invokevirtual 318, 219, 1, 225, []), (.iconst 0, 0, 0, 0, []), (.istore_n 2, 0, 0, 0, []), (.iconst 0, 0, 0, 0, []), (.istore_n 3, 0, 0, 0, []), (.nop, 3, 0, 0, [])]),
  (36, [], [2, 0, 0, 0, 3, 3], [(.iload_n 3, 0, 0, 0, []), (.aload_n 0, 0, 0, 0, []), (.getfield 72, 11, 36, 138, []), (.iload_n 1, 0, 0, 0, []), (.iaload, 0, 0, 0, []), (.if_icmp .ge 91, 10, 0, 0, []), (.iload_n 3, 0, 0, 0, []), (.ifCond .ne 13, 4, 0, 0, []), (.aload_n 0, 0, 0, 0, []), (.bipush 81, 0, 0, 0, []), (.invokevirtual 381, 254, 2, 243, []), (.istore_n 2, 0, 0, 0, []), (.goto 59, 9, 0, 0, [])]),
  (60, [], [2, 0, 0, 0, 3, 3], [(.iconst 0, 0, 0, 0, []), (.istore 4, 0, 0, 0, []), (.iconst 0, 0, 0, 0, []), (.istore 5, 0, 0, 0, []), (.nop, 5, 0, 0, [])]),
  (66, [], [2, 0, 0, 0, 0, 0], [(.iload 5, 0, 0, 0, []), (.bipush 81, 0, 0, 0, []), (.if_icmp .ge 34, 8, 0, 0, []), (.iload 4, 0, 0, 0, []), (.aload_n 0, 0, 0, 0, []), (.getfield 53, 11, 28, 132, []), (.bipush 81, 0, 0, 0, []), (.iload_n 2, 0, 0, 0, []), (.imul, 0, 0, 0, []), (.iload 5, 0, 0, 0, []), (.iadd, 0, 0, 0, []), (.baload, 0, 0, 0, []), (.ifCond .eq 7, 6, 0, 0, []), (.iconst 1, 0, 0, 0, []), (.goto 4, 7, 0, 0, [])]),
  (94, [0], [2, 0, 0, 0, 3, 0], [(.iconst 0, 0, 0, 0, []), (.nop, 7, 0, 0, [])]),
  (95, [0, 0], [2, 0, 0, 0, 3, 0], [(.iadd, 0, 0, 0, []), (.istore 4, 0, 0, 0, []), (.iinc 5 1, 0, 0, 0, []), (.goto (-35), 5, 0, 0, [])]),
  (104, [], [2, 0, 0, 0, 0, 3], [(.aload_n 0, 0, 0, 0, []), (.iload_n 2, 0, 0, 0, []), (.aload_n 0, 0, 0, 0, []), (.iload 4, 0, 0, 0, []), (.invokevirtual 381, 254, 2, 243, []), (.invokevirtual 384, 255, 3, 244, []), (.istore_n 2, 0, 0, 0, []), (.nop, 9, 0, 0, [])]),
  (116, [], [2, 0, 0, 0, 3, 3], [(.aload_n 0, 0, 0, 0, []), (.getfield 75, 11, 37, 139, []), (.bipush 64, 0, 0, 0, []), (.iload_n 1, 0, 0, 0, []), (.imul, 0, 0, 0, []), (.iload_n 3, 0, 0, 0, []), (.iadd, 0, 0, 0, []), (.iload_n 2, 0, 0, 0, []), (.iastore, 0, 0, 0, []), (.iinc 3 1, 0, 0, 0, []), (.goto (-95), 3, 0, 0, [])]),
  (134, [], [2, 0, 3, 3, 3, 3], [(.aload_n 0, 0, 0, 0, []), (.getfield 72, 11, 36, 138, []), (.iload_n 1, 0, 0, 0, []), (.iaload, 0, 0, 0, []), (.ireturn, 0, 0, 0, [])])]
def P254 : List (Nat × List Nat × List Nat × List amI) := [(0, [], [2, 0], [(.aload_n 0, 0, 0, 0, []), (.invokevirtual 346, 227, 1, 234, []), (.iload_n 1, 0, 0, 0, []), (.irem, 0, 0, 0, []), (.ireturn, 0, 0, 0, [])])]
def P255 : List (Nat × List Nat × List Nat × List amI) := [(0, [], [2, 0, 0, 3, 3], [(.iconst 0, 0, 0, 0, []), (.istore_n 3, 0, 0, 0, []), (.iconst 0, 0, 0, 0, []), (.istore 4, 0, 0, 0, []), (.nop, 1, 0, 0, [])]),
  (5, [], [2, 0, 0, 0, 0], [(.iload 4, 0, 0, 0, []), (.bipush 81, 0, 0, 0, []), (.if_icmp .ge 35, 4, 0, 0, []), (.aload_n 0, 0, 0, 0, []), (.getfield 53, 11, 28, 132, []), (.bipush 81, 0, 0, 0, []), (.iload_n 1, 0, 0, 0, []), (.imul, 0, 0, 0, []), (.iload 4, 0, 0, 0, []), (.iadd, 0, 0, 0, []), (.baload, 0, 0, 0, []), (.ifCond .eq 14, 3, 0, 0, []), (.iload_n 3, 0, 0, 0, []), (.iload_n 2, 0, 0, 0, []), (.if_icmp .ne 6, 2, 0, 0, []), (.iload 4, 0, 0, 0, []), (.ireturn, 0, 0, 0, [])]),
  (35, [], [2, 0, 0, 0, 0], [(.iinc 3 1, 0, 0, 0, []), (.nop, 3, 0, 0, [])]),
  (38, [], [2, 0, 0, 0, 0], [(.iinc 4 1, 0, 0, 0, []), (.goto (-36), 1, 0, 0, [])]),
  (44, [], [3, 3, 3, 3, 3], [(.iconst (-1), 0, 0, 0, []), (.ireturn, 0, 0, 0, [])])]
def P256 : List (Nat × List Nat × List Nat × List amI) := [(0, [], [2, 0, 3, 3, 3], [(.iload_n 1, 0, 0, 0, []), (.invokestatic 378, 249, 1, 242, []), (.ifCond .ne 9, 1, 0, 0, []), (.aload_n 0, 0, 0, 0, []), (.iconst 1, 0, 0, 0, []), (.invokevirtual 148, 150, 2, 185, []), (.ireturn, 0, 0, 0, [])]),
  (13, [], [2, 0, 3, 3, 3], [(.aload_n 0, 0, 0, 0, []), (.getfield 69, 11, 35, 137, []), (.iload_n 1, 0, 0, 0, []), (.iaload, 0, 0, 0, []), (.ifCond .ne 9, 2, 0, 0, []), (.aload_n 0, 0, 0, 0, []), (.iconst 2, 0, 0, 0, []), (.invokevirtual 148, 150, 2, 185, []), (.ireturn, 0, 0, 0, [])]),
  (28, [], [2, 0, 3, 3, 3], [(.iconst 0, 0, 0, 0, []), (.istore_n 2, 0, 0, 0, []), (.iconst 1, 0, 0, 0, []), (.istore_n 3, 0, 0, 0, []), (.nop, 3, 0, 0, [])]),
  (32, [], [2, 0, 0, 0, 3], [(.iload_n 2, 0, 0, 0, []), (.aload_n 0, 0, 0, 0, []), (.getfield 72, 11, 36, 138, []), (.iload_n 1, 0, 0, 0, []), (.iaload, 0, 0, 0, []), (.if_icmp .ge 81, 8, 0, 0, []), (.iload_n 3, 0, 0, 0, []), (.ifCond .eq 77, 8, 0, 0, []), (.aload_n 0, 0, 0, 0, []), (.getfield 75, 11, 37, 139, []), (.bipush 64, 0, 0, 0, []), (.iload_n 1, 0, 0, 0, []), (.imul, 0, 0, 0, []), (.iload_n 2, 0, 0, 0, []), (.iadd, 0, 0, 0, []), (.iaload, 0, 0, 0, []), (.istore 4, 0, 0, 0, []), (.aload_n 0, 0, 0, 0, []), (.iload_n 2, 0, 0, 0, []), (.invokevirtual 220, 154, 2, 202, []), (.ifCond .eq 39, 4, 0, 0, []), (.iload 4, 0, 0, 0, []), (.i2l, 0, 0, 0, []), (.lconst 0, 0, 0, 0, []), (.ldc2_w 225, 0, 0, 14, [(80, 0)]), (.invokestatic 86, 151, 3, 174, []), (.ifCond .eq 26, 4, 0, 0, []), (.aload_n 0, 0, 0, 0, []), (.iload_n 2, 0, 0, 0, []), (.invokevirtual 175, 155, 2, 191, []), (.ifCond .eq 18, 4, 0, 0, []), (.aload_n 0, 0, 0, 0, []), (.iload_n 2, 0, 0, 0, []), (.iconst 0, 0, 0, 0, []), (.iload 4, 0, 0, 0, []), (.invokevirtual 227, 189, 4, 203, []), (.ifCond .eq 7, 4, 0, 0, []), (.iconst 1, 0, 0, 0, []), (.goto 4, 5, 0, 0, [])]),
  (103, [], [2, 0, 0, 3, 3], [(.iconst 0, 0, 0, 0, []), (.nop, 5, 0, 0, [])]),
  (104, [0], [2, 0, 0, 3, 3], [(.istore_n 3, 0, 0, 0, []), (.iload_n 2, 0, 0, 0, []), (.iload_n 3, 0, 0, 0, []), (.ifCond .eq 7, 6, 0, 0, []), (.iconst 1, 0, 0, 0, []), (.goto 4, 7, 0, 0, [])]),
  (114, [0], [2, 0, 3, 0, 3], [(.iconst 0, 0, 0, 0, []), (.nop, 7, 0, 0, [])]),
  (115, [0, 0], [2, 0, 3, 0, 3], [(.iadd, 0, 0, 0, []), (.istore_n 2, 0, 0, 0, []), (.goto (-85), 3, 0, 0, [])]),
  (120, [], [3, 3, 0, 3, 3], [(.iload_n 2, 0, 0, 0, []), (.ireturn, 0, 0, 0, [])])]
def P257 : List (Nat × List Nat × List Nat × List amI) := [(0, [], [2, 0, 0, 3, 3], [(.iconst 0, 0, 0, 0, []), (.istore_n 3, 0, 0, 0, []), (.iconst 0, 0, 0, 0, []), (.istore 4, 0, 0, 0, []), (.nop, 1, 0, 0, [])]),
  (5, [], [2, 0, 0, 0, 0], [(.iload 4, 0, 0, 0, []), (.iconst 4, 0, 0, 0, []), (.if_icmp .ge 38, 5, 0, 0, []), (.iload_n 3, 0, 0, 0, []), (.ifCond .ne 22, 2, 0, 0, []), (.aload_n 0, 0, 0, 0, []), (.iload_n 1, 0, 0, 0, []), (.invokevirtual 175, 155, 2, 191, []), (.ifCond .ne 18, 3, 0, 0, []), (.aload_n 0, 0, 0, 0, []), (.iload_n 1, 0, 0, 0, []), (.iload 4, 0, 0, 0, []), (.invokevirtual 171, 157, 3, 190, []), (.iconst 3, 0, 0, 0, []), (.if_icmp .ne 7, 3, 0, 0, []), (.nop, 2, 0, 0, [])]),
  (34, [], [2, 0, 0, 3, 0], [(.iconst 1, 0, 0, 0, []), (.goto 4, 4, 0, 0, [])]),
  (38, [], [2, 0, 0, 3, 0], [(.iconst 0, 0, 0, 0, []), (.nop, 4, 0, 0, [])]),
  (39, [0], [2, 0, 0, 3, 0], [(.istore_n 3, 0, 0, 0, []), (.iinc 4 1, 0, 0, 0, []), (.goto (-38), 1, 0, 0, [])]),
  (46, [], [2, 0, 0, 0, 3], [(.aload_n 0, 0, 0, 0, []), (.iload_n 1, 0, 0, 0, []), (.invokevirtual 175, 155, 2, 191, []), (.ifCond .eq 16, 7, 0, 0, []), (.iload_n 2, 0, 0, 0, []), (.iconst (-1), 0, 0, 0, []), (.if_icmp .ne 7, 6, 0, 0, []), (.iconst 1, 0, 0, 0, []), (.goto 25, 9, 0, 0, [])]),
  (63, [], [3, 3, 3, 3, 3], [(.iconst 0, 0, 0, 0, []), (.goto 21, 9, 0, 0, [])]),
  (67, [], [2, 0, 0, 0, 3], [(.iload_n 3, 0, 0, 0, []), (.ifCond .ne 16, 8, 0, 0, []), (.aload_n 0, 0, 0, 0, []), (.iload_n 1, 0, 0, 0, []), (.invokevirtual 234, 191, 2, 205, []), (.iload_n 2, 0, 0, 0, []), (.if_icmp .ne 7, 8, 0, 0, []), (.iconst 1, 0, 0, 0, []), (.goto 4, 9, 0, 0, [])]),
  (84, [], [3, 3, 3, 3, 3], [(.iconst 0, 0, 0, 0, []), (.nop, 9, 0, 0, [])]),
  (85, [0], [3, 3, 3, 3, 3], [(.ireturn, 4, 0, 0, [])])]
def P258 : List (Nat × List Nat × List Nat × List amI) := [(0, [], [2, 0, 3], [(.iload_n 1, 0, 0, 0, []), (.invokestatic 378, 249, 1, 242, []), (.ifCond .ne 9, 1, 0, 0, []), (.aload_n 0, 0, 0, 0, []), (.iconst 1, 0, 0, 0, []), (.invokevirtual 148, 150, 2, 185, []), (.ireturn, 0, 0, 0, [])]),
  (13, [], [2, 0, 3], [(.aload_n 0, 0, 0, 0, []), (.getfield 69, 11, 35, 137, []), (.iload_n 1, 0, 0, 0, []), (.iaload, 0, 0, 0, []), (.ifCond .ne 9, 2, 0, 0, []), (.aload_n 0, 0, 0, 0, []), (.iconst 2, 0, 0, 0, []), (.invokevirtual 148, 150, 2, 185, []), (.ireturn, 0, 0, 0, [])]),
  (28, [], [2, 0, 3], [(.iconst 0, 0, 0, 0, []), (.istore_n 2, 0, 0, 0, []), (.nop, 3, 0, 0, [])]),
  (30, [], [2, 0, 0], [(.iload_n 2, 0, 0, 0, []), (.aload_n 0, 0, 0, 0, []), (.getfield 72, 11, 36, 138, []), (.iload_n 1, 0, 0, 0, []), (.iaload, 0, 0, 0, []), (.if_icmp .ge 36, 4, 0, 0, []), (.iload_n 2, 0, 0, 0, []), (.aload_n 0, 0, 0, 0, []), (.invokevirtual 82, 153, 1, 173, []), (.if_icmp .ge 28, 4, 0, 0, []), (.aload_n 0, 0, 0, 0, []), (.iload_n 2, 0, 0, 0, []), (.aload_n 0, 0, 0, 0, []), (.getfield 75, 11, 37, 139, []), (.bipush 64, 0, 0, 0, []), (.iload_n 1, 0, 0, 0, []), (.imul, 0, 0, 0, []), (.iload_n 2, 0, 0, 0, []), (.iadd, 0, 0, 0, []), (.iaload, 0, 0, 0, []), (.invokevirtual 387, 257, 3, 245, []), (.ifCond .eq 9, 4, 0, 0, []), (.iinc 2 1, 0, 0, 0, []), (.goto (-40), 3, 0, 0, [])]),
  (73, [], [2, 0, 0], [(.iload_n 2, 0, 0, 0, []), (.aload_n 0, 0, 0, 0, []), (.getfield 72, 11, 36, 138, []), (.iload_n 1, 0, 0, 0, []), (.iaload, 0, 0, 0, []), (.if_icmp .ne 15, 5, 0, 0, []), (.iload_n 2, 0, 0, 0, []), (.aload_n 0, 0, 0, 0, []), (.invokevirtual 82, 153, 1, 173, []), (.if_icmp .ne 7, 5, 0, 0, []), (.iconst (-1), 0, 0, 0, []), (.goto 4, 6, 0, 0, [])]),
  (95, [], [3, 3, 0], [(.iload_n 2, 0, 0, 0, []), (.nop, 6, 0, 0, [])]),
  (96, [0], [3, 3, 3], [(.ireturn, 0, 0, 0, [])])]
def P259 : List (Nat × List Nat × List Nat × List amI) := [(0, [], [2, 3], [(.iconst 0, 0, 0, 0, []), (.istore_n 1, 0, 0, 0, []), (.nop, 1, 0, 0, [])]),
  (2, [], [2, 0], [(.iload_n 1, 0, 0, 0, []), (.sipush 576, 0, 0, 0, []), (.if_icmp .ge 21, 2, 0, 0, []), (.aload_n 0, 0, 0, 0, []), (.getfield 13, 11, 1, 119, []), (.iload_n 1, 0, 0, 0, []), (.aload_n 0, 0, 0, 0, []), (.getfield 7, 11, 0, 118, []), (.iload_n 1, 0, 0, 0, []), (.iaload, 0, 0, 0, []), (.iastore, 0, 0, 0, []), (.iinc 1 1, 0, 0, 0, []), (.goto (-22), 1, 0, 0, [])]),
  (27, [], [2, 3], [(.aload_n 0, 0, 0, 0, []), (.dup, 0, 0, 0, []), (.getfield 390, 11, 2, 156, []), (.iconst 1, 0, 0, 0, []), (.iadd, 0, 0, 0, []), (.putfield 390, 11, 2, 156, []), (.aload_n 0, 0, 0, 0, []), (.getfield 390, 11, 2, 156, []), (.ireturn, 0, 0, 0, [])])]
def P260 : List (Nat × List Nat × List Nat × List amI) := [(0, [], [2, 3], [(.aload_n 0, 0, 0, 0, []), (.getfield 390, 11, 2, 156, []), (.ifCond .ne 9, 1, 0, 0, []), (.aload_n 0, 0, 0, 0, []), (.iconst 2, 0, 0, 0, []), (.invokevirtual 148, 150, 2, 185, []), (.ireturn, 0, 0, 0, [])]),
  (13, [], [2, 3], [(.iconst 0, 0, 0, 0, []), (.istore_n 1, 0, 0, 0, []), (.nop, 2, 0, 0, [])]),
  (15, [], [2, 0], [(.iload_n 1, 0, 0, 0, []), (.sipush 576, 0, 0, 0, []), (.if_icmp .ge 21, 3, 0, 0, []), (.aload_n 0, 0, 0, 0, []), (.getfield 7, 11, 0, 118, []), (.iload_n 1, 0, 0, 0, []), (.aload_n 0, 0, 0, 0, []), (.getfield 13, 11, 1, 119, []), (.iload_n 1, 0, 0, 0, []), (.iaload, 0, 0, 0, []), (.iastore, 0, 0, 0, []), (.iinc 1 1, 0, 0, 0, []), (.goto (-22), 2, 0, 0, [])]),
  (40, [], [2, 3], [(.aload_n 0, 0, 0, 0, []), (.getfield 7, 11, 0, 118, []), (.iconst 5, 0, 0, 0, []), (.iaload, 0, 0, 0, []), (.ireturn, 0, 0, 0, [])])]
def P261 : List (Nat × List Nat × List Nat × List amI) := [(0, [], [2, 0], [(.aload_n 0, 0, 0, 0, []), (.getfield 7, 11, 0, 118, []), (.bipush 9, 0, 0, 0, []), (.iaload, 0, 0, 0, []), (.bipush 20, 0, 0, 0, []), (.if_icmp .ne 9, 1, 0, 0, []), (.aload_n 0, 0, 0, 0, []), (.iconst 4, 0, 0, 0, []), (.invokevirtual 148, 150, 2, 185, []), (.ireturn, 0, 0, 0, [])]),
  (18, [], [2, 0], [(.aload_n 0, 0, 0, 0, []), (.getfield 7, 11, 0, 118, []), (.sipush 406, 0, 0, 0, []), (.aload_n 0, 0, 0, 0, []), (.getfield 7, 11, 0, 118, []), (.bipush 9, 0, 0, 0, []), (.iaload, 0, 0, 0, []), (.iadd, 0, 0, 0, []), (.iload_n 1, 0, 0, 0, []), (.iastore, 0, 0, 0, []), (.aload_n 0, 0, 0, 0, []), (.getfield 7, 11, 0, 118, []), (.bipush 9, 0, 0, 0, []), (.dup2, 0, 0, 0, []), (.iaload, 0, 0, 0, []), (.iconst 1, 0, 0, 0, []), (.iadd, 0, 0, 0, []), (.iastore, 0, 0, 0, []), (.aload_n 0, 0, 0, 0, []), (.getfield 7, 11, 0, 118, []), (.bipush 9, 0, 0, 0, []), (.iaload, 0, 0, 0, []), (.ireturn, 0, 0, 0, [])])]
def P262 : List (Nat × List Nat × List Nat × List amI) := [(0, [], [2, 3, 3], [(.aload_n 0, 0, 0, 0, []), (.getfield 7, 11, 0, 118, []), (.bipush 9, 0, 0, 0, []), (.iaload, 0, 0, 0, []), (.istore_n 1, 0, 0, 0, []), (.aload_n 0, 0, 0, 0, []), (.getfield 7, 11, 0, 118, []), (.bipush 9, 0, 0, 0, []), (.iconst 0, 0, 0, 0, []), (.iastore, 0, 0, 0, []), (.aload_n 0, 0, 0, 0, []), (.invokevirtual 214, 175, 1, 200, []), (.iconst 0, 0, 0, 0, []), (.istore_n 2, 0, 0, 0, []), (.nop, 1, 0, 0, [])]),
  (22, [], [2, 0, 0], [(.iload_n 2, 0, 0, 0, []), (.iload_n 1, 0, 0, 0, []), (.if_icmp .ge 39, 4, 0, 0, []), (.aload_n 0, 0, 0, 0, []), (.iload_n 2, 0, 0, 0, []), (.invokevirtual 220, 154, 2, 202, []), (.ifCond .eq 21, 2, 0, 0, []), (.aload_n 0, 0, 0, 0, []), (.getfield 7, 11, 0, 118, []), (.sipush 406, 0, 0, 0, []), (.iload_n 2, 0, 0, 0, []), (.iadd, 0, 0, 0, []), (.iaload, 0, 0, 0, []), (.aload_n 0, 0, 0, 0, []), (.iload_n 2, 0, 0, 0, []), (.invokevirtual 266, 203, 2, 213, []), (.if_icmp .eq 7, 3, 0, 0, []), (.nop, 2, 0, 0, [])]),
  (53, [], [3, 3, 0], [(.iconst 1, 0, 0, 0, []), (.iload_n 2, 0, 0, 0, []), (.iadd, 0, 0, 0, []), (.ireturn, 0, 0, 0, [])]),
  (57, [], [2, 0, 0], [(.iinc 2 1, 0, 0, 0, []), (.goto (-38), 1, 0, 0, [])]),
  (63, [], [3, 3, 3], [(.iconst 0, 0, 0, 0, []), (.ireturn, 0, 0, 0, [])])]
def P263 : List (Nat × List Nat × List Nat × List amI) := [(0, [], [2, 0], [(.iload_n 1, 0, 0, 0, []), (.tableswitch 147 0 11 #[63, 70, 77, 84, 91, 98, 103, 110, 118, 126, 134, 139], 13, 0, 0, [(0, 1), (1, 2), (2, 3), (3, 4), (4, 5), (5, 6), (6, 7), (7, 8), (8, 9), (9, 10), (10, 11), (11, 12)])]),
  (64, [], [2, 3], [(.aload_n 0, 0, 0, 0, []), (.getfield 7, 11, 0, 118, []), (.iconst 0, 0, 0, 0, []), (.iaload, 0, 0, 0, []), (.ireturn, 0, 0, 0, [])]),
  (71, [], [2, 3], [(.aload_n 0, 0, 0, 0, []), (.getfield 7, 11, 0, 118, []), (.iconst 1, 0, 0, 0, []), (.iaload, 0, 0, 0, []), (.ireturn, 0, 0, 0, [])]),
  (78, [], [2, 3], [(.aload_n 0, 0, 0, 0, []), (.getfield 7, 11, 0, 118, []), (.iconst 2, 0, 0, 0, []), (.iaload, 0, 0, 0, []), (.ireturn, 0, 0, 0, [])]),
  (85, [], [2, 3], [(.aload_n 0, 0, 0, 0, []), (.getfield 7, 11, 0, 118, []), (.iconst 3, 0, 0, 0, []), (.iaload, 0, 0, 0, []), (.ireturn, 0, 0, 0, [])]),
  (92, [], [2, 3], [(.aload_n 0, 0, 0, 0, []), (.getfield 7, 11, 0, 118, []), (.iconst 4, 0, 0, 0, []), (.iaload, 0, 0, 0, []), (.ireturn, 0, 0, 0, [])]),
  (99, [], [2, 3], [(.aload_n 0, 0, 0, 0, []), (.invokevirtual 231, 184, 1, 204, []), (.ireturn, 0, 0, 0, [])]),
  (104, [], [2, 3], [(.aload_n 0, 0, 0, 0, []), (.getfield 7, 11, 0, 118, []), (.iconst 5, 0, 0, 0, []), (.iaload, 0, 0, 0, []), (.ireturn, 0, 0, 0, [])]),
  (111, [], [2, 3], [(.aload_n 0, 0, 0, 0, []), (.getfield 7, 11, 0, 118, []), (.bipush 6, 0, 0, 0, []), (.iaload, 0, 0, 0, []), (.ireturn, 0, 0, 0, [])]),
  (119, [], [2, 3], [(.aload_n 0, 0, 0, 0, []), (.getfield 7, 11, 0, 118, []), (.bipush 8, 0, 0, 0, []), (.iaload, 0, 0, 0, []), (.ireturn, 0, 0, 0, [])]),
  (127, [], [2, 3], [(.aload_n 0, 0, 0, 0, []), (.getfield 7, 11, 0, 118, []), (.bipush 9, 0, 0, 0, []), (.iaload, 0, 0, 0, []), (.ireturn, 0, 0, 0, [])]),
  (135, [], [2, 3], [(.aload_n 0, 0, 0, 0, []), (.getfield 354, 11, 33, 154, []), (.ireturn, 0, 0, 0, [])]),
  (140, [], [2, 3], [(.aload_n 0, 0, 0, 0, []), (.getfield 7, 11, 0, 118, []), (.bipush 7, 0, 0, 0, []), (.iaload, 0, 0, 0, []), (.ireturn, 0, 0, 0, [])]),
  (148, [], [2, 3], [(.aload_n 0, 0, 0, 0, []), (.iconst 1, 0, 0, 0, []), (.invokevirtual 148, 150, 2, 185, []), (.ireturn, 0, 0, 0, [])])]
def P264 : List (Nat × List Nat × List Nat × List amI) := [(0, [], [2, 0], [(.iload_n 1, 0, 0, 0, []), (.i2l, 0, 0, 0, []), (.lconst 1, 0, 0, 0, []), (.ldc2_w 393, 0, 0, 22, [(5, 0)]), (.invokestatic 86, 151, 3, 174, []), (.ifCond .eq 12, 1, 0, 0, []), (.aload_n 0, 0, 0, 0, []), (.getfield 16, 11, 3, 120, []), (.iload_n 1, 0, 0, 0, []), (.iaload, 0, 0, 0, []), (.goto 8, 2, 0, 0, [])]),
  (21, [], [2, 3], [(.aload_n 0, 0, 0, 0, []), (.iconst 1, 0, 0, 0, []), (.invokevirtual 148, 150, 2, 185, []), (.nop, 2, 0, 0, [])]),
  (26, [0], [3, 3], [(.ireturn, 0, 0, 0, [])])]
def P265 : List (Nat × List Nat × List Nat × List amI) := [(0, [], [0], [(.iload_n 0, 0, 0, 0, []), (.iload_n 0, 0, 0, 0, []), (.iconst 1, 0, 0, 0, []), (.iushr, 0, 0, 0, []), (.ldc_w 265, 0, 0, 23, [(1431655765, 0)]), (.iand, 0, 0, 0, []), (.isub, 0, 0, 0, []), (.istore_n 0, 0, 0, 0, []), (.iload_n 0, 0, 0, 0, []), (.ldc_w 266, 0, 0, 24, [(858993459, 0)]), (.iand, 0, 0, 0, []), (.iload_n 0, 0, 0, 0, []), (.iconst 2, 0, 0, 0, []), (.iushr, 0, 0, 0, []), (.ldc_w 266, 0, 0, 24, [(858993459, 0)]), (.iand, 0, 0, 0, []), (.iadd, 0, 0, 0, []), (.istore_n 0, 0, 0, 0, []), (.iload_n 0, 0, 0, 0, []), (.iload_n 0, 0, 0, 0, []), (.iconst 4, 0, 0, 0, []), (.iushr, 0, 0, 0, []), (.iadd, 0, 0, 0, []), (.ldc_w 267, 0, 0, 25, [(252645135, 0)]), (.iand, 0, 0, 0, []), (.istore_n 0, 0, 0, 0, []), (.iload_n 0, 0, 0, 0, []), (.iload_n 0, 0, 0, 0, []), (.bipush 8, 0, 0, 0, []), (.iushr, 0, 0, 0, []), (.iadd, 0, 0, 0, []), (.istore_n 0, 0, 0, 0, []), (.iload_n 0, 0, 0, 0, []), (.iload_n 0, 0, 0, 0, []), (.bipush 16, 0, 0, 0, []), (.iushr, 0, 0, 0, []), (.iadd, 0, 0, 0, []), (.istore_n 0, 0, 0, 0, []), (.iload_n 0, 0, 0, 0, []), (.bipush 63, 0, 0, 0, []), (.iand, 0, 0, 0, []), (.ireturn, 0, 0, 0, [])])]
def P266 : List (Nat × List Nat × List Nat × List amI) := [(0, [], [0, 0], [(.iload_n 0, 0, 0, 0, []), (.iload_n 1, 0, 0, 0, []), (.if_icmp .lt 7, 1, 0, 0, []), (.iload_n 0, 0, 0, 0, []), (.goto 4, 2, 0, 0, [])]),
  (9, [], [3, 0], [(.iload_n 1, 0, 0, 0, []), (.nop, 2, 0, 0, [])]),
  (10, [0], [3, 3], [(.ireturn, 0, 0, 0, [])])]
def P267 : List (Nat × List Nat × List Nat × List amI) := [(0, [], [0, 0], [(.iload_n 0, 0, 0, 0, []), (.iload_n 1, 0, 0, 0, []), (.if_icmp .gt 7, 1, 0, 0, []), (.iload_n 0, 0, 0, 0, []), (.goto 4, 2, 0, 0, [])]),
  (9, [], [3, 0], [(.iload_n 1, 0, 0, 0, []), (.nop, 2, 0, 0, [])]),
  (10, [0], [3, 3], [(.ireturn, 0, 0, 0, [])])]
def P268 : List (Nat × List Nat × List Nat × List amI) := [(0, [], [2, 3, 3, 3], [(.new 7, 0, 0, 12, []), (.dup, 0, 0, 0, []), (.invokespecial 9, 98, 1, 246, []), (.astore_n 1, 0, 0, 0, []), (.new 10, 11, 0, 13, []), (.dup, 0, 0, 0, []), (.invokespecial 12, 149, 1, 247, []), (.astore_n 2, 0, 0, 0, []), (.iconst 0, 0, 0, 0, []), (.istore_n 3, 0, 0, 0, []), (.nop, 1, 0, 0, [])]),
  (18, [], [2, 2, 2, 0], [(.iload_n 3, 0, 0, 0, []), (.aload_n 0, 0, 0, 0, []), (.arraylength, 0, 0, 0, []), (.bipush 6, 0, 0, 0, []), (.isub, 0, 0, 0, []), (.if_icmp .gt 1457, 45, 0, 0, []), (.aload_n 0, 0, 0, 0, []), (.iload_n 3, 0, 0, 0, []), (.iaload, 0, 0, 0, []), (.bipush 63, 0, 0, 0, []), (.iand, 0, 0, 0, []), (.tableswitch 1442 0 41 #[183, 226, 259, 302, 325, 358, 391, 424, 467, 500, 533, 556, 619, 642, 705, 758, 801, 814, 838, 862, 876, 899, 932, 965, 978, 991, 1004, 1027, 1050, 1073, 1116, 1139, 1182, 1225, 1288, 1311, 1334, 1347, 1360, 1383, 1396, 1419], 44, 0, 0, [(0, 2), (1, 3), (2, 4), (3, 5), (4, 6), (5, 7), (6, 8), (7, 9), (8, 10), (9, 11), (10, 12), (11, 13), (12, 14), (13, 15), (14, 16), (15, 17), (16, 18), (17, 19), (18, 20), (19, 21), (20, 22), (21, 23), (22, 24), (23, 25), (24, 26), (25, 27), (26, 28), (27, 29), (28, 30), (29, 31), (30, 32), (31, 33), (32, 34), (33, 35), (34, 36), (35, 37), (36, 38), (37, 39), (38, 40), (39, 41), (40, 42), (41, 43)])]),
  (216, [], [2, 2, 2, 0], [(.aload_n 1, 0, 0, 0, []), (.aload_n 0, 0, 0, 0, []), (.iload_n 3, 0, 0, 0, []), (.iconst 1, 0, 0, 0, []), (.iadd, 0, 0, 0, []), (.iaload, 0, 0, 0, []), (.aload_n 0, 0, 0, 0, []), (.iload_n 3, 0, 0, 0, []), (.iconst 2, 0, 0, 0, []), (.iadd, 0, 0, 0, []), (.iaload, 0, 0, 0, []), (.aload_n 0, 0, 0, 0, []), (.iload_n 3, 0, 0, 0, []), (.iconst 3, 0, 0, 0, []), (.iadd, 0, 0, 0, []), (.iaload, 0, 0, 0, []), (.invokevirtual 13, 99, 4, 248, []), (.aload_n 2, 0, 0, 0, []), (.aload_n 0, 0, 0, 0, []), (.iload_n 3, 0, 0, 0, []), (.iconst 1, 0, 0, 0, []), (.iadd, 0, 0, 0, []), (.iaload, 0, 0, 0, []), (.aload_n 0, 0, 0, 0, []), (.iload_n 3, 0, 0, 0, []), (.iconst 2, 0, 0, 0, []), (.iadd, 0, 0, 0, []), (.iaload, 0, 0, 0, []), (.aload_n 0, 0, 0, 0, []), (.iload_n 3, 0, 0, 0, []), (.iconst 3, 0, 0, 0, []), (.iadd, 0, 0, 0, []), (.iaload, 0, 0, 0, []), (.invokevirtual 17, 187, 4, 249, []), (.if_icmp .eq 1221, 44, 0, 0, []), (.iconst 0, 0, 0, 0, []), (.ireturn, 4, 0, 0, [])]),
  (259, [], [2, 2, 2, 0], [(.aload_n 1, 0, 0, 0, []), (.aload_n 0, 0, 0, 0, []), (.iload_n 3, 0, 0, 0, []), (.iconst 1, 0, 0, 0, []), (.iadd, 0, 0, 0, []), (.iaload, 0, 0, 0, []), (.aload_n 0, 0, 0, 0, []), (.iload_n 3, 0, 0, 0, []), (.iconst 2, 0, 0, 0, []), (.iadd, 0, 0, 0, []), (.iaload, 0, 0, 0, []), (.invokevirtual 18, 100, 3, 250, []), (.aload_n 2, 0, 0, 0, []), (.aload_n 0, 0, 0, 0, []), (.iload_n 3, 0, 0, 0, []), (.iconst 1, 0, 0, 0, []), (.iadd, 0, 0, 0, []), (.iaload, 0, 0, 0, []), (.aload_n 0, 0, 0, 0, []), (.iload_n 3, 0, 0, 0, []), (.iconst 2, 0, 0, 0, []), (.iadd, 0, 0, 0, []), (.iaload, 0, 0, 0, []), (.invokevirtual 22, 188, 3, 251, []), (.if_icmp .eq 1188, 44, 0, 0, []), (.iconst 0, 0, 0, 0, []), (.ireturn, 4, 0, 0, [])]),
  (292, [], [2, 2, 2, 0], [(.aload_n 1, 0, 0, 0, []), (.aload_n 0, 0, 0, 0, []), (.iload_n 3, 0, 0, 0, []), (.iconst 1, 0, 0, 0, []), (.iadd, 0, 0, 0, []), (.iaload, 0, 0, 0, []), (.aload_n 0, 0, 0, 0, []), (.iload_n 3, 0, 0, 0, []), (.iconst 2, 0, 0, 0, []), (.iadd, 0, 0, 0, []), (.iaload, 0, 0, 0, []), (.aload_n 0, 0, 0, 0, []), (.iload_n 3, 0, 0, 0, []), (.iconst 3, 0, 0, 0, []), (.iadd, 0, 0, 0, []), (.iaload, 0, 0, 0, []), (.invokevirtual 23, 101, 4, 252, []), (.aload_n 2, 0, 0, 0, []), (.aload_n 0, 0, 0, 0, []), (.iload_n 3, 0, 0, 0, []), (.iconst 1, 0, 0, 0, []), (.iadd, 0, 0, 0, []), (.iaload, 0, 0, 0, []), (.aload_n 0, 0, 0, 0, []), (.iload_n 3, 0, 0, 0, []), (.iconst 2, 0, 0, 0, []), (.iadd, 0, 0, 0, []), (.iaload, 0, 0, 0, []), (.aload_n 0, 0, 0, 0, []), (.iload_n 3, 0, 0, 0, []), (.iconst 3, 0, 0, 0, []), (.iadd, 0, 0, 0, []), (.iaload, 0, 0, 0, []), (.invokevirtual 26, 190, 4, 253, []), (.if_icmp .eq 1145, 44, 0, 0, []), (.iconst 0, 0, 0, 0, []), (.ireturn, 4, 0, 0, [])]),
  (335, [], [2, 2, 2, 0], [(.aload_n 1, 0, 0, 0, []), (.aload_n 0, 0, 0, 0, []), (.iload_n 3, 0, 0, 0, []), (.iconst 1, 0, 0, 0, []), (.iadd, 0, 0, 0, []), (.iaload, 0, 0, 0, []), (.invokevirtual 27, 102, 2, 254, []), (.aload_n 2, 0, 0, 0, []), (.aload_n 0, 0, 0, 0, []), (.iload_n 3, 0, 0, 0, []), (.iconst 1, 0, 0, 0, []), (.iadd, 0, 0, 0, []), (.iaload, 0, 0, 0, []), (.invokevirtual 31, 192, 2, 255, []), (.if_icmp .eq 1122, 44, 0, 0, []), (.iconst 0, 0, 0, 0, []), (.ireturn, 4, 0, 0, [])]),
  (358, [], [2, 2, 2, 0], [(.aload_n 1, 0, 0, 0, []), (.aload_n 0, 0, 0, 0, []), (.iload_n 3, 0, 0, 0, []), (.iconst 1, 0, 0, 0, []), (.iadd, 0, 0, 0, []), (.iaload, 0, 0, 0, []), (.aload_n 0, 0, 0, 0, []), (.iload_n 3, 0, 0, 0, []), (.iconst 2, 0, 0, 0, []), (.iadd, 0, 0, 0, []), (.iaload, 0, 0, 0, []), (.invokevirtual 32, 103, 3, 256, []), (.aload_n 2, 0, 0, 0, []), (.aload_n 0, 0, 0, 0, []), (.iload_n 3, 0, 0, 0, []), (.iconst 1, 0, 0, 0, []), (.iadd, 0, 0, 0, []), (.iaload, 0, 0, 0, []), (.aload_n 0, 0, 0, 0, []), (.iload_n 3, 0, 0, 0, []), (.iconst 2, 0, 0, 0, []), (.iadd, 0, 0, 0, []), (.iaload, 0, 0, 0, []), (.invokevirtual 35, 193, 3, 257, []), (.if_icmp .eq 1089, 44, 0, 0, []), (.iconst 0, 0, 0, 0, []), (.ireturn, 4, 0, 0, [])]),
  (391, [], [2, 2, 2, 0], [(.aload_n 1, 0, 0, 0, []), (.aload_n 0, 0, 0, 0, []), (.iload_n 3, 0, 0, 0, []), (.iconst 1, 0, 0, 0, []), (.iadd, 0, 0, 0, []), (.iaload, 0, 0, 0, []), (.aload_n 0, 0, 0, 0, []), (.iload_n 3, 0, 0, 0, []), (.iconst 2, 0, 0, 0, []), (.iadd, 0, 0, 0, []), (.iaload, 0, 0, 0, []), (.invokevirtual 36, 104, 3, 258, []), (.aload_n 2, 0, 0, 0, []), (.aload_n 0, 0, 0, 0, []), (.iload_n 3, 0, 0, 0, []), (.iconst 1, 0, 0, 0, []), (.iadd, 0, 0, 0, []), (.iaload, 0, 0, 0, []), (.aload_n 0, 0, 0, 0, []), (.iload_n 3, 0, 0, 0, []), (.iconst 2, 0, 0, 0, []), (.iadd, 0, 0, 0, []), (.iaload, 0, 0, 0, []), (.invokevirtual 39, 194, 3, 259, []), (.if_icmp .eq 1056, 44, 0, 0, []), (.iconst 0, 0, 0, 0, []), (.ireturn, 4, 0, 0, [])]),
  (424, [], [2, 2, 2, 0], [(.aload_n 1, 0, 0, 0, []), (.aload_n 0, 0, 0, 0, []), (.iload_n 3, 0, 0, 0, []), (.iconst 1, 0, 0, 0, []), (.iadd, 0, 0, 0, []), (.iaload, 0, 0, 0, []), (.aload_n 0, 0, 0, 0, []), (.iload_n 3, 0, 0, 0, []), (.iconst 2, 0, 0, 0, []), (.iadd, 0, 0, 0, []), (.iaload, 0, 0, 0, []), (.invokevirtual 40, 105, 3, 260, []), (.aload_n 2, 0, 0, 0, []), (.aload_n 0, 0, 0, 0, []), (.iload_n 3, 0, 0, 0, []), (.iconst 1, 0, 0, 0, []), (.iadd, 0, 0, 0, []), (.iaload, 0, 0, 0, []), (.aload_n 0, 0, 0, 0, []), (.iload_n 3, 0, 0, 0, []), (.iconst 2, 0, 0, 0, []), (.iadd, 0, 0, 0, []), (.iaload, 0, 0, 0, []), (.invokevirtual 43, 196, 3, 261, []), (.if_icmp .eq 1023, 44, 0, 0, []), (.iconst 0, 0, 0, 0, []), (.ireturn, 4, 0, 0, [])]),
  (457, [], [2, 2, 2, 0], [(.aload_n 1, 0, 0, 0, []), (.aload_n 0, 0, 0, 0, []), (.iload_n 3, 0, 0, 0, []), (.iconst 1, 0, 0, 0, []), (.iadd, 0, 0, 0, []), (.iaload, 0, 0, 0, []), (.aload_n 0, 0, 0, 0, []), (.iload_n 3, 0, 0, 0, []), (.iconst 2, 0, 0, 0, []), (.iadd, 0, 0, 0, []), (.iaload, 0, 0, 0, []), (.aload_n 0, 0, 0, 0, []), (.iload_n 3, 0, 0, 0, []), (.iconst 3, 0, 0, 0, []), (.iadd, 0, 0, 0, []), (.iaload, 0, 0, 0, []), (.invokevirtual 44, 106, 4, 262, []), (.aload_n 2, 0, 0, 0, []), (.aload_n 0, 0, 0, 0, []), (.iload_n 3, 0, 0, 0, []), (.iconst 1, 0, 0, 0, []), (.iadd, 0, 0, 0, []), (.iaload, 0, 0, 0, []), (.aload_n 0, 0, 0, 0, []), (.iload_n 3, 0, 0, 0, []), (.iconst 2, 0, 0, 0, []), (.iadd, 0, 0, 0, []), (.iaload, 0, 0, 0, []), (.aload_n 0, 0, 0, 0, []), (.iload_n 3, 0, 0, 0, []), (.iconst 3, 0, 0, 0, []), (.iadd, 0, 0, 0, []), (.iaload, 0, 0, 0, []), (.invokevirtual 47, 199, 4, 263, []), (.if_icmp .eq 980, 44, 0, 0, []), (.iconst 0, 0, 0, 0, []), (.ireturn, 4, 0, 0, [])]),
  (500, [], [2, 2, 2, 0], [(.aload_n 1, 0, 0, 0, []), (.aload_n 0, 0, 0, 0, []), (.iload_n 3, 0, 0, 0, []), (.iconst 1, 0, 0, 0, []), (.iadd, 0, 0, 0, []), (.iaload, 0, 0, 0, []), (.aload_n 0, 0, 0, 0, []), (.iload_n 3, 0, 0, 0, []), (.iconst 2, 0, 0, 0, []), (.iadd, 0, 0, 0, []), (.iaload, 0, 0, 0, []), (.invokevirtual 48, 107, 3, 264, []), (.aload_n 2, 0, 0, 0, []), (.aload_n 0, 0, 0, 0, []), (.iload_n 3, 0, 0, 0, []), (.iconst 1, 0, 0, 0, []), (.iadd, 0, 0, 0, []), (.iaload, 0, 0, 0, []), (.aload_n 0, 0, 0, 0, []), (.iload_n 3, 0, 0, 0, []), (.iconst 2, 0, 0, 0, []), (.iadd, 0, 0, 0, []), (.iaload, 0, 0, 0, []), (.invokevirtual 51, 200, 3, 265, []), (.if_icmp .eq 947, 44, 0, 0, []), (.iconst 0, 0, 0, 0, []), (.ireturn, 4, 0, 0, [])]),
  (533, [], [2, 2, 2, 0], [(.aload_n 1, 0, 0, 0, []), (.aload_n 0, 0, 0, 0, []), (.iload_n 3, 0, 0, 0, []), (.iconst 1, 0, 0, 0, []), (.iadd, 0, 0, 0, []), (.iaload, 0, 0, 0, []), (.aload_n 0, 0, 0, 0, []), (.iload_n 3, 0, 0, 0, []), (.iconst 2, 0, 0, 0, []), (.iadd, 0, 0, 0, []), (.iaload, 0, 0, 0, []), (.invokevirtual 52, 108, 3, 266, []), (.aload_n 2, 0, 0, 0, []), (.aload_n 0, 0, 0, 0, []), (.iload_n 3, 0, 0, 0, []), (.iconst 1, 0, 0, 0, []), (.iadd, 0, 0, 0, []), (.iaload, 0, 0, 0, []), (.aload_n 0, 0, 0, 0, []), (.iload_n 3, 0, 0, 0, []), (.iconst 2, 0, 0, 0, []), (.iadd, 0, 0, 0, []), (.iaload, 0, 0, 0, []), (.invokevirtual 55, 204, 3, 267, []), (.if_icmp .eq 914, 44, 0, 0, []), (.iconst 0, 0, 0, 0, []), (.ireturn, 4, 0, 0, [])]),
  (566, [], [2, 2, 2, 0], [(.aload_n 1, 0, 0, 0, []), (.aload_n 0, 0, 0, 0, []), (.iload_n 3, 0, 0, 0, []), (.iconst 1, 0, 0, 0, []), (.iadd, 0, 0, 0, []), (.iaload, 0, 0, 0, []), (.invokevirtual 56, 109, 2, 268, []), (.aload_n 2, 0, 0, 0, []), (.aload_n 0, 0, 0, 0, []), (.iload_n 3, 0, 0, 0, []), (.iconst 1, 0, 0, 0, []), (.iadd, 0, 0, 0, []), (.iaload, 0, 0, 0, []), (.invokevirtual 59, 205, 2, 269, []), (.if_icmp .eq 891, 44, 0, 0, []), (.iconst 0, 0, 0, 0, []), (.ireturn, 4, 0, 0, [])]),
  (589, [], [2, 2, 2, 0], [(.aload_n 1, 0, 0, 0, []), (.aload_n 0, 0, 0, 0, []), (.iload_n 3, 0, 0, 0, []), (.iconst 1, 0, 0, 0, []), (.iadd, 0, 0, 0, []), (.iaload, 0, 0, 0, []), (.i2l, 0, 0, 0, []), (.bipush 32, 0, 0, 0, []), (.lshl, 0, 0, 0, []), (.aload_n 0, 0, 0, 0, []), (.iload_n 3, 0, 0, 0, []), (.iconst 2, 0, 0, 0, []), (.iadd, 0, 0, 0, []), (.iaload, 0, 0, 0, []), (.i2l, 0, 0, 0, []), (.ldc2_w 60, 0, 0, 26, [(4294967295, 0)]), (.land, 0, 0, 0, []), (.lor, 0, 0, 0, []), (.aload_n 0, 0, 0, 0, []), (.iload_n 3, 0, 0, 0, []), (.iconst 3, 0, 0, 0, []), (.iadd, 0, 0, 0, []), (.iaload, 0, 0, 0, []), (.invokevirtual 62, 110, 3, 270, []), (.aload_n 2, 0, 0, 0, []), (.aload_n 0, 0, 0, 0, []), (.iload_n 3, 0, 0, 0, []), (.iconst 1, 0, 0, 0, []), (.iadd, 0, 0, 0, []), (.iaload, 0, 0, 0, []), (.i2l, 0, 0, 0, []), (.bipush 32, 0, 0, 0, []), (.lshl, 0, 0, 0, []), (.aload_n 0, 0, 0, 0, []), (.iload_n 3, 0, 0, 0, []), (.iconst 2, 0, 0, 0, []), (.iadd, 0, 0, 0, []), (.iaload, 0, 0, 0, []), (.i2l, 0, 0, 0, []), (.ldc2_w 60, 0, 0, 26, [(4294967295, 0)]), (.land, 0, 0, 0, []), (.lor, 0, 0, 0, []), (.aload_n 0, 0, 0, 0, []), (.iload_n 3, 0, 0, 0, []), (.iconst 3, 0, 0, 0, []), (.iadd, 0, 0, 0, []), (.iaload, 0, 0, 0, []), (.invokevirtual 66, 170, 3, 271, []), (.if_icmp .eq 828, 44, 0, 0, []), (.iconst 0, 0, 0, 0, []), (.ireturn, 4, 0, 0, [])]),
  (652, [], [2, 2, 2, 0], [(.aload_n 1, 0, 0, 0, []), (.aload_n 0, 0, 0, 0, []), (.iload_n 3, 0, 0, 0, []), (.iconst 1, 0, 0, 0, []), (.iadd, 0, 0, 0, []), (.iaload, 0, 0, 0, []), (.invokevirtual 67, 111, 2, 272, []), (.aload_n 2, 0, 0, 0, []), (.aload_n 0, 0, 0, 0, []), (.iload_n 3, 0, 0, 0, []), (.iconst 1, 0, 0, 0, []), (.iadd, 0, 0, 0, []), (.iaload, 0, 0, 0, []), (.invokevirtual 70, 171, 2, 273, []), (.if_icmp .eq 805, 44, 0, 0, []), (.iconst 0, 0, 0, 0, []), (.ireturn, 4, 0, 0, [])]),
  (675, [], [2, 2, 2, 0], [(.aload_n 1, 0, 0, 0, []), (.aload_n 0, 0, 0, 0, []), (.iload_n 3, 0, 0, 0, []), (.iconst 1, 0, 0, 0, []), (.iadd, 0, 0, 0, []), (.iaload, 0, 0, 0, []), (.aload_n 0, 0, 0, 0, []), (.iload_n 3, 0, 0, 0, []), (.iconst 2, 0, 0, 0, []), (.iadd, 0, 0, 0, []), (.iaload, 0, 0, 0, []), (.aload_n 0, 0, 0, 0, []), (.iload_n 3, 0, 0, 0, []), (.iconst 3, 0, 0, 0, []), (.iadd, 0, 0, 0, []), (.iaload, 0, 0, 0, []), (.aload_n 0, 0, 0, 0, []), (.iload_n 3, 0, 0, 0, []), (.iconst 4, 0, 0, 0, []), (.iadd, 0, 0, 0, []), (.iaload, 0, 0, 0, []), (.aload_n 0, 0, 0, 0, []), (.iload_n 3, 0, 0, 0, []), (.iconst 5, 0, 0, 0, []), (.iadd, 0, 0, 0, []), (.iaload, 0, 0, 0, []), (.invokevirtual 71, 112, 6, 274, []), (.aload_n 2, 0, 0, 0, []), (.aload_n 0, 0, 0, 0, []), (.iload_n 3, 0, 0, 0, []), (.iconst 1, 0, 0, 0, []), (.iadd, 0, 0, 0, []), (.iaload, 0, 0, 0, []), (.aload_n 0, 0, 0, 0, []), (.iload_n 3, 0, 0, 0, []), (.iconst 2, 0, 0, 0, []), (.iadd, 0, 0, 0, []), (.iaload, 0, 0, 0, []), (.aload_n 0, 0, 0, 0, []), (.iload_n 3, 0, 0, 0, []), (.iconst 3, 0, 0, 0, []), (.iadd, 0, 0, 0, []), (.iaload, 0, 0, 0, []), (.aload_n 0, 0, 0, 0, []), (.iload_n 3, 0, 0, 0, []), (.iconst 4, 0, 0, 0, []), (.iadd, 0, 0, 0, []), (.iaload, 0, 0, 0, []), (.aload_n 0, 0, 0, 0, []), (.iload_n 3, 0, 0, 0, []), (.iconst 5, 0, 0, 0, []), (.iadd, 0, 0, 0, []), (.iaload, 0, 0, 0, []), (.invokevirtual 75, 173, 6, 275, []), (.if_icmp .eq 742, 44, 0, 0, []), (.iconst 0, 0, 0, 0, []), (.ireturn, 4, 0, 0, [])]),
  (738, [], [2, 2, 2, 0], [(.aload_n 1, 0, 0, 0, []), (.aload_n 0, 0, 0, 0, []), (.iload_n 3, 0, 0, 0, []), (.iconst 1, 0, 0, 0, []), (.iadd, 0, 0, 0, []), (.iaload, 0, 0, 0, []), (.aload_n 0, 0, 0, 0, []), (.iload_n 3, 0, 0, 0, []), (.iconst 2, 0, 0, 0, []), (.iadd, 0, 0, 0, []), (.iaload, 0, 0, 0, []), (.aload_n 0, 0, 0, 0, []), (.iload_n 3, 0, 0, 0, []), (.iconst 3, 0, 0, 0, []), (.iadd, 0, 0, 0, []), (.iaload, 0, 0, 0, []), (.aload_n 0, 0, 0, 0, []), (.iload_n 3, 0, 0, 0, []), (.iconst 4, 0, 0, 0, []), (.iadd, 0, 0, 0, []), (.iaload, 0, 0, 0, []), (.invokevirtual 76, 113, 5, 276, []), (.aload_n 2, 0, 0, 0, []), (.aload_n 0, 0, 0, 0, []), (.iload_n 3, 0, 0, 0, []), (.iconst 1, 0, 0, 0, []), (.iadd, 0, 0, 0, []), (.iaload, 0, 0, 0, []), (.aload_n 0, 0, 0, 0, []), (.iload_n 3, 0, 0, 0, []), (.iconst 2, 0, 0, 0, []), (.iadd, 0, 0, 0, []), (.iaload, 0, 0, 0, []), (.aload_n 0, 0, 0, 0, []), (.iload_n 3, 0, 0, 0, []), (.iconst 3, 0, 0, 0, []), (.iadd, 0, 0, 0, []), (.iaload, 0, 0, 0, []), (.aload_n 0, 0, 0, 0, []), (.iload_n 3, 0, 0, 0, []), (.iconst 4, 0, 0, 0, []), (.iadd, 0, 0, 0, []), (.iaload, 0, 0, 0, []), (.invokevirtual 80, 210, 5, 277, []), (.if_icmp .eq 689, 44, 0, 0, []), (.iconst 0, 0, 0, 0, []), (.ireturn, 4, 0, 0, [])]),
  (791, [], [2, 2, 2, 0], [(.aload_n 1, 0, 0, 0, []), (.aload_n 0, 0, 0, 0, []), (.iload_n 3, 0, 0, 0, []), (.iconst 1, 0, 0, 0, []), (.iadd, 0, 0, 0, []), (.iaload, 0, 0, 0, []), (.aload_n 0, 0, 0, 0, []), (.iload_n 3, 0, 0, 0, []), (.iconst 2, 0, 0, 0, []), (.iadd, 0, 0, 0, []), (.iaload, 0, 0, 0, []), (.aload_n 0, 0, 0, 0, []), (.iload_n 3, 0, 0, 0, []), (.iconst 3, 0, 0, 0, []), (.iadd, 0, 0, 0, []), (.iaload, 0, 0, 0, []), (.invokevirtual 81, 114, 4, 278, []), (.aload_n 2, 0, 0, 0, []), (.aload_n 0, 0, 0, 0, []), (.iload_n 3, 0, 0, 0, []), (.iconst 1, 0, 0, 0, []), (.iadd, 0, 0, 0, []), (.iaload, 0, 0, 0, []), (.aload_n 0, 0, 0, 0, []), (.iload_n 3, 0, 0, 0, []), (.iconst 2, 0, 0, 0, []), (.iadd, 0, 0, 0, []), (.iaload, 0, 0, 0, []), (.aload_n 0, 0, 0, 0, []), (.iload_n 3, 0, 0, 0, []), (.iconst 3, 0, 0, 0, []), (.iadd, 0, 0, 0, []), (.iaload, 0, 0, 0, []), (.invokevirtual 84, 217, 4, 279, []), (.if_icmp .eq 646, 44, 0, 0, []), (.iconst 0, 0, 0, 0, []), (.ireturn, 4, 0, 0, [])]),
  (834, [], [2, 2, 2, 0], [(.aload_n 1, 0, 0, 0, []), (.invokevirtual 85, 115, 1, 280, []), (.aload_n 2, 0, 0, 0, []), (.invokevirtual 89, 211, 1, 281, []), (.if_icmp .eq 633, 44, 0, 0, []), (.iconst 0, 0, 0, 0, []), (.ireturn, 4, 0, 0, [])]),
  (847, [], [2, 2, 2, 0], [(.aload_n 1, 0, 0, 0, []), (.aload_n 0, 0, 0, 0, []), (.iload_n 3, 0, 0, 0, []), (.iconst 1, 0, 0, 0, []), (.iadd, 0, 0, 0, []), (.iaload, 0, 0, 0, []), (.invokevirtual 90, 116, 2, 282, []), (.aload_n 2, 0, 0, 0, []), (.aload_n 0, 0, 0, 0, []), (.iload_n 3, 0, 0, 0, []), (.iconst 1, 0, 0, 0, []), (.iadd, 0, 0, 0, []), (.iaload, 0, 0, 0, []), (.invokevirtual 94, 221, 2, 283, []), (.lcmp, 0, 0, 0, []), (.ifCond .eq 609, 44, 0, 0, []), (.iconst 0, 0, 0, 0, []), (.ireturn, 4, 0, 0, [])]),
  (871, [], [2, 2, 2, 0], [(.aload_n 1, 0, 0, 0, []), (.aload_n 0, 0, 0, 0, []), (.iload_n 3, 0, 0, 0, []), (.iconst 1, 0, 0, 0, []), (.iadd, 0, 0, 0, []), (.iaload, 0, 0, 0, []), (.invokevirtual 95, 117, 2, 284, []), (.aload_n 2, 0, 0, 0, []), (.aload_n 0, 0, 0, 0, []), (.iload_n 3, 0, 0, 0, []), (.iconst 1, 0, 0, 0, []), (.iadd, 0, 0, 0, []), (.iaload, 0, 0, 0, []), (.invokevirtual 98, 222, 2, 285, []), (.lcmp, 0, 0, 0, []), (.ifCond .eq 585, 44, 0, 0, []), (.iconst 0, 0, 0, 0, []), (.ireturn, 4, 0, 0, [])]),
  (895, [], [2, 2, 2, 0], [(.aload_n 1, 0, 0, 0, []), (.invokevirtual 99, 118, 1, 286, []), (.aload_n 2, 0, 0, 0, []), (.invokevirtual 103, 226, 1, 287, []), (.lcmp, 0, 0, 0, []), (.ifCond .eq 571, 44, 0, 0, []), (.iconst 0, 0, 0, 0, []), (.ireturn, 4, 0, 0, [])]),
  (909, [], [2, 2, 2, 0], [(.aload_n 1, 0, 0, 0, []), (.aload_n 0, 0, 0, 0, []), (.iload_n 3, 0, 0, 0, []), (.iconst 1, 0, 0, 0, []), (.iadd, 0, 0, 0, []), (.iaload, 0, 0, 0, []), (.invokevirtual 104, 119, 2, 288, []), (.aload_n 2, 0, 0, 0, []), (.aload_n 0, 0, 0, 0, []), (.iload_n 3, 0, 0, 0, []), (.iconst 1, 0, 0, 0, []), (.iadd, 0, 0, 0, []), (.iaload, 0, 0, 0, []), (.invokevirtual 107, 253, 2, 289, []), (.if_icmp .eq 548, 44, 0, 0, []), (.iconst 0, 0, 0, 0, []), (.ireturn, 4, 0, 0, [])]),
  (932, [], [2, 2, 2, 0], [(.aload_n 1, 0, 0, 0, []), (.aload_n 0, 0, 0, 0, []), (.iload_n 3, 0, 0, 0, []), (.iconst 1, 0, 0, 0, []), (.iadd, 0, 0, 0, []), (.iaload, 0, 0, 0, []), (.aload_n 0, 0, 0, 0, []), (.iload_n 3, 0, 0, 0, []), (.iconst 2, 0, 0, 0, []), (.iadd, 0, 0, 0, []), (.iaload, 0, 0, 0, []), (.invokevirtual 108, 120, 3, 290, []), (.aload_n 2, 0, 0, 0, []), (.aload_n 0, 0, 0, 0, []), (.iload_n 3, 0, 0, 0, []), (.iconst 1, 0, 0, 0, []), (.iadd, 0, 0, 0, []), (.iaload, 0, 0, 0, []), (.aload_n 0, 0, 0, 0, []), (.iload_n 3, 0, 0, 0, []), (.iconst 2, 0, 0, 0, []), (.iadd, 0, 0, 0, []), (.iaload, 0, 0, 0, []), (.invokevirtual 111, 231, 3, 291, []), (.if_icmp .eq 515, 44, 0, 0, []), (.iconst 0, 0, 0, 0, []), (.ireturn, 4, 0, 0, [])]),
  (965, [], [2, 2, 2, 0], [(.aload_n 1, 0, 0, 0, []), (.aload_n 0, 0, 0, 0, []), (.iload_n 3, 0, 0, 0, []), (.iconst 1, 0, 0, 0, []), (.iadd, 0, 0, 0, []), (.iaload, 0, 0, 0, []), (.aload_n 0, 0, 0, 0, []), (.iload_n 3, 0, 0, 0, []), (.iconst 2, 0, 0, 0, []), (.iadd, 0, 0, 0, []), (.iaload, 0, 0, 0, []), (.invokevirtual 112, 121, 3, 292, []), (.aload_n 2, 0, 0, 0, []), (.aload_n 0, 0, 0, 0, []), (.iload_n 3, 0, 0, 0, []), (.iconst 1, 0, 0, 0, []), (.iadd, 0, 0, 0, []), (.iaload, 0, 0, 0, []), (.aload_n 0, 0, 0, 0, []), (.iload_n 3, 0, 0, 0, []), (.iconst 2, 0, 0, 0, []), (.iadd, 0, 0, 0, []), (.iaload, 0, 0, 0, []), (.invokevirtual 115, 233, 3, 293, []), (.if_icmp .eq 482, 44, 0, 0, []), (.iconst 0, 0, 0, 0, []), (.ireturn, 4, 0, 0, [])]),
  (998, [], [2, 2, 2, 0], [(.aload_n 1, 0, 0, 0, []), (.invokevirtual 116, 122, 1, 294, []), (.aload_n 2, 0, 0, 0, []), (.invokevirtual 119, 234, 1, 295, []), (.if_icmp .eq 469, 44, 0, 0, []), (.iconst 0, 0, 0, 0, []), (.ireturn, 4, 0, 0, [])]),
  (1011, [], [2, 2, 2, 0], [(.aload_n 1, 0, 0, 0, []), (.invokevirtual 120, 123, 1, 296, []), (.aload_n 2, 0, 0, 0, []), (.invokevirtual 123, 235, 1, 297, []), (.if_icmp .eq 456, 44, 0, 0, []), (.iconst 0, 0, 0, 0, []), (.ireturn, 4, 0, 0, [])]),
  (1024, [], [2, 2, 2, 0], [(.aload_n 1, 0, 0, 0, []), (.invokevirtual 124, 124, 1, 298, []), (.aload_n 2, 0, 0, 0, []), (.invokevirtual 127, 236, 1, 299, []), (.if_icmp .eq 443, 44, 0, 0, []), (.iconst 0, 0, 0, 0, []), (.ireturn, 4, 0, 0, [])]),
  (1037, [], [2, 2, 2, 0], [(.aload_n 1, 0, 0, 0, []), (.aload_n 0, 0, 0, 0, []), (.iload_n 3, 0, 0, 0, []), (.iconst 1, 0, 0, 0, []), (.iadd, 0, 0, 0, []), (.iaload, 0, 0, 0, []), (.invokevirtual 128, 125, 2, 300, []), (.aload_n 2, 0, 0, 0, []), (.aload_n 0, 0, 0, 0, []), (.iload_n 3, 0, 0, 0, []), (.iconst 1, 0, 0, 0, []), (.iadd, 0, 0, 0, []), (.iaload, 0, 0, 0, []), (.invokevirtual 131, 237, 2, 301, []), (.if_icmp .eq 420, 44, 0, 0, []), (.iconst 0, 0, 0, 0, []), (.ireturn, 4, 0, 0, [])]),
  (1060, [], [2, 2, 2, 0], [(.aload_n 1, 0, 0, 0, []), (.aload_n 0, 0, 0, 0, []), (.iload_n 3, 0, 0, 0, []), (.iconst 1, 0, 0, 0, []), (.iadd, 0, 0, 0, []), (.iaload, 0, 0, 0, []), (.invokevirtual 132, 126, 2, 302, []), (.aload_n 2, 0, 0, 0, []), (.aload_n 0, 0, 0, 0, []), (.iload_n 3, 0, 0, 0, []), (.iconst 1, 0, 0, 0, []), (.iadd, 0, 0, 0, []), (.iaload, 0, 0, 0, []), (.invokevirtual 135, 239, 2, 303, []), (.if_icmp .eq 397, 44, 0, 0, []), (.iconst 0, 0, 0, 0, []), (.ireturn, 4, 0, 0, [])]),
  (1083, [], [2, 2, 2, 0], [(.aload_n 1, 0, 0, 0, []), (.aload_n 0, 0, 0, 0, []), (.iload_n 3, 0, 0, 0, []), (.iconst 1, 0, 0, 0, []), (.iadd, 0, 0, 0, []), (.iaload, 0, 0, 0, []), (.invokevirtual 136, 127, 2, 304, []), (.aload_n 2, 0, 0, 0, []), (.aload_n 0, 0, 0, 0, []), (.iload_n 3, 0, 0, 0, []), (.iconst 1, 0, 0, 0, []), (.iadd, 0, 0, 0, []), (.iaload, 0, 0, 0, []), (.invokevirtual 139, 240, 2, 305, []), (.if_icmp .eq 374, 44, 0, 0, []), (.iconst 0, 0, 0, 0, []), (.ireturn, 4, 0, 0, [])]),
  (1106, [], [2, 2, 2, 0], [(.aload_n 1, 0, 0, 0, []), (.aload_n 0, 0, 0, 0, []), (.iload_n 3, 0, 0, 0, []), (.iconst 1, 0, 0, 0, []), (.iadd, 0, 0, 0, []), (.iaload, 0, 0, 0, []), (.aload_n 0, 0, 0, 0, []), (.iload_n 3, 0, 0, 0, []), (.iconst 2, 0, 0, 0, []), (.iadd, 0, 0, 0, []), (.iaload, 0, 0, 0, []), (.aload_n 0, 0, 0, 0, []), (.iload_n 3, 0, 0, 0, []), (.iconst 3, 0, 0, 0, []), (.iadd, 0, 0, 0, []), (.iaload, 0, 0, 0, []), (.invokevirtual 140, 128, 4, 306, []), (.aload_n 2, 0, 0, 0, []), (.aload_n 0, 0, 0, 0, []), (.iload_n 3, 0, 0, 0, []), (.iconst 1, 0, 0, 0, []), (.iadd, 0, 0, 0, []), (.iaload, 0, 0, 0, []), (.aload_n 0, 0, 0, 0, []), (.iload_n 3, 0, 0, 0, []), (.iconst 2, 0, 0, 0, []), (.iadd, 0, 0, 0, []), (.iaload, 0, 0, 0, []), (.aload_n 0, 0, 0, 0, []), (.iload_n 3, 0, 0, 0, []), (.iconst 3, 0, 0, 0, []), (.iadd, 0, 0, 0, []), (.iaload, 0, 0, 0, []), (.invokevirtual 143, 247, 4, 307, []), (.if_icmp .eq 331, 44, 0, 0, []), (.iconst 0, 0, 0, 0, []), (.ireturn, 4, 0, 0, [])]),
  (1149, [], [2, 2, 2, 0], [(.aload_n 1, 0, 0, 0, []), (.aload_n 0, 0, 0, 0, []), (.iload_n 3, 0, 0, 0, []), (.iconst 1, 0, 0, 0, []), (.iadd, 0, 0, 0, []), (.iaload, 0, 0, 0, []), (.invokevirtual 144, 129, 2, 308, []), (.aload_n 2, 0, 0, 0, []), (.aload_n 0, 0, 0, 0, []), (.iload_n 3, 0, 0, 0, []), (.iconst 1, 0, 0, 0, []), (.iadd, 0, 0, 0, []), (.iaload, 0, 0, 0, []), (.invokevirtual 147, 248, 2, 309, []), (.if_icmp .eq 308, 44, 0, 0, []), (.iconst 0, 0, 0, 0, []), (.ireturn, 4, 0, 0, [])]),
  (1172, [], [2, 2, 2, 0], [(.aload_n 1, 0, 0, 0, []), (.aload_n 0, 0, 0, 0, []), (.iload_n 3, 0, 0, 0, []), (.iconst 1, 0, 0, 0, []), (.iadd, 0, 0, 0, []), (.iaload, 0, 0, 0, []), (.aload_n 0, 0, 0, 0, []), (.iload_n 3, 0, 0, 0, []), (.iconst 2, 0, 0, 0, []), (.iadd, 0, 0, 0, []), (.iaload, 0, 0, 0, []), (.aload_n 0, 0, 0, 0, []), (.iload_n 3, 0, 0, 0, []), (.iconst 3, 0, 0, 0, []), (.iadd, 0, 0, 0, []), (.iaload, 0, 0, 0, []), (.invokevirtual 148, 130, 4, 310, []), (.aload_n 2, 0, 0, 0, []), (.aload_n 0, 0, 0, 0, []), (.iload_n 3, 0, 0, 0, []), (.iconst 1, 0, 0, 0, []), (.iadd, 0, 0, 0, []), (.iaload, 0, 0, 0, []), (.aload_n 0, 0, 0, 0, []), (.iload_n 3, 0, 0, 0, []), (.iconst 2, 0, 0, 0, []), (.iadd, 0, 0, 0, []), (.iaload, 0, 0, 0, []), (.aload_n 0, 0, 0, 0, []), (.iload_n 3, 0, 0, 0, []), (.iconst 3, 0, 0, 0, []), (.iadd, 0, 0, 0, []), (.iaload, 0, 0, 0, []), (.invokevirtual 151, 250, 4, 311, []), (.if_icmp .eq 265, 44, 0, 0, []), (.iconst 0, 0, 0, 0, []), (.ireturn, 4, 0, 0, [])]),
  (1215, [], [2, 2, 2, 0], [(.aload_n 1, 0, 0, 0, []), (.aload_n 0, 0, 0, 0, []), (.iload_n 3, 0, 0, 0, []), (.iconst 1, 0, 0, 0, []), (.iadd, 0, 0, 0, []), (.iaload, 0, 0, 0, []), (.aload_n 0, 0, 0, 0, []), (.iload_n 3, 0, 0, 0, []), (.iconst 2, 0, 0, 0, []), (.iadd, 0, 0, 0, []), (.iaload, 0, 0, 0, []), (.aload_n 0, 0, 0, 0, []), (.iload_n 3, 0, 0, 0, []), (.iconst 3, 0, 0, 0, []), (.iadd, 0, 0, 0, []), (.iaload, 0, 0, 0, []), (.invokevirtual 152, 131, 4, 312, []), (.aload_n 2, 0, 0, 0, []), (.aload_n 0, 0, 0, 0, []), (.iload_n 3, 0, 0, 0, []), (.iconst 1, 0, 0, 0, []), (.iadd, 0, 0, 0, []), (.iaload, 0, 0, 0, []), (.aload_n 0, 0, 0, 0, []), (.iload_n 3, 0, 0, 0, []), (.iconst 2, 0, 0, 0, []), (.iadd, 0, 0, 0, []), (.iaload, 0, 0, 0, []), (.aload_n 0, 0, 0, 0, []), (.iload_n 3, 0, 0, 0, []), (.iconst 3, 0, 0, 0, []), (.iadd, 0, 0, 0, []), (.iaload, 0, 0, 0, []), (.invokevirtual 155, 251, 4, 313, []), (.if_icmp .eq 222, 44, 0, 0, []), (.iconst 0, 0, 0, 0, []), (.ireturn, 4, 0, 0, [])]),
  (1258, [], [2, 2, 2, 0], [(.aload_n 1, 0, 0, 0, []), (.aload_n 0, 0, 0, 0, []), (.iload_n 3, 0, 0, 0, []), (.iconst 1, 0, 0, 0, []), (.iadd, 0, 0, 0, []), (.iaload, 0, 0, 0, []), (.aload_n 0, 0, 0, 0, []), (.iload_n 3, 0, 0, 0, []), (.iconst 2, 0, 0, 0, []), (.iadd, 0, 0, 0, []), (.iaload, 0, 0, 0, []), (.aload_n 0, 0, 0, 0, []), (.iload_n 3, 0, 0, 0, []), (.iconst 3, 0, 0, 0, []), (.iadd, 0, 0, 0, []), (.iaload, 0, 0, 0, []), (.aload_n 0, 0, 0, 0, []), (.iload_n 3, 0, 0, 0, []), (.iconst 4, 0, 0, 0, []), (.iadd, 0, 0, 0, []), (.iaload, 0, 0, 0, []), (.aload_n 0, 0, 0, 0, []), (.iload_n 3, 0, 0, 0, []), (.iconst 5, 0, 0, 0, []), (.iadd, 0, 0, 0, []), (.iaload, 0, 0, 0, []), (.invokevirtual 156, 132, 6, 314, []), (.aload_n 2, 0, 0, 0, []), (.aload_n 0, 0, 0, 0, []), (.iload_n 3, 0, 0, 0, []), (.iconst 1, 0, 0, 0, []), (.iadd, 0, 0, 0, []), (.iaload, 0, 0, 0, []), (.aload_n 0, 0, 0, 0, []), (.iload_n 3, 0, 0, 0, []), (.iconst 2, 0, 0, 0, []), (.iadd, 0, 0, 0, []), (.iaload, 0, 0, 0, []), (.aload_n 0, 0, 0, 0, []), (.iload_n 3, 0, 0, 0, []), (.iconst 3, 0, 0, 0, []), (.iadd, 0, 0, 0, []), (.iaload, 0, 0, 0, []), (.aload_n 0, 0, 0, 0, []), (.iload_n 3, 0, 0, 0, []), (.iconst 4, 0, 0, 0, []), (.iadd, 0, 0, 0, []), (.iaload, 0, 0, 0, []), (.aload_n 0, 0, 0, 0, []), (.iload_n 3, 0, 0, 0, []), (.iconst 5, 0, 0, 0, []), (.iadd, 0, 0, 0, []), (.iaload, 0, 0, 0, []), (.invokevirtual 159, 252, 6, 315, []), (.if_icmp .eq 159, 44, 0, 0, []), (.iconst 0, 0, 0, 0, []), (.ireturn, 4, 0, 0, [])]),
  (1321, [], [2, 2, 2, 0], [(.aload_n 1, 0, 0, 0, []), (.aload_n 0, 0, 0, 0, []), (.iload_n 3, 0, 0, 0, []), (.iconst 1, 0, 0, 0, []), (.iadd, 0, 0, 0, []), (.iaload, 0, 0, 0, []), (.invokevirtual 160, 133, 2, 316, []), (.aload_n 2, 0, 0, 0, []), (.aload_n 0, 0, 0, 0, []), (.iload_n 3, 0, 0, 0, []), (.iconst 1, 0, 0, 0, []), (.iadd, 0, 0, 0, []), (.iaload, 0, 0, 0, []), (.invokevirtual 163, 256, 2, 317, []), (.if_icmp .eq 136, 44, 0, 0, []), (.iconst 0, 0, 0, 0, []), (.ireturn, 4, 0, 0, [])]),
  (1344, [], [2, 2, 2, 0], [(.aload_n 1, 0, 0, 0, []), (.aload_n 0, 0, 0, 0, []), (.iload_n 3, 0, 0, 0, []), (.iconst 1, 0, 0, 0, []), (.iadd, 0, 0, 0, []), (.iaload, 0, 0, 0, []), (.invokevirtual 164, 134, 2, 318, []), (.aload_n 2, 0, 0, 0, []), (.aload_n 0, 0, 0, 0, []), (.iload_n 3, 0, 0, 0, []), (.iconst 1, 0, 0, 0, []), (.iadd, 0, 0, 0, []), (.iaload, 0, 0, 0, []), (.invokevirtual 167, 258, 2, 319, []), (.if_icmp .eq 113, 44, 0, 0, []), (.iconst 0, 0, 0, 0, []), (.ireturn, 4, 0, 0, [])]),
  (1367, [], [2, 2, 2, 0], [(.aload_n 1, 0, 0, 0, []), (.invokevirtual 168, 135, 1, 320, []), (.aload_n 2, 0, 0, 0, []), (.invokevirtual 171, 259, 1, 321, []), (.if_icmp .eq 100, 44, 0, 0, []), (.iconst 0, 0, 0, 0, []), (.ireturn, 4, 0, 0, [])]),
  (1380, [], [2, 2, 2, 0], [(.aload_n 1, 0, 0, 0, []), (.invokevirtual 172, 136, 1, 322, []), (.aload_n 2, 0, 0, 0, []), (.invokevirtual 175, 260, 1, 323, []), (.if_icmp .eq 87, 44, 0, 0, []), (.iconst 0, 0, 0, 0, []), (.ireturn, 4, 0, 0, [])]),
  (1393, [], [2, 2, 2, 0], [(.aload_n 1, 0, 0, 0, []), (.aload_n 0, 0, 0, 0, []), (.iload_n 3, 0, 0, 0, []), (.iconst 1, 0, 0, 0, []), (.iadd, 0, 0, 0, []), (.iaload, 0, 0, 0, []), (.invokevirtual 176, 137, 2, 324, []), (.aload_n 2, 0, 0, 0, []), (.aload_n 0, 0, 0, 0, []), (.iload_n 3, 0, 0, 0, []), (.iconst 1, 0, 0, 0, []), (.iadd, 0, 0, 0, []), (.iaload, 0, 0, 0, []), (.invokevirtual 179, 261, 2, 325, []), (.if_icmp .eq 64, 44, 0, 0, []), (.iconst 0, 0, 0, 0, []), (.ireturn, 4, 0, 0, [])]),
  (1416, [], [2, 2, 2, 0], [(.aload_n 1, 0, 0, 0, []), (.invokevirtual 180, 138, 1, 326, []), (.aload_n 2, 0, 0, 0, []), (.invokevirtual 183, 262, 1, 327, []), (.if_icmp .eq 51, 44, 0, 0, []), (.iconst 0, 0, 0, 0, []), (.ireturn, 4, 0, 0, [])]),
  (1429, [], [2, 2, 2, 0], [(.aload_n 1, 0, 0, 0, []), (.aload_n 0, 0, 0, 0, []), (.iload_n 3, 0, 0, 0, []), (.iconst 1, 0, 0, 0, []), (.iadd, 0, 0, 0, []), (.iaload, 0, 0, 0, []), (.invokevirtual 184, 139, 2, 328, []), (.aload_n 2, 0, 0, 0, []), (.aload_n 0, 0, 0, 0, []), (.iload_n 3, 0, 0, 0, []), (.iconst 1, 0, 0, 0, []), (.iadd, 0, 0, 0, []), (.iaload, 0, 0, 0, []), (.invokevirtual 187, 263, 2, 329, []), (.if_icmp .eq 28, 44, 0, 0, []), (.iconst 0, 0, 0, 0, []), (.ireturn, 4, 0, 0, [])]),
  (1452, [], [2, 2, 2, 0], [(.aload_n 1, 0, 0, 0, []), (.aload_n 0, 0, 0, 0, []), (.iload_n 3, 0, 0, 0, []), (.iconst 1, 0, 0, 0, []), (.iadd, 0, 0, 0, []), (.iaload, 0, 0, 0, []), (.invokevirtual 188, 140, 2, 330, []), (.aload_n 2, 0, 0, 0, []), (.aload_n 0, 0, 0, 0, []), (.iload_n 3, 0, 0, 0, []), (.iconst 1, 0, 0, 0, []), (.iadd, 0, 0, 0, []), (.iaload, 0, 0, 0, []), (.invokevirtual 191, 264, 2, 331, []), (.if_icmp .eq 5, 44, 0, 0, []), (.iconst 0, 0, 0, 0, []), (.ireturn, 4, 0, 0, [])]),
  (1475, [], [2, 2, 2, 0], [(.iinc 3 6, 0, 0, 0, []), (.goto (-1460), 1, 0, 0, [])]),
  (1481, [], [3, 3, 3, 3], [(.iconst 1, 0, 0, 0, []), (.ireturn, 4, 0, 0, [])])]
def progL0 : List (List (Nat × List Nat × List Nat × List amI)) := [P0, P1, P2, P3, P4, P5, P6, P7, P8, P9, P10, P11, P12, P13, P14, P15, P16, P17, P18, P19, P20, P21, P22, P23, P24, P25, P26, P27, P28, P29]
def progL1 : List (List (Nat × List Nat × List Nat × List amI)) := [P30, P31, P32, P33, P34, P35, P36, P37, P38, P39, P40, P41, P42, P43, P44, P45, P46, P47, P48, P49, P50, P51, P52, P53, P54, P55, P56, P57, P58, P59]
def progL2 : List (List (Nat × List Nat × List Nat × List amI)) := [P60, P61, P62, P63, P64, P65, P66, P67, P68, P69, P70, P71, P72, P73, P74, P75, P76, P77, P78, P79, P80, P81, P82, P83, P84, P85, P86, P87, P88, P89]
def progL3 : List (List (Nat × List Nat × List Nat × List amI)) := [P90, P91, P92, P93, P94, P95, P96, P97, P98, P99, P100, P101, P102, P103, P104, P105, P106, P107, P108, P109, P110, P111, P112, P113, P114, P115, P116, P117, P118, P119]
def progL4 : List (List (Nat × List Nat × List Nat × List amI)) := [P120, P121, P122, P123, P124, P125, P126, P127, P128, P129, P130, P131, P132, P133, P134, P135, P136, P137, P138, P139, P140, P141, P142, P143, P144, P145, P146, P147, P148, P149]
def progL5 : List (List (Nat × List Nat × List Nat × List amI)) := [P150, P151, P152, P153, P154, P155, P156, P157, P158, P159, P160, P161, P162, P163, P164, P165, P166, P167, P168, P169, P170, P171, P172, P173, P174, P175, P176, P177, P178, P179]
def progL6 : List (List (Nat × List Nat × List Nat × List amI)) := [P180, P181, P182, P183, P184, P185, P186, P187, P188, P189, P190, P191, P192, P193, P194, P195, P196, P197, P198, P199, P200, P201, P202, P203, P204, P205, P206, P207, P208, P209]
def progL7 : List (List (Nat × List Nat × List Nat × List amI)) := [P210, P211, P212, P213, P214, P215, P216, P217, P218, P219, P220, P221, P222, P223, P224, P225, P226, P227, P228, P229, P230, P231, P232, P233, P234, P235, P236, P237, P238, P239]
def progL8 : List (List (Nat × List Nat × List Nat × List amI)) := [P240, P241, P242, P243, P244, P245, P246, P247, P248, P249, P250, P251, P252, P253, P254, P255, P256, P257, P258, P259, P260, P261, P262, P263, P264, P265, P266, P267, P268]
def prog (m : Nat) : List (Nat × List Nat × List Nat × List amI) := match m / 30 with
  | 0 => progL0.getD (m % 30) []
  | 1 => progL1.getD (m % 30) []
  | 2 => progL2.getD (m % 30) []
  | 3 => progL3.getD (m % 30) []
  | 4 => progL4.getD (m % 30) []
  | 5 => progL5.getD (m % 30) []
  | 6 => progL6.getD (m % 30) []
  | 7 => progL7.getD (m % 30) []
  | 8 => progL8.getD (m % 30) []
  | _ => []
/-- what a method gives (0 int, 1 long, 3 nothing, 4 boolean), its class (99: static), what it takes, its locals -/
def mtL : List (Nat × Nat × List Nat × Nat) := [(3, 7, [2], 1), (0, 7, [2, 2], 6), (3, 7, [2, 2], 3), (3, 7, [2, 0], 2), (0, 7, [2, 2, 0], 3), (3, 7, [2, 2], 3), (0, 99, [0], 1), (0, 99, [0, 0], 2), (0, 99, [0, 0, 0], 3), (0, 99, [0], 3), (0, 99, [0], 1), (0, 99, [0, 0], 4), (3, 5, [2], 1), (0, 5, [2, 2, 0, 0, 0], 7), (0, 5, [2, 2], 2), (3, 5, [2, 2], 3), (0, 5, [2, 0], 3), (0, 5, [2, 0, 0], 11), (0, 5, [2, 0, 0, 0, 0], 8), (3, 5, [2, 0, 0], 8), (0, 5, [2, 0], 12), (0, 99, [0, 0], 5), (0, 99, [0, 0], 2), (3, 4, [2], 1), (0, 4, [2, 2, 0, 0], 4), (0, 4, [2], 1), (4, 4, [2, 0, 0], 6), (4, 99, [0, 0], 2), (4, 4, [2, 0], 4), (4, 4, [2, 0], 2), (4, 4, [2, 0], 2), (3, 4, [2], 3), (4, 99, [0], 1), (0, 4, [2, 0], 2), (3, 10, [2], 1), (4, 10, [2], 1), (3, 10, [2, 0, 0], 4), (3, 10, [2, 0, 0], 4), (4, 10, [2, 0, 0], 3), (3, 1, [2], 2), (3, 1, [2, 2], 3), (0, 1, [2], 1), (0, 1, [2, 0, 0], 4), (0, 1, [2, 0, 0, 0, 0], 5), (0, 1, [2, 0, 0], 4), (0, 1, [2, 0], 2), (0, 1, [2, 0, 0, 0], 5), (3, 1, [2, 0, 0, 0], 4), (0, 1, [2, 0], 8), (3, 6, [2], 1), (0, 6, [2, 2, 0, 0, 0], 6), (4, 6, [2, 0], 4), (4, 6, [2, 0, 0, 0, 0], 7), (3, 3, [2], 1), (4, 3, [2], 1), (3, 3, [2], 1), (3, 3, [2, 0], 2), (3, 3, [2, 2], 2), (0, 3, [2, 0, 0, 0, 0], 8), (0, 99, [0, 0, 0, 0, 0], 5), (0, 99, [0, 0, 0], 3), (3, 2, [2], 1), (3, 2, [2, 0, 0, 0], 6), (3, 2, [2, 0, 0], 4), (3, 2, [2, 0, 0], 3), (3, 2, [2, 0, 0], 5), (3, 2, [2, 2], 2), (3, 2, [2, 0, 0, 0, 0], 5), (0, 2, [2], 3), (4, 2, [2, 0, 0], 3), (4, 2, [2, 0], 2), (4, 2, [2, 0, 0, 0], 4), (4, 2, [2, 0, 0], 4), (4, 2, [2, 0, 0], 3), (4, 2, [2, 0, 0], 6), (0, 2, [2, 0], 4), (0, 2, [2, 0, 0], 5), (0, 2, [2], 3), (0, 2, [2, 0, 0], 6), (0, 2, [2], 5), (0, 2, [2, 0], 4), (4, 2, [2, 0, 0, 0, 0], 5), (0, 2, [2, 0, 0], 5), (0, 2, [2, 0, 0], 4), (3, 9, [2], 1), (4, 99, [0, 0], 4), (0, 9, [2, 2, 0, 0, 0], 5), (0, 99, [0, 0], 4), (3, 9, [2, 0], 2), (0, 9, [2, 0, 0, 0, 0], 8), (3, 8, [2], 2), (1, 8, [2, 2, 0], 4), (1, 8, [2, 2], 9), (0, 99, [2], 2), (4, 99, [2, 0], 2), (0, 99, [2, 0], 2), (3, 8, [2, 2, 0, 0], 6), (1, 8, [2, 2, 0, 0, 0], 10), (3, 0, [2], 2), (0, 0, [2, 0, 0, 0], 4), (0, 0, [2, 0, 0], 5), (0, 0, [2, 0, 0, 0], 5), (0, 0, [2, 0], 2), (0, 0, [2, 0, 0], 4), (0, 0, [2, 0, 0], 4), (0, 0, [2, 0, 0], 3), (0, 0, [2, 0, 0, 0], 6), (0, 0, [2, 0, 0], 3), (0, 0, [2, 0, 0], 4), (0, 0, [2, 0], 3), (0, 0, [2, 1, 0], 5), (0, 0, [2, 0], 3), (0, 0, [2, 0, 0, 0, 0, 0], 6), (0, 0, [2, 0, 0, 0, 0], 6), (0, 0, [2, 0, 0, 0], 5), (0, 0, [2], 2), (1, 0, [2, 0], 5), (1, 0, [2, 0], 2), (1, 0, [2], 1), (0, 0, [2, 0], 6), (0, 0, [2, 0, 0], 3), (0, 0, [2, 0, 0], 3), (0, 0, [2], 5), (0, 0, [2], 2), (0, 0, [2], 3), (0, 0, [2, 0], 9), (0, 0, [2, 0], 2), (0, 0, [2, 0], 3), (0, 0, [2, 0, 0, 0], 4), (0, 0, [2, 0], 2), (0, 0, [2, 0, 0, 0], 4), (0, 0, [2, 0, 0, 0], 4), (0, 0, [2, 0, 0, 0, 0, 0], 8), (0, 0, [2, 0], 4), (0, 0, [2, 0], 5), (0, 0, [2], 1), (0, 0, [2], 1), (0, 0, [2, 0], 2), (0, 0, [2], 3), (0, 0, [2, 0], 2), (0, 0, [2, 0], 2), (0, 0, [2, 0], 2), (4, 99, [0, 0, 0], 3), (4, 0, [2, 0], 2), (4, 0, [2, 0], 2), (4, 99, [0, 0], 2), (4, 99, [0], 1), (4, 99, [0], 1), (0, 0, [2, 0, 0, 0], 5), (3, 11, [2], 1), (0, 11, [2, 0], 2), (4, 99, [1, 1, 1], 6), (0, 99, [0, 0, 0], 3), (0, 11, [2], 1), (4, 11, [2, 0], 2), (4, 11, [2, 0], 2), (0, 11, [2, 0], 2), (0, 11, [2, 0, 0], 3), (3, 11, [2, 0, 0, 0], 4), (0, 11, [2], 1), (0, 11, [2], 1), (4, 11, [2, 0], 2), (0, 11, [2, 0], 2), (0, 11, [2], 3), (0, 11, [2], 3), (0, 11, [2], 4), (0, 11, [2], 4), (0, 11, [2], 4), (0, 11, [2], 5), (0, 11, [2, 0, 0, 0], 5), (0, 11, [2, 1, 0], 5), (0, 11, [2, 0], 5), (0, 11, [2, 0, 0, 0, 0, 0], 7), (0, 11, [2, 0, 0, 0, 0, 0], 6), (3, 11, [2, 0, 0], 3), (3, 11, [2], 4), (0, 11, [2, 0, 0], 5), (4, 11, [2, 0], 2), (4, 11, [2, 0], 2), (4, 11, [2, 0], 4), (3, 11, [2], 2), (4, 11, [2], 1), (3, 11, [2, 0, 0, 0], 4), (3, 11, [2, 0], 3), (0, 11, [2], 3), (0, 11, [2, 0, 0], 5), (0, 11, [2, 0], 2), (0, 11, [2, 0, 0, 0], 5), (0, 11, [2, 0, 0], 4), (4, 11, [2, 0, 0, 0], 4), (0, 11, [2, 0, 0, 0], 4), (0, 11, [2, 0], 4), (0, 11, [2, 0], 3), (0, 11, [2, 0, 0], 3), (0, 11, [2, 0, 0], 4), (0, 99, [0], 1), (0, 11, [2, 0, 0], 4), (4, 99, [0, 0], 2), (3, 11, [2, 0], 2), (0, 11, [2, 0, 0, 0], 5), (0, 11, [2, 0, 0], 3), (4, 11, [2, 0, 0], 6), (0, 11, [2, 0, 0], 6), (0, 11, [2, 0], 4), (0, 11, [2, 0, 0], 5), (0, 11, [2, 0], 4), (4, 11, [2, 0, 0, 0], 6), (0, 11, [2, 0], 10), (4, 11, [2, 0], 4), (4, 11, [2, 0, 0, 0], 7), (0, 11, [2, 0, 0, 0, 0], 5), (0, 11, [2], 1), (3, 11, [2, 0], 4), (4, 11, [2, 0, 0, 0], 4), (4, 11, [2, 0, 0, 0], 6), (4, 11, [2, 0, 0, 0, 0], 10), (4, 11, [2, 0, 0, 0], 9), (0, 11, [2, 0, 0, 0], 5), (0, 99, [0, 0], 6), (3, 11, [2], 3), (3, 11, [2], 3), (1, 11, [2, 0], 5), (1, 11, [2, 0], 6), (4, 11, [2, 0, 0, 0, 0], 5), (4, 11, [2, 0, 0], 3), (1, 11, [2, 0], 7), (1, 11, [2], 4), (0, 11, [2], 1), (3, 11, [2], 2), (3, 11, [2], 2), (0, 11, [2, 0, 0], 5), (0, 11, [2, 0, 0], 3), (0, 11, [2, 0, 0], 4), (0, 11, [2, 0, 0], 3), (0, 11, [2], 5), (0, 11, [2], 5), (0, 11, [2], 3), (0, 11, [2, 0], 11), (4, 11, [2], 5), (0, 11, [2, 0], 4), (0, 11, [2, 0], 3), (3, 11, [2, 0], 2), (0, 11, [2], 1), (0, 11, [2, 0, 0], 3), (0, 11, [2, 0, 0], 4), (0, 11, [2, 0, 0], 3), (0, 11, [2, 0, 0], 4), (0, 11, [2, 0, 0, 0], 5), (0, 11, [2, 0], 2), (4, 99, [0], 1), (0, 11, [2, 0, 0, 0], 5), (0, 11, [2, 0, 0, 0], 4), (0, 11, [2, 0, 0, 0, 0, 0], 7), (0, 11, [2, 0], 6), (0, 11, [2, 0], 2), (0, 11, [2, 0, 0], 5), (0, 11, [2, 0], 5), (4, 11, [2, 0, 0], 5), (0, 11, [2, 0], 3), (0, 11, [2], 2), (0, 11, [2], 2), (0, 11, [2, 0], 2), (0, 11, [2], 3), (0, 11, [2, 0], 2), (0, 11, [2, 0], 2), (0, 99, [0], 1), (0, 99, [0, 0], 2), (0, 99, [0, 0], 2), (4, 99, [2], 4)]
def mt (m : Nat) : Nat × Nat × List Nat × Nat := mtL.getD m (0, 0, [], 0)
def mrt (m : Nat) : Nat × Nat := ((mt m).1, (mt m).2.1)
abbrev amB : Type := Nat × List Nat × List Nat × List amI
def blk (m b : Nat) : amB := (prog m).getD b (0, [], [], [])
def lay : List Nat → List Int → List Int
  | 1 :: ts, x :: xs => x :: 0 :: lay ts xs
  | _ :: ts, x :: xs => x :: lay ts xs
  | _, _ => []
def padz (n : Nat) (l : List Int) : List Int := l ++ List.replicate (n - l.length) 0
def ent (m : Nat) (xs : List Int) : List Int := padz (mt m).2.2.2 (lay (mt m).2.2.1 xs)
def msk (m b : Nat) : List Bool := (blk m b).2.2.1.map (fun t => !(t == 3))
end
section
/-! ===== what blocks and methods do, as functions: none where they do not end, or do what they must not ===== -/
noncomputable def AtN (cr : amC) (call : Nat → List Int → amM → amR) (m : Nat) : Nat → amJ
  | 0 => fun _ _ _ _ => none
  | n + 1 => fun b st ls μ => runB cr call mrt (fun b st ls μ => AtN cr call m n b st (nrm (msk m b) ls) μ) (blk m b).2.2.2 st ls μ
/-- a term that asks k at most once, at its end -/
def amTL (F : amJ → amR) : Prop := (∃ o, ∀ k, F k = o) ∨ ∃ b st ls μ, ∀ k : amJ, F k = k b st ls μ
theorem amTL_c (o : amR) : amTL (fun _ => o) := Or.inl ⟨o, fun _ => rfl⟩
theorem amTL_k (b : Nat) (st ls : List Int) (μ : amM) : amTL (fun k => k b st ls μ) := Or.inr ⟨b, st, ls, μ, fun _ => rfl⟩
theorem amTL_ite {c : Prop} {hc : Decidable c} {F G : amJ → amR} (hF : amTL F) (hG : amTL G) : amTL (fun k => if c then F k else G k) := by
  by_cases h : c
  · simp only [h, if_true]; exact hF
  · simp only [h, if_false]; exact hG
theorem amTL_bnd {o : amR} {F : amJ → Int → amM → amR} (h : ∀ v μ, amTL (fun k => F k v μ)) : amTL (fun k => bnd o (F k)) := by
  cases o with
  | none => exact amTL_c none
  | some r => exact h r.1 r.2
theorem amTL_Gf {cr : amC} {μ : amM} {ci k0 : Nat} {x : Int} {F : amJ → Int → amR} (h : ∀ v, amTL (fun k => F k v)) : amTL (fun k => amGf cr μ ci k0 x (F k)) := amTL_ite (amTL_ite (amTL_ite (h _) (amTL_c none)) (h _)) (amTL_c none)
theorem amTL_Gx {cr : amC} {μ : amM} {ci k0 : Nat} {x w : Int} {F : amJ → Int → amR} (h : ∀ v, amTL (fun k => F k v)) : amTL (fun k => amGx cr μ ci k0 x w (F k)) := amTL_ite (amTL_ite (amTL_ite (h _) (amTL_c none)) (amTL_c none)) (amTL_c none)
theorem amTL_Pf {cr : amC} {μ : amM} {ci k0 : Nat} {x v : Int} {F : amJ → amM → amR} (h : ∀ v, amTL (fun k => F k v)) : amTL (fun k => amPf cr μ ci k0 x v (F k)) := amTL_ite (h _) (amTL_c none)
theorem amTL_Ald {μ : amM} {x i : Int} {F : amJ → Int → amR} (h : ∀ v, amTL (fun k => F k v)) : amTL (fun k => amAld μ x i (F k)) := amTL_ite (amTL_ite (h _) (amTL_c none)) (amTL_ite (amTL_ite (h _) (amTL_c none)) (amTL_ite (amTL_ite (h _) (amTL_c none)) (amTL_c none)))
theorem amTL_Pld {t : Nat} {μ : amM} {x i : Int} {F : amJ → Int → amR} (h : ∀ v, amTL (fun k => F k v)) : amTL (fun k => amPld t μ x i (F k)) := amTL_ite (amTL_ite (h _) (amTL_c none)) (amTL_c none)
theorem amTL_Pst {t : Nat} {μ : amM} {x i v : Int} {F : amJ → amM → amR} (h : ∀ v, amTL (fun k => F k v)) : amTL (fun k => amPst t μ x i v (F k)) := amTL_ite (amTL_ite (amTL_ite (amTL_ite (h _) (amTL_c none)) (h _)) (amTL_c none)) (amTL_c none)
theorem amTL_Qld {cr : amC} {t : Nat} {μ : amM} {x i : Int} {F : amJ → Int → amR} (h : ∀ v, amTL (fun k => F k v)) : amTL (fun k => amQld cr t μ x i (F k)) := amTL_ite (amTL_ite (amTL_ite (h _) (amTL_c none)) (amTL_c none)) (amTL_c none)
theorem amTL_Qst {cr : amC} {t : Nat} {μ : amM} {x i v : Int} {F : amJ → amM → amR} (h : ∀ v, amTL (fun k => F k v)) : amTL (fun k => amQst cr t μ x i v (F k)) := amTL_ite (amTL_ite (h _) (amTL_c none)) (amTL_c none)
theorem amTL_Cpy {μ : amM} {x i y j n : Int} {F : amJ → amM → amR} (h : ∀ v, amTL (fun k => F k v)) : amTL (fun k => amCpy μ x i y j n (F k)) := amTL_ite (amTL_ite (h _) (amTL_c none)) (amTL_c none)
theorem amTL_New {μ : amM} {t : Nat} {F : amJ → Int → amM → amR} (h : ∀ v μ, amTL (fun k => F k v μ)) : amTL (fun k => amNew μ t (F k)) := amTL_ite (h _ _) (amTL_c none)
theorem amTL_Nwa {μ : amM} {t : Nat} {n : Int} {F : amJ → Int → amM → amR} (h : ∀ v μ, amTL (fun k => F k v μ)) : amTL (fun k => amNwa μ t n (F k)) := amTL_ite (h _ _) (amTL_c none)
theorem amTL_Mul {μ : amM} {n k2 : Int} {F : amJ → Int → amM → amR} (h : ∀ v μ, amTL (fun k => F k v μ)) : amTL (fun k => amMul μ n k2 (F k)) := amTL_ite (h _ _) (amTL_c none)
theorem amTL_Sw {x : Int} {F : amJ → Nat → amR} (h : ∀ b, amTL (fun k => F k b)) (d : Nat) : ∀ l : List (Int × Nat), amTL (fun k => amSw x l d (F k))
  | [] => h d
  | (_, b) :: r => amTL_ite (h b) (amTL_Sw h d r)
set_option maxHeartbeats 4000000 in
set_option maxRecDepth 20000 in
theorem amTL_stp {cr : amC} {call : Nat → List Int → amM → amR} {rt : Nat → Nat × Nat} (i : amI) {NX : amJ → amN} (h : ∀ st ls μ, amTL (fun k => NX k st ls μ)) (st ls : List Int) (μ : amM) : amTL (fun k => stp cr call rt i k (NX k) st ls μ) := by
  obtain ⟨ins, a, b, w, l⟩ := i
  rcases l with _ | ⟨⟨w0, z0⟩, l⟩ <;> rcases st with _ | ⟨x0, _ | ⟨x1, _ | ⟨x2, _ | ⟨x3, _ | ⟨x4, st⟩⟩⟩⟩⟩ <;> cases ins <;> dsimp only [stp] <;>
    first
    | exact h _ _ _
    | exact amTL_c _
    | exact amTL_k _ _ _ _
    | exact amTL_Sw (fun _ => amTL_k _ _ _ _) _ _
    | exact amTL_Gf (fun _ => h _ _ _)
    | exact amTL_Gx (fun _ => h _ _ _)
    | exact amTL_Pf (fun _ => h _ _ _)
    | exact amTL_Ald (fun _ => h _ _ _)
    | exact amTL_Pld (fun _ => h _ _ _)
    | exact amTL_Pst (fun _ => h _ _ _)
    | exact amTL_Qld (fun _ => h _ _ _)
    | exact amTL_Qst (fun _ => h _ _ _)
    | exact amTL_New (fun _ _ => h _ _ _)
    | exact amTL_Nwa (fun _ _ => h _ _ _)
    | exact amTL_Mul (fun _ _ => h _ _ _)
    | exact amTL_ite (amTL_c _) (h _ _ _)
    | exact amTL_ite (h _ _ _) (amTL_c _)
    | exact amTL_ite (amTL_bnd (fun _ _ => h _ _ _)) (amTL_c _)
    | exact amTL_ite (amTL_c _) (amTL_bnd (fun _ _ => h _ _ _))
    | exact amTL_ite (amTL_Cpy (fun _ => h _ _ _)) (amTL_ite (h _ _ _) (amTL_ite (h _ _ _) (amTL_bnd (fun _ _ => h _ _ _))))
    | exact amTL_ite (amTL_c _) (amTL_ite (h _ _ _) (amTL_ite (h _ _ _) (amTL_bnd (fun _ _ => h _ _ _))))
    | exact amTL_ite (amTL_c _) (amTL_ite (amTL_c _) (amTL_ite (amTL_c _) (amTL_bnd (fun _ _ => h _ _ _))))
    | exact amTL_ite (amTL_c _) (amTL_ite (amTL_bnd (fun _ _ => h _ _ _)) (amTL_c _))
    | exact amTL_ite (amTL_ite (h _ _ _) (amTL_c _)) (amTL_ite (amTL_bnd (fun _ _ => h _ _ _)) (amTL_c _))
    | exact amTL_ite (amTL_ite (amTL_c _) (amTL_c _)) (amTL_c _)
    | (rename_i c _; cases c <;> first | exact amTL_ite (amTL_k _ _ _ _) (h _ _ _) | exact amTL_ite (h _ _ _) (amTL_k _ _ _ _))
theorem amTL_run {cr : amC} {call : Nat → List Int → amM → amR} {rt : Nat → Nat × Nat} (cs : List amI) : ∀ st ls μ, amTL (fun k => runB cr call rt k cs st ls μ) := by
  induction cs with
  | nil => exact fun _ _ _ => amTL_c none
  | cons i cs ih => exact fun st ls μ => amTL_stp i (NX := fun k => runB cr call rt k cs) ih st ls μ
/-- likewise, with k's locals put in order first -/
theorem amTL_N {F : amJ → amR} (h : amTL F) (m : Nat) : amTL (fun k => F (fun b st ls μ => k b st (nrm (msk m b) ls) μ)) := by
  rcases h with ⟨o, h⟩ | ⟨b, st, ls, μ, h⟩
  · exact Or.inl ⟨o, fun k => h _⟩
  · exact Or.inr ⟨b, st, nrm (msk m b) ls, μ, fun k => h _⟩
theorem AtN_up (cr : amC) (call : Nat → List Int → amM → amR) (m : Nat) : ∀ (n : Nat) (b : Nat) (st ls : List Int) (μ : amM) (r : Int × amM), AtN cr call m n b st ls μ = some r → AtN cr call m (n + 1) b st ls μ = some r
  | 0, _, _, _, _, _, h => by cases h
  | n + 1, b, st, ls, μ, r, h => by
    have hT := amTL_N (amTL_run (cr := cr) (call := call) (rt := mrt) (blk m b).2.2.2 st ls μ) m
    change runB _ _ _ _ _ _ _ _ = _ at h
    change runB _ _ _ _ _ _ _ _ = _
    rcases hT with ⟨o, hT⟩ | ⟨b', st', ls', μ', hT⟩
    · exact (hT (AtN cr call m (n + 1))).trans ((hT (AtN cr call m n)).symm.trans h)
    · exact (hT (AtN cr call m (n + 1))).trans (AtN_up cr call m n _ _ _ _ _ ((hT (AtN cr call m n)).symm.trans h))
theorem AtN_le {cr : amC} {call : Nat → List Int → amM → amR} {m n b : Nat} {st ls : List Int} {μ : amM} {r : Int × amM} (h : AtN cr call m n b st ls μ = some r) : ∀ k, AtN cr call m (n + k) b st ls μ = some r
  | 0 => h
  | k + 1 => AtN_up cr call m (n + k) b st ls μ r (AtN_le h k)
theorem AtN_one {cr : amC} {call : Nat → List Int → amM → amR} {m n n' b : Nat} {st ls : List Int} {μ : amM} {r r' : Int × amM} (h : AtN cr call m n b st ls μ = some r) (h' : AtN cr call m n' b st ls μ = some r') : r = r' := by
  have h1 := AtN_le h n'
  have h2 := AtN_le h' n
  rw [Nat.add_comm n' n] at h2
  exact Option.some.inj (h1.symm.trans h2)
def amEx (cr : amC) (call : Nat → List Int → amM → amR) (m b : Nat) (st ls : List Int) (μ : amM) : Prop := ∃ r n, AtN cr call m n b st ls μ = some r
noncomputable def AtL (cr : amC) (call : Nat → List Int → amM → amR) (m : Nat) : amJ := fun b st ls μ => @dite _ (amEx cr call m b st ls μ) (Classical.propDecidable _) (fun h => some h.choose) (fun _ => none)
theorem AtL_iff {cr : amC} {call : Nat → List Int → amM → amR} {m b : Nat} {st ls : List Int} {μ : amM} {r : Int × amM} : AtL cr call m b st ls μ = some r ↔ ∃ n, AtN cr call m n b st ls μ = some r := by
  unfold AtL
  by_cases h : amEx cr call m b st ls μ
  · rw [dif_pos h]
    obtain ⟨n, hn⟩ := h.choose_spec
    constructor
    · intro e
      exact ⟨n, by rw [hn]; exact e⟩
    · rintro ⟨n', hn'⟩
      rw [AtN_one hn hn']
  · rw [dif_neg h]
    constructor
    · intro e; cases e
    · rintro ⟨n, hn⟩
      exact absurd ⟨r, n, hn⟩ h
theorem AtL_eq (cr : amC) (call : Nat → List Int → amM → amR) (m b : Nat) (st ls : List Int) (μ : amM) : AtL cr call m b st ls μ = runB cr call mrt (fun b st ls μ => AtL cr call m b st (nrm (msk m b) ls) μ) (blk m b).2.2.2 st ls μ := by
  apply Option.ext
  intro r
  rw [AtL_iff]
  have hT := amTL_N (amTL_run (cr := cr) (call := call) (rt := mrt) (blk m b).2.2.2 st ls μ) m
  rcases hT with ⟨o, hT⟩ | ⟨b', st', ls', μ', hT⟩
  · constructor
    · rintro ⟨n, hn⟩
      cases n with
      | zero => cases hn
      | succ n => exact (hT (AtL cr call m)).trans ((hT (AtN cr call m n)).symm.trans hn)
    · intro h
      exact ⟨1, (hT (AtN cr call m 0)).trans ((hT (AtL cr call m)).symm.trans h)⟩
  · constructor
    · rintro ⟨n, hn⟩
      cases n with
      | zero => cases hn
      | succ n => exact (hT (AtL cr call m)).trans (AtL_iff.mpr ⟨n, (hT (AtN cr call m n)).symm.trans hn⟩)
    · intro h
      obtain ⟨n, hn⟩ := AtL_iff.mp ((hT (AtL cr call m)).symm.trans h)
      exact ⟨n + 1, (hT (AtN cr call m n)).trans hn⟩
/-- a method, with d calls open at most -/
noncomputable def RD (cr : amC) : Nat → Nat → List Int → amM → amR
  | 0 => fun _ _ _ => none
  | d + 1 => fun m xs μ => AtL cr (RD cr d) m 0 [] (ent m xs) μ
noncomputable def At (cr : amC) (d m : Nat) : amJ := AtL cr (RD cr d) m
theorem At_eq (cr : amC) (d m b : Nat) (st ls : List Int) (μ : amM) : At cr d m b st ls μ = runB cr (RD cr d) mrt (fun b st ls μ => At cr d m b st (nrm (msk m b) ls) μ) (blk m b).2.2.2 st ls μ := AtL_eq cr (RD cr d) m b st ls μ
end
section
/-! ===== the blocks, one by one ===== -/
set_option maxRecDepth 20000 in
theorem B1_0 (d : Nat) (μ : amM) : At cr2 d 1 0 [] [52, 2, 0, 0, 0, 0] μ = bnd (RD cr2 d 2 [52, 2] μ) (fun _ μ1 => At cr2 d 1 1 [] [52, 2, 0, 0, 0, 0] μ1) := (At_eq cr2 d 1 0 _ _ _).trans rfl
set_option maxRecDepth 20000 in
theorem B1_1 (d : Nat) (x2 x3 x4 : Int) (μ : amM) : At cr2 d 1 1 [] [52, 2, x2, x3, x4, 0] μ = (if x4 < 1000000 then (if x3 < 0 then At cr2 d 1 5 [] [0, 0, 0, x3, 0, 0] μ else (if x3 < (μ 52 2) then rd 54 64 μ x3 (fun v1 => (if v1 < 81 then At cr2 d 1 2 [] [52, 2, x2, x3, x4, v1] μ else bnd (RD cr2 d 4 [52, 2, x3] μ) (fun v2 μ1 => At cr2 d 1 4 [] [52, 2, x2, v2, x4, 0] μ1))) else At cr2 d 1 5 [] [0, 0, 0, x3, 0, 0] μ)) else At cr2 d 1 5 [] [0, 0, 0, x3, 0, 0] μ) := (At_eq cr2 d 1 1 _ _ _).trans rfl
set_option maxRecDepth 20000 in
theorem B1_2 (d : Nat) (x2 x3 x4 x5 : Int) (μ : amM) : At cr2 d 1 2 [] [52, 2, x2, x3, x4, x5] μ = (if x2 < 20000 then At cr2 d 1 3 [] [52, 2, x2, x3, x4, x5] μ else bnd (RD cr2 d 5 [52, 2] μ) (fun _ μ1 => some (4, μ1))) := (At_eq cr2 d 1 2 _ _ _).trans rfl
set_option maxRecDepth 20000 in
theorem B1_3 (d : Nat) (x2 x3 x4 x5 : Int) (μ : amM) : At cr2 d 1 3 [] [52, 2, x2, x3, x4, x5] μ = rd 54 64 μ x3 (fun v1 => wr 54 64 μ x3 (w32 (v1 + 1)) (fun μ1 => rd 53 64 μ1 x3 (fun v2 => bnd (RD cr2 d 6 [x5] μ1) (fun v3 μ2 => bnd (RD cr2 d 74 [2, v2, v3] μ2) (fun v4 μ3 => (if v4 = 0 then At cr2 d 1 4 [] [52, 2, (w32 (x2 + 1)), x3, x4, 0] μ3 else rd 53 64 μ3 x3 (fun v5 => bnd (RD cr2 d 6 [x5] μ3) (fun v6 μ4 => bnd (RD cr2 d 67 [2, v5, 0, 0, v6] μ4) (fun _ μ5 => bnd (RD cr2 d 3 [52, (w32 (x3 + 1))] μ5) (fun _ μ6 => At cr2 d 1 4 [] [52, 2, (w32 (x2 + 1)), (w32 (x3 + 1)), x4, 0] μ6)))))))))) := (At_eq cr2 d 1 3 _ _ _).trans rfl
set_option maxRecDepth 20000 in
theorem B1_4 (d : Nat) (x2 x3 x4 : Int) (μ : amM) : At cr2 d 1 4 [] [52, 2, x2, x3, x4, 0] μ = At cr2 d 1 1 [] [52, 2, x2, x3, (w32 (x4 + 1)), 0] μ := (At_eq cr2 d 1 4 _ _ _).trans rfl
set_option maxRecDepth 20000 in
theorem B1_5 (d : Nat) (x3 : Int) (μ : amM) : At cr2 d 1 5 [] [0, 0, 0, x3, 0, 0] μ = (if x3 < 0 then At cr2 d 1 7 [2] [0, 0, 0, 0, 0, 0] μ else At cr2 d 1 6 [] [0, 0, 0, 0, 0, 0] μ) := (At_eq cr2 d 1 5 _ _ _).trans rfl
set_option maxRecDepth 20000 in
theorem B1_6 (d : Nat) (μ : amM) : At cr2 d 1 6 [] [0, 0, 0, 0, 0, 0] μ = At cr2 d 1 7 [0] [0, 0, 0, 0, 0, 0] μ := (At_eq cr2 d 1 6 _ _ _).trans rfl
set_option maxRecDepth 20000 in
theorem B1_7 (d : Nat) (s0 : Int) (μ : amM) : At cr2 d 1 7 [s0] [0, 0, 0, 0, 0, 0] μ = some (s0, μ) := (At_eq cr2 d 1 7 _ _ _).trans rfl
set_option maxRecDepth 20000 in
theorem B2_0 (d : Nat) (μ : amM) : At cr2 d 2 0 [] [52, 2, 0] μ = wf 52 2 μ 0 (fun μ1 => At cr2 d 2 1 [] [52, 2, 0] μ1) := (At_eq cr2 d 2 0 _ _ _).trans rfl
set_option maxRecDepth 20000 in
theorem B2_1 (d : Nat) (x2 : Int) (μ : amM) : At cr2 d 2 1 [] [52, 2, x2] μ = (if x2 < (μ 2 10) then rd 3 64 μ x2 (fun v1 => (if v1 = (-1) then wr 53 64 μ (μ 52 2) x2 (fun μ1 => wf 52 2 μ1 (w32 ((μ1 52 2) + 1)) (fun μ2 => At cr2 d 2 2 [] [52, 2, x2] μ2)) else At cr2 d 2 2 [] [52, 2, x2] μ)) else At cr2 d 2 3 [] [52, 0, 0] μ) := (At_eq cr2 d 2 1 _ _ _).trans rfl
set_option maxRecDepth 20000 in
theorem B2_2 (d : Nat) (x2 : Int) (μ : amM) : At cr2 d 2 2 [] [52, 2, x2] μ = At cr2 d 2 1 [] [52, 2, (w32 (x2 + 1))] μ := (At_eq cr2 d 2 2 _ _ _).trans rfl
set_option maxRecDepth 20000 in
theorem B2_3 (d : Nat) (μ : amM) : At cr2 d 2 3 [] [52, 0, 0] μ = bnd (RD cr2 d 3 [52, 0] μ) (fun _ μ1 => some (0, μ1)) := (At_eq cr2 d 2 3 _ _ _).trans rfl
set_option maxRecDepth 20000 in
theorem B3_0 (d : Nat) (x1 : Int) (μ : amM) : At cr2 d 3 0 [] [52, x1] μ = (if x1 < (μ 52 2) then wr 54 64 μ x1 0 (fun μ1 => At cr2 d 3 1 [] [0, 0] μ1) else At cr2 d 3 1 [] [0, 0] μ) := (At_eq cr2 d 3 0 _ _ _).trans rfl
set_option maxRecDepth 20000 in
theorem B3_1 (d : Nat) (μ : amM) : At cr2 d 3 1 [] [0, 0] μ = some (0, μ) := (At_eq cr2 d 3 1 _ _ _).trans rfl
set_option maxRecDepth 20000 in
theorem B4_0 (d : Nat) (x2 : Int) (μ : amM) : At cr2 d 4 0 [] [52, 2, x2] μ = (if 0 < x2 then rd 53 64 μ (w32 (x2 - 1)) (fun v1 => wr 3 64 μ v1 (-1) (fun μ1 => At cr2 d 4 1 [] [0, 0, x2] μ1)) else At cr2 d 4 1 [] [0, 0, x2] μ) := (At_eq cr2 d 4 0 _ _ _).trans rfl
set_option maxRecDepth 20000 in
theorem B4_1 (d : Nat) (x2 : Int) (μ : amM) : At cr2 d 4 1 [] [0, 0, x2] μ = some ((w32 (x2 - 1)), μ) := (At_eq cr2 d 4 1 _ _ _).trans rfl
set_option maxRecDepth 20000 in
theorem B5_0 (d : Nat) (μ : amM) : At cr2 d 5 0 [] [52, 2, 0] μ = At cr2 d 5 1 [] [52, 2, 0] μ := (At_eq cr2 d 5 0 _ _ _).trans rfl
set_option maxRecDepth 20000 in
theorem B5_1 (d : Nat) (x2 : Int) (μ : amM) : At cr2 d 5 1 [] [52, 2, x2] μ = (if x2 < (μ 52 2) then rd 53 64 μ x2 (fun v1 => wr 3 64 μ v1 (-1) (fun μ1 => At cr2 d 5 1 [] [52, 2, (w32 (x2 + 1))] μ1)) else At cr2 d 5 2 [] [0, 0, 0] μ) := (At_eq cr2 d 5 1 _ _ _).trans rfl
set_option maxRecDepth 20000 in
theorem B5_2 (d : Nat) (μ : amM) : At cr2 d 5 2 [] [0, 0, 0] μ = some (0, μ) := (At_eq cr2 d 5 2 _ _ _).trans rfl
set_option maxRecDepth 20000 in
theorem B6_0 (d : Nat) (x0 : Int) (μ : amM) : At cr2 d 6 0 [] [x0] μ = some ((bOr (bOr (bOr (w32 (x0.tdiv 27)) (bShl ((w32 (x0.tdiv 9)).tmod 3) 2)) (bShl ((w32 (x0.tdiv 3)).tmod 3) 4)) (bShl (x0.tmod 3) 6)), μ) := (At_eq cr2 d 6 0 _ _ _).trans rfl
set_option maxRecDepth 20000 in
theorem B7_0 (d : Nat) (x0 x1 : Int) (μ : amM) : At cr2 d 7 0 [] [x0, x1] μ = some ((bAnd (bShr x0 (w32 (2 * x1))) 3), μ) := (At_eq cr2 d 7 0 _ _ _).trans rfl
set_option maxRecDepth 20000 in
theorem B8_0 (d : Nat) (x0 x1 x2 : Int) (μ : amM) : At cr2 d 8 0 [] [x0, x1, x2] μ = some ((bOr (bAnd x0 (bXor (bShl 3 (w32 (2 * x1))) (-1))) (bShl x2 (w32 (2 * x1)))), μ) := (At_eq cr2 d 8 0 _ _ _).trans rfl
set_option maxRecDepth 20000 in
theorem B9_0 (d : Nat) (x0 : Int) (μ : amM) : At cr2 d 9 0 [] [x0, 0, 0] μ = At cr2 d 9 1 [] [x0, 0, 0] μ := (At_eq cr2 d 9 0 _ _ _).trans rfl
set_option maxRecDepth 20000 in
theorem B9_1 (d : Nat) (x0 x1 x2 : Int) (μ : amM) : At cr2 d 9 1 [] [x0, x1, x2] μ = (if x2 < 4 then bnd (RD cr2 d 7 [x0, x2] μ) (fun v1 μ1 => At cr2 d 9 1 [] [x0, (w32 ((w32 (3 * x1)) + (v1.tmod 3))), (w32 (x2 + 1))] μ1) else At cr2 d 9 2 [] [0, x1, 0] μ) := (At_eq cr2 d 9 1 _ _ _).trans rfl
set_option maxRecDepth 20000 in
theorem B9_2 (d : Nat) (x1 : Int) (μ : amM) : At cr2 d 9 2 [] [0, x1, 0] μ = some (x1, μ) := (At_eq cr2 d 9 2 _ _ _).trans rfl
set_option maxRecDepth 20000 in
theorem B10_0 (d : Nat) (x0 : Int) (μ : amM) : At cr2 d 10 0 [] [x0] μ = some ((bAnd (bAnd x0 (bShr x0 1)) 85), μ) := (At_eq cr2 d 10 0 _ _ _).trans rfl
set_option maxRecDepth 20000 in
theorem B11_0 (d : Nat) (x0 x1 : Int) (μ : amM) : At cr2 d 11 0 [] [x0, x1, 0, 0] μ = bnd (RD cr2 d 265 [(bAnd (bOr (bOr (bXor x0 x1) (bShr (bXor x0 x1) 1)) (bAnd x0 (bShr x0 1))) 85)] μ) (fun v1 μ1 => some ((w32 (4 - v1)), μ1)) := (At_eq cr2 d 11 0 _ _ _).trans rfl
set_option maxRecDepth 20000 in
theorem B13_0 (d : Nat) (x2 x3 x4 : Int) (μ : amM) : At cr2 d 13 0 [] [41, 1, x2, x3, x4, 0, 0] μ = bnd (RD cr2 d 15 [41, 1] μ) (fun _ μ1 => wr 49 64 μ1 x2 (bShl 1 x3) (fun μ2 => if μ2 41 4 = 2 then rd 5 64 μ2 x2 (fun v1 => bnd (RD cr2 d 7 [v1, x3] μ2) (fun v2 μ3 => (if v2 = x4 then bnd (RD cr2 d 16 [41, 0] μ3) (fun v3 μ4 => some (v3, μ4)) else At cr2 d 13 1 [] [41, 1, x2, x3, x4, v1, 0] μ3))) else none)) := (At_eq cr2 d 13 0 _ _ _).trans rfl
set_option maxRecDepth 20000 in
theorem B13_1 (d : Nat) (x2 x3 x4 x5 : Int) (μ : amM) : At cr2 d 13 1 [] [41, 1, x2, x3, x4, x5, 0] μ = if μ 41 4 = 2 then bnd (RD cr2 d 71 [2, x2, x3, x4] μ) (fun v1 μ1 => (if v1 = 0 then some ((-1), μ1) else At cr2 d 13 2 [] [41, 1, x2, x3, x4, x5, 0] μ1)) else none := (At_eq cr2 d 13 1 _ _ _).trans rfl
set_option maxRecDepth 20000 in
theorem B13_2 (d : Nat) (x2 x3 x4 x5 : Int) (μ : amM) : At cr2 d 13 2 [] [41, 1, x2, x3, x4, x5, 0] μ = if μ 41 4 = 2 then bnd (RD cr2 d 8 [x5, x3, x4] μ) (fun v1 μ1 => wr 5 64 μ1 x2 v1 (fun μ2 => bnd (RD cr2 d 16 [41, 1] μ2) (fun v2 μ3 => if μ3 41 4 = 2 then wr 5 64 μ3 x2 x5 (fun μ4 => bnd (RD cr2 d 44 [1, x2, x3] μ4) (fun v3 μ5 => wf 41 5 μ5 (w32 ((μ4 41 5) + v3)) (fun μ6 => some (v2, μ6)))) else none))) else none := (At_eq cr2 d 13 2 _ _ _).trans rfl
set_option maxRecDepth 20000 in
theorem B14_0 (d : Nat) (μ : amM) : At cr2 d 14 0 [] [41, 1] μ = bnd (RD cr2 d 15 [41, 1] μ) (fun _ μ1 => bnd (RD cr2 d 16 [41, 0] μ1) (fun v1 μ2 => some (v1, μ2))) := (At_eq cr2 d 14 0 _ _ _).trans rfl
set_option maxRecDepth 20000 in
theorem B15_0 (d : Nat) (μ : amM) : At cr2 d 15 0 [] [41, 1, 0] μ = wf 41 3 μ 1 (fun μ1 => wf 41 4 μ1 2 (fun μ2 => At cr2 d 15 1 [] [41, 0, 0] μ2)) := (At_eq cr2 d 15 0 _ _ _).trans rfl
set_option maxRecDepth 20000 in
theorem B15_1 (d : Nat) (x2 : Int) (μ : amM) : At cr2 d 15 1 [] [41, 0, x2] μ = (if x2 < 64 then wr 49 64 μ x2 0 (fun μ1 => At cr2 d 15 1 [] [41, 0, (w32 (x2 + 1))] μ1) else At cr2 d 15 2 [] [0, 0, 0] μ) := (At_eq cr2 d 15 1 _ _ _).trans rfl
set_option maxRecDepth 20000 in
theorem B15_2 (d : Nat) (μ : amM) : At cr2 d 15 2 [] [0, 0, 0] μ = some (0, μ) := (At_eq cr2 d 15 2 _ _ _).trans rfl
set_option maxRecDepth 20000 in
theorem B16_0 (d : Nat) (x1 : Int) (μ : amM) : At cr2 d 16 0 [] [41, x1, 0] μ = if μ 41 4 = 2 then bnd (RD cr2 d 79 [2] μ) (fun v1 μ1 => wf 48 0 μ1 v1 (fun μ2 => if μ2 41 4 = 2 then amCpy μ2 8 0 43 0 (μ2 48 0) (fun μ3 => At cr2 d 16 1 [] [41, x1, 0] μ3) else none)) else none := (At_eq cr2 d 16 0 _ _ _).trans rfl
set_option maxRecDepth 20000 in
theorem B16_1 (d : Nat) (x1 x2 : Int) (μ : amM) : At cr2 d 16 1 [] [41, x1, x2] μ = (if 4 < (w32 (x1 + x2)) then At cr2 d 16 3 [] [0, 0, 0] μ else bnd (RD cr2 d 17 [41, 0, x2] μ) (fun v1 μ1 => wf 41 5 μ1 v1 (fun μ2 => (if (μ2 41 5) = (-1) then At cr2 d 16 2 [] [41, x1, x2] μ2 else some ((w32 (x1 + x2)), μ2))))) := (At_eq cr2 d 16 1 _ _ _).trans rfl
set_option maxRecDepth 20000 in
theorem B16_2 (d : Nat) (x1 x2 : Int) (μ : amM) : At cr2 d 16 2 [] [41, x1, x2] μ = At cr2 d 16 1 [] [41, x1, (w32 (x2 + 1))] μ := (At_eq cr2 d 16 2 _ _ _).trans rfl
set_option maxRecDepth 20000 in
theorem B16_3 (d : Nat) (μ : amM) : At cr2 d 16 3 [] [0, 0, 0] μ = some ((-1), μ) := (At_eq cr2 d 16 3 _ _ _).trans rfl
set_option maxRecDepth 20000 in
theorem B17_0 (d : Nat) (x1 x2 : Int) (μ : amM) : At cr2 d 17 0 [] [41, x1, x2, 0, 0, 0, 0, 0, 0, 0, 0] μ = rd 48 5 μ x1 (fun v1 => (if v1 = 0 then some (0, μ) else At cr2 d 17 1 [] [41, x1, x2, 0, 0, 0, 0, 0, 0, 0, 0] μ)) := (At_eq cr2 d 17 0 _ _ _).trans rfl
set_option maxRecDepth 20000 in
theorem B17_1 (d : Nat) (x1 x2 : Int) (μ : amM) : At cr2 d 17 1 [] [41, x1, x2, 0, 0, 0, 0, 0, 0, 0, 0] μ = (if 0 < x2 then (if x1 < 4 then bnd (RD cr2 d 20 [41, x1] μ) (fun v1 μ1 => (if x2 < v1 then At cr2 d 17 2 [] [0, 0, 0, 0, 0, 0, 0, 0, 0, 0, 0] μ1 else At cr2 d 17 3 [] [41, x1, x2, 0, 0, 0, 0, 0, 0, 0, 0] μ1)) else At cr2 d 17 2 [] [0, 0, 0, 0, 0, 0, 0, 0, 0, 0, 0] μ) else At cr2 d 17 2 [] [0, 0, 0, 0, 0, 0, 0, 0, 0, 0, 0] μ) := (At_eq cr2 d 17 1 _ _ _).trans rfl
set_option maxRecDepth 20000 in
theorem B17_2 (d : Nat) (μ : amM) : At cr2 d 17 2 [] [0, 0, 0, 0, 0, 0, 0, 0, 0, 0, 0] μ = some ((-1), μ) := (At_eq cr2 d 17 2 _ _ _).trans rfl
set_option maxRecDepth 20000 in
theorem B17_3 (d : Nat) (x1 x2 : Int) (μ : amM) : At cr2 d 17 3 [] [41, x1, x2, 0, 0, 0, 0, 0, 0, 0, 0] μ = amQld cr2 25 μ 42 x1 (fun v1 => amAld μ v1 0 (fun v2 => amQld cr2 25 μ 42 x1 (fun v3 => amAld μ v3 0 (fun v4 => rd 49 64 μ (w32 (v2.tdiv 64)) (fun v5 => rd 49 64 μ (v4.tmod 64) (fun v6 => if μ 41 4 = 2 then rd 5 64 μ (w32 (v2.tdiv 64)) (fun v7 => if μ 41 4 = 2 then rd 5 64 μ (v4.tmod 64) (fun v8 => bnd (RD cr2 d 21 [v7, v8] μ) (fun v9 μ1 => bnd (RD cr2 d 265 [v9] μ1) (fun v10 μ2 => if μ2 41 4 = 2 then (if v10 < (μ2 2 11) then At cr2 d 17 5 [(bXor v9 (-1))] [41, x1, x2, (w32 (v2.tdiv 64)), (v4.tmod 64), v5, v6, 0, 0, 0, 0] μ2 else At cr2 d 17 4 [] [41, x1, x2, (w32 (v2.tdiv 64)), (v4.tmod 64), v5, v6, v9, 0, 0, 0] μ2) else none))) else none) else none)))))) := (At_eq cr2 d 17 3 _ _ _).trans rfl
set_option maxRecDepth 20000 in
theorem B17_4 (d : Nat) (x1 x2 x3 x4 x5 x6 x7 : Int) (μ : amM) : At cr2 d 17 4 [] [41, x1, x2, x3, x4, x5, x6, x7, 0, 0, 0] μ = At cr2 d 17 5 [x7] [41, x1, x2, x3, x4, x5, x6, 0, 0, 0, 0] μ := (At_eq cr2 d 17 4 _ _ _).trans rfl
set_option maxRecDepth 20000 in
theorem B17_5 (d : Nat) (s0 x1 x2 x3 x4 x5 x6 : Int) (μ : amM) : At cr2 d 17 5 [s0] [41, x1, x2, x3, x4, x5, x6, 0, 0, 0, 0] μ = At cr2 d 17 6 [] [41, x1, x2, x3, x4, x5, x6, 0, s0, (-1), 0] μ := (At_eq cr2 d 17 5 _ _ _).trans rfl
set_option maxRecDepth 20000 in
theorem B17_6 (d : Nat) (x1 x2 x3 x4 x5 x6 x8 x9 x10 : Int) (μ : amM) : At cr2 d 17 6 [] [41, x1, x2, x3, x4, x5, x6, 0, x8, x9, x10] μ = (if x10 < 4 then (if (bAnd (bShr x8 x10) 1) = 0 then At cr2 d 17 7 [] [41, x1, x2, x3, x4, x5, x6, 0, x8, x9, x10] μ else bnd (RD cr2 d 18 [41, x3, x10, x1, x2] μ) (fun v1 μ1 => bnd (RD cr2 d 22 [x9, v1] μ1) (fun v2 μ2 => bnd (RD cr2 d 18 [41, x4, x10, x1, x2] μ2) (fun v3 μ3 => bnd (RD cr2 d 22 [v2, v3] μ3) (fun v4 μ4 => At cr2 d 17 7 [] [41, x1, x2, x3, x4, x5, x6, 0, x8, v4, x10] μ4))))) else At cr2 d 17 8 [] [41, 0, 0, x3, x4, x5, x6, 0, 0, x9, 0] μ) := (At_eq cr2 d 17 6 _ _ _).trans rfl
set_option maxRecDepth 20000 in
theorem B17_7 (d : Nat) (x1 x2 x3 x4 x5 x6 x8 x9 x10 : Int) (μ : amM) : At cr2 d 17 7 [] [41, x1, x2, x3, x4, x5, x6, 0, x8, x9, x10] μ = At cr2 d 17 6 [] [41, x1, x2, x3, x4, x5, x6, 0, x8, x9, (w32 (x10 + 1))] μ := (At_eq cr2 d 17 7 _ _ _).trans rfl
set_option maxRecDepth 20000 in
theorem B17_8 (d : Nat) (x3 x4 x5 x6 x9 : Int) (μ : amM) : At cr2 d 17 8 [] [41, 0, 0, x3, x4, x5, x6, 0, 0, x9, 0] μ = wr 49 64 μ x3 x5 (fun μ1 => wr 49 64 μ1 x4 x6 (fun μ2 => some (x9, μ2))) := (At_eq cr2 d 17 8 _ _ _).trans rfl
set_option maxRecDepth 20000 in
theorem B18_0 (d : Nat) (x1 x2 x3 x4 : Int) (μ : amM) : At cr2 d 18 0 [] [41, x1, x2, x3, x4, 0, 0, 0] μ = rd 49 64 μ x1 (fun v1 => (if (bAnd (bShr v1 x2) 1) = 0 then At cr2 d 18 1 [] [41, x1, x2, x3, x4, 0, 0, 0] μ else some ((-1), μ))) := (At_eq cr2 d 18 0 _ _ _).trans rfl
set_option maxRecDepth 20000 in
theorem B18_1 (d : Nat) (x1 x2 x3 x4 : Int) (μ : amM) : At cr2 d 18 1 [] [41, x1, x2, x3, x4, 0, 0, 0] μ = rd 49 64 μ x1 (fun v1 => wr 49 64 μ x1 (bOr v1 (bShl 1 x2)) (fun μ1 => if μ1 41 4 = 2 then rd 5 64 μ1 x1 (fun v2 => At cr2 d 18 2 [] [41, x1, x2, x3, x4, v2, (-1), 0] μ1) else none)) := (At_eq cr2 d 18 1 _ _ _).trans rfl
set_option maxRecDepth 20000 in
theorem B18_2 (d : Nat) (x1 x2 x3 x4 x5 x6 x7 : Int) (μ : amM) : At cr2 d 18 2 [] [41, x1, x2, x3, x4, x5, x6, x7] μ = (if x7 < 3 then bnd (RD cr2 d 7 [x5, x2] μ) (fun v1 μ1 => (if x7 = v1 then At cr2 d 18 3 [] [41, x1, x2, x3, x4, x5, x6, x7] μ1 else if μ1 41 4 = 2 then bnd (RD cr2 d 8 [x5, x2, x7] μ1) (fun v2 μ2 => wr 5 64 μ2 x1 v2 (fun μ3 => bnd (RD cr2 d 19 [41, x3, x1] μ3) (fun _ μ4 => bnd (RD cr2 d 17 [41, (w32 (x3 + 1)), (w32 (x4 - 1))] μ4) (fun v3 μ5 => bnd (RD cr2 d 22 [x6, v3] μ5) (fun v4 μ6 => At cr2 d 18 3 [] [41, x1, x2, x3, x4, x5, v4, x7] μ6))))) else none)) else At cr2 d 18 4 [] [41, x1, x2, 0, 0, x5, x6, 0] μ) := (At_eq cr2 d 18 2 _ _ _).trans rfl
set_option maxRecDepth 20000 in
theorem B18_3 (d : Nat) (x1 x2 x3 x4 x5 x6 x7 : Int) (μ : amM) : At cr2 d 18 3 [] [41, x1, x2, x3, x4, x5, x6, x7] μ = At cr2 d 18 2 [] [41, x1, x2, x3, x4, x5, x6, (w32 (x7 + 1))] μ := (At_eq cr2 d 18 3 _ _ _).trans rfl
set_option maxRecDepth 20000 in
theorem B18_4 (d : Nat) (x1 x2 x5 x6 : Int) (μ : amM) : At cr2 d 18 4 [] [41, x1, x2, 0, 0, x5, x6, 0] μ = if μ 41 4 = 2 then wr 5 64 μ x1 x5 (fun μ1 => (if x6 = (-1) then At cr2 d 18 6 [(-1)] [0, 0, 0, 0, 0, 0, 0, 0] μ1 else At cr2 d 18 5 [] [41, x1, x2, 0, 0, 0, x6, 0] μ1)) else none := (At_eq cr2 d 18 4 _ _ _).trans rfl
set_option maxRecDepth 20000 in
theorem B18_5 (d : Nat) (x1 x2 x6 : Int) (μ : amM) : At cr2 d 18 5 [] [41, x1, x2, 0, 0, 0, x6, 0] μ = if μ 41 3 = 1 then bnd (RD cr2 d 44 [1, x1, x2] μ) (fun v1 μ1 => At cr2 d 18 6 [(w32 (x6 + v1))] [0, 0, 0, 0, 0, 0, 0, 0] μ1) else none := (At_eq cr2 d 18 5 _ _ _).trans rfl
set_option maxRecDepth 20000 in
theorem B18_6 (d : Nat) (s0 : Int) (μ : amM) : At cr2 d 18 6 [s0] [0, 0, 0, 0, 0, 0, 0, 0] μ = some (s0, μ) := (At_eq cr2 d 18 6 _ _ _).trans rfl
set_option maxRecDepth 20000 in
theorem B19_0 (d : Nat) (x1 x2 : Int) (μ : amM) : At cr2 d 19 0 [] [41, x1, x2, 0, 0, 0, 0, 0] μ = amQld cr2 25 μ 42 x1 (fun v1 => amQld cr2 25 μ 42 (w32 (x1 + 1)) (fun v2 => At cr2 d 19 1 [] [41, x1, x2, v1, v2, 0, 0, 0] μ)) := (At_eq cr2 d 19 0 _ _ _).trans rfl
set_option maxRecDepth 20000 in
theorem B19_1 (d : Nat) (x1 x2 x3 x4 x5 x6 : Int) (μ : amM) : At cr2 d 19 1 [] [41, x1, x2, x3, x4, x5, x6, 0] μ = rd 48 5 μ x1 (fun v1 => (if x6 < v1 then amAld μ x3 x6 (fun v2 => (if (w32 (v2.tdiv 64)) = x2 then At cr2 d 19 2 [] [41, x1, x2, x3, x4, x5, x6, 0] μ else amAld μ x3 x6 (fun v3 => (if (v3.tmod 64) = x2 then At cr2 d 19 2 [] [41, x1, x2, x3, x4, x5, x6, 0] μ else amAld μ x3 x6 (fun v4 => amPst 20 μ x4 x5 v4 (fun μ1 => At cr2 d 19 2 [] [41, x1, x2, x3, x4, (w32 (x5 + 1)), x6, 0] μ1)))))) else At cr2 d 19 3 [] [41, x1, x2, 0, x4, x5, 0, 0] μ)) := (At_eq cr2 d 19 1 _ _ _).trans rfl
set_option maxRecDepth 20000 in
theorem B19_2 (d : Nat) (x1 x2 x3 x4 x5 x6 : Int) (μ : amM) : At cr2 d 19 2 [] [41, x1, x2, x3, x4, x5, x6, 0] μ = At cr2 d 19 1 [] [41, x1, x2, x3, x4, x5, (w32 (x6 + 1)), 0] μ := (At_eq cr2 d 19 2 _ _ _).trans rfl
set_option maxRecDepth 20000 in
theorem B19_3 (d : Nat) (x1 x2 x4 x5 : Int) (μ : amM) : At cr2 d 19 3 [] [41, x1, x2, 0, x4, x5, 0, 0] μ = At cr2 d 19 4 [] [41, x1, x2, 0, x4, x5, 0, 0] μ := (At_eq cr2 d 19 3 _ _ _).trans rfl
set_option maxRecDepth 20000 in
theorem B19_4 (d : Nat) (x1 x2 x4 x5 x6 : Int) (μ : amM) : At cr2 d 19 4 [] [41, x1, x2, 0, x4, x5, x6, 0] μ = if μ 41 4 = 2 then rd 7 64 μ x2 (fun v1 => (if x6 < v1 then if μ 41 4 = 2 then rd 6 256 μ (w32 ((w32 (x2 * 4)) + x6)) (fun v2 => (if x5 < 128 then if μ 41 4 = 2 then bnd (RD cr2 d 73 [2, x2, v2] μ) (fun v3 μ1 => (if v3 = 0 then At cr2 d 19 5 [] [41, x1, x2, 0, x4, x5, x6, 0] μ1 else amPst 20 μ1 x4 x5 (w32 ((w32 (64 * x2)) + v2)) (fun μ2 => At cr2 d 19 5 [] [41, x1, x2, 0, x4, (w32 (x5 + 1)), x6, 0] μ2))) else none else At cr2 d 19 5 [] [41, x1, x2, 0, x4, x5, x6, 0] μ)) else none else At cr2 d 19 6 [] [41, x1, 0, 0, 0, x5, 0, 0] μ)) else none := (At_eq cr2 d 19 4 _ _ _).trans rfl
set_option maxRecDepth 20000 in
theorem B19_5 (d : Nat) (x1 x2 x4 x5 x6 : Int) (μ : amM) : At cr2 d 19 5 [] [41, x1, x2, 0, x4, x5, x6, 0] μ = At cr2 d 19 4 [] [41, x1, x2, 0, x4, x5, (w32 (x6 + 1)), 0] μ := (At_eq cr2 d 19 5 _ _ _).trans rfl
set_option maxRecDepth 20000 in
theorem B19_6 (d : Nat) (x1 x5 : Int) (μ : amM) : At cr2 d 19 6 [] [41, x1, 0, 0, 0, x5, 0, 0] μ = wr 48 5 μ (w32 (x1 + 1)) x5 (fun μ1 => some (0, μ1)) := (At_eq cr2 d 19 6 _ _ _).trans rfl
set_option maxRecDepth 20000 in
theorem B20_0 (d : Nat) (x1 : Int) (μ : amM) : At cr2 d 20 0 [] [41, x1, 0, 0, 0, 0, 0, 0, 0, 0, 0, 0] μ = rd 48 5 μ x1 (fun v1 => At cr2 d 20 1 [] [41, x1, (w32 ((w32 ((w32 (v1 + 4)) - 1)).tdiv 4)), 0, 0, 0, 0, 0, 0, 0, 0, 0] μ) := (At_eq cr2 d 20 0 _ _ _).trans rfl
set_option maxRecDepth 20000 in
theorem B20_1 (d : Nat) (x1 x2 x3 x4 x6 : Int) (μ : amM) : At cr2 d 20 1 [] [41, x1, x2, x3, x4, 0, x6, 0, 0, 0, 0, 0] μ = rd 48 5 μ x1 (fun v1 => (if x6 < v1 then amQld cr2 25 μ 42 x1 (fun v2 => amAld μ v2 x6 (fun v3 => amQld cr2 25 μ 42 x1 (fun v4 => amAld μ v4 x6 (fun v5 => (if (if (lAnd x4 (lOr (lShl 1 (w32 (v3.tdiv 64))) (lShl 1 (v5.tmod 64)))) < 0 then (-1) else if (lAnd x4 (lOr (lShl 1 (w32 (v3.tdiv 64))) (lShl 1 (v5.tmod 64)))) = 0 then 0 else 1) = 0 then if μ 41 4 = 2 then rd 5 64 μ (w32 (v3.tdiv 64)) (fun v6 => if μ 41 4 = 2 then rd 5 64 μ (v5.tmod 64) (fun v7 => bnd (RD cr2 d 11 [v6, v7] μ) (fun v8 μ1 => if μ1 41 4 = 2 then if μ1 41 4 = 2 then At cr2 d 20 2 [] [41, x1, x2, (w32 (x3 + (jmax (w32 ((μ1 2 11) - v8)) (w32 (v8 - (μ1 2 12)))))), (lOr x4 (lOr (lShl 1 (w32 (v3.tdiv 64))) (lShl 1 (v5.tmod 64)))), 0, x6, 0, 0, 0, 0, 0] μ1 else none else none)) else none) else none else At cr2 d 20 2 [] [41, x1, x2, x3, x4, 0, x6, 0, 0, 0, 0, 0] μ))))) else At cr2 d 20 3 [] [0, 0, x2, x3, 0, 0, 0, 0, 0, 0, 0, 0] μ)) := (At_eq cr2 d 20 1 _ _ _).trans rfl
set_option maxRecDepth 20000 in
theorem B20_2 (d : Nat) (x1 x2 x3 x4 x6 : Int) (μ : amM) : At cr2 d 20 2 [] [41, x1, x2, x3, x4, 0, x6, 0, 0, 0, 0, 0] μ = At cr2 d 20 1 [] [41, x1, x2, x3, x4, 0, (w32 (x6 + 1)), 0, 0, 0, 0, 0] μ := (At_eq cr2 d 20 2 _ _ _).trans rfl
set_option maxRecDepth 20000 in
theorem B20_3 (d : Nat) (x2 x3 : Int) (μ : amM) : At cr2 d 20 3 [] [0, 0, x2, x3, 0, 0, 0, 0, 0, 0, 0, 0] μ = some ((jmax x2 x3), μ) := (At_eq cr2 d 20 3 _ _ _).trans rfl
set_option maxRecDepth 20000 in
theorem B21_0 (d : Nat) (x0 x1 : Int) (μ : amM) : At cr2 d 21 0 [] [x0, x1, 0, 0, 0] μ = At cr2 d 21 1 [] [x0, x1, 0, 0, 0] μ := (At_eq cr2 d 21 0 _ _ _).trans rfl
set_option maxRecDepth 20000 in
theorem B21_1 (d : Nat) (x0 x1 x2 x3 : Int) (μ : amM) : At cr2 d 21 1 [] [x0, x1, x2, x3, 0] μ = (if x3 < 4 then bnd (RD cr2 d 7 [x0, x3] μ) (fun v1 μ1 => (if v1 = 3 then At cr2 d 21 2 [] [x0, x1, x2, x3, 0] μ1 else bnd (RD cr2 d 7 [x1, x3] μ1) (fun v2 μ2 => (if v1 = v2 then At cr2 d 21 2 [] [x0, x1, (bOr x2 (bShl 1 x3)), x3, 0] μ2 else At cr2 d 21 2 [] [x0, x1, x2, x3, 0] μ2)))) else At cr2 d 21 3 [] [0, 0, x2, 0, 0] μ) := (At_eq cr2 d 21 1 _ _ _).trans rfl
set_option maxRecDepth 20000 in
theorem B21_2 (d : Nat) (x0 x1 x2 x3 : Int) (μ : amM) : At cr2 d 21 2 [] [x0, x1, x2, x3, 0] μ = At cr2 d 21 1 [] [x0, x1, x2, (w32 (x3 + 1)), 0] μ := (At_eq cr2 d 21 2 _ _ _).trans rfl
set_option maxRecDepth 20000 in
theorem B21_3 (d : Nat) (x2 : Int) (μ : amM) : At cr2 d 21 3 [] [0, 0, x2, 0, 0] μ = some (x2, μ) := (At_eq cr2 d 21 3 _ _ _).trans rfl
set_option maxRecDepth 20000 in
theorem B22_0 (d : Nat) (x0 x1 : Int) (μ : amM) : At cr2 d 22 0 [] [x0, x1] μ = (if x0 = (-1) then At cr2 d 22 1 [] [x0, x1] μ else (if x1 = (-1) then At cr2 d 22 1 [] [x0, x1] μ else At cr2 d 22 2 [] [x0, x1] μ)) := (At_eq cr2 d 22 0 _ _ _).trans rfl
set_option maxRecDepth 20000 in
theorem B22_1 (d : Nat) (x0 x1 : Int) (μ : amM) : At cr2 d 22 1 [] [x0, x1] μ = some ((jmax x0 x1), μ) := (At_eq cr2 d 22 1 _ _ _).trans rfl
set_option maxRecDepth 20000 in
theorem B22_2 (d : Nat) (x0 x1 : Int) (μ : amM) : At cr2 d 22 2 [] [x0, x1] μ = some ((jmin x0 x1), μ) := (At_eq cr2 d 22 2 _ _ _).trans rfl
set_option maxRecDepth 20000 in
theorem B24_0 (d : Nat) (x2 x3 : Int) (μ : amM) : At cr2 d 24 0 [] [37, 11, x2, x3] μ = wf 37 1 μ 11 (fun μ1 => wf 37 2 μ1 x2 (fun μ2 => wf 37 4 μ2 x3 (fun μ3 => wf 37 3 μ3 0 (fun μ4 => bnd (RD cr2 d 55 [38] μ4) (fun _ μ5 => bnd (RD cr2 d 26 [37, 0, 0] μ5) (fun v1 μ6 => (if v1 = 0 then At cr2 d 24 1 [] [37, 0, 0, 0] μ6 else (if (μ6 37 3) = (μ6 37 2) then At cr2 d 24 2 [(-1)] [0, 0, 0, 0] μ6 else At cr2 d 24 1 [] [37, 0, 0, 0] μ6)))))))) := (At_eq cr2 d 24 0 _ _ _).trans rfl
set_option maxRecDepth 20000 in
theorem B24_1 (d : Nat) (μ : amM) : At cr2 d 24 1 [] [37, 0, 0, 0] μ = At cr2 d 24 2 [(μ 37 3)] [0, 0, 0, 0] μ := (At_eq cr2 d 24 1 _ _ _).trans rfl
set_option maxRecDepth 20000 in
theorem B24_2 (d : Nat) (s0 : Int) (μ : amM) : At cr2 d 24 2 [s0] [0, 0, 0, 0] μ = some (s0, μ) := (At_eq cr2 d 24 2 _ _ _).trans rfl
set_option maxRecDepth 20000 in
theorem B25_0 (d : Nat) (μ : amM) : At cr2 d 25 0 [] [37] μ = (if (μ 37 3) < (μ 37 2) then if μ 37 1 = 11 then rd 11 50 μ (μ 37 3) (fun v1 => At cr2 d 25 2 [v1] [0] μ) else none else At cr2 d 25 1 [] [0] μ) := (At_eq cr2 d 25 0 _ _ _).trans rfl
set_option maxRecDepth 20000 in
theorem B25_1 (d : Nat) (μ : amM) : At cr2 d 25 1 [] [0] μ = At cr2 d 25 2 [(-1)] [0] μ := (At_eq cr2 d 25 1 _ _ _).trans rfl
set_option maxRecDepth 20000 in
theorem B25_2 (d : Nat) (s0 : Int) (μ : amM) : At cr2 d 25 2 [s0] [0] μ = some (s0, μ) := (At_eq cr2 d 25 2 _ _ _).trans rfl
set_option maxRecDepth 20000 in
theorem B26_0 (d : Nat) (x1 x2 : Int) (μ : amM) : At cr2 d 26 0 [] [37, x1, x2, 0, 0, 0] μ = (if x1 < 5 then At cr2 d 26 1 [] [37, x1, x2, 0, 0, 0] μ else bnd (RD cr2 d 28 [37, x2] μ) (fun v1 μ1 => rb v1 μ1)) := (At_eq cr2 d 26 0 _ _ _).trans rfl
set_option maxRecDepth 20000 in
theorem B26_1 (d : Nat) (x1 x2 : Int) (μ : amM) : At cr2 d 26 1 [] [37, x1, x2, 0, 0, 0] μ = bnd (RD cr2 d 26 [37, (w32 (x1 + 1)), x2] μ) (fun v1 μ1 => (if v1 = 0 then some (0, μ1) else At cr2 d 26 2 [] [37, x1, x2, 0, 0, 0] μ1)) := (At_eq cr2 d 26 1 _ _ _).trans rfl
set_option maxRecDepth 20000 in
theorem B26_2 (d : Nat) (x1 x2 : Int) (μ : amM) : At cr2 d 26 2 [] [37, x1, x2, 0, 0, 0] μ = (if x1 = 2 then At cr2 d 26 4 [1] [37, x1, x2, 0, 0, 0] μ else At cr2 d 26 3 [] [37, x1, x2, 0, 0, 0] μ) := (At_eq cr2 d 26 2 _ _ _).trans rfl
set_option maxRecDepth 20000 in
theorem B26_3 (d : Nat) (x1 x2 : Int) (μ : amM) : At cr2 d 26 3 [] [37, x1, x2, 0, 0, 0] μ = At cr2 d 26 4 [50] [37, x1, x2, 0, 0, 0] μ := (At_eq cr2 d 26 3 _ _ _).trans rfl
set_option maxRecDepth 20000 in
theorem B26_4 (d : Nat) (s0 x1 x2 : Int) (μ : amM) : At cr2 d 26 4 [s0] [37, x1, x2, 0, 0, 0] μ = At cr2 d 26 5 [] [37, x1, x2, s0, 0, 0] μ := (At_eq cr2 d 26 4 _ _ _).trans rfl
set_option maxRecDepth 20000 in
theorem B26_5 (d : Nat) (x1 x2 x3 x4 : Int) (μ : amM) : At cr2 d 26 5 [] [37, x1, x2, x3, x4, 0] μ = (if x4 < x3 then bnd (RD cr2 d 25 [37] μ) (fun v1 μ1 => bnd (RD cr2 d 27 [x1, v1] μ1) (fun v2 μ2 => (if v2 = 0 then At cr2 d 26 7 [] [0, 0, 0, 0, 0, 0] μ2 else bnd (RD cr2 d 25 [37] μ2) (fun v3 μ3 => wf 37 3 μ3 (w32 ((μ3 37 3) + 1)) (fun μ4 => bnd (RD cr2 d 26 [37, (w32 (x1 + 1)), x2] μ4) (fun v4 μ5 => (if v4 = 0 then some (0, μ5) else At cr2 d 26 6 [] [37, x1, x2, x3, x4, v3] μ5))))))) else At cr2 d 26 7 [] [0, 0, 0, 0, 0, 0] μ) := (At_eq cr2 d 26 5 _ _ _).trans rfl
set_option maxRecDepth 20000 in
theorem B26_6 (d : Nat) (x1 x2 x3 x4 x5 : Int) (μ : amM) : At cr2 d 26 6 [] [37, x1, x2, x3, x4, x5] μ = bnd (RD cr2 d 56 [38, (w32 (20000 + x5))] μ) (fun _ μ1 => At cr2 d 26 5 [] [37, x1, x2, x3, (w32 (x4 + 1)), 0] μ1) := (At_eq cr2 d 26 6 _ _ _).trans rfl
set_option maxRecDepth 20000 in
theorem B26_7 (d : Nat) (μ : amM) : At cr2 d 26 7 [] [0, 0, 0, 0, 0, 0] μ = some (1, μ) := (At_eq cr2 d 26 7 _ _ _).trans rfl
set_option maxRecDepth 20000 in
theorem B27_0 (d : Nat) (x0 x1 : Int) (μ : amM) : At cr2 d 27 0 [] [x0, x1] μ = (if x0 = 0 then At cr2 d 27 1 [] [0, x1] μ else if x0 = 1 then At cr2 d 27 4 [] [0, x1] μ else if x0 = 2 then At cr2 d 27 7 [] [0, x1] μ else if x0 = 3 then At cr2 d 27 11 [] [0, x1] μ else At cr2 d 27 15 [] [0, x1] μ) := (At_eq cr2 d 27 0 _ _ _).trans rfl
set_option maxRecDepth 20000 in
theorem B27_1 (d : Nat) (x1 : Int) (μ : amM) : At cr2 d 27 1 [] [0, x1] μ = (if x1 = 124 then At cr2 d 27 3 [1] [0, 0] μ else At cr2 d 27 2 [] [0, 0] μ) := (At_eq cr2 d 27 1 _ _ _).trans rfl
set_option maxRecDepth 20000 in
theorem B27_2 (d : Nat) (μ : amM) : At cr2 d 27 2 [] [0, 0] μ = At cr2 d 27 3 [0] [0, 0] μ := (At_eq cr2 d 27 2 _ _ _).trans rfl
set_option maxRecDepth 20000 in
theorem B27_3 (d : Nat) (s0 : Int) (μ : amM) : At cr2 d 27 3 [s0] [0, 0] μ = rb s0 μ := (At_eq cr2 d 27 3 _ _ _).trans rfl
set_option maxRecDepth 20000 in
theorem B27_4 (d : Nat) (x1 : Int) (μ : amM) : At cr2 d 27 4 [] [0, x1] μ = (if x1 = 38 then At cr2 d 27 6 [1] [0, 0] μ else At cr2 d 27 5 [] [0, 0] μ) := (At_eq cr2 d 27 4 _ _ _).trans rfl
set_option maxRecDepth 20000 in
theorem B27_5 (d : Nat) (μ : amM) : At cr2 d 27 5 [] [0, 0] μ = At cr2 d 27 6 [0] [0, 0] μ := (At_eq cr2 d 27 5 _ _ _).trans rfl
set_option maxRecDepth 20000 in
theorem B27_6 (d : Nat) (s0 : Int) (μ : amM) : At cr2 d 27 6 [s0] [0, 0] μ = rb s0 μ := (At_eq cr2 d 27 6 _ _ _).trans rfl
set_option maxRecDepth 20000 in
theorem B27_7 (d : Nat) (x1 : Int) (μ : amM) : At cr2 d 27 7 [] [0, x1] μ = (if x1 = 60 then At cr2 d 27 8 [] [0, 0] μ else (if x1 = 61 then At cr2 d 27 8 [] [0, 0] μ else (if x1 = 62 then At cr2 d 27 8 [] [0, 0] μ else At cr2 d 27 9 [] [0, 0] μ))) := (At_eq cr2 d 27 7 _ _ _).trans rfl
set_option maxRecDepth 20000 in
theorem B27_8 (d : Nat) (μ : amM) : At cr2 d 27 8 [] [0, 0] μ = At cr2 d 27 10 [1] [0, 0] μ := (At_eq cr2 d 27 8 _ _ _).trans rfl
set_option maxRecDepth 20000 in
theorem B27_9 (d : Nat) (μ : amM) : At cr2 d 27 9 [] [0, 0] μ = At cr2 d 27 10 [0] [0, 0] μ := (At_eq cr2 d 27 9 _ _ _).trans rfl
set_option maxRecDepth 20000 in
theorem B27_10 (d : Nat) (s0 : Int) (μ : amM) : At cr2 d 27 10 [s0] [0, 0] μ = rb s0 μ := (At_eq cr2 d 27 10 _ _ _).trans rfl
set_option maxRecDepth 20000 in
theorem B27_11 (d : Nat) (x1 : Int) (μ : amM) : At cr2 d 27 11 [] [0, x1] μ = (if x1 = 43 then At cr2 d 27 12 [] [0, 0] μ else (if x1 = 45 then At cr2 d 27 12 [] [0, 0] μ else At cr2 d 27 13 [] [0, 0] μ)) := (At_eq cr2 d 27 11 _ _ _).trans rfl
set_option maxRecDepth 20000 in
theorem B27_12 (d : Nat) (μ : amM) : At cr2 d 27 12 [] [0, 0] μ = At cr2 d 27 14 [1] [0, 0] μ := (At_eq cr2 d 27 12 _ _ _).trans rfl
set_option maxRecDepth 20000 in
theorem B27_13 (d : Nat) (μ : amM) : At cr2 d 27 13 [] [0, 0] μ = At cr2 d 27 14 [0] [0, 0] μ := (At_eq cr2 d 27 13 _ _ _).trans rfl
set_option maxRecDepth 20000 in
theorem B27_14 (d : Nat) (s0 : Int) (μ : amM) : At cr2 d 27 14 [s0] [0, 0] μ = rb s0 μ := (At_eq cr2 d 27 14 _ _ _).trans rfl
set_option maxRecDepth 20000 in
theorem B27_15 (d : Nat) (x1 : Int) (μ : amM) : At cr2 d 27 15 [] [0, x1] μ = (if x1 = 42 then At cr2 d 27 16 [] [0, 0] μ else (if x1 = 47 then At cr2 d 27 16 [] [0, 0] μ else (if x1 = 37 then At cr2 d 27 16 [] [0, 0] μ else At cr2 d 27 17 [] [0, 0] μ))) := (At_eq cr2 d 27 15 _ _ _).trans rfl
set_option maxRecDepth 20000 in
theorem B27_16 (d : Nat) (μ : amM) : At cr2 d 27 16 [] [0, 0] μ = At cr2 d 27 18 [1] [0, 0] μ := (At_eq cr2 d 27 16 _ _ _).trans rfl
set_option maxRecDepth 20000 in
theorem B27_17 (d : Nat) (μ : amM) : At cr2 d 27 17 [] [0, 0] μ = At cr2 d 27 18 [0] [0, 0] μ := (At_eq cr2 d 27 17 _ _ _).trans rfl
set_option maxRecDepth 20000 in
theorem B27_18 (d : Nat) (s0 : Int) (μ : amM) : At cr2 d 27 18 [s0] [0, 0] μ = rb s0 μ := (At_eq cr2 d 27 18 _ _ _).trans rfl
set_option maxRecDepth 20000 in
theorem B28_0 (d : Nat) (x1 : Int) (μ : amM) : At cr2 d 28 0 [] [37, x1, 0, 0] μ = bnd (RD cr2 d 25 [37] μ) (fun v1 μ1 => bnd (RD cr2 d 32 [v1] μ1) (fun v2 μ2 => (if v2 = 0 then At cr2 d 28 1 [] [37, x1, v1, 0] μ2 else bnd (RD cr2 d 31 [37] μ2) (fun _ μ3 => some (1, μ3))))) := (At_eq cr2 d 28 0 _ _ _).trans rfl
set_option maxRecDepth 20000 in
theorem B28_1 (d : Nat) (x1 x2 : Int) (μ : amM) : At cr2 d 28 1 [] [37, x1, x2, 0] μ = bnd (RD cr2 d 33 [37, x2] μ) (fun v1 μ1 => (if v1 = (-1) then At cr2 d 28 2 [] [37, x1, x2, 0] μ1 else bnd (RD cr2 d 56 [38, (w32 (10000 + v1))] μ1) (fun _ μ2 => wf 37 3 μ2 (w32 ((μ2 37 3) + 1)) (fun μ3 => some (1, μ3))))) := (At_eq cr2 d 28 1 _ _ _).trans rfl
set_option maxRecDepth 20000 in
theorem B28_2 (d : Nat) (x1 x2 : Int) (μ : amM) : At cr2 d 28 2 [] [37, x1, x2, 0] μ = (if x2 = 33 then At cr2 d 28 3 [] [37, x1, x2, 0] μ else (if x2 = 40 then At cr2 d 28 3 [] [37, x1, x2, 0] μ else At cr2 d 28 4 [] [0, 0, 0, 0] μ)) := (At_eq cr2 d 28 2 _ _ _).trans rfl
set_option maxRecDepth 20000 in
theorem B28_3 (d : Nat) (x1 x2 : Int) (μ : amM) : At cr2 d 28 3 [] [37, x1, x2, 0] μ = (if x1 < 5 then At cr2 d 28 5 [] [37, x1, x2, 0] μ else At cr2 d 28 4 [] [0, 0, 0, 0] μ) := (At_eq cr2 d 28 3 _ _ _).trans rfl
set_option maxRecDepth 20000 in
theorem B28_4 (d : Nat) (μ : amM) : At cr2 d 28 4 [] [0, 0, 0, 0] μ = some (0, μ) := (At_eq cr2 d 28 4 _ _ _).trans rfl
set_option maxRecDepth 20000 in
theorem B28_5 (d : Nat) (x1 x2 : Int) (μ : amM) : At cr2 d 28 5 [] [37, x1, x2, 0] μ = wf 37 3 μ (w32 ((μ 37 3) + 1)) (fun μ1 => (if x2 = 33 then bnd (RD cr2 d 29 [37, (w32 (x1 + 1))] μ1) (fun v1 μ2 => At cr2 d 28 7 [v1] [0, 0, 0, 0] μ2) else At cr2 d 28 6 [] [37, x1, 0, 0] μ1)) := (At_eq cr2 d 28 5 _ _ _).trans rfl
set_option maxRecDepth 20000 in
theorem B28_6 (d : Nat) (x1 : Int) (μ : amM) : At cr2 d 28 6 [] [37, x1, 0, 0] μ = bnd (RD cr2 d 30 [37, (w32 (x1 + 1))] μ) (fun v1 μ1 => At cr2 d 28 7 [v1] [0, 0, 0, 0] μ1) := (At_eq cr2 d 28 6 _ _ _).trans rfl
set_option maxRecDepth 20000 in
theorem B28_7 (d : Nat) (s0 : Int) (μ : amM) : At cr2 d 28 7 [s0] [0, 0, 0, 0] μ = rb s0 μ := (At_eq cr2 d 28 7 _ _ _).trans rfl
set_option maxRecDepth 20000 in
theorem B29_0 (d : Nat) (x1 : Int) (μ : amM) : At cr2 d 29 0 [] [37, x1] μ = bnd (RD cr2 d 28 [37, x1] μ) (fun v1 μ1 => (if v1 = 0 then some (0, μ1) else At cr2 d 29 1 [] [37, 0] μ1)) := (At_eq cr2 d 29 0 _ _ _).trans rfl
set_option maxRecDepth 20000 in
theorem B29_1 (d : Nat) (μ : amM) : At cr2 d 29 1 [] [37, 0] μ = bnd (RD cr2 d 56 [38, 20033] μ) (fun _ μ1 => some (1, μ1)) := (At_eq cr2 d 29 1 _ _ _).trans rfl
set_option maxRecDepth 20000 in
theorem B30_0 (d : Nat) (x1 : Int) (μ : amM) : At cr2 d 30 0 [] [37, x1] μ = bnd (RD cr2 d 26 [37, 0, x1] μ) (fun v1 μ1 => (if v1 = 0 then At cr2 d 30 1 [] [0, 0] μ1 else bnd (RD cr2 d 25 [37] μ1) (fun v2 μ2 => (if v2 = 41 then At cr2 d 30 2 [] [37, 0] μ2 else At cr2 d 30 1 [] [0, 0] μ2)))) := (At_eq cr2 d 30 0 _ _ _).trans rfl
set_option maxRecDepth 20000 in
theorem B30_1 (d : Nat) (μ : amM) : At cr2 d 30 1 [] [0, 0] μ = some (0, μ) := (At_eq cr2 d 30 1 _ _ _).trans rfl
set_option maxRecDepth 20000 in
theorem B30_2 (d : Nat) (μ : amM) : At cr2 d 30 2 [] [37, 0] μ = wf 37 3 μ (w32 ((μ 37 3) + 1)) (fun μ1 => some (1, μ1)) := (At_eq cr2 d 30 2 _ _ _).trans rfl
set_option maxRecDepth 20000 in
theorem B31_0 (d : Nat) (μ : amM) : At cr2 d 31 0 [] [37, 0, 0] μ = At cr2 d 31 1 [] [37, 0, 0] μ := (At_eq cr2 d 31 0 _ _ _).trans rfl
set_option maxRecDepth 20000 in
theorem B31_1 (d : Nat) (x1 x2 : Int) (μ : amM) : At cr2 d 31 1 [] [37, x1, x2] μ = (if x2 < 4 then bnd (RD cr2 d 25 [37] μ) (fun v1 μ1 => bnd (RD cr2 d 32 [v1] μ1) (fun v2 μ2 => (if v2 = 0 then At cr2 d 31 2 [] [37, x1, 0] μ2 else bnd (RD cr2 d 25 [37] μ2) (fun v3 μ3 => wf 37 3 μ3 (w32 ((μ3 37 3) + 1)) (fun μ4 => At cr2 d 31 1 [] [37, (w32 ((w32 ((w32 (10 * x1)) + v3)) - 48)), (w32 (x2 + 1))] μ4))))) else At cr2 d 31 2 [] [37, x1, 0] μ) := (At_eq cr2 d 31 1 _ _ _).trans rfl
set_option maxRecDepth 20000 in
theorem B31_2 (d : Nat) (x1 : Int) (μ : amM) : At cr2 d 31 2 [] [37, x1, 0] μ = bnd (RD cr2 d 56 [38, x1] μ) (fun _ μ1 => some (0, μ1)) := (At_eq cr2 d 31 2 _ _ _).trans rfl
set_option maxRecDepth 20000 in
theorem B32_0 (d : Nat) (x0 : Int) (μ : amM) : At cr2 d 32 0 [] [x0] μ = (if x0 < 48 then At cr2 d 32 1 [] [0] μ else (if 57 < x0 then At cr2 d 32 1 [] [0] μ else At cr2 d 32 2 [1] [0] μ)) := (At_eq cr2 d 32 0 _ _ _).trans rfl
set_option maxRecDepth 20000 in
theorem B32_1 (d : Nat) (μ : amM) : At cr2 d 32 1 [] [0] μ = At cr2 d 32 2 [0] [0] μ := (At_eq cr2 d 32 1 _ _ _).trans rfl
set_option maxRecDepth 20000 in
theorem B32_2 (d : Nat) (s0 : Int) (μ : amM) : At cr2 d 32 2 [s0] [0] μ = rb s0 μ := (At_eq cr2 d 32 2 _ _ _).trans rfl
set_option maxRecDepth 20000 in
theorem B33_0 (d : Nat) (x1 : Int) (μ : amM) : At cr2 d 33 0 [] [37, x1] μ = (if x1 = 99 then At cr2 d 33 7 [] [37, 0] μ else if x1 = 100 then At cr2 d 33 13 [] [37, 0] μ else if x1 = 101 then At cr2 d 33 19 [] [0, 0] μ else if x1 = 102 then At cr2 d 33 19 [] [0, 0] μ else if x1 = 103 then At cr2 d 33 19 [] [0, 0] μ else if x1 = 104 then At cr2 d 33 19 [] [0, 0] μ else if x1 = 105 then At cr2 d 33 19 [] [0, 0] μ else if x1 = 106 then At cr2 d 33 19 [] [0, 0] μ else if x1 = 107 then At cr2 d 33 1 [] [37, 0] μ else if x1 = 108 then At cr2 d 33 19 [] [0, 0] μ else if x1 = 109 then At cr2 d 33 4 [] [37, 0] μ else if x1 = 110 then At cr2 d 33 19 [] [0, 0] μ else if x1 = 111 then At cr2 d 33 19 [] [0, 0] μ else if x1 = 112 then At cr2 d 33 19 [] [0, 0] μ else if x1 = 113 then At cr2 d 33 19 [] [0, 0] μ else if x1 = 114 then At cr2 d 33 10 [] [37, 0] μ else if x1 = 115 then At cr2 d 33 19 [] [0, 0] μ else if x1 = 116 then At cr2 d 33 19 [] [0, 0] μ else if x1 = 117 then At cr2 d 33 19 [] [0, 0] μ else if x1 = 118 then At cr2 d 33 16 [] [37, 0] μ else At cr2 d 33 19 [] [0, 0] μ) := (At_eq cr2 d 33 0 _ _ _).trans rfl
set_option maxRecDepth 20000 in
theorem B33_1 (d : Nat) (μ : amM) : At cr2 d 33 1 [] [37, 0] μ = (if (μ 37 4) = 0 then At cr2 d 33 3 [0] [0, 0] μ else At cr2 d 33 2 [] [0, 0] μ) := (At_eq cr2 d 33 1 _ _ _).trans rfl
set_option maxRecDepth 20000 in
theorem B33_2 (d : Nat) (μ : amM) : At cr2 d 33 2 [] [0, 0] μ = At cr2 d 33 3 [(-1)] [0, 0] μ := (At_eq cr2 d 33 2 _ _ _).trans rfl
set_option maxRecDepth 20000 in
theorem B33_3 (d : Nat) (s0 : Int) (μ : amM) : At cr2 d 33 3 [s0] [0, 0] μ = some (s0, μ) := (At_eq cr2 d 33 3 _ _ _).trans rfl
set_option maxRecDepth 20000 in
theorem B33_4 (d : Nat) (μ : amM) : At cr2 d 33 4 [] [37, 0] μ = (if (μ 37 4) = 0 then At cr2 d 33 6 [1] [0, 0] μ else At cr2 d 33 5 [] [0, 0] μ) := (At_eq cr2 d 33 4 _ _ _).trans rfl
set_option maxRecDepth 20000 in
theorem B33_5 (d : Nat) (μ : amM) : At cr2 d 33 5 [] [0, 0] μ = At cr2 d 33 6 [(-1)] [0, 0] μ := (At_eq cr2 d 33 5 _ _ _).trans rfl
set_option maxRecDepth 20000 in
theorem B33_6 (d : Nat) (s0 : Int) (μ : amM) : At cr2 d 33 6 [s0] [0, 0] μ = some (s0, μ) := (At_eq cr2 d 33 6 _ _ _).trans rfl
set_option maxRecDepth 20000 in
theorem B33_7 (d : Nat) (μ : amM) : At cr2 d 33 7 [] [37, 0] μ = (if (μ 37 4) = 1 then At cr2 d 33 9 [0] [0, 0] μ else At cr2 d 33 8 [] [0, 0] μ) := (At_eq cr2 d 33 7 _ _ _).trans rfl
set_option maxRecDepth 20000 in
theorem B33_8 (d : Nat) (μ : amM) : At cr2 d 33 8 [] [0, 0] μ = At cr2 d 33 9 [(-1)] [0, 0] μ := (At_eq cr2 d 33 8 _ _ _).trans rfl
set_option maxRecDepth 20000 in
theorem B33_9 (d : Nat) (s0 : Int) (μ : amM) : At cr2 d 33 9 [s0] [0, 0] μ = some (s0, μ) := (At_eq cr2 d 33 9 _ _ _).trans rfl
set_option maxRecDepth 20000 in
theorem B33_10 (d : Nat) (μ : amM) : At cr2 d 33 10 [] [37, 0] μ = (if (μ 37 4) = 1 then At cr2 d 33 12 [1] [0, 0] μ else At cr2 d 33 11 [] [0, 0] μ) := (At_eq cr2 d 33 10 _ _ _).trans rfl
set_option maxRecDepth 20000 in
theorem B33_11 (d : Nat) (μ : amM) : At cr2 d 33 11 [] [0, 0] μ = At cr2 d 33 12 [(-1)] [0, 0] μ := (At_eq cr2 d 33 11 _ _ _).trans rfl
set_option maxRecDepth 20000 in
theorem B33_12 (d : Nat) (s0 : Int) (μ : amM) : At cr2 d 33 12 [s0] [0, 0] μ = some (s0, μ) := (At_eq cr2 d 33 12 _ _ _).trans rfl
set_option maxRecDepth 20000 in
theorem B33_13 (d : Nat) (μ : amM) : At cr2 d 33 13 [] [37, 0] μ = (if (μ 37 4) = 1 then At cr2 d 33 15 [2] [0, 0] μ else At cr2 d 33 14 [] [0, 0] μ) := (At_eq cr2 d 33 13 _ _ _).trans rfl
set_option maxRecDepth 20000 in
theorem B33_14 (d : Nat) (μ : amM) : At cr2 d 33 14 [] [0, 0] μ = At cr2 d 33 15 [(-1)] [0, 0] μ := (At_eq cr2 d 33 14 _ _ _).trans rfl
set_option maxRecDepth 20000 in
theorem B33_15 (d : Nat) (s0 : Int) (μ : amM) : At cr2 d 33 15 [s0] [0, 0] μ = some (s0, μ) := (At_eq cr2 d 33 15 _ _ _).trans rfl
set_option maxRecDepth 20000 in
theorem B33_16 (d : Nat) (μ : amM) : At cr2 d 33 16 [] [37, 0] μ = (if (μ 37 4) = 1 then At cr2 d 33 18 [3] [0, 0] μ else At cr2 d 33 17 [] [0, 0] μ) := (At_eq cr2 d 33 16 _ _ _).trans rfl
set_option maxRecDepth 20000 in
theorem B33_17 (d : Nat) (μ : amM) : At cr2 d 33 17 [] [0, 0] μ = At cr2 d 33 18 [(-1)] [0, 0] μ := (At_eq cr2 d 33 17 _ _ _).trans rfl
set_option maxRecDepth 20000 in
theorem B33_18 (d : Nat) (s0 : Int) (μ : amM) : At cr2 d 33 18 [s0] [0, 0] μ = some (s0, μ) := (At_eq cr2 d 33 18 _ _ _).trans rfl
set_option maxRecDepth 20000 in
theorem B33_19 (d : Nat) (μ : amM) : At cr2 d 33 19 [] [0, 0] μ = some ((-1), μ) := (At_eq cr2 d 33 19 _ _ _).trans rfl
set_option maxRecDepth 20000 in
theorem B35_0 (d : Nat) (x0 : Int) (μ : amM) : At cr2 d 35 0 [] [x0] μ = amGf cr2 μ 10 1 x0 (fun v1 => (if v1 = 0 then At cr2 d 35 2 [1] [0] μ else At cr2 d 35 1 [] [0] μ)) := (At_eq cr2 d 35 0 _ _ _).trans rfl
set_option maxRecDepth 20000 in
theorem B35_1 (d : Nat) (μ : amM) : At cr2 d 35 1 [] [0] μ = At cr2 d 35 2 [0] [0] μ := (At_eq cr2 d 35 1 _ _ _).trans rfl
set_option maxRecDepth 20000 in
theorem B35_2 (d : Nat) (s0 : Int) (μ : amM) : At cr2 d 35 2 [s0] [0] μ = rb s0 μ := (At_eq cr2 d 35 2 _ _ _).trans rfl
set_option maxRecDepth 20000 in
theorem B36_0 (d : Nat) (x0 x1 x2 : Int) (μ : amM) : At cr2 d 36 0 [] [x0, x1, x2, 0] μ = amPf cr2 μ 10 1 x0 x1 (fun μ1 => amPf cr2 μ1 10 2 x0 x2 (fun μ2 => At cr2 d 36 1 [] [x0, 0, x2, 0] μ2)) := (At_eq cr2 d 36 0 _ _ _).trans rfl
set_option maxRecDepth 20000 in
theorem B36_1 (d : Nat) (x0 x2 x3 : Int) (μ : amM) : At cr2 d 36 1 [] [x0, 0, x2, x3] μ = (if x3 < x2 then amGf cr2 μ 10 0 x0 (fun v1 => amPst 20 μ v1 x3 0 (fun μ1 => At cr2 d 36 1 [] [x0, 0, x2, (w32 (x3 + 1))] μ1)) else At cr2 d 36 2 [] [0, 0, 0, 0] μ) := (At_eq cr2 d 36 1 _ _ _).trans rfl
set_option maxRecDepth 20000 in
theorem B36_2 (d : Nat) (μ : amM) : At cr2 d 36 2 [] [0, 0, 0, 0] μ = some (0, μ) := (At_eq cr2 d 36 2 _ _ _).trans rfl
set_option maxRecDepth 20000 in
theorem B37_0 (d : Nat) (x0 x1 x2 : Int) (μ : amM) : At cr2 d 37 0 [] [x0, x1, x2, 0] μ = amGf cr2 μ 10 1 x0 (fun v1 => amGf cr2 μ 10 0 x0 (fun v2 => amPst 20 μ v2 x1 (bShr (bShl x2 (w32 (32 - v1))) (w32 (32 - v1))) (fun μ1 => some (0, μ1)))) := (At_eq cr2 d 37 0 _ _ _).trans rfl
set_option maxRecDepth 20000 in
theorem B38_0 (d : Nat) (x0 x1 x2 : Int) (μ : amM) : At cr2 d 38 0 [] [x0, x1, x2] μ = (if x1 < 0 then At cr2 d 38 1 [] [0, 0, 0] μ else (if x2 < 0 then At cr2 d 38 1 [] [0, 0, 0] μ else amGf cr2 μ 10 2 x0 (fun v1 => (if v1 < x2 then At cr2 d 38 1 [] [0, 0, 0] μ else amGf cr2 μ 10 2 x0 (fun v2 => (if (w32 (v2 - x2)) < x1 then At cr2 d 38 1 [] [0, 0, 0] μ else At cr2 d 38 2 [1] [0, 0, 0] μ)))))) := (At_eq cr2 d 38 0 _ _ _).trans rfl
set_option maxRecDepth 20000 in
theorem B38_1 (d : Nat) (μ : amM) : At cr2 d 38 1 [] [0, 0, 0] μ = At cr2 d 38 2 [0] [0, 0, 0] μ := (At_eq cr2 d 38 1 _ _ _).trans rfl
set_option maxRecDepth 20000 in
theorem B38_2 (d : Nat) (s0 : Int) (μ : amM) : At cr2 d 38 2 [s0] [0, 0, 0] μ = rb s0 μ := (At_eq cr2 d 38 2 _ _ _).trans rfl
set_option maxRecDepth 20000 in
theorem B40_0 (d : Nat) (x0 x1 : Int) (μ : amM) : At cr2 d 40 0 [] [x0, x1, 0] μ = amGf cr2 μ 1 0 x0 (fun v1 => amGf cr2 μ 1 0 x1 (fun v2 => if amTg v1 = 2 then bnd (RD cr2 d 66 [v1, v2] μ) (fun _ μ1 => At cr2 d 40 1 [] [x0, x1, 0] μ1) else none)) := (At_eq cr2 d 40 0 _ _ _).trans rfl
set_option maxRecDepth 20000 in
theorem B40_1 (d : Nat) (x0 x1 x2 : Int) (μ : amM) : At cr2 d 40 1 [] [x0, x1, x2] μ = (if x2 < 2 then amGf cr2 μ 1 1 x0 (fun v1 => amQld cr2 23 μ v1 x2 (fun v2 => amGf cr2 μ 1 1 x1 (fun v3 => amQld cr2 23 μ v3 x2 (fun v4 => if amTg v2 = 3 then bnd (RD cr2 d 57 [v2, v4] μ) (fun _ μ1 => At cr2 d 40 1 [] [x0, x1, (w32 (x2 + 1))] μ1) else none)))) else At cr2 d 40 2 [] [x0, x1, 0] μ) := (At_eq cr2 d 40 1 _ _ _).trans rfl
set_option maxRecDepth 20000 in
theorem B40_2 (d : Nat) (x0 x1 : Int) (μ : amM) : At cr2 d 40 2 [] [x0, x1, 0] μ = amGf cr2 μ 1 2 x1 (fun v1 => amGf cr2 μ 1 2 x0 (fun v2 => amCpy μ v1 0 v2 0 50 (fun μ1 => amGf cr2 μ1 1 3 x1 (fun v3 => amGf cr2 μ1 1 3 x0 (fun v4 => amCpy μ1 v3 0 v4 0 20 (fun μ2 => amGf cr2 μ2 1 4 x1 (fun v5 => amPf cr2 μ2 1 4 x0 v5 (fun μ3 => amGf cr2 μ3 1 5 x1 (fun v6 => amPf cr2 μ3 1 5 x0 v6 (fun μ4 => amGf cr2 μ4 1 6 x1 (fun v7 => amPf cr2 μ4 1 6 x0 v7 (fun μ5 => amGf cr2 μ5 1 7 x1 (fun v8 => amPf cr2 μ5 1 7 x0 v8 (fun μ6 => amGf cr2 μ6 1 8 x1 (fun v9 => amPf cr2 μ6 1 8 x0 v9 (fun μ7 => some (0, μ7))))))))))))))))) := (At_eq cr2 d 40 2 _ _ _).trans rfl
set_option maxRecDepth 20000 in
theorem B41_0 (d : Nat) (μ : amM) : At cr2 d 41 0 [] [1] μ = wf 1 8 μ (w32 ((w32 ((μ 1 8) * 1103515245)) + 12345)) (fun μ1 => some ((bUshr (μ1 1 8) 8), μ1)) := (At_eq cr2 d 41 0 _ _ _).trans rfl
set_option maxRecDepth 20000 in
theorem B42_0 (d : Nat) (x1 x2 : Int) (μ : amM) : At cr2 d 42 0 [] [1, x1, x2, 0] μ = bnd (RD cr2 d 54 [13] μ) (fun v2 μ1 => (if v2 = 0 then At cr2 d 42 1 [] [1, x1, x2, 0] μ1 else At cr2 d 42 2 [(w32 (10 + x2))] [0, 0, 0, 0] μ1)) := (At_eq cr2 d 42 0 _ _ _).trans rfl
set_option maxRecDepth 20000 in
theorem B42_1 (d : Nat) (x1 x2 : Int) (μ : amM) : At cr2 d 42 1 [] [1, x1, x2, 0] μ = bnd (RD cr2 d 58 [13, x1, x2, 0, 0] μ) (fun v2 μ1 => At cr2 d 42 2 [v2] [0, 0, 0, 0] μ1) := (At_eq cr2 d 42 1 _ _ _).trans rfl
set_option maxRecDepth 20000 in
theorem B42_2 (d : Nat) (s0 : Int) (μ : amM) : At cr2 d 42 2 [s0] [0, 0, 0, 0] μ = some ((jmax 0 (jmin 99 s0)), μ) := (At_eq cr2 d 42 2 _ _ _).trans rfl
set_option maxRecDepth 20000 in
theorem B43_0 (d : Nat) (x1 x2 x3 x4 : Int) (μ : amM) : At cr2 d 43 0 [] [1, x1, x2, x3, x4] μ = bnd (RD cr2 d 54 [16] μ) (fun v2 μ1 => (if v2 = 0 then At cr2 d 43 1 [] [1, x1, x2, x3, x4] μ1 else some (0, μ1))) := (At_eq cr2 d 43 0 _ _ _).trans rfl
set_option maxRecDepth 20000 in
theorem B43_1 (d : Nat) (x1 x2 x3 x4 : Int) (μ : amM) : At cr2 d 43 1 [] [1, x1, x2, x3, x4] μ = bnd (RD cr2 d 58 [16, x1, x2, x3, x4] μ) (fun v2 μ1 => some ((jmax (-99) (jmin 99 v2)), μ1)) := (At_eq cr2 d 43 1 _ _ _).trans rfl
set_option maxRecDepth 20000 in
theorem B44_0 (d : Nat) (x1 x2 : Int) (μ : amM) : At cr2 d 44 0 [] [1, x1, x2, 0] μ = rd 4 64 μ x1 (fun v1 => rd 3 64 μ x1 (fun v2 => (if v2 = 1 then At cr2 d 44 1 [] [1, 0, x2, v1] μ else if v2 = 2 then At cr2 d 44 2 [] [1, 0, x2, v1] μ else if v2 = 3 then At cr2 d 44 3 [] [0, 0, 0, v1] μ else if v2 = 4 then At cr2 d 44 4 [] [1, 0, x2, v1] μ else if v2 = 5 then At cr2 d 44 5 [] [0, 0, 0, 0] μ else if v2 = 6 then At cr2 d 44 6 [] [0, 0, 0, v1] μ else At cr2 d 44 7 [] [1, 0, x2, v1] μ))) := (At_eq cr2 d 44 0 _ _ _).trans rfl
set_option maxRecDepth 20000 in
theorem B44_1 (d : Nat) (x2 x3 : Int) (μ : amM) : At cr2 d 44 1 [] [1, 0, x2, x3] μ = bnd (RD cr2 d 42 [1, x2, x3] μ) (fun v1 μ1 => some ((w32 (v1.tdiv 2)), μ1)) := (At_eq cr2 d 44 1 _ _ _).trans rfl
set_option maxRecDepth 20000 in
theorem B44_2 (d : Nat) (x2 x3 : Int) (μ : amM) : At cr2 d 44 2 [] [1, 0, x2, x3] μ = bnd (RD cr2 d 42 [1, x2, x3] μ) (fun v1 μ1 => some ((w32 (v1 * 2)), μ1)) := (At_eq cr2 d 44 2 _ _ _).trans rfl
set_option maxRecDepth 20000 in
theorem B44_3 (d : Nat) (x3 : Int) (μ : amM) : At cr2 d 44 3 [] [0, 0, 0, x3] μ = some (x3, μ) := (At_eq cr2 d 44 3 _ _ _).trans rfl
set_option maxRecDepth 20000 in
theorem B44_4 (d : Nat) (x2 x3 : Int) (μ : amM) : At cr2 d 44 4 [] [1, 0, x2, x3] μ = bnd (RD cr2 d 42 [1, x2, x3] μ) (fun v1 μ1 => some ((w32 ((w32 (v1.tdiv 2)) + 5)), μ1)) := (At_eq cr2 d 44 4 _ _ _).trans rfl
set_option maxRecDepth 20000 in
theorem B44_5 (d : Nat) (μ : amM) : At cr2 d 44 5 [] [0, 0, 0, 0] μ = some ((-1), μ) := (At_eq cr2 d 44 5 _ _ _).trans rfl
set_option maxRecDepth 20000 in
theorem B44_6 (d : Nat) (x3 : Int) (μ : amM) : At cr2 d 44 6 [] [0, 0, 0, x3] μ = some ((jmax 0 (w32 (x3 - 3))), μ) := (At_eq cr2 d 44 6 _ _ _).trans rfl
set_option maxRecDepth 20000 in
theorem B44_7 (d : Nat) (x2 x3 : Int) (μ : amM) : At cr2 d 44 7 [] [1, 0, x2, x3] μ = bnd (RD cr2 d 42 [1, x2, x3] μ) (fun v1 μ1 => some (v1, μ1)) := (At_eq cr2 d 44 7 _ _ _).trans rfl
set_option maxRecDepth 20000 in
theorem B45_0 (d : Nat) (x1 : Int) (μ : amM) : At cr2 d 45 0 [] [1, x1] μ = bnd (RD cr2 d 7 [x1, 0] μ) (fun v1 μ1 => bnd (RD cr2 d 7 [x1, 1] μ1) (fun v2 μ2 => bnd (RD cr2 d 7 [x1, 2] μ2) (fun v3 μ3 => bnd (RD cr2 d 7 [x1, 3] μ3) (fun v4 μ4 => bnd (RD cr2 d 43 [1, v1, v2, v3, v4] μ4) (fun v5 μ5 => some (v5, μ5)))))) := (At_eq cr2 d 45 0 _ _ _).trans rfl
set_option maxRecDepth 20000 in
theorem B46_0 (d : Nat) (x1 x2 x3 : Int) (μ : amM) : At cr2 d 46 0 [] [1, x1, x2, x3, 0] μ = rd 5 64 μ x1 (fun v1 => bnd (RD cr2 d 8 [v1, x2, x3] μ) (fun v2 μ1 => bnd (RD cr2 d 45 [1, v2] μ1) (fun v3 μ2 => bnd (RD cr2 d 45 [1, v1] μ2) (fun v4 μ3 => bnd (RD cr2 d 44 [1, x1, x2] μ3) (fun v5 μ4 => some ((w32 ((w32 (v3 - v4)) - v5)), μ4)))))) := (At_eq cr2 d 46 0 _ _ _).trans rfl
set_option maxRecDepth 20000 in
theorem B47_0 (d : Nat) (x1 x2 x3 : Int) (μ : amM) : At cr2 d 47 0 [] [1, x1, x2, x3] μ = bnd (RD cr2 d 44 [1, x1, x2] μ) (fun v1 μ1 => wf 1 7 μ1 (jmin 999999 (w32 ((μ 1 7) + v1))) (fun μ2 => rd 5 64 μ2 x1 (fun v2 => bnd (RD cr2 d 8 [v2, x2, x3] μ2) (fun v3 μ3 => wr 5 64 μ3 x1 v3 (fun μ4 => some (0, μ4)))))) := (At_eq cr2 d 47 0 _ _ _).trans rfl
set_option maxRecDepth 20000 in
theorem B48_0 (d : Nat) (x1 : Int) (μ : amM) : At cr2 d 48 0 [] [1, x1, 0, 0, 0, 0, 0, 0] μ = bnd (RD cr2 d 79 [2] μ) (fun v1 μ1 => At cr2 d 48 1 [] [1, x1, 0, v1, 0, 0, 0, 0] μ1) := (At_eq cr2 d 48 0 _ _ _).trans rfl
set_option maxRecDepth 20000 in
theorem B48_1 (d : Nat) (x1 x2 x3 x4 : Int) (μ : amM) : At cr2 d 48 1 [] [1, x1, x2, x3, x4, 0, 0, 0] μ = (if x4 < x1 then bnd (RD cr2 d 41 [1] μ) (fun v1 μ1 => if (μ1 2 10) = 0 then none else bnd (RD cr2 d 41 [1] μ1) (fun v2 μ2 => bnd (RD cr2 d 41 [1] μ2) (fun v3 μ3 => bnd (RD cr2 d 81 [2, (v1.tmod (μ1 2 10)), (v2.tmod 4), (v3.tmod 3), x3] μ3) (fun v4 μ4 => (if v4 = 0 then At cr2 d 48 2 [] [1, x1, x2, x3, x4, 0, 0, 0] μ4 else bnd (RD cr2 d 47 [1, (v1.tmod (μ1 2 10)), (v2.tmod 4), (v3.tmod 3)] μ4) (fun _ μ5 => At cr2 d 48 2 [] [1, x1, (w32 (x2 + 1)), 0, x4, 0, 0, 0] μ5)))))) else At cr2 d 48 3 [] [1, x1, x2, 0, 0, 0, 0, 0] μ) := (At_eq cr2 d 48 1 _ _ _).trans rfl
set_option maxRecDepth 20000 in
theorem B48_2 (d : Nat) (x1 x2 x3 x4 : Int) (μ : amM) : At cr2 d 48 2 [] [1, x1, x2, x3, x4, 0, 0, 0] μ = At cr2 d 48 1 [] [1, x1, x2, x3, (w32 (x4 + 1)), 0, 0, 0] μ := (At_eq cr2 d 48 2 _ _ _).trans rfl
set_option maxRecDepth 20000 in
theorem B48_3 (d : Nat) (x1 x2 : Int) (μ : amM) : At cr2 d 48 3 [] [1, x1, x2, 0, 0, 0, 0, 0] μ = wf 1 6 μ (w32 ((μ 1 6) + x1)) (fun μ1 => some (x2, μ1)) := (At_eq cr2 d 48 3 _ _ _).trans rfl
set_option maxRecDepth 20000 in
theorem B50_0 (d : Nat) (x2 x3 x4 : Int) (μ : amM) : At cr2 d 50 0 [] [50, 2, x2, x3, x4, 0] μ = wf 50 1 μ 2 (fun μ1 => wf 50 2 μ1 x2 (fun μ2 => wf 50 3 μ2 x3 (fun μ3 => wf 50 4 μ3 x4 (fun μ4 => if μ4 50 1 = 2 then rd 5 64 μ4 (μ4 50 2) (fun v1 => bnd (RD cr2 d 7 [v1, (μ4 50 3)] μ4) (fun v2 μ5 => (if v2 = (μ5 50 4) then some (0, μ5) else At cr2 d 50 1 [] [50, 0, 0, 0, 0, 0] μ5))) else none)))) := (At_eq cr2 d 50 0 _ _ _).trans rfl
set_option maxRecDepth 20000 in
theorem B50_1 (d : Nat) (μ : amM) : At cr2 d 50 1 [] [50, 0, 0, 0, 0, 0] μ = if μ 50 1 = 2 then bnd (RD cr2 d 71 [2, (μ 50 2), (μ 50 3), (μ 50 4)] μ) (fun v1 μ1 => (if v1 = 0 then some ((-1), μ1) else At cr2 d 50 2 [] [50, 0, 0, 0, 0, 0] μ1)) else none := (At_eq cr2 d 50 1 _ _ _).trans rfl
set_option maxRecDepth 20000 in
theorem B50_2 (d : Nat) (μ : amM) : At cr2 d 50 2 [] [50, 0, 0, 0, 0, 0] μ = wf 51 0 μ (μ 50 2) (fun μ1 => if μ1 50 1 = 2 then if μ1 50 1 = 2 then rd 7 64 μ1 (μ1 50 2) (fun v1 => amCpy μ1 6 (w32 ((μ1 50 2) * 4)) 51 1 v1 (fun μ2 => At cr2 d 50 3 [] [50, 0, 0, 0, 0, 1] μ2)) else none else none) := (At_eq cr2 d 50 2 _ _ _).trans rfl
set_option maxRecDepth 20000 in
theorem B50_3 (d : Nat) (x5 : Int) (μ : amM) : At cr2 d 50 3 [] [50, 0, 0, 0, 0, x5] μ = (if 3 < x5 then At cr2 d 50 5 [] [0, 0, 0, 0, 0, 0] μ else bnd (RD cr2 d 51 [50, x5] μ) (fun v1 μ1 => (if v1 = 0 then At cr2 d 50 4 [] [50, 0, 0, 0, 0, x5] μ1 else some (x5, μ1)))) := (At_eq cr2 d 50 3 _ _ _).trans rfl
set_option maxRecDepth 20000 in
theorem B50_4 (d : Nat) (x5 : Int) (μ : amM) : At cr2 d 50 4 [] [50, 0, 0, 0, 0, x5] μ = At cr2 d 50 3 [] [50, 0, 0, 0, 0, (w32 (x5 + 1))] μ := (At_eq cr2 d 50 4 _ _ _).trans rfl
set_option maxRecDepth 20000 in
theorem B50_5 (d : Nat) (μ : amM) : At cr2 d 50 5 [] [0, 0, 0, 0, 0, 0] μ = some ((-1), μ) := (At_eq cr2 d 50 5 _ _ _).trans rfl
set_option maxRecDepth 20000 in
theorem B51_0 (d : Nat) (x1 : Int) (μ : amM) : At cr2 d 51 0 [] [50, x1, 0, 0] μ = (if 1 < x1 then At cr2 d 51 1 [] [50, x1, 0, 0] μ else if μ 50 1 = 2 then bnd (RD cr2 d 81 [2, (μ 50 2), (μ 50 3), (μ 50 4), 0] μ) (fun v1 μ1 => rb v1 μ1) else none) := (At_eq cr2 d 51 0 _ _ _).trans rfl
set_option maxRecDepth 20000 in
theorem B51_1 (d : Nat) (x1 : Int) (μ : amM) : At cr2 d 51 1 [] [50, x1, 0, 0] μ = At cr2 d 51 2 [] [50, x1, 0, 0] μ := (At_eq cr2 d 51 1 _ _ _).trans rfl
set_option maxRecDepth 20000 in
theorem B51_2 (d : Nat) (x1 x2 : Int) (μ : amM) : At cr2 d 51 2 [] [50, x1, x2, 0] μ = if μ 50 1 = 2 then rd 7 64 μ (μ 50 2) (fun v1 => (if v1 < x2 then At cr2 d 51 6 [] [0, 0, 0, 0] μ else At cr2 d 51 3 [] [50, x1, x2, 0] μ)) else none := (At_eq cr2 d 51 2 _ _ _).trans rfl
set_option maxRecDepth 20000 in
theorem B51_3 (d : Nat) (x1 x2 x3 : Int) (μ : amM) : At cr2 d 51 3 [] [50, x1, x2, x3] μ = (if x3 < 12 then rd 51 5 μ x2 (fun v1 => bnd (RD cr2 d 52 [50, v1, (w32 (x3.tdiv 3)), (x3.tmod 3), x1] μ) (fun v2 μ1 => (if v2 = 0 then At cr2 d 51 4 [] [50, x1, x2, x3] μ1 else some (1, μ1)))) else At cr2 d 51 5 [] [50, x1, x2, 0] μ) := (At_eq cr2 d 51 3 _ _ _).trans rfl
set_option maxRecDepth 20000 in
theorem B51_4 (d : Nat) (x1 x2 x3 : Int) (μ : amM) : At cr2 d 51 4 [] [50, x1, x2, x3] μ = At cr2 d 51 3 [] [50, x1, x2, (w32 (x3 + 1))] μ := (At_eq cr2 d 51 4 _ _ _).trans rfl
set_option maxRecDepth 20000 in
theorem B51_5 (d : Nat) (x1 x2 : Int) (μ : amM) : At cr2 d 51 5 [] [50, x1, x2, 0] μ = At cr2 d 51 2 [] [50, x1, (w32 (x2 + 1)), 0] μ := (At_eq cr2 d 51 5 _ _ _).trans rfl
set_option maxRecDepth 20000 in
theorem B51_6 (d : Nat) (μ : amM) : At cr2 d 51 6 [] [0, 0, 0, 0] μ = some (0, μ) := (At_eq cr2 d 51 6 _ _ _).trans rfl
set_option maxRecDepth 20000 in
theorem B52_0 (d : Nat) (x1 x2 x3 x4 : Int) (μ : amM) : At cr2 d 52 0 [] [50, x1, x2, x3, x4, 0, 0] μ = if μ 50 1 = 2 then bnd (RD cr2 d 81 [2, x1, x2, x3, 0] μ) (fun v1 μ1 => (if v1 = 0 then some (0, μ1) else At cr2 d 52 1 [] [50, x1, x2, x3, x4, 0, 0] μ1)) else none := (At_eq cr2 d 52 0 _ _ _).trans rfl
set_option maxRecDepth 20000 in
theorem B52_1 (d : Nat) (x1 x2 x3 x4 : Int) (μ : amM) : At cr2 d 52 1 [] [50, x1, x2, x3, x4, 0, 0] μ = if μ 50 1 = 2 then rd 5 64 μ x1 (fun v1 => if μ 50 1 = 2 then bnd (RD cr2 d 8 [v1, x2, x3] μ) (fun v2 μ1 => wr 5 64 μ1 x1 v2 (fun μ2 => bnd (RD cr2 d 51 [50, (w32 (x4 - 1))] μ2) (fun v3 μ3 => if μ3 50 1 = 2 then wr 5 64 μ3 x1 v1 (fun μ4 => rb v3 μ4) else none))) else none) else none := (At_eq cr2 d 52 1 _ _ _).trans rfl
set_option maxRecDepth 20000 in
theorem B54_0 (d : Nat) (x0 : Int) (μ : amM) : At cr2 d 54 0 [] [x0] μ = amGf cr2 μ 3 2 x0 (fun v1 => (if v1 = 0 then At cr2 d 54 2 [1] [0] μ else At cr2 d 54 1 [] [0] μ)) := (At_eq cr2 d 54 0 _ _ _).trans rfl
set_option maxRecDepth 20000 in
theorem B54_1 (d : Nat) (μ : amM) : At cr2 d 54 1 [] [0] μ = At cr2 d 54 2 [0] [0] μ := (At_eq cr2 d 54 1 _ _ _).trans rfl
set_option maxRecDepth 20000 in
theorem B54_2 (d : Nat) (s0 : Int) (μ : amM) : At cr2 d 54 2 [s0] [0] μ = rb s0 μ := (At_eq cr2 d 54 2 _ _ _).trans rfl
set_option maxRecDepth 20000 in
theorem B55_0 (d : Nat) (μ : amM) : At cr2 d 55 0 [] [38] μ = wf 38 2 μ 0 (fun μ1 => some (0, μ1)) := (At_eq cr2 d 55 0 _ _ _).trans rfl
set_option maxRecDepth 20000 in
theorem B56_0 (d : Nat) (x1 : Int) (μ : amM) : At cr2 d 56 0 [] [38, x1] μ = (if (μ 38 2) < 50 then wr 39 50 μ (μ 38 2) x1 (fun μ1 => wf 38 2 μ1 (w32 ((μ1 38 2) + 1)) (fun μ2 => At cr2 d 56 1 [] [0, 0] μ2)) else At cr2 d 56 1 [] [0, 0] μ) := (At_eq cr2 d 56 0 _ _ _).trans rfl
set_option maxRecDepth 20000 in
theorem B56_1 (d : Nat) (μ : amM) : At cr2 d 56 1 [] [0, 0] μ = some (0, μ) := (At_eq cr2 d 56 1 _ _ _).trans rfl
set_option maxRecDepth 20000 in
theorem B57_0 (d : Nat) (x0 x1 : Int) (μ : amM) : At cr2 d 57 0 [] [x0, x1] μ = amGf cr2 μ 3 0 x1 (fun v1 => amGf cr2 μ 3 0 x0 (fun v2 => amCpy μ v1 0 v2 0 50 (fun μ1 => amGf cr2 μ1 3 2 x1 (fun v3 => amPf cr2 μ1 3 2 x0 v3 (fun μ2 => some (0, μ2)))))) := (At_eq cr2 d 57 0 _ _ _).trans rfl
set_option maxRecDepth 20000 in
theorem B58_0 (d : Nat) (x0 x1 x2 x3 x4 : Int) (μ : amM) : At cr2 d 58 0 [] [x0, x1, x2, x3, x4, 0, 0, 0] μ = At cr2 d 58 1 [] [x0, x1, x2, x3, x4, (-1), 0, 0] μ := (At_eq cr2 d 58 0 _ _ _).trans rfl
set_option maxRecDepth 20000 in
theorem B58_1 (d : Nat) (x0 x1 x2 x3 x4 x5 x6 : Int) (μ : amM) : At cr2 d 58 1 [] [x0, x1, x2, x3, x4, x5, x6, 0] μ = amGf cr2 μ 3 2 x0 (fun v1 => (if x6 < v1 then amGf cr2 μ 3 0 x0 (fun v2 => amAld μ v2 x6 (fun v3 => (if v3 < 20000 then amGf cr2 μ 3 1 x0 (fun v4 => (if v3 < 10000 then At cr2 d 58 3 [v3, (w32 (x5 + 1)), v4] [x0, x1, x2, x3, x4, (w32 (x5 + 1)), x6, 0] μ else At cr2 d 58 2 [(w32 (x5 + 1)), v4] [x0, x1, x2, x3, x4, (w32 (x5 + 1)), x6, v3] μ)) else At cr2 d 58 4 [] [x0, x1, x2, x3, x4, x5, x6, v3] μ))) else At cr2 d 58 9 [] [x0, 0, 0, 0, 0, 0, 0, 0] μ)) := (At_eq cr2 d 58 1 _ _ _).trans rfl
set_option maxRecDepth 20000 in
theorem B58_2 (d : Nat) (s0 s1 x0 x1 x2 x3 x4 x5 x6 x7 : Int) (μ : amM) : At cr2 d 58 2 [s0, s1] [x0, x1, x2, x3, x4, x5, x6, x7] μ = bnd (RD cr2 d 59 [(w32 (x7 - 10000)), x1, x2, x3, x4] μ) (fun v1 μ1 => At cr2 d 58 3 [v1, s0, s1] [x0, x1, x2, x3, x4, x5, x6, 0] μ1) := (At_eq cr2 d 58 2 _ _ _).trans rfl
set_option maxRecDepth 20000 in
theorem B58_3 (d : Nat) (s0 s1 s2 x0 x1 x2 x3 x4 x5 x6 : Int) (μ : amM) : At cr2 d 58 3 [s0, s1, s2] [x0, x1, x2, x3, x4, x5, x6, 0] μ = amPst 20 μ s2 s1 s0 (fun μ1 => At cr2 d 58 8 [] [x0, x1, x2, x3, x4, x5, x6, 0] μ1) := (At_eq cr2 d 58 3 _ _ _).trans rfl
set_option maxRecDepth 20000 in
theorem B58_4 (d : Nat) (x0 x1 x2 x3 x4 x5 x6 x7 : Int) (μ : amM) : At cr2 d 58 4 [] [x0, x1, x2, x3, x4, x5, x6, x7] μ = (if x7 = 20033 then (if x5 < 0 then At cr2 d 58 7 [] [x0, x1, x2, x3, x4, x5, x6, x7] μ else amGf cr2 μ 3 1 x0 (fun v1 => amGf cr2 μ 3 1 x0 (fun v2 => amAld μ v2 x5 (fun v3 => (if v3 = 0 then At cr2 d 58 6 [1, x5, v1] [x0, x1, x2, x3, x4, x5, x6, 0] μ else At cr2 d 58 5 [x5, v1] [x0, x1, x2, x3, x4, x5, x6, 0] μ))))) else At cr2 d 58 7 [] [x0, x1, x2, x3, x4, x5, x6, x7] μ) := (At_eq cr2 d 58 4 _ _ _).trans rfl
set_option maxRecDepth 20000 in
theorem B58_5 (d : Nat) (s0 s1 x0 x1 x2 x3 x4 x5 x6 : Int) (μ : amM) : At cr2 d 58 5 [s0, s1] [x0, x1, x2, x3, x4, x5, x6, 0] μ = At cr2 d 58 6 [0, s0, s1] [x0, x1, x2, x3, x4, x5, x6, 0] μ := (At_eq cr2 d 58 5 _ _ _).trans rfl
set_option maxRecDepth 20000 in
theorem B58_6 (d : Nat) (s0 s1 s2 x0 x1 x2 x3 x4 x5 x6 : Int) (μ : amM) : At cr2 d 58 6 [s0, s1, s2] [x0, x1, x2, x3, x4, x5, x6, 0] μ = amPst 20 μ s2 s1 s0 (fun μ1 => At cr2 d 58 8 [] [x0, x1, x2, x3, x4, x5, x6, 0] μ1) := (At_eq cr2 d 58 6 _ _ _).trans rfl
set_option maxRecDepth 20000 in
theorem B58_7 (d : Nat) (x0 x1 x2 x3 x4 x5 x6 x7 : Int) (μ : amM) : At cr2 d 58 7 [] [x0, x1, x2, x3, x4, x5, x6, x7] μ = (if 0 < x5 then amGf cr2 μ 3 1 x0 (fun v1 => amGf cr2 μ 3 1 x0 (fun v2 => amAld μ v2 (w32 (x5 + (-1))) (fun v3 => amGf cr2 μ 3 1 x0 (fun v4 => amAld μ v4 (w32 ((w32 (x5 + (-1))) + 1)) (fun v5 => bnd (RD cr2 d 60 [(w32 (x7 - 20000)), v3, v5] μ) (fun v6 μ1 => amPst 20 μ1 v1 (w32 (x5 + (-1))) v6 (fun μ2 => At cr2 d 58 8 [] [x0, x1, x2, x3, x4, (w32 (x5 + (-1))), x6, 0] μ2))))))) else At cr2 d 58 8 [] [x0, x1, x2, x3, x4, x5, x6, 0] μ) := (At_eq cr2 d 58 7 _ _ _).trans rfl
set_option maxRecDepth 20000 in
theorem B58_8 (d : Nat) (x0 x1 x2 x3 x4 x5 x6 : Int) (μ : amM) : At cr2 d 58 8 [] [x0, x1, x2, x3, x4, x5, x6, 0] μ = At cr2 d 58 1 [] [x0, x1, x2, x3, x4, x5, (w32 (x6 + 1)), 0] μ := (At_eq cr2 d 58 8 _ _ _).trans rfl
set_option maxRecDepth 20000 in
theorem B58_9 (d : Nat) (x0 : Int) (μ : amM) : At cr2 d 58 9 [] [x0, 0, 0, 0, 0, 0, 0, 0] μ = amGf cr2 μ 3 1 x0 (fun v1 => amAld μ v1 0 (fun v2 => some (v2, μ))) := (At_eq cr2 d 58 9 _ _ _).trans rfl
set_option maxRecDepth 20000 in
theorem B59_0 (d : Nat) (x0 x1 x2 x3 x4 : Int) (μ : amM) : At cr2 d 59 0 [] [x0, x1, x2, x3, x4] μ = (if x0 = 0 then At cr2 d 59 1 [] [0, x1, 0, 0, 0] μ else if x0 = 1 then At cr2 d 59 2 [] [0, 0, x2, 0, 0] μ else if x0 = 2 then At cr2 d 59 3 [] [0, 0, 0, x3, 0] μ else At cr2 d 59 4 [] [0, 0, 0, 0, x4] μ) := (At_eq cr2 d 59 0 _ _ _).trans rfl
set_option maxRecDepth 20000 in
theorem B59_1 (d : Nat) (x1 : Int) (μ : amM) : At cr2 d 59 1 [] [0, x1, 0, 0, 0] μ = some (x1, μ) := (At_eq cr2 d 59 1 _ _ _).trans rfl
set_option maxRecDepth 20000 in
theorem B59_2 (d : Nat) (x2 : Int) (μ : amM) : At cr2 d 59 2 [] [0, 0, x2, 0, 0] μ = some (x2, μ) := (At_eq cr2 d 59 2 _ _ _).trans rfl
set_option maxRecDepth 20000 in
theorem B59_3 (d : Nat) (x3 : Int) (μ : amM) : At cr2 d 59 3 [] [0, 0, 0, x3, 0] μ = some (x3, μ) := (At_eq cr2 d 59 3 _ _ _).trans rfl
set_option maxRecDepth 20000 in
theorem B59_4 (d : Nat) (x4 : Int) (μ : amM) : At cr2 d 59 4 [] [0, 0, 0, 0, x4] μ = some (x4, μ) := (At_eq cr2 d 59 4 _ _ _).trans rfl
set_option maxRecDepth 20000 in
theorem B60_0 (d : Nat) (x0 x1 x2 : Int) (μ : amM) : At cr2 d 60 0 [] [x0, x1, x2] μ = (if x0 = 38 then At cr2 d 60 5 [] [0, x1, x2] μ else if x0 = 42 then At cr2 d 60 19 [] [0, x1, x2] μ else if x0 = 43 then At cr2 d 60 17 [] [0, x1, x2] μ else if x0 = 45 then At cr2 d 60 18 [] [0, x1, x2] μ else if x0 = 47 then At cr2 d 60 20 [] [0, x1, x2] μ else if x0 = 60 then At cr2 d 60 8 [] [0, x1, x2] μ else if x0 = 61 then At cr2 d 60 11 [] [0, x1, x2] μ else if x0 = 62 then At cr2 d 60 14 [] [0, x1, x2] μ else if x0 = 124 then At cr2 d 60 1 [] [0, x1, x2] μ else At cr2 d 60 23 [] [0, x1, x2] μ) := (At_eq cr2 d 60 0 _ _ _).trans rfl
set_option maxRecDepth 20000 in
theorem B60_1 (d : Nat) (x1 x2 : Int) (μ : amM) : At cr2 d 60 1 [] [0, x1, x2] μ = (if x1 = 0 then (if x2 = 0 then At cr2 d 60 3 [] [0, 0, 0] μ else At cr2 d 60 2 [] [0, 0, 0] μ) else At cr2 d 60 2 [] [0, 0, 0] μ) := (At_eq cr2 d 60 1 _ _ _).trans rfl
set_option maxRecDepth 20000 in
theorem B60_2 (d : Nat) (μ : amM) : At cr2 d 60 2 [] [0, 0, 0] μ = At cr2 d 60 4 [1] [0, 0, 0] μ := (At_eq cr2 d 60 2 _ _ _).trans rfl
set_option maxRecDepth 20000 in
theorem B60_3 (d : Nat) (μ : amM) : At cr2 d 60 3 [] [0, 0, 0] μ = At cr2 d 60 4 [0] [0, 0, 0] μ := (At_eq cr2 d 60 3 _ _ _).trans rfl
set_option maxRecDepth 20000 in
theorem B60_4 (d : Nat) (s0 : Int) (μ : amM) : At cr2 d 60 4 [s0] [0, 0, 0] μ = some (s0, μ) := (At_eq cr2 d 60 4 _ _ _).trans rfl
set_option maxRecDepth 20000 in
theorem B60_5 (d : Nat) (x1 x2 : Int) (μ : amM) : At cr2 d 60 5 [] [0, x1, x2] μ = (if x1 = 0 then At cr2 d 60 6 [] [0, 0, 0] μ else (if x2 = 0 then At cr2 d 60 6 [] [0, 0, 0] μ else At cr2 d 60 7 [1] [0, 0, 0] μ)) := (At_eq cr2 d 60 5 _ _ _).trans rfl
set_option maxRecDepth 20000 in
theorem B60_6 (d : Nat) (μ : amM) : At cr2 d 60 6 [] [0, 0, 0] μ = At cr2 d 60 7 [0] [0, 0, 0] μ := (At_eq cr2 d 60 6 _ _ _).trans rfl
set_option maxRecDepth 20000 in
theorem B60_7 (d : Nat) (s0 : Int) (μ : amM) : At cr2 d 60 7 [s0] [0, 0, 0] μ = some (s0, μ) := (At_eq cr2 d 60 7 _ _ _).trans rfl
set_option maxRecDepth 20000 in
theorem B60_8 (d : Nat) (x1 x2 : Int) (μ : amM) : At cr2 d 60 8 [] [0, x1, x2] μ = (if x1 < x2 then At cr2 d 60 10 [1] [0, 0, 0] μ else At cr2 d 60 9 [] [0, 0, 0] μ) := (At_eq cr2 d 60 8 _ _ _).trans rfl
set_option maxRecDepth 20000 in
theorem B60_9 (d : Nat) (μ : amM) : At cr2 d 60 9 [] [0, 0, 0] μ = At cr2 d 60 10 [0] [0, 0, 0] μ := (At_eq cr2 d 60 9 _ _ _).trans rfl
set_option maxRecDepth 20000 in
theorem B60_10 (d : Nat) (s0 : Int) (μ : amM) : At cr2 d 60 10 [s0] [0, 0, 0] μ = some (s0, μ) := (At_eq cr2 d 60 10 _ _ _).trans rfl
set_option maxRecDepth 20000 in
theorem B60_11 (d : Nat) (x1 x2 : Int) (μ : amM) : At cr2 d 60 11 [] [0, x1, x2] μ = (if x1 = x2 then At cr2 d 60 13 [1] [0, 0, 0] μ else At cr2 d 60 12 [] [0, 0, 0] μ) := (At_eq cr2 d 60 11 _ _ _).trans rfl
set_option maxRecDepth 20000 in
theorem B60_12 (d : Nat) (μ : amM) : At cr2 d 60 12 [] [0, 0, 0] μ = At cr2 d 60 13 [0] [0, 0, 0] μ := (At_eq cr2 d 60 12 _ _ _).trans rfl
set_option maxRecDepth 20000 in
theorem B60_13 (d : Nat) (s0 : Int) (μ : amM) : At cr2 d 60 13 [s0] [0, 0, 0] μ = some (s0, μ) := (At_eq cr2 d 60 13 _ _ _).trans rfl
set_option maxRecDepth 20000 in
theorem B60_14 (d : Nat) (x1 x2 : Int) (μ : amM) : At cr2 d 60 14 [] [0, x1, x2] μ = (if x2 < x1 then At cr2 d 60 16 [1] [0, 0, 0] μ else At cr2 d 60 15 [] [0, 0, 0] μ) := (At_eq cr2 d 60 14 _ _ _).trans rfl
set_option maxRecDepth 20000 in
theorem B60_15 (d : Nat) (μ : amM) : At cr2 d 60 15 [] [0, 0, 0] μ = At cr2 d 60 16 [0] [0, 0, 0] μ := (At_eq cr2 d 60 15 _ _ _).trans rfl
set_option maxRecDepth 20000 in
theorem B60_16 (d : Nat) (s0 : Int) (μ : amM) : At cr2 d 60 16 [s0] [0, 0, 0] μ = some (s0, μ) := (At_eq cr2 d 60 16 _ _ _).trans rfl
set_option maxRecDepth 20000 in
theorem B60_17 (d : Nat) (x1 x2 : Int) (μ : amM) : At cr2 d 60 17 [] [0, x1, x2] μ = some ((w32 (x1 + x2)), μ) := (At_eq cr2 d 60 17 _ _ _).trans rfl
set_option maxRecDepth 20000 in
theorem B60_18 (d : Nat) (x1 x2 : Int) (μ : amM) : At cr2 d 60 18 [] [0, x1, x2] μ = some ((w32 (x1 - x2)), μ) := (At_eq cr2 d 60 18 _ _ _).trans rfl
set_option maxRecDepth 20000 in
theorem B60_19 (d : Nat) (x1 x2 : Int) (μ : amM) : At cr2 d 60 19 [] [0, x1, x2] μ = some ((w32 (x1 * x2)), μ) := (At_eq cr2 d 60 19 _ _ _).trans rfl
set_option maxRecDepth 20000 in
theorem B60_20 (d : Nat) (x1 x2 : Int) (μ : amM) : At cr2 d 60 20 [] [0, x1, x2] μ = (if x2 = 0 then At cr2 d 60 22 [0] [0, 0, 0] μ else At cr2 d 60 21 [] [0, x1, x2] μ) := (At_eq cr2 d 60 20 _ _ _).trans rfl
set_option maxRecDepth 20000 in
theorem B60_21 (d : Nat) (x1 x2 : Int) (μ : amM) : At cr2 d 60 21 [] [0, x1, x2] μ = if x2 = 0 then none else At cr2 d 60 22 [(w32 (x1.tdiv x2))] [0, 0, 0] μ := (At_eq cr2 d 60 21 _ _ _).trans rfl
set_option maxRecDepth 20000 in
theorem B60_22 (d : Nat) (s0 : Int) (μ : amM) : At cr2 d 60 22 [s0] [0, 0, 0] μ = some (s0, μ) := (At_eq cr2 d 60 22 _ _ _).trans rfl
set_option maxRecDepth 20000 in
theorem B60_23 (d : Nat) (x1 x2 : Int) (μ : amM) : At cr2 d 60 23 [] [0, x1, x2] μ = (if x2 = 0 then At cr2 d 60 25 [0] [0, 0, 0] μ else At cr2 d 60 24 [] [0, x1, x2] μ) := (At_eq cr2 d 60 23 _ _ _).trans rfl
set_option maxRecDepth 20000 in
theorem B60_24 (d : Nat) (x1 x2 : Int) (μ : amM) : At cr2 d 60 24 [] [0, x1, x2] μ = if x2 = 0 then none else At cr2 d 60 25 [(x1.tmod x2)] [0, 0, 0] μ := (At_eq cr2 d 60 24 _ _ _).trans rfl
set_option maxRecDepth 20000 in
theorem B60_25 (d : Nat) (s0 : Int) (μ : amM) : At cr2 d 60 25 [s0] [0, 0, 0] μ = some (s0, μ) := (At_eq cr2 d 60 25 _ _ _).trans rfl
set_option maxRecDepth 20000 in
theorem B62_0 (cr : amC) (d : Nat) (x0 x1 x2 x3 : Int) (μ : amM) : At cr d 62 0 [] [x0, x1, x2, x3, 0, 0] μ = amPf cr μ 2 7 x0 x1 (fun μ1 => amPf cr μ1 2 8 x0 x2 (fun μ2 => amPf cr μ2 2 9 x0 x3 (fun μ3 => amGf cr μ3 2 7 x0 (fun v1 => amGf cr μ3 2 8 x0 (fun v2 => amPf cr μ3 2 10 x0 (w32 (v1 * v2)) (fun μ4 => At cr d 62 1 [] [x0, 0, 0, 0, 0, 0] μ4)))))) := (At_eq cr d 62 0 _ _ _).trans rfl
set_option maxRecDepth 20000 in
theorem B62_1 (cr : amC) (d : Nat) (x0 x4 : Int) (μ : amM) : At cr d 62 1 [] [x0, 0, 0, 0, x4, 0] μ = amGf cr μ 2 10 x0 (fun v1 => (if x4 < v1 then amGf cr μ 2 0 x0 (fun v2 => amPst 20 μ v2 x4 (-1) (fun μ1 => amGf cr μ1 2 4 x0 (fun v3 => amPst 20 μ1 v3 x4 0 (fun μ2 => At cr d 62 1 [] [x0, 0, 0, 0, (w32 (x4 + 1)), 0] μ2)))) else At cr d 62 2 [] [x0, 0, 0, 0, 0, 0] μ)) := (At_eq cr d 62 1 _ _ _).trans rfl
set_option maxRecDepth 20000 in
theorem B62_2 (cr : amC) (d : Nat) (x0 : Int) (μ : amM) : At cr d 62 2 [] [x0, 0, 0, 0, 0, 0] μ = At cr d 62 3 [] [x0, 0, 0, 0, 0, 0] μ := (At_eq cr d 62 2 _ _ _).trans rfl
set_option maxRecDepth 20000 in
theorem B62_3 (cr : amC) (d : Nat) (x0 x4 : Int) (μ : amM) : At cr d 62 3 [] [x0, 0, 0, 0, x4, 0] μ = amGf cr μ 2 7 x0 (fun v1 => (if x4 < v1 then At cr d 62 4 [] [x0, 0, 0, 0, x4, 0] μ else At cr d 62 6 [] [0, 0, 0, 0, 0, 0] μ)) := (At_eq cr d 62 3 _ _ _).trans rfl
set_option maxRecDepth 20000 in
theorem B62_4 (cr : amC) (d : Nat) (x0 x4 x5 : Int) (μ : amM) : At cr d 62 4 [] [x0, 0, 0, 0, x4, x5] μ = amGf cr μ 2 8 x0 (fun v1 => (if x5 < v1 then if amTg x0 = 2 then bnd (RD cr d 63 [x0, x4, x5] μ) (fun _ μ1 => At cr d 62 4 [] [x0, 0, 0, 0, x4, (w32 (x5 + 1))] μ1) else none else At cr d 62 5 [] [x0, 0, 0, 0, x4, 0] μ)) := (At_eq cr d 62 4 _ _ _).trans rfl
set_option maxRecDepth 20000 in
theorem B62_5 (cr : amC) (d : Nat) (x0 x4 : Int) (μ : amM) : At cr d 62 5 [] [x0, 0, 0, 0, x4, 0] μ = At cr d 62 3 [] [x0, 0, 0, 0, (w32 (x4 + 1)), 0] μ := (At_eq cr d 62 5 _ _ _).trans rfl
set_option maxRecDepth 20000 in
theorem B62_6 (cr : amC) (d : Nat) (μ : amM) : At cr d 62 6 [] [0, 0, 0, 0, 0, 0] μ = some (0, μ) := (At_eq cr d 62 6 _ _ _).trans rfl
set_option maxRecDepth 20000 in
theorem B63_0 (cr : amC) (d : Nat) (x0 x1 x2 : Int) (μ : amM) : At cr d 63 0 [] [x0, x1, x2, 0] μ = amGf cr μ 2 8 x0 (fun v1 => amGf cr μ 2 8 x0 (fun v2 => (if (w32 (x2 + 1)) < v2 then if amTg x0 = 2 then bnd (RD cr d 64 [x0, (w32 ((w32 (x1 * v1)) + x2)), (w32 ((w32 ((w32 (x1 * v1)) + x2)) + 1))] μ) (fun _ μ1 => At cr d 63 2 [] [x0, x1, x2, (w32 ((w32 (x1 * v1)) + x2))] μ1) else none else At cr d 63 1 [] [x0, x1, x2, (w32 ((w32 (x1 * v1)) + x2))] μ))) := (At_eq cr d 63 0 _ _ _).trans rfl
set_option maxRecDepth 20000 in
theorem B63_1 (cr : amC) (d : Nat) (x0 x1 x2 x3 : Int) (μ : amM) : At cr d 63 1 [] [x0, x1, x2, x3] μ = amGf cr μ 2 9 x0 (fun v1 => (if 0 < v1 then amGf cr μ 2 8 x0 (fun v2 => (if v2 < 3 then At cr d 63 2 [] [x0, x1, x2, x3] μ else if amTg x0 = 2 then bnd (RD cr d 64 [x0, x3, (w32 (x3 - x2))] μ) (fun _ μ1 => At cr d 63 2 [] [x0, x1, x2, x3] μ1) else none)) else At cr d 63 2 [] [x0, x1, x2, x3] μ)) := (At_eq cr d 63 1 _ _ _).trans rfl
set_option maxRecDepth 20000 in
theorem B63_2 (cr : amC) (d : Nat) (x0 x1 x2 x3 : Int) (μ : amM) : At cr d 63 2 [] [x0, x1, x2, x3] μ = amGf cr μ 2 7 x0 (fun v1 => (if (w32 (x1 + 1)) < v1 then amGf cr μ 2 8 x0 (fun v2 => if amTg x0 = 2 then bnd (RD cr d 64 [x0, x3, (w32 (x3 + v2))] μ) (fun _ μ1 => At cr d 63 4 [] [0, 0, 0, 0] μ1) else none) else At cr d 63 3 [] [x0, 0, x2, x3] μ)) := (At_eq cr d 63 2 _ _ _).trans rfl
set_option maxRecDepth 20000 in
theorem B63_3 (cr : amC) (d : Nat) (x0 x2 x3 : Int) (μ : amM) : At cr d 63 3 [] [x0, 0, x2, x3] μ = amGf cr μ 2 9 x0 (fun v1 => (if v1 = 2 then amGf cr μ 2 7 x0 (fun v2 => (if v2 < 3 then At cr d 63 4 [] [0, 0, 0, 0] μ else if amTg x0 = 2 then bnd (RD cr d 64 [x0, x3, x2] μ) (fun _ μ1 => At cr d 63 4 [] [0, 0, 0, 0] μ1) else none)) else At cr d 63 4 [] [0, 0, 0, 0] μ)) := (At_eq cr d 63 3 _ _ _).trans rfl
set_option maxRecDepth 20000 in
theorem B63_4 (cr : amC) (d : Nat) (μ : amM) : At cr d 63 4 [] [0, 0, 0, 0] μ = some (0, μ) := (At_eq cr d 63 4 _ _ _).trans rfl
set_option maxRecDepth 20000 in
theorem B64_0 (cr : amC) (d : Nat) (x0 x1 x2 : Int) (μ : amM) : At cr d 64 0 [] [x0, x1, x2] μ = if amTg x0 = 2 then bnd (RD cr d 65 [x0, x1, x2] μ) (fun _ μ1 => if amTg x0 = 2 then bnd (RD cr d 65 [x0, x2, x1] μ1) (fun _ μ2 => some (0, μ2)) else none) else none := (At_eq cr d 64 0 _ _ _).trans rfl
set_option maxRecDepth 20000 in
theorem B65_0 (cr : amC) (d : Nat) (x0 x1 x2 : Int) (μ : amM) : At cr d 65 0 [] [x0, x1, x2, 0, 0] μ = amGf cr μ 2 4 x0 (fun v1 => amAld μ v1 x1 (fun v2 => (if v2 < 4 then At cr d 65 1 [] [x0, x1, x2, (w32 (x1 * 4)), v2] μ else some (0, μ)))) := (At_eq cr d 65 0 _ _ _).trans rfl
set_option maxRecDepth 20000 in
theorem B65_1 (cr : amC) (d : Nat) (x0 x1 x2 x3 x4 : Int) (μ : amM) : At cr d 65 1 [] [x0, x1, x2, x3, x4] μ = (if 0 < x4 then amGf cr μ 2 3 x0 (fun v1 => amAld μ v1 (w32 ((w32 (x3 + x4)) - 1)) (fun v2 => (if x2 < v2 then amGf cr μ 2 3 x0 (fun v3 => amGf cr μ 2 3 x0 (fun v4 => amAld μ v4 (w32 ((w32 (x3 + x4)) - 1)) (fun v5 => amPst 20 μ v3 (w32 (x3 + x4)) v5 (fun μ1 => At cr d 65 1 [] [x0, x1, x2, x3, (w32 (x4 + (-1)))] μ1)))) else At cr d 65 2 [] [x0, x1, x2, x3, x4] μ))) else At cr d 65 2 [] [x0, x1, x2, x3, x4] μ) := (At_eq cr d 65 1 _ _ _).trans rfl
set_option maxRecDepth 20000 in
theorem B65_2 (cr : amC) (d : Nat) (x0 x1 x2 x3 x4 : Int) (μ : amM) : At cr d 65 2 [] [x0, x1, x2, x3, x4] μ = amGf cr μ 2 3 x0 (fun v1 => amPst 20 μ v1 (w32 (x3 + x4)) x2 (fun μ1 => amGf cr μ1 2 4 x0 (fun v2 => amAld μ1 v2 x1 (fun v3 => amPst 20 μ1 v2 x1 (w32 (v3 + 1)) (fun μ2 => some (0, μ2)))))) := (At_eq cr d 65 2 _ _ _).trans rfl
set_option maxRecDepth 20000 in
theorem B66_0 (d : Nat) (x0 x1 : Int) (μ : amM) : At cr2 d 66 0 [] [x0, x1] μ = amGf cr2 μ 2 0 x1 (fun v1 => amGf cr2 μ 2 0 x0 (fun v2 => amCpy μ v1 0 v2 0 64 (fun μ1 => amGf cr2 μ1 2 1 x1 (fun v3 => amGf cr2 μ1 2 1 x0 (fun v4 => amCpy μ1 v3 0 v4 0 64 (fun μ2 => amGf cr2 μ2 2 2 x1 (fun v5 => amGf cr2 μ2 2 2 x0 (fun v6 => amCpy μ2 v5 0 v6 0 64 (fun μ3 => amGf cr2 μ3 2 3 x1 (fun v7 => amGf cr2 μ3 2 3 x0 (fun v8 => amCpy μ3 v7 0 v8 0 256 (fun μ4 => amGf cr2 μ4 2 4 x1 (fun v9 => amGf cr2 μ4 2 4 x0 (fun v10 => amCpy μ4 v9 0 v10 0 64 (fun μ5 => amGf cr2 μ5 2 7 x1 (fun v11 => amPf cr2 μ5 2 7 x0 v11 (fun μ6 => amGf cr2 μ6 2 8 x1 (fun v12 => amPf cr2 μ6 2 8 x0 v12 (fun μ7 => amGf cr2 μ7 2 9 x1 (fun v13 => amPf cr2 μ7 2 9 x0 v13 (fun μ8 => amGf cr2 μ8 2 10 x1 (fun v14 => amPf cr2 μ8 2 10 x0 v14 (fun μ9 => amGf cr2 μ9 2 11 x1 (fun v15 => amPf cr2 μ9 2 11 x0 v15 (fun μ10 => amGf cr2 μ10 2 12 x1 (fun v16 => amPf cr2 μ10 2 12 x0 v16 (fun μ11 => some (0, μ11)))))))))))))))))))))))))))) := (At_eq cr2 d 66 0 _ _ _).trans rfl
set_option maxRecDepth 20000 in
theorem B67_0 (d : Nat) (x1 x2 x3 x4 : Int) (μ : amM) : At cr2 d 67 0 [] [2, x1, x2, x3, x4] μ = wr 3 64 μ x1 x2 (fun μ1 => wr 4 64 μ1 x1 x3 (fun μ2 => wr 5 64 μ2 x1 x4 (fun μ3 => some (0, μ3)))) := (At_eq cr2 d 67 0 _ _ _).trans rfl
set_option maxRecDepth 20000 in
theorem B68_0 (d : Nat) (μ : amM) : At cr2 d 68 0 [] [2, 0, 0] μ = At cr2 d 68 1 [] [2, 0, 0] μ := (At_eq cr2 d 68 0 _ _ _).trans rfl
set_option maxRecDepth 20000 in
theorem B68_1 (d : Nat) (x1 x2 : Int) (μ : amM) : At cr2 d 68 1 [] [2, x1, x2] μ = (if x2 < (μ 2 10) then rd 3 64 μ x2 (fun v1 => (if v1 = (-1) then At cr2 d 68 2 [] [2, x1, x2] μ else At cr2 d 68 2 [] [2, (w32 (x1 + 1)), x2] μ)) else At cr2 d 68 3 [] [0, x1, 0] μ) := (At_eq cr2 d 68 1 _ _ _).trans rfl
set_option maxRecDepth 20000 in
theorem B68_2 (d : Nat) (x1 x2 : Int) (μ : amM) : At cr2 d 68 2 [] [2, x1, x2] μ = At cr2 d 68 1 [] [2, x1, (w32 (x2 + 1))] μ := (At_eq cr2 d 68 2 _ _ _).trans rfl
set_option maxRecDepth 20000 in
theorem B68_3 (d : Nat) (x1 : Int) (μ : amM) : At cr2 d 68 3 [] [0, x1, 0] μ = some (x1, μ) := (At_eq cr2 d 68 3 _ _ _).trans rfl
set_option maxRecDepth 20000 in
theorem B69_0 (d : Nat) (x1 x2 : Int) (μ : amM) : At cr2 d 69 0 [] [2, x1, x2] μ = rd 3 64 μ x1 (fun v1 => (if v1 = (-1) then (if x2 = (-1) then At cr2 d 69 2 [1] [0, 0, 0] μ else At cr2 d 69 1 [] [0, 0, 0] μ) else At cr2 d 69 3 [] [2, x1, x2] μ)) := (At_eq cr2 d 69 0 _ _ _).trans rfl
set_option maxRecDepth 20000 in
theorem B69_1 (d : Nat) (μ : amM) : At cr2 d 69 1 [] [0, 0, 0] μ = At cr2 d 69 2 [0] [0, 0, 0] μ := (At_eq cr2 d 69 1 _ _ _).trans rfl
set_option maxRecDepth 20000 in
theorem B69_2 (d : Nat) (s0 : Int) (μ : amM) : At cr2 d 69 2 [s0] [0, 0, 0] μ = rb s0 μ := (At_eq cr2 d 69 2 _ _ _).trans rfl
set_option maxRecDepth 20000 in
theorem B69_3 (d : Nat) (x1 x2 : Int) (μ : amM) : At cr2 d 69 3 [] [2, x1, x2] μ = rd 5 64 μ x1 (fun v1 => bnd (RD cr2 d 10 [v1] μ) (fun v2 μ1 => (if v2 = 0 then rd 5 64 μ1 x1 (fun v3 => bnd (RD cr2 d 9 [v3] μ1) (fun v4 μ2 => (if v4 = x2 then At cr2 d 69 5 [1] [0, 0, 0] μ2 else At cr2 d 69 4 [] [0, 0, 0] μ2))) else At cr2 d 69 4 [] [0, 0, 0] μ1))) := (At_eq cr2 d 69 3 _ _ _).trans rfl
set_option maxRecDepth 20000 in
theorem B69_4 (d : Nat) (μ : amM) : At cr2 d 69 4 [] [0, 0, 0] μ = At cr2 d 69 5 [0] [0, 0, 0] μ := (At_eq cr2 d 69 4 _ _ _).trans rfl
set_option maxRecDepth 20000 in
theorem B69_5 (d : Nat) (s0 : Int) (μ : amM) : At cr2 d 69 5 [s0] [0, 0, 0] μ = rb s0 μ := (At_eq cr2 d 69 5 _ _ _).trans rfl
set_option maxRecDepth 20000 in
theorem B70_0 (d : Nat) (x1 : Int) (μ : amM) : At cr2 d 70 0 [] [2, x1] μ = rd 3 64 μ x1 (fun v1 => (if v1 = (-1) then At cr2 d 70 1 [] [0, 0] μ else rd 3 64 μ x1 (fun v2 => (if v2 = 5 then At cr2 d 70 1 [] [0, 0] μ else At cr2 d 70 2 [1] [0, 0] μ)))) := (At_eq cr2 d 70 0 _ _ _).trans rfl
set_option maxRecDepth 20000 in
theorem B70_1 (d : Nat) (μ : amM) : At cr2 d 70 1 [] [0, 0] μ = At cr2 d 70 2 [0] [0, 0] μ := (At_eq cr2 d 70 1 _ _ _).trans rfl
set_option maxRecDepth 20000 in
theorem B70_2 (d : Nat) (s0 : Int) (μ : amM) : At cr2 d 70 2 [s0] [0, 0] μ = rb s0 μ := (At_eq cr2 d 70 2 _ _ _).trans rfl
set_option maxRecDepth 20000 in
theorem B71_0 (d : Nat) (x1 x2 x3 : Int) (μ : amM) : At cr2 d 71 0 [] [2, x1, x2, x3] μ = rd 3 64 μ x1 (fun v1 => (if v1 = (-1) then At cr2 d 71 1 [] [0, 0, 0, 0] μ else rd 3 64 μ x1 (fun v2 => (if v2 = 5 then At cr2 d 71 1 [] [0, 0, 0, 0] μ else rd 5 64 μ x1 (fun v3 => bnd (RD cr2 d 7 [v3, x2] μ) (fun v4 μ1 => (if v4 = x3 then At cr2 d 71 1 [] [0, 0, 0, 0] μ1 else At cr2 d 71 2 [1] [0, 0, 0, 0] μ1))))))) := (At_eq cr2 d 71 0 _ _ _).trans rfl
set_option maxRecDepth 20000 in
theorem B71_1 (d : Nat) (μ : amM) : At cr2 d 71 1 [] [0, 0, 0, 0] μ = At cr2 d 71 2 [0] [0, 0, 0, 0] μ := (At_eq cr2 d 71 1 _ _ _).trans rfl
set_option maxRecDepth 20000 in
theorem B71_2 (d : Nat) (s0 : Int) (μ : amM) : At cr2 d 71 2 [s0] [0, 0, 0, 0] μ = rb s0 μ := (At_eq cr2 d 71 2 _ _ _).trans rfl
set_option maxRecDepth 20000 in
theorem B72_0 (d : Nat) (x1 x2 : Int) (μ : amM) : At cr2 d 72 0 [] [2, x1, x2, 0] μ = bnd (RD cr2 d 11 [x1, x2] μ) (fun v1 μ1 => (if v1 < (μ1 2 11) then At cr2 d 72 1 [] [0, 0, 0, 0] μ1 else (if (μ1 2 12) < v1 then At cr2 d 72 1 [] [0, 0, 0, 0] μ1 else At cr2 d 72 2 [1] [0, 0, 0, 0] μ1))) := (At_eq cr2 d 72 0 _ _ _).trans rfl
set_option maxRecDepth 20000 in
theorem B72_1 (d : Nat) (μ : amM) : At cr2 d 72 1 [] [0, 0, 0, 0] μ = At cr2 d 72 2 [0] [0, 0, 0, 0] μ := (At_eq cr2 d 72 1 _ _ _).trans rfl
set_option maxRecDepth 20000 in
theorem B72_2 (d : Nat) (s0 : Int) (μ : amM) : At cr2 d 72 2 [s0] [0, 0, 0, 0] μ = rb s0 μ := (At_eq cr2 d 72 2 _ _ _).trans rfl
set_option maxRecDepth 20000 in
theorem B73_0 (d : Nat) (x1 x2 : Int) (μ : amM) : At cr2 d 73 0 [] [2, x1, x2] μ = bnd (RD cr2 d 70 [2, x1] μ) (fun v1 μ1 => (if v1 = 0 then At cr2 d 73 1 [] [0, 0, 0] μ1 else bnd (RD cr2 d 70 [2, x2] μ1) (fun v2 μ2 => (if v2 = 0 then At cr2 d 73 1 [] [0, 0, 0] μ2 else rd 5 64 μ2 x1 (fun v3 => rd 5 64 μ2 x2 (fun v4 => bnd (RD cr2 d 72 [2, v3, v4] μ2) (fun v5 μ3 => (if v5 = 0 then At cr2 d 73 2 [1] [0, 0, 0] μ3 else At cr2 d 73 1 [] [0, 0, 0] μ3)))))))) := (At_eq cr2 d 73 0 _ _ _).trans rfl
set_option maxRecDepth 20000 in
theorem B73_1 (d : Nat) (μ : amM) : At cr2 d 73 1 [] [0, 0, 0] μ = At cr2 d 73 2 [0] [0, 0, 0] μ := (At_eq cr2 d 73 1 _ _ _).trans rfl
set_option maxRecDepth 20000 in
theorem B73_2 (d : Nat) (s0 : Int) (μ : amM) : At cr2 d 73 2 [s0] [0, 0, 0] μ = rb s0 μ := (At_eq cr2 d 73 2 _ _ _).trans rfl
set_option maxRecDepth 20000 in
theorem B74_0 (d : Nat) (x1 x2 : Int) (μ : amM) : At cr2 d 74 0 [] [2, x1, x2, 0, 0, 0] μ = At cr2 d 74 1 [] [2, x1, x2, (w32 (x1 * 4)), 0, 0] μ := (At_eq cr2 d 74 0 _ _ _).trans rfl
set_option maxRecDepth 20000 in
theorem B74_1 (d : Nat) (x1 x2 x3 x4 : Int) (μ : amM) : At cr2 d 74 1 [] [2, x1, x2, x3, x4, 0] μ = rd 7 64 μ x1 (fun v1 => (if x4 < v1 then rd 6 256 μ (w32 (x3 + x4)) (fun v2 => bnd (RD cr2 d 70 [2, v2] μ) (fun v3 μ1 => (if v3 = 0 then At cr2 d 74 2 [] [2, x1, x2, x3, x4, 0] μ1 else rd 5 64 μ1 v2 (fun v4 => bnd (RD cr2 d 72 [2, x2, v4] μ1) (fun v5 μ2 => (if v5 = 0 then some (0, μ2) else At cr2 d 74 2 [] [2, x1, x2, x3, x4, 0] μ2)))))) else At cr2 d 74 3 [] [0, 0, 0, 0, 0, 0] μ)) := (At_eq cr2 d 74 1 _ _ _).trans rfl
set_option maxRecDepth 20000 in
theorem B74_2 (d : Nat) (x1 x2 x3 x4 : Int) (μ : amM) : At cr2 d 74 2 [] [2, x1, x2, x3, x4, 0] μ = At cr2 d 74 1 [] [2, x1, x2, x3, (w32 (x4 + 1)), 0] μ := (At_eq cr2 d 74 2 _ _ _).trans rfl
set_option maxRecDepth 20000 in
theorem B74_3 (d : Nat) (μ : amM) : At cr2 d 74 3 [] [0, 0, 0, 0, 0, 0] μ = some (1, μ) := (At_eq cr2 d 74 3 _ _ _).trans rfl
set_option maxRecDepth 20000 in
theorem B75_0 (d : Nat) (x1 : Int) (μ : amM) : At cr2 d 75 0 [] [2, x1, 0, 0] μ = At cr2 d 75 1 [] [2, x1, 0, 0] μ := (At_eq cr2 d 75 0 _ _ _).trans rfl
set_option maxRecDepth 20000 in
theorem B75_1 (d : Nat) (x1 x2 x3 : Int) (μ : amM) : At cr2 d 75 1 [] [2, x1, x2, x3] μ = (if x3 < 81 then bnd (RD cr2 d 6 [x3] μ) (fun v1 μ1 => bnd (RD cr2 d 74 [2, x1, v1] μ1) (fun v2 μ2 => (if v2 = 0 then At cr2 d 75 2 [] [2, x1, x2, x3] μ2 else At cr2 d 75 2 [] [2, x1, (w32 (x2 + 1)), x3] μ2))) else At cr2 d 75 3 [] [0, 0, x2, 0] μ) := (At_eq cr2 d 75 1 _ _ _).trans rfl
set_option maxRecDepth 20000 in
theorem B75_2 (d : Nat) (x1 x2 x3 : Int) (μ : amM) : At cr2 d 75 2 [] [2, x1, x2, x3] μ = At cr2 d 75 1 [] [2, x1, x2, (w32 (x3 + 1))] μ := (At_eq cr2 d 75 2 _ _ _).trans rfl
set_option maxRecDepth 20000 in
theorem B75_3 (d : Nat) (x2 : Int) (μ : amM) : At cr2 d 75 3 [] [0, 0, x2, 0] μ = some (x2, μ) := (At_eq cr2 d 75 3 _ _ _).trans rfl
set_option maxRecDepth 20000 in
theorem B76_0 (d : Nat) (x1 x2 : Int) (μ : amM) : At cr2 d 76 0 [] [2, x1, x2, 0, 0] μ = At cr2 d 76 1 [] [2, x1, 0, x2, 0] μ := (At_eq cr2 d 76 0 _ _ _).trans rfl
set_option maxRecDepth 20000 in
theorem B76_1 (d : Nat) (x1 x3 x4 : Int) (μ : amM) : At cr2 d 76 1 [] [2, x1, 0, x3, x4] μ = (if x4 < 81 then bnd (RD cr2 d 6 [x4] μ) (fun v1 μ1 => bnd (RD cr2 d 74 [2, x1, v1] μ1) (fun v2 μ2 => (if v2 = 0 then At cr2 d 76 3 [] [2, x1, 0, x3, x4] μ2 else (if x3 = 0 then some (x4, μ2) else At cr2 d 76 2 [] [2, x1, 0, x3, x4] μ2)))) else At cr2 d 76 4 [] [0, 0, 0, 0, 0] μ) := (At_eq cr2 d 76 1 _ _ _).trans rfl
set_option maxRecDepth 20000 in
theorem B76_2 (d : Nat) (x1 x3 x4 : Int) (μ : amM) : At cr2 d 76 2 [] [2, x1, 0, x3, x4] μ = At cr2 d 76 3 [] [2, x1, 0, (w32 (x3 + (-1))), x4] μ := (At_eq cr2 d 76 2 _ _ _).trans rfl
set_option maxRecDepth 20000 in
theorem B76_3 (d : Nat) (x1 x3 x4 : Int) (μ : amM) : At cr2 d 76 3 [] [2, x1, 0, x3, x4] μ = At cr2 d 76 1 [] [2, x1, 0, x3, (w32 (x4 + 1))] μ := (At_eq cr2 d 76 3 _ _ _).trans rfl
set_option maxRecDepth 20000 in
theorem B76_4 (d : Nat) (μ : amM) : At cr2 d 76 4 [] [0, 0, 0, 0, 0] μ = some ((-1), μ) := (At_eq cr2 d 76 4 _ _ _).trans rfl
set_option maxRecDepth 20000 in
theorem B77_0 (d : Nat) (μ : amM) : At cr2 d 77 0 [] [2, 0, 0] μ = At cr2 d 77 1 [] [2, 0, 0] μ := (At_eq cr2 d 77 0 _ _ _).trans rfl
set_option maxRecDepth 20000 in
theorem B77_1 (d : Nat) (x1 x2 : Int) (μ : amM) : At cr2 d 77 1 [] [2, x1, x2] μ = (if x2 < 81 then bnd (RD cr2 d 6 [0] μ) (fun v1 μ1 => bnd (RD cr2 d 6 [x2] μ1) (fun v2 μ2 => bnd (RD cr2 d 72 [2, v1, v2] μ2) (fun v3 μ3 => (if v3 = 0 then At cr2 d 77 2 [] [2, x1, x2] μ3 else At cr2 d 77 2 [] [2, (w32 (x1 + 1)), x2] μ3)))) else At cr2 d 77 3 [] [0, x1, 0] μ) := (At_eq cr2 d 77 1 _ _ _).trans rfl
set_option maxRecDepth 20000 in
theorem B77_2 (d : Nat) (x1 x2 : Int) (μ : amM) : At cr2 d 77 2 [] [2, x1, x2] μ = At cr2 d 77 1 [] [2, x1, (w32 (x2 + 1))] μ := (At_eq cr2 d 77 2 _ _ _).trans rfl
set_option maxRecDepth 20000 in
theorem B77_3 (d : Nat) (x1 : Int) (μ : amM) : At cr2 d 77 3 [] [0, x1, 0] μ = some (x1, μ) := (At_eq cr2 d 77 3 _ _ _).trans rfl
set_option maxRecDepth 20000 in
theorem B78_0 (d : Nat) (x1 x2 : Int) (μ : amM) : At cr2 d 78 0 [] [2, x1, x2, 0, 0, 0] μ = bnd (RD cr2 d 6 [x1] μ) (fun v1 μ1 => At cr2 d 78 1 [] [2, 0, 0, v1, x2, 0] μ1) := (At_eq cr2 d 78 0 _ _ _).trans rfl
set_option maxRecDepth 20000 in
theorem B78_1 (d : Nat) (x3 x4 x5 : Int) (μ : amM) : At cr2 d 78 1 [] [2, 0, 0, x3, x4, x5] μ = (if x5 < 81 then bnd (RD cr2 d 6 [x5] μ) (fun v1 μ1 => bnd (RD cr2 d 72 [2, x3, v1] μ1) (fun v2 μ2 => (if v2 = 0 then At cr2 d 78 3 [] [2, 0, 0, x3, x4, x5] μ2 else (if x4 = 0 then some (x5, μ2) else At cr2 d 78 2 [] [2, 0, 0, x3, x4, x5] μ2)))) else At cr2 d 78 4 [] [0, 0, 0, 0, 0, 0] μ) := (At_eq cr2 d 78 1 _ _ _).trans rfl
set_option maxRecDepth 20000 in
theorem B78_2 (d : Nat) (x3 x4 x5 : Int) (μ : amM) : At cr2 d 78 2 [] [2, 0, 0, x3, x4, x5] μ = At cr2 d 78 3 [] [2, 0, 0, x3, (w32 (x4 + (-1))), x5] μ := (At_eq cr2 d 78 2 _ _ _).trans rfl
set_option maxRecDepth 20000 in
theorem B78_3 (d : Nat) (x3 x4 x5 : Int) (μ : amM) : At cr2 d 78 3 [] [2, 0, 0, x3, x4, x5] μ = At cr2 d 78 1 [] [2, 0, 0, x3, x4, (w32 (x5 + 1))] μ := (At_eq cr2 d 78 3 _ _ _).trans rfl
set_option maxRecDepth 20000 in
theorem B78_4 (d : Nat) (μ : amM) : At cr2 d 78 4 [] [0, 0, 0, 0, 0, 0] μ = some (0, μ) := (At_eq cr2 d 78 4 _ _ _).trans rfl
set_option maxRecDepth 20000 in
theorem B79_0 (d : Nat) (μ : amM) : At cr2 d 79 0 [] [2, 0, 0, 0, 0] μ = At cr2 d 79 1 [] [2, 0, 0, 0, 0] μ := (At_eq cr2 d 79 0 _ _ _).trans rfl
set_option maxRecDepth 20000 in
theorem B79_1 (d : Nat) (x1 x2 : Int) (μ : amM) : At cr2 d 79 1 [] [2, x1, x2, 0, 0] μ = (if x2 < (μ 2 10) then At cr2 d 79 2 [] [2, x1, x2, 0, 0] μ else At cr2 d 79 5 [] [0, x1, 0, 0, 0] μ) := (At_eq cr2 d 79 1 _ _ _).trans rfl
set_option maxRecDepth 20000 in
theorem B79_2 (d : Nat) (x1 x2 x3 : Int) (μ : amM) : At cr2 d 79 2 [] [2, x1, x2, x3, 0] μ = rd 7 64 μ x2 (fun v1 => (if x3 < v1 then rd 6 256 μ (w32 ((w32 (x2 * 4)) + x3)) (fun v2 => (if x2 < v2 then (if x1 < 128 then bnd (RD cr2 d 73 [2, x2, v2] μ) (fun v3 μ1 => (if v3 = 0 then At cr2 d 79 3 [] [2, x1, x2, x3, 0] μ1 else wr 8 128 μ1 x1 (w32 ((w32 (64 * x2)) + v2)) (fun μ2 => At cr2 d 79 3 [] [2, (w32 (x1 + 1)), x2, x3, 0] μ2))) else At cr2 d 79 3 [] [2, x1, x2, x3, 0] μ) else At cr2 d 79 3 [] [2, x1, x2, x3, 0] μ)) else At cr2 d 79 4 [] [2, x1, x2, 0, 0] μ)) := (At_eq cr2 d 79 2 _ _ _).trans rfl
set_option maxRecDepth 20000 in
theorem B79_3 (d : Nat) (x1 x2 x3 : Int) (μ : amM) : At cr2 d 79 3 [] [2, x1, x2, x3, 0] μ = At cr2 d 79 2 [] [2, x1, x2, (w32 (x3 + 1)), 0] μ := (At_eq cr2 d 79 3 _ _ _).trans rfl
set_option maxRecDepth 20000 in
theorem B79_4 (d : Nat) (x1 x2 : Int) (μ : amM) : At cr2 d 79 4 [] [2, x1, x2, 0, 0] μ = At cr2 d 79 1 [] [2, x1, (w32 (x2 + 1)), 0, 0] μ := (At_eq cr2 d 79 4 _ _ _).trans rfl
set_option maxRecDepth 20000 in
theorem B79_5 (d : Nat) (x1 : Int) (μ : amM) : At cr2 d 79 5 [] [0, x1, 0, 0, 0] μ = some (x1, μ) := (At_eq cr2 d 79 5 _ _ _).trans rfl
set_option maxRecDepth 20000 in
theorem B80_0 (d : Nat) (x1 : Int) (μ : amM) : At cr2 d 80 0 [] [2, x1, 0, 0] μ = At cr2 d 80 1 [] [2, x1, 0, 0] μ := (At_eq cr2 d 80 0 _ _ _).trans rfl
set_option maxRecDepth 20000 in
theorem B80_1 (d : Nat) (x1 x2 x3 : Int) (μ : amM) : At cr2 d 80 1 [] [2, x1, x2, x3] μ = rd 7 64 μ x1 (fun v1 => (if x3 < v1 then rd 6 256 μ (w32 ((w32 (x1 * 4)) + x3)) (fun v2 => bnd (RD cr2 d 73 [2, x1, v2] μ) (fun v3 μ1 => (if v3 = 0 then At cr2 d 80 2 [] [2, x1, x2, x3] μ1 else At cr2 d 80 2 [] [2, x1, (w32 (x2 + 1)), x3] μ1))) else At cr2 d 80 3 [] [0, 0, x2, 0] μ)) := (At_eq cr2 d 80 1 _ _ _).trans rfl
set_option maxRecDepth 20000 in
theorem B80_2 (d : Nat) (x1 x2 x3 : Int) (μ : amM) : At cr2 d 80 2 [] [2, x1, x2, x3] μ = At cr2 d 80 1 [] [2, x1, x2, (w32 (x3 + 1))] μ := (At_eq cr2 d 80 2 _ _ _).trans rfl
set_option maxRecDepth 20000 in
theorem B80_3 (d : Nat) (x2 : Int) (μ : amM) : At cr2 d 80 3 [] [0, 0, x2, 0] μ = some (x2, μ) := (At_eq cr2 d 80 3 _ _ _).trans rfl
set_option maxRecDepth 20000 in
theorem B81_0 (d : Nat) (x1 x2 x3 x4 : Int) (μ : amM) : At cr2 d 81 0 [] [2, x1, x2, x3, x4] μ = bnd (RD cr2 d 71 [2, x1, x2, x3] μ) (fun v1 μ1 => (if v1 = 0 then At cr2 d 81 2 [] [0, 0, 0, 0, 0] μ1 else (if x4 = 0 then At cr2 d 81 1 [] [2, x1, x2, x3, 0] μ1 else bnd (RD cr2 d 80 [2, x1] μ1) (fun v2 μ2 => (if v2 = x4 then At cr2 d 81 1 [] [2, x1, x2, x3, 0] μ2 else At cr2 d 81 2 [] [0, 0, 0, 0, 0] μ2))))) := (At_eq cr2 d 81 0 _ _ _).trans rfl
set_option maxRecDepth 20000 in
theorem B81_1 (d : Nat) (x1 x2 x3 : Int) (μ : amM) : At cr2 d 81 1 [] [2, x1, x2, x3, 0] μ = rd 5 64 μ x1 (fun v1 => bnd (RD cr2 d 8 [v1, x2, x3] μ) (fun v2 μ1 => bnd (RD cr2 d 74 [2, x1, v2] μ1) (fun v3 μ2 => (if v3 = 0 then At cr2 d 81 2 [] [0, 0, 0, 0, 0] μ2 else At cr2 d 81 3 [1] [0, 0, 0, 0, 0] μ2)))) := (At_eq cr2 d 81 1 _ _ _).trans rfl
set_option maxRecDepth 20000 in
theorem B81_2 (d : Nat) (μ : amM) : At cr2 d 81 2 [] [0, 0, 0, 0, 0] μ = At cr2 d 81 3 [0] [0, 0, 0, 0, 0] μ := (At_eq cr2 d 81 2 _ _ _).trans rfl
set_option maxRecDepth 20000 in
theorem B81_3 (d : Nat) (s0 : Int) (μ : amM) : At cr2 d 81 3 [s0] [0, 0, 0, 0, 0] μ = rb s0 μ := (At_eq cr2 d 81 3 _ _ _).trans rfl
set_option maxRecDepth 20000 in
theorem B82_0 (d : Nat) (x1 x2 : Int) (μ : amM) : At cr2 d 82 0 [] [2, x1, x2, 0, 0] μ = At cr2 d 82 1 [] [2, x1, x2, 0, 0] μ := (At_eq cr2 d 82 0 _ _ _).trans rfl
set_option maxRecDepth 20000 in
theorem B82_1 (d : Nat) (x1 x2 x3 x4 : Int) (μ : amM) : At cr2 d 82 1 [] [2, x1, x2, x3, x4] μ = (if x4 < (μ 2 10) then bnd (RD cr2 d 70 [2, x4] μ) (fun v1 μ1 => (if v1 = 0 then At cr2 d 82 2 [] [2, x1, x2, x3, x4] μ1 else rd 5 64 μ1 x4 (fun v2 => bnd (RD cr2 d 7 [v2, x1] μ1) (fun v3 μ2 => (if v3 = x2 then rd 5 64 μ2 x4 (fun v4 => bnd (RD cr2 d 8 [v4, x1, 3] μ2) (fun v5 μ3 => wr 5 64 μ3 x4 v5 (fun μ4 => At cr2 d 82 2 [] [2, x1, x2, (w32 (x3 + 1)), x4] μ4))) else At cr2 d 82 2 [] [2, x1, x2, x3, x4] μ2))))) else At cr2 d 82 3 [] [0, 0, 0, x3, 0] μ) := (At_eq cr2 d 82 1 _ _ _).trans rfl
set_option maxRecDepth 20000 in
theorem B82_2 (d : Nat) (x1 x2 x3 x4 : Int) (μ : amM) : At cr2 d 82 2 [] [2, x1, x2, x3, x4] μ = At cr2 d 82 1 [] [2, x1, x2, x3, (w32 (x4 + 1))] μ := (At_eq cr2 d 82 2 _ _ _).trans rfl
set_option maxRecDepth 20000 in
theorem B82_3 (d : Nat) (x3 : Int) (μ : amM) : At cr2 d 82 3 [] [0, 0, 0, x3, 0] μ = some (x3, μ) := (At_eq cr2 d 82 3 _ _ _).trans rfl
set_option maxRecDepth 20000 in
theorem B83_0 (d : Nat) (x1 x2 : Int) (μ : amM) : At cr2 d 83 0 [] [2, x1, x2, 0] μ = amCpy μ 5 0 9 0 64 (fun μ1 => bnd (RD cr2 d 82 [2, x1, x2] μ1) (fun v1 μ2 => bnd (RD cr2 d 79 [2] μ2) (fun v2 μ3 => amCpy μ3 9 0 5 0 64 (fun μ4 => some (v2, μ4))))) := (At_eq cr2 d 83 0 _ _ _).trans rfl
set_option maxRecDepth 20000 in
theorem B85_0 (d : Nat) (x0 x1 : Int) (μ : amM) : At cr2 d 85 0 [] [x0, x1, 0, 0] μ = At cr2 d 85 1 [] [0, x1, x0, 0] μ := (At_eq cr2 d 85 0 _ _ _).trans rfl
set_option maxRecDepth 20000 in
theorem B85_1 (d : Nat) (x1 x2 x3 : Int) (μ : amM) : At cr2 d 85 1 [] [0, x1, x2, x3] μ = (if x3 < 7 then (if x2 < 0 then At cr2 d 85 3 [] [0, 0, 0, 0] μ else (if x2 = x1 then some (1, μ) else At cr2 d 85 2 [] [0, x1, x2, x3] μ)) else At cr2 d 85 3 [] [0, 0, 0, 0] μ) := (At_eq cr2 d 85 1 _ _ _).trans rfl
set_option maxRecDepth 20000 in
theorem B85_2 (d : Nat) (x1 x2 x3 : Int) (μ : amM) : At cr2 d 85 2 [] [0, x1, x2, x3] μ = amAld μ 300 x2 (fun v1 => At cr2 d 85 1 [] [0, x1, v1, (w32 (x3 + 1))] μ) := (At_eq cr2 d 85 2 _ _ _).trans rfl
set_option maxRecDepth 20000 in
theorem B85_3 (d : Nat) (μ : amM) : At cr2 d 85 3 [] [0, 0, 0, 0] μ = some (0, μ) := (At_eq cr2 d 85 3 _ _ _).trans rfl
set_option maxRecDepth 20000 in
theorem B86_0 (d : Nat) (x2 x3 x4 : Int) (μ : amM) : At cr2 d 86 0 [] [59, 2, x2, x3, x4] μ = rd 3 64 μ x2 (fun v1 => wf 59 2 μ v1 (fun μ1 => wf 59 3 μ1 x2 (fun μ2 => rd 4 64 μ2 x2 (fun v2 => wf 59 4 μ2 v2 (fun μ3 => wf 59 1 μ3 0 (fun μ4 => bnd (RD cr2 d 89 [59, (μ4 59 2), x3, x4, 0] μ4) (fun v3 μ5 => some (v3, μ5)))))))) := (At_eq cr2 d 86 0 _ _ _).trans rfl
set_option maxRecDepth 20000 in
theorem B87_0 (d : Nat) (x0 x1 : Int) (μ : amM) : At cr2 d 87 0 [] [x0, x1, 0, 0] μ = At cr2 d 87 1 [] [0, x1, x0, 0] μ := (At_eq cr2 d 87 0 _ _ _).trans rfl
set_option maxRecDepth 20000 in
theorem B87_1 (d : Nat) (x1 x2 x3 : Int) (μ : amM) : At cr2 d 87 1 [] [0, x1, x2, x3] μ = (if x3 < 7 then (if 0 < x2 then amAld μ 301 (w32 ((w32 (4 * x2)) + x1)) (fun v1 => (if v1 = 0 then amAld μ 300 x2 (fun v2 => At cr2 d 87 1 [] [0, x1, v2, (w32 (x3 + 1))] μ) else At cr2 d 87 2 [] [0, 0, x2, 0] μ)) else At cr2 d 87 2 [] [0, 0, x2, 0] μ) else At cr2 d 87 2 [] [0, 0, x2, 0] μ) := (At_eq cr2 d 87 1 _ _ _).trans rfl
set_option maxRecDepth 20000 in
theorem B87_2 (d : Nat) (x2 : Int) (μ : amM) : At cr2 d 87 2 [] [0, 0, x2, 0] μ = some ((jmax x2 0), μ) := (At_eq cr2 d 87 2 _ _ _).trans rfl
set_option maxRecDepth 20000 in
theorem B88_0 (d : Nat) (x1 : Int) (μ : amM) : At cr2 d 88 0 [] [59, x1] μ = (if (μ 59 1) < 40 then wr 60 40 μ (μ 59 1) x1 (fun μ1 => wf 59 1 μ1 (w32 ((μ1 59 1) + 1)) (fun μ2 => At cr2 d 88 1 [] [0, 0] μ2)) else At cr2 d 88 1 [] [0, 0] μ) := (At_eq cr2 d 88 0 _ _ _).trans rfl
set_option maxRecDepth 20000 in
theorem B88_1 (d : Nat) (μ : amM) : At cr2 d 88 1 [] [0, 0] μ = some (0, μ) := (At_eq cr2 d 88 1 _ _ _).trans rfl
set_option maxRecDepth 20000 in
theorem B89_0 (d : Nat) (x1 x2 x3 x4 : Int) (μ : amM) : At cr2 d 89 0 [] [59, x1, x2, x3, x4, 0, 0, 0] μ = (if x4 < 40 then At cr2 d 89 1 [] [59, x1, x2, x3, x4, 0, 0, 0] μ else some (0, μ)) := (At_eq cr2 d 89 0 _ _ _).trans rfl
set_option maxRecDepth 20000 in
theorem B89_1 (d : Nat) (x1 x2 x3 x4 : Int) (μ : amM) : At cr2 d 89 1 [] [59, x1, x2, x3, x4, 0, 0, 0] μ = bnd (RD cr2 d 87 [x1, x2] μ) (fun v1 μ1 => amAld μ1 301 (w32 ((w32 (4 * v1)) + x2)) (fun v2 => bnd (RD cr2 d 88 [59, v2] μ1) (fun _ μ2 => (if v2 = 10 then At cr2 d 89 2 [] [59, 0, 0, x3, 0, 0, 0, 0] μ2 else if v2 = 11 then At cr2 d 89 3 [] [59, 0, 0, x3, 0, 0, 0, (w32 (x4 + 1))] μ2 else if v2 = 12 then At cr2 d 89 4 [] [59, 0, 0, x3, 0, 0, 0, 0] μ2 else if v2 = 13 then At cr2 d 89 5 [] [59, 0, 0, x3, 0, 0, 0, (w32 (x4 + 1))] μ2 else if v2 = 20 then At cr2 d 89 6 [] [59, 0, 0, x3, 0, v1, 0, (w32 (x4 + 1))] μ2 else if v2 = 30 then At cr2 d 89 7 [] [59, 0, 0, x3, 0, v1, 0, (w32 (x4 + 1))] μ2 else if v2 = 40 then At cr2 d 89 8 [] [59, 0, 0, x3, 0, v1, 0, (w32 (x4 + 1))] μ2 else if v2 = 50 then At cr2 d 89 9 [] [59, 0, 0, x3, 0, v1, 0, (w32 (x4 + 1))] μ2 else if v2 = 60 then At cr2 d 89 10 [] [59, 0, 0, x3, 0, v1, 0, (w32 (x4 + 1))] μ2 else if v2 = 70 then At cr2 d 89 11 [] [59, 0, 0, x3, 0, v1, 0, (w32 (x4 + 1))] μ2 else At cr2 d 89 12 [] [59, 0, 0, x3, 0, v1, 0, (w32 (x4 + 1))] μ2)))) := (At_eq cr2 d 89 1 _ _ _).trans rfl
set_option maxRecDepth 20000 in
theorem B89_2 (d : Nat) (x3 : Int) (μ : amM) : At cr2 d 89 2 [] [59, 0, 0, x3, 0, 0, 0, 0] μ = some ((w32 (x3 + (μ 59 3))), μ) := (At_eq cr2 d 89 2 _ _ _).trans rfl
set_option maxRecDepth 20000 in
theorem B89_3 (d : Nat) (x3 x7 : Int) (μ : amM) : At cr2 d 89 3 [] [59, 0, 0, x3, 0, 0, 0, x7] μ = bnd (RD cr2 d 89 [59, (μ 59 2), 0, x3, x7] μ) (fun v1 μ1 => some ((w32 (v1 * 2)), μ1)) := (At_eq cr2 d 89 3 _ _ _).trans rfl
set_option maxRecDepth 20000 in
theorem B89_4 (d : Nat) (x3 : Int) (μ : amM) : At cr2 d 89 4 [] [59, 0, 0, x3, 0, 0, 0, 0] μ = some ((w32 (x3 - (μ 59 4))), μ) := (At_eq cr2 d 89 4 _ _ _).trans rfl
set_option maxRecDepth 20000 in
theorem B89_5 (d : Nat) (x3 x7 : Int) (μ : amM) : At cr2 d 89 5 [] [59, 0, 0, x3, 0, 0, 0, x7] μ = bnd (RD cr2 d 89 [59, (μ 59 2), 1, x3, x7] μ) (fun v1 μ1 => bnd (RD cr2 d 89 [59, (μ1 59 2), 2, x3, x7] μ1) (fun v2 μ2 => some ((bXor v1 v2), μ2))) := (At_eq cr2 d 89 5 _ _ _).trans rfl
set_option maxRecDepth 20000 in
theorem B89_6 (d : Nat) (x3 x5 x7 : Int) (μ : amM) : At cr2 d 89 6 [] [59, 0, 0, x3, 0, x5, 0, x7] μ = amAld μ 300 x5 (fun v1 => bnd (RD cr2 d 89 [59, v1, 1, x3, x7] μ) (fun v2 μ1 => bnd (RD cr2 d 89 [59, (μ1 59 2), 2, 1, x7] μ1) (fun v3 μ2 => some ((w32 (v2 - v3)), μ2)))) := (At_eq cr2 d 89 6 _ _ _).trans rfl
set_option maxRecDepth 20000 in
theorem B89_7 (d : Nat) (x3 x5 x7 : Int) (μ : amM) : At cr2 d 89 7 [] [59, 0, 0, x3, 0, x5, 0, x7] μ = amAld μ 300 x5 (fun v1 => bnd (RD cr2 d 89 [59, v1, 0, x3, x7] μ) (fun v2 μ1 => some ((w32 (v2 * 3)), μ1))) := (At_eq cr2 d 89 7 _ _ _).trans rfl
set_option maxRecDepth 20000 in
theorem B89_8 (d : Nat) (x3 x5 x7 : Int) (μ : amM) : At cr2 d 89 8 [] [59, 0, 0, x3, 0, x5, 0, x7] μ = amAld μ 300 x5 (fun v1 => bnd (RD cr2 d 89 [59, v1, 2, x3, x7] μ) (fun v2 μ1 => some ((w32 (-v2)), μ1))) := (At_eq cr2 d 89 8 _ _ _).trans rfl
set_option maxRecDepth 20000 in
theorem B89_9 (d : Nat) (x3 x5 x7 : Int) (μ : amM) : At cr2 d 89 9 [] [59, 0, 0, x3, 0, x5, 0, x7] μ = amAld μ 300 x5 (fun v1 => bnd (RD cr2 d 89 [59, v1, 1, (w32 (x3 + 1)), x7] μ) (fun v2 μ1 => some (v2, μ1))) := (At_eq cr2 d 89 9 _ _ _).trans rfl
set_option maxRecDepth 20000 in
theorem B89_10 (d : Nat) (x3 x5 x7 : Int) (μ : amM) : At cr2 d 89 10 [] [59, 0, 0, x3, 0, x5, 0, x7] μ = amAld μ 300 x5 (fun v1 => bnd (RD cr2 d 89 [59, v1, 3, x3, x7] μ) (fun v2 μ1 => bnd (RD cr2 d 89 [59, (μ1 59 2), 0, 2, x7] μ1) (fun v3 μ2 => some ((w32 (v2 - v3)), μ2)))) := (At_eq cr2 d 89 10 _ _ _).trans rfl
set_option maxRecDepth 20000 in
theorem B89_11 (d : Nat) (x3 x5 x7 : Int) (μ : amM) : At cr2 d 89 11 [] [59, 0, 0, x3, 0, x5, 0, x7] μ = amAld μ 300 x5 (fun v1 => bnd (RD cr2 d 89 [59, v1, 2, x3, x7] μ) (fun v2 μ1 => some ((bXor v2 (μ1 59 3)), μ1))) := (At_eq cr2 d 89 11 _ _ _).trans rfl
set_option maxRecDepth 20000 in
theorem B89_12 (d : Nat) (x3 x5 x7 : Int) (μ : amM) : At cr2 d 89 12 [] [59, 0, 0, x3, 0, x5, 0, x7] μ = bnd (RD cr2 d 89 [59, (μ 59 2), 1, x3, x7] μ) (fun v1 μ1 => amAld μ1 300 x5 (fun v2 => bnd (RD cr2 d 89 [59, v2, 3, x3, x7] μ1) (fun v3 μ2 => some ((w32 (v1 - v3)), μ2)))) := (At_eq cr2 d 89 12 _ _ _).trans rfl
set_option maxRecDepth 20000 in
theorem B91_0 (d : Nat) (x2 : Int) (μ : amM) : At cr2 d 91 0 [] [55, 2, x2, 0] μ = At cr2 d 91 1 [] [55, 2, x2, 0] μ := (At_eq cr2 d 91 0 _ _ _).trans rfl
set_option maxRecDepth 20000 in
theorem B91_1 (d : Nat) (x2 x3 : Int) (μ : amM) : At cr2 d 91 1 [] [55, 2, x2, x3] μ = (if x3 < 81 then if 0 ≤ (μ 55 1) then (if x3 = 0 then At cr2 d 91 3 [1, x3, (μ 55 1)] [55, 2, x2, x3] μ else At cr2 d 91 2 [x3, (μ 55 1)] [55, 2, x2, x3] μ) else none else At cr2 d 91 4 [] [55, 2, x2, 0] μ) := (At_eq cr2 d 91 1 _ _ _).trans rfl
set_option maxRecDepth 20000 in
theorem B91_2 (d : Nat) (s0 s1 x2 x3 : Int) (μ : amM) : At cr2 d 91 2 [s0, s1] [55, 2, x2, x3] μ = At cr2 d 91 3 [0, s0, s1] [55, 2, x2, x3] μ := (At_eq cr2 d 91 2 _ _ _).trans rfl
set_option maxRecDepth 20000 in
theorem B91_3 (d : Nat) (s0 s1 s2 x2 x3 : Int) (μ : amM) : At cr2 d 91 3 [s0, s1, s2] [55, 2, x2, x3] μ = amPst 21 μ s2 s1 s0 (fun μ1 => At cr2 d 91 1 [] [55, 2, x2, (w32 (x3 + 1))] μ1) := (At_eq cr2 d 91 3 _ _ _).trans rfl
set_option maxRecDepth 20000 in
theorem B91_4 (d : Nat) (x2 : Int) (μ : amM) : At cr2 d 91 4 [] [55, 2, x2, 0] μ = At cr2 d 91 5 [] [55, 2, x2, 0] μ := (At_eq cr2 d 91 4 _ _ _).trans rfl
set_option maxRecDepth 20000 in
theorem B91_5 (d : Nat) (x2 x3 : Int) (μ : amM) : At cr2 d 91 5 [] [55, 2, x2, x3] μ = (if x3 < x2 then bnd (RD cr2 d 96 [55, 2, (-1), (-1)] μ) (fun _ μ1 => At cr2 d 91 5 [] [55, 2, x2, (w32 (x3 + 1))] μ1) else At cr2 d 91 6 [] [55, 0, 0, 0] μ) := (At_eq cr2 d 91 5 _ _ _).trans rfl
set_option maxRecDepth 20000 in
theorem B91_6 (d : Nat) (μ : amM) : At cr2 d 91 6 [] [55, 0, 0, 0] μ = if 0 ≤ (μ 55 1) then amPld 21 μ (μ 55 1) 0 (fun v1 => some ((w64 (81 * v1)), μ)) else none := (At_eq cr2 d 91 6 _ _ _).trans rfl
set_option maxRecDepth 20000 in
theorem B92_0 (d : Nat) (μ : amM) : At cr2 d 92 0 [] [55, 2, 0, 0, 0, 0, 0, 0, 0] μ = (if 0 < (μ 2 9) then (if (μ 2 8) < 3 then At cr2 d 92 1 [] [55, 2, 0, 0, 0, 0, 0, 0, 0] μ else At cr2 d 92 2 [1] [55, 2, 0, 0, 0, 0, 0, 0, 0] μ) else At cr2 d 92 1 [] [55, 2, 0, 0, 0, 0, 0, 0, 0] μ) := (At_eq cr2 d 92 0 _ _ _).trans rfl
set_option maxRecDepth 20000 in
theorem B92_1 (d : Nat) (μ : amM) : At cr2 d 92 1 [] [55, 2, 0, 0, 0, 0, 0, 0, 0] μ = At cr2 d 92 2 [0] [55, 2, 0, 0, 0, 0, 0, 0, 0] μ := (At_eq cr2 d 92 1 _ _ _).trans rfl
set_option maxRecDepth 20000 in
theorem B92_2 (d : Nat) (s0 : Int) (μ : amM) : At cr2 d 92 2 [s0] [55, 2, 0, 0, 0, 0, 0, 0, 0] μ = (if s0 = 0 then At cr2 d 92 3 [] [55, 2, s0, 0, 0, 0, 0, 0, 0] μ else bnd (RD cr2 d 93 [2] μ) (fun v1 μ1 => At cr2 d 92 4 [v1] [55, 2, s0, 0, 0, 0, 0, 0, 0] μ1)) := (At_eq cr2 d 92 2 _ _ _).trans rfl
set_option maxRecDepth 20000 in
theorem B92_3 (d : Nat) (x2 : Int) (μ : amM) : At cr2 d 92 3 [] [55, 2, x2, 0, 0, 0, 0, 0, 0] μ = At cr2 d 92 4 [0] [55, 2, x2, 0, 0, 0, 0, 0, 0] μ := (At_eq cr2 d 92 3 _ _ _).trans rfl
set_option maxRecDepth 20000 in
theorem B92_4 (d : Nat) (s0 x2 : Int) (μ : amM) : At cr2 d 92 4 [s0] [55, 2, x2, 0, 0, 0, 0, 0, 0] μ = (if s0 = (-1) then bnd (RD cr2 d 91 [55, 2, (μ 2 10)] μ) (fun v1 μ1 => some (v1, μ1)) else At cr2 d 92 5 [] [55, 2, x2, s0, 0, 0, 0, 0, 0] μ) := (At_eq cr2 d 92 4 _ _ _).trans rfl
set_option maxRecDepth 20000 in
theorem B92_5 (d : Nat) (x2 x3 : Int) (μ : amM) : At cr2 d 92 5 [] [55, 2, x2, x3, 0, 0, 0, 0, 0] μ = At cr2 d 92 6 [] [55, 2, x2, 0, x3, 0, 0, 0, 0] μ := (At_eq cr2 d 92 5 _ _ _).trans rfl
set_option maxRecDepth 20000 in
theorem B92_6 (d : Nat) (x2 x4 x5 : Int) (μ : amM) : At cr2 d 92 6 [] [55, 2, x2, 0, x4, x5, 0, 0, 0] μ = bnd (RD cr2 d 95 [2, x4] μ) (fun v1 μ1 => (if x5 < v1 then if 0 ≤ (μ1 55 1) then amPst 21 μ1 (μ1 55 1) x5 1 (fun μ2 => At cr2 d 92 6 [] [55, 2, x2, 0, x4, (w32 (x5 + 1)), 0, 0, 0] μ2) else none else At cr2 d 92 7 [] [55, 2, x2, 0, x4, 0, 0, 0, 0] μ1)) := (At_eq cr2 d 92 6 _ _ _).trans rfl
set_option maxRecDepth 20000 in
theorem B92_7 (d : Nat) (x2 x4 : Int) (μ : amM) : At cr2 d 92 7 [] [55, 2, x2, 0, x4, 0, 0, 0, 0] μ = (if x2 = 0 then At cr2 d 92 8 [] [55, 2, 0, 0, x4, 0, 0, 0, 0] μ else At cr2 d 92 9 [(μ 2 10)] [55, 2, 0, 0, x4, 0, 0, 0, 0] μ) := (At_eq cr2 d 92 7 _ _ _).trans rfl
set_option maxRecDepth 20000 in
theorem B92_8 (d : Nat) (x4 : Int) (μ : amM) : At cr2 d 92 8 [] [55, 2, 0, 0, x4, 0, 0, 0, 0] μ = At cr2 d 92 9 [(w32 ((μ 2 10) - 1))] [55, 2, 0, 0, x4, 0, 0, 0, 0] μ := (At_eq cr2 d 92 8 _ _ _).trans rfl
set_option maxRecDepth 20000 in
theorem B92_9 (d : Nat) (s0 x4 : Int) (μ : amM) : At cr2 d 92 9 [s0] [55, 2, 0, 0, x4, 0, 0, 0, 0] μ = At cr2 d 92 10 [] [55, 2, 0, 0, x4, s0, 0, 0, 0] μ := (At_eq cr2 d 92 9 _ _ _).trans rfl
set_option maxRecDepth 20000 in
theorem B92_10 (d : Nat) (x4 x5 x6 : Int) (μ : amM) : At cr2 d 92 10 [] [55, 2, 0, 0, x4, x5, x6, 0, 0] μ = (if x6 < x5 then (if (w32 (x4 + 1)) < (μ 2 10) then At cr2 d 92 12 [(w32 (x4 + 1))] [55, 2, 0, 0, x4, x5, x6, 0, 0] μ else At cr2 d 92 11 [] [55, 2, 0, 0, x4, x5, x6, 0, 0] μ) else At cr2 d 92 13 [] [55, 2, 0, 0, x4, 0, 0, 0, 0] μ) := (At_eq cr2 d 92 10 _ _ _).trans rfl
set_option maxRecDepth 20000 in
theorem B92_11 (d : Nat) (x4 x5 x6 : Int) (μ : amM) : At cr2 d 92 11 [] [55, 2, 0, 0, x4, x5, x6, 0, 0] μ = At cr2 d 92 12 [0] [55, 2, 0, 0, x4, x5, x6, 0, 0] μ := (At_eq cr2 d 92 11 _ _ _).trans rfl
set_option maxRecDepth 20000 in
theorem B92_12 (d : Nat) (s0 x4 x5 x6 : Int) (μ : amM) : At cr2 d 92 12 [s0] [55, 2, 0, 0, x4, x5, x6, 0, 0] μ = bnd (RD cr2 d 96 [55, 2, x4, s0] μ) (fun _ μ1 => At cr2 d 92 10 [] [55, 2, 0, 0, s0, x5, (w32 (x6 + 1)), 0, 0] μ1) := (At_eq cr2 d 92 12 _ _ _).trans rfl
set_option maxRecDepth 20000 in
theorem B92_13 (d : Nat) (x4 : Int) (μ : amM) : At cr2 d 92 13 [] [55, 2, 0, 0, x4, 0, 0, 0, 0] μ = At cr2 d 92 14 [] [55, 2, 0, 0, x4, 0, 0, 0, 0] μ := (At_eq cr2 d 92 13 _ _ _).trans rfl
set_option maxRecDepth 20000 in
theorem B92_14 (d : Nat) (x4 x6 x8 : Int) (μ : amM) : At cr2 d 92 14 [] [55, 2, 0, 0, x4, 0, x6, 0, x8] μ = bnd (RD cr2 d 95 [2, x4] μ) (fun v1 μ1 => (if x8 < v1 then if 0 ≤ (μ1 55 1) then amPld 21 μ1 (μ1 55 1) x8 (fun v2 => At cr2 d 92 14 [] [55, 2, 0, 0, x4, 0, (w64 (x6 + v2)), 0, (w32 (x8 + 1))] μ1) else none else At cr2 d 92 15 [] [0, 0, 0, 0, 0, 0, x6, 0, 0] μ1)) := (At_eq cr2 d 92 14 _ _ _).trans rfl
set_option maxRecDepth 20000 in
theorem B92_15 (d : Nat) (x6 : Int) (μ : amM) : At cr2 d 92 15 [] [0, 0, 0, 0, 0, 0, x6, 0, 0] μ = some (x6, μ) := (At_eq cr2 d 92 15 _ _ _).trans rfl
set_option maxRecDepth 20000 in
theorem B93_0 (d : Nat) (μ : amM) : At cr2 d 93 0 [] [2, 0] μ = At cr2 d 93 1 [] [2, 0] μ := (At_eq cr2 d 93 0 _ _ _).trans rfl
set_option maxRecDepth 20000 in
theorem B93_1 (d : Nat) (x1 : Int) (μ : amM) : At cr2 d 93 1 [] [2, x1] μ = (if x1 < (μ 2 10) then rd 3 64 μ x1 (fun v1 => (if v1 = (-1) then At cr2 d 93 2 [] [2, x1] μ else some (x1, μ))) else At cr2 d 93 3 [] [0, 0] μ) := (At_eq cr2 d 93 1 _ _ _).trans rfl
set_option maxRecDepth 20000 in
theorem B93_2 (d : Nat) (x1 : Int) (μ : amM) : At cr2 d 93 2 [] [2, x1] μ = At cr2 d 93 1 [] [2, (w32 (x1 + 1))] μ := (At_eq cr2 d 93 2 _ _ _).trans rfl
set_option maxRecDepth 20000 in
theorem B93_3 (d : Nat) (μ : amM) : At cr2 d 93 3 [] [0, 0] μ = some ((-1), μ) := (At_eq cr2 d 93 3 _ _ _).trans rfl
set_option maxRecDepth 20000 in
theorem B94_0 (d : Nat) (x1 : Int) (μ : amM) : At cr2 d 94 0 [] [2, x1] μ = (if x1 = (-1) then At cr2 d 94 1 [] [0, 0] μ else rd 3 64 μ x1 (fun v1 => (if v1 = (-1) then At cr2 d 94 1 [] [0, 0] μ else At cr2 d 94 2 [] [0, 0] μ))) := (At_eq cr2 d 94 0 _ _ _).trans rfl
set_option maxRecDepth 20000 in
theorem B94_1 (d : Nat) (μ : amM) : At cr2 d 94 1 [] [0, 0] μ = At cr2 d 94 3 [1] [0, 0] μ := (At_eq cr2 d 94 1 _ _ _).trans rfl
set_option maxRecDepth 20000 in
theorem B94_2 (d : Nat) (μ : amM) : At cr2 d 94 2 [] [0, 0] μ = At cr2 d 94 3 [0] [0, 0] μ := (At_eq cr2 d 94 2 _ _ _).trans rfl
set_option maxRecDepth 20000 in
theorem B94_3 (d : Nat) (s0 : Int) (μ : amM) : At cr2 d 94 3 [s0] [0, 0] μ = rb s0 μ := (At_eq cr2 d 94 3 _ _ _).trans rfl
set_option maxRecDepth 20000 in
theorem B95_0 (d : Nat) (x1 : Int) (μ : amM) : At cr2 d 95 0 [] [2, x1] μ = bnd (RD cr2 d 94 [2, x1] μ) (fun v1 μ1 => (if v1 = 0 then At cr2 d 95 1 [] [0, 0] μ1 else At cr2 d 95 2 [81] [0, 0] μ1)) := (At_eq cr2 d 95 0 _ _ _).trans rfl
set_option maxRecDepth 20000 in
theorem B95_1 (d : Nat) (μ : amM) : At cr2 d 95 1 [] [0, 0] μ = At cr2 d 95 2 [1] [0, 0] μ := (At_eq cr2 d 95 1 _ _ _).trans rfl
set_option maxRecDepth 20000 in
theorem B95_2 (d : Nat) (s0 : Int) (μ : amM) : At cr2 d 95 2 [s0] [0, 0] μ = some (s0, μ) := (At_eq cr2 d 95 2 _ _ _).trans rfl
set_option maxRecDepth 20000 in
theorem B96_0 (d : Nat) (x2 x3 : Int) (μ : amM) : At cr2 d 96 0 [] [55, 2, x2, x3, 0, 0] μ = bnd (RD cr2 d 94 [2, x2] μ) (fun v1 μ1 => (if v1 = 0 then bnd (RD cr2 d 70 [2, x2] μ1) (fun v2 μ2 => (if v2 = 0 then At cr2 d 96 3 [] [55, 2, x2, x3, 0, 0] μ2 else At cr2 d 96 1 [] [55, 2, x2, x3, 0, 0] μ2)) else At cr2 d 96 1 [] [55, 2, x2, x3, 0, 0] μ1)) := (At_eq cr2 d 96 0 _ _ _).trans rfl
set_option maxRecDepth 20000 in
theorem B96_1 (d : Nat) (x2 x3 : Int) (μ : amM) : At cr2 d 96 1 [] [55, 2, x2, x3, 0, 0] μ = bnd (RD cr2 d 94 [2, x3] μ) (fun v1 μ1 => (if v1 = 0 then bnd (RD cr2 d 70 [2, x3] μ1) (fun v2 μ2 => (if v2 = 0 then At cr2 d 96 3 [] [55, 2, x2, x3, 0, 0] μ2 else At cr2 d 96 2 [] [55, 2, x2, x3, 0, 0] μ2)) else At cr2 d 96 2 [] [55, 2, x2, x3, 0, 0] μ1)) := (At_eq cr2 d 96 1 _ _ _).trans rfl
set_option maxRecDepth 20000 in
theorem B96_2 (d : Nat) (x2 x3 : Int) (μ : amM) : At cr2 d 96 2 [] [55, 2, x2, x3, 0, 0] μ = At cr2 d 96 4 [1] [55, 2, x2, x3, 0, 0] μ := (At_eq cr2 d 96 2 _ _ _).trans rfl
set_option maxRecDepth 20000 in
theorem B96_3 (d : Nat) (x2 x3 : Int) (μ : amM) : At cr2 d 96 3 [] [55, 2, x2, x3, 0, 0] μ = At cr2 d 96 4 [0] [55, 2, x2, x3, 0, 0] μ := (At_eq cr2 d 96 3 _ _ _).trans rfl
set_option maxRecDepth 20000 in
theorem B96_4 (d : Nat) (s0 x2 x3 : Int) (μ : amM) : At cr2 d 96 4 [s0] [55, 2, x2, x3, 0, 0] μ = At cr2 d 96 5 [] [55, 2, x2, x3, s0, 0] μ := (At_eq cr2 d 96 4 _ _ _).trans rfl
set_option maxRecDepth 20000 in
theorem B96_5 (d : Nat) (x2 x3 x4 x5 : Int) (μ : amM) : At cr2 d 96 5 [] [55, 2, x2, x3, x4, x5] μ = bnd (RD cr2 d 95 [2, x3] μ) (fun v1 μ1 => (if x5 < v1 then if 0 ≤ (μ1 55 2) then bnd (RD cr2 d 94 [2, x3] μ1) (fun v2 μ2 => (if v2 = 0 then At cr2 d 96 6 [x2, 2, 55, x5, (μ1 55 2)] [55, 2, x2, x3, x4, x5] μ2 else rd 56 81 μ2 x5 (fun v3 => At cr2 d 96 7 [v3, x2, 2, 55, x5, (μ1 55 2)] [55, 2, x2, x3, x4, x5] μ2))) else none else At cr2 d 96 8 [] [55, 0, 0, 0, 0, 0] μ1)) := (At_eq cr2 d 96 5 _ _ _).trans rfl
set_option maxRecDepth 20000 in
theorem B96_6 (d : Nat) (s0 s3 s4 x2 x3 x4 x5 : Int) (μ : amM) : At cr2 d 96 6 [s0, 2, 55, s3, s4] [55, 2, x2, x3, x4, x5] μ = rd 5 64 μ x3 (fun v1 => At cr2 d 96 7 [v1, s0, 2, 55, s3, s4] [55, 2, x2, x3, x4, x5] μ) := (At_eq cr2 d 96 6 _ _ _).trans rfl
set_option maxRecDepth 20000 in
theorem B96_7 (d : Nat) (s0 s1 s4 s5 x2 x3 x4 x5 : Int) (μ : amM) : At cr2 d 96 7 [s0, s1, 2, 55, s4, s5] [55, 2, x2, x3, x4, x5] μ = bnd (RD cr2 d 97 [55, 2, s1, s0, x4] μ) (fun v1 μ1 => amPst 21 μ1 s5 s4 v1 (fun μ2 => At cr2 d 96 5 [] [55, 2, x2, x3, x4, (w32 (x5 + 1))] μ2)) := (At_eq cr2 d 96 7 _ _ _).trans rfl
set_option maxRecDepth 20000 in
theorem B96_8 (d : Nat) (μ : amM) : At cr2 d 96 8 [] [55, 0, 0, 0, 0, 0] μ = if 0 ≤ (μ 55 1) then if 0 ≤ (μ 55 2) then wf 55 1 μ (μ 55 2) (fun μ1 => wf 55 2 μ1 (μ 55 1) (fun μ2 => some (0, μ2))) else none else none := (At_eq cr2 d 96 8 _ _ _).trans rfl
set_option maxRecDepth 20000 in
theorem B97_0 (d : Nat) (x2 x3 x4 : Int) (μ : amM) : At cr2 d 97 0 [] [55, 2, x2, x3, x4, 0, 0, 0, 0, 0] μ = bnd (RD cr2 d 94 [2, x2] μ) (fun v1 μ1 => (if v1 = 0 then At cr2 d 97 1 [] [55, 2, x2, x3, x4, v1, 0, 0, 0, 0] μ1 else At cr2 d 97 2 [81] [55, 2, x2, x3, x4, v1, 0, 0, 0, 0] μ1)) := (At_eq cr2 d 97 0 _ _ _).trans rfl
set_option maxRecDepth 20000 in
theorem B97_1 (d : Nat) (x2 x3 x4 x5 : Int) (μ : amM) : At cr2 d 97 1 [] [55, 2, x2, x3, x4, x5, 0, 0, 0, 0] μ = At cr2 d 97 2 [1] [55, 2, x2, x3, x4, x5, 0, 0, 0, 0] μ := (At_eq cr2 d 97 1 _ _ _).trans rfl
set_option maxRecDepth 20000 in
theorem B97_2 (d : Nat) (s0 x2 x3 x4 x5 : Int) (μ : amM) : At cr2 d 97 2 [s0] [55, 2, x2, x3, x4, x5, 0, 0, 0, 0] μ = At cr2 d 97 3 [] [55, 2, x2, x3, x4, x5, s0, 0, 0, 0] μ := (At_eq cr2 d 97 2 _ _ _).trans rfl
set_option maxRecDepth 20000 in
theorem B97_3 (d : Nat) (x2 x3 x4 x5 x6 x7 x9 : Int) (μ : amM) : At cr2 d 97 3 [] [55, 2, x2, x3, x4, x5, x6, x7, 0, x9] μ = (if x9 < x6 then (if x4 = 0 then At cr2 d 97 6 [] [55, 2, x2, x3, x4, x5, x6, x7, 0, x9] μ else (if x5 = 0 then At cr2 d 97 4 [2] [55, 2, x2, x3, x4, x5, x6, x7, 0, x9] μ else rd 56 81 μ x9 (fun v1 => At cr2 d 97 5 [v1, 2] [55, 2, x2, x3, x4, x5, x6, x7, 0, x9] μ))) else At cr2 d 97 8 [] [0, 0, 0, 0, 0, 0, 0, x7, 0, 0] μ) := (At_eq cr2 d 97 3 _ _ _).trans rfl
set_option maxRecDepth 20000 in
theorem B97_4 (d : Nat) (x2 x3 x4 x5 x6 x7 x9 : Int) (μ : amM) : At cr2 d 97 4 [2] [55, 2, x2, x3, x4, x5, x6, x7, 0, x9] μ = rd 5 64 μ x2 (fun v1 => At cr2 d 97 5 [v1, 2] [55, 2, x2, x3, x4, x5, x6, x7, 0, x9] μ) := (At_eq cr2 d 97 4 _ _ _).trans rfl
set_option maxRecDepth 20000 in
theorem B97_5 (d : Nat) (s0 x2 x3 x4 x5 x6 x7 x9 : Int) (μ : amM) : At cr2 d 97 5 [s0, 2] [55, 2, x2, x3, x4, x5, x6, x7, 0, x9] μ = bnd (RD cr2 d 72 [2, s0, x3] μ) (fun v1 μ1 => (if v1 = 0 then At cr2 d 97 7 [] [55, 2, x2, x3, x4, x5, x6, x7, 0, x9] μ1 else At cr2 d 97 6 [] [55, 2, x2, x3, x4, x5, x6, x7, 0, x9] μ1)) := (At_eq cr2 d 97 5 _ _ _).trans rfl
set_option maxRecDepth 20000 in
theorem B97_6 (d : Nat) (x2 x3 x4 x5 x6 x7 x9 : Int) (μ : amM) : At cr2 d 97 6 [] [55, 2, x2, x3, x4, x5, x6, x7, 0, x9] μ = if 0 ≤ (μ 55 1) then amPld 21 μ (μ 55 1) x9 (fun v1 => At cr2 d 97 7 [] [55, 2, x2, x3, x4, x5, x6, (w64 (x7 + v1)), 0, x9] μ) else none := (At_eq cr2 d 97 6 _ _ _).trans rfl
set_option maxRecDepth 20000 in
theorem B97_7 (d : Nat) (x2 x3 x4 x5 x6 x7 x9 : Int) (μ : amM) : At cr2 d 97 7 [] [55, 2, x2, x3, x4, x5, x6, x7, 0, x9] μ = At cr2 d 97 3 [] [55, 2, x2, x3, x4, x5, x6, x7, 0, (w32 (x9 + 1))] μ := (At_eq cr2 d 97 7 _ _ _).trans rfl
set_option maxRecDepth 20000 in
theorem B97_8 (d : Nat) (x7 : Int) (μ : amM) : At cr2 d 97 8 [] [0, 0, 0, 0, 0, 0, 0, x7, 0, 0] μ = some (x7, μ) := (At_eq cr2 d 97 8 _ _ _).trans rfl
set_option maxRecDepth 20000 in
theorem B99_0 (d : Nat) (x1 x2 x3 : Int) (μ : amM) : At cr2 d 99 0 [] [0, x1, x2, x3] μ = bnd (RD cr2 d 142 [x1, 1, 8] μ) (fun v1 μ1 => (if v1 = 0 then At cr2 d 99 1 [] [0, 0, 0, 0] μ1 else bnd (RD cr2 d 142 [x2, 1, 8] μ1) (fun v2 μ2 => (if v2 = 0 then At cr2 d 99 1 [] [0, 0, 0, 0] μ2 else bnd (RD cr2 d 142 [x3, 0, 2] μ2) (fun v3 μ3 => (if v3 = 0 then At cr2 d 99 1 [] [0, 0, 0, 0] μ3 else At cr2 d 99 2 [] [0, x1, x2, x3] μ3)))))) := (At_eq cr2 d 99 0 _ _ _).trans rfl
set_option maxRecDepth 20000 in
theorem B99_1 (d : Nat) (μ : amM) : At cr2 d 99 1 [] [0, 0, 0, 0] μ = bnd (RD cr2 d 141 [0, 1] μ) (fun v1 μ1 => some (v1, μ1)) := (At_eq cr2 d 99 1 _ _ _).trans rfl
set_option maxRecDepth 20000 in
theorem B99_2 (d : Nat) (x1 x2 x3 : Int) (μ : amM) : At cr2 d 99 2 [] [0, x1, x2, x3] μ = bnd (RD cr2 d 62 [2, x1, x2, x3] μ) (fun _ μ1 => some ((μ1 2 10), μ1)) := (At_eq cr2 d 99 2 _ _ _).trans rfl
set_option maxRecDepth 20000 in
theorem B100_0 (d : Nat) (x1 x2 : Int) (μ : amM) : At cr2 d 100 0 [] [0, x1, x2, 0, 0] μ = bnd (RD cr2 d 142 [x1, 0, 1] μ) (fun v1 μ1 => (if v1 = 0 then At cr2 d 100 1 [] [0, 0, 0, 0, 0] μ1 else bnd (RD cr2 d 142 [x2, 0, 4] μ1) (fun v2 μ2 => (if v2 = 0 then At cr2 d 100 1 [] [0, 0, 0, 0, 0] μ2 else At cr2 d 100 2 [] [0, x1, x2, 0, 0] μ2)))) := (At_eq cr2 d 100 0 _ _ _).trans rfl
set_option maxRecDepth 20000 in
theorem B100_1 (d : Nat) (μ : amM) : At cr2 d 100 1 [] [0, 0, 0, 0, 0] μ = bnd (RD cr2 d 141 [0, 1] μ) (fun v1 μ1 => some (v1, μ1)) := (At_eq cr2 d 100 1 _ _ _).trans rfl
set_option maxRecDepth 20000 in
theorem B100_2 (d : Nat) (x1 x2 : Int) (μ : amM) : At cr2 d 100 2 [] [0, x1, x2, 0, 0] μ = (if x1 = 0 then (if (μ 2 12) < x2 then At cr2 d 100 4 [] [0, 0, 0, 0, 0] μ else At cr2 d 100 5 [] [0, x1, x2, 2, 0] μ) else At cr2 d 100 3 [] [0, x1, x2, 2, 0] μ) := (At_eq cr2 d 100 2 _ _ _).trans rfl
set_option maxRecDepth 20000 in
theorem B100_3 (d : Nat) (x1 x2 : Int) (μ : amM) : At cr2 d 100 3 [] [0, x1, x2, 2, 0] μ = (if x2 < (μ 2 11) then At cr2 d 100 4 [] [0, 0, 0, 0, 0] μ else At cr2 d 100 5 [] [0, x1, x2, 2, 0] μ) := (At_eq cr2 d 100 3 _ _ _).trans rfl
set_option maxRecDepth 20000 in
theorem B100_4 (d : Nat) (μ : amM) : At cr2 d 100 4 [] [0, 0, 0, 0, 0] μ = bnd (RD cr2 d 141 [0, 3] μ) (fun v1 μ1 => some (v1, μ1)) := (At_eq cr2 d 100 4 _ _ _).trans rfl
set_option maxRecDepth 20000 in
theorem B100_5 (d : Nat) (x1 x2 : Int) (μ : amM) : At cr2 d 100 5 [] [0, x1, x2, 2, 0] μ = (if x1 = 0 then At cr2 d 100 7 [(μ 2 11)] [0, x1, x2, 2, 0] μ else At cr2 d 100 6 [] [0, x1, x2, 2, 0] μ) := (At_eq cr2 d 100 5 _ _ _).trans rfl
set_option maxRecDepth 20000 in
theorem B100_6 (d : Nat) (x1 x2 : Int) (μ : amM) : At cr2 d 100 6 [] [0, x1, x2, 2, 0] μ = At cr2 d 100 7 [(μ 2 12)] [0, x1, x2, 2, 0] μ := (At_eq cr2 d 100 6 _ _ _).trans rfl
set_option maxRecDepth 20000 in
theorem B100_7 (d : Nat) (s0 x1 x2 : Int) (μ : amM) : At cr2 d 100 7 [s0] [0, x1, x2, 2, 0] μ = (if x1 = 0 then wf 2 11 μ x2 (fun μ1 => At cr2 d 100 9 [] [0, 0, 0, 0, s0] μ1) else At cr2 d 100 8 [] [0, 0, x2, 2, s0] μ) := (At_eq cr2 d 100 7 _ _ _).trans rfl
set_option maxRecDepth 20000 in
theorem B100_8 (d : Nat) (x2 x4 : Int) (μ : amM) : At cr2 d 100 8 [] [0, 0, x2, 2, x4] μ = wf 2 12 μ x2 (fun μ1 => At cr2 d 100 9 [] [0, 0, 0, 0, x4] μ1) := (At_eq cr2 d 100 8 _ _ _).trans rfl
set_option maxRecDepth 20000 in
theorem B100_9 (d : Nat) (x4 : Int) (μ : amM) : At cr2 d 100 9 [] [0, 0, 0, 0, x4] μ = some (x4, μ) := (At_eq cr2 d 100 9 _ _ _).trans rfl
set_option maxRecDepth 20000 in
theorem B101_0 (d : Nat) (x1 x2 x3 : Int) (μ : amM) : At cr2 d 101 0 [] [0, x1, x2, x3, 0] μ = bnd (RD cr2 d 148 [0, x1, x2, x3] μ) (fun v1 μ1 => (if v1 = 0 then At cr2 d 101 1 [] [0, x1, x2, x3, 0] μ1 else bnd (RD cr2 d 141 [0, v1] μ1) (fun v2 μ2 => some (v2, μ2)))) := (At_eq cr2 d 101 0 _ _ _).trans rfl
set_option maxRecDepth 20000 in
theorem B101_1 (d : Nat) (x1 x2 x3 : Int) (μ : amM) : At cr2 d 101 1 [] [0, x1, x2, x3, 0] μ = bnd (RD cr2 d 6 [x3] μ) (fun v1 μ1 => bnd (RD cr2 d 67 [2, x1, (w32 (x2.tdiv 10)), (x2.tmod 10), v1] μ1) (fun _ μ2 => bnd (RD cr2 d 68 [2] μ2) (fun v2 μ3 => some (v2, μ3)))) := (At_eq cr2 d 101 1 _ _ _).trans rfl
set_option maxRecDepth 20000 in
theorem B102_0 (d : Nat) (x1 : Int) (μ : amM) : At cr2 d 102 0 [] [0, x1] μ = bnd (RD cr2 d 143 [0, x1] μ) (fun v1 μ1 => (if v1 = 0 then bnd (RD cr2 d 141 [0, 1] μ1) (fun v2 μ2 => some (v2, μ2)) else At cr2 d 102 1 [] [0, x1] μ1)) := (At_eq cr2 d 102 0 _ _ _).trans rfl
set_option maxRecDepth 20000 in
theorem B102_1 (d : Nat) (x1 : Int) (μ : amM) : At cr2 d 102 1 [] [0, x1] μ = bnd (RD cr2 d 144 [0, x1] μ) (fun v1 μ1 => (if v1 = 0 then At cr2 d 102 2 [] [0, x1] μ1 else bnd (RD cr2 d 141 [0, 2] μ1) (fun v2 μ2 => some (v2, μ2)))) := (At_eq cr2 d 102 1 _ _ _).trans rfl
set_option maxRecDepth 20000 in
theorem B102_2 (d : Nat) (x1 : Int) (μ : amM) : At cr2 d 102 2 [] [0, x1] μ = wr 3 64 μ x1 (-1) (fun μ1 => rd 5 64 μ1 x1 (fun v1 => bnd (RD cr2 d 9 [v1] μ1) (fun v2 μ2 => some (v2, μ2)))) := (At_eq cr2 d 102 2 _ _ _).trans rfl
set_option maxRecDepth 20000 in
theorem B103_0 (d : Nat) (x1 x2 : Int) (μ : amM) : At cr2 d 103 0 [] [0, x1, x2, 0] μ = bnd (RD cr2 d 143 [0, x1] μ) (fun v1 μ1 => (if v1 = 0 then At cr2 d 103 1 [] [0, 0, 0, 0] μ1 else bnd (RD cr2 d 142 [x2, 0, 11] μ1) (fun v2 μ2 => (if v2 = 0 then At cr2 d 103 1 [] [0, 0, 0, 0] μ2 else At cr2 d 103 2 [] [0, x1, x2, 0] μ2)))) := (At_eq cr2 d 103 0 _ _ _).trans rfl
set_option maxRecDepth 20000 in
theorem B103_1 (d : Nat) (μ : amM) : At cr2 d 103 1 [] [0, 0, 0, 0] μ = bnd (RD cr2 d 141 [0, 1] μ) (fun v1 μ1 => some (v1, μ1)) := (At_eq cr2 d 103 1 _ _ _).trans rfl
set_option maxRecDepth 20000 in
theorem B103_2 (d : Nat) (x1 x2 : Int) (μ : amM) : At cr2 d 103 2 [] [0, x1, x2, 0] μ = (if x2 = 0 then bnd (RD cr2 d 144 [0, x1] μ) (fun v1 μ1 => (if v1 = 0 then At cr2 d 103 3 [] [0, 0, 0, 0] μ1 else At cr2 d 103 4 [0] [0, 0, 0, 0] μ1)) else At cr2 d 103 5 [] [0, x1, x2, 0] μ) := (At_eq cr2 d 103 2 _ _ _).trans rfl
set_option maxRecDepth 20000 in
theorem B103_3 (d : Nat) (μ : amM) : At cr2 d 103 3 [] [0, 0, 0, 0] μ = At cr2 d 103 4 [1] [0, 0, 0, 0] μ := (At_eq cr2 d 103 3 _ _ _).trans rfl
set_option maxRecDepth 20000 in
theorem B103_4 (d : Nat) (s0 : Int) (μ : amM) : At cr2 d 103 4 [s0] [0, 0, 0, 0] μ = some (s0, μ) := (At_eq cr2 d 103 4 _ _ _).trans rfl
set_option maxRecDepth 20000 in
theorem B103_5 (d : Nat) (x1 x2 : Int) (μ : amM) : At cr2 d 103 5 [] [0, x1, x2, 0] μ = bnd (RD cr2 d 144 [0, x1] μ) (fun v1 μ1 => (if v1 = 0 then At cr2 d 103 6 [] [0, x1, x2, 0] μ1 else bnd (RD cr2 d 141 [0, 2] μ1) (fun v2 μ2 => some (v2, μ2)))) := (At_eq cr2 d 103 5 _ _ _).trans rfl
set_option maxRecDepth 20000 in
theorem B103_6 (d : Nat) (x1 x2 : Int) (μ : amM) : At cr2 d 103 6 [] [0, x1, x2, 0] μ = (if x2 = 1 then rd 3 64 μ x1 (fun v1 => some (v1, μ)) else At cr2 d 103 7 [] [0, x1, x2, 2] μ) := (At_eq cr2 d 103 6 _ _ _).trans rfl
set_option maxRecDepth 20000 in
theorem B103_7 (d : Nat) (x1 x2 : Int) (μ : amM) : At cr2 d 103 7 [] [0, x1, x2, 2] μ = (if x2 = 2 then rd 4 64 μ x1 (fun v1 => some (v1, μ)) else At cr2 d 103 8 [] [0, x1, x2, 2] μ) := (At_eq cr2 d 103 7 _ _ _).trans rfl
set_option maxRecDepth 20000 in
theorem B103_8 (d : Nat) (x1 x2 : Int) (μ : amM) : At cr2 d 103 8 [] [0, x1, x2, 2] μ = (if x2 < 7 then rd 5 64 μ x1 (fun v1 => bnd (RD cr2 d 7 [v1, (w32 (x2 - 3))] μ) (fun v2 μ1 => some (v2, μ1))) else At cr2 d 103 9 [] [0, x1, x2, 2] μ) := (At_eq cr2 d 103 8 _ _ _).trans rfl
set_option maxRecDepth 20000 in
theorem B103_9 (d : Nat) (x1 x2 : Int) (μ : amM) : At cr2 d 103 9 [] [0, x1, x2, 2] μ = (if x2 < 11 then bnd (RD cr2 d 44 [1, x1, (w32 (x2 - 7))] μ) (fun v1 μ1 => At cr2 d 103 11 [v1] [0, 0, 0, 0] μ1) else At cr2 d 103 10 [] [0, x1, 0, 2] μ) := (At_eq cr2 d 103 9 _ _ _).trans rfl
set_option maxRecDepth 20000 in
theorem B103_10 (d : Nat) (x1 : Int) (μ : amM) : At cr2 d 103 10 [] [0, x1, 0, 2] μ = rd 5 64 μ x1 (fun v1 => bnd (RD cr2 d 45 [1, v1] μ) (fun v2 μ1 => At cr2 d 103 11 [v2] [0, 0, 0, 0] μ1)) := (At_eq cr2 d 103 10 _ _ _).trans rfl
set_option maxRecDepth 20000 in
theorem B103_11 (d : Nat) (s0 : Int) (μ : amM) : At cr2 d 103 11 [s0] [0, 0, 0, 0] μ = some (s0, μ) := (At_eq cr2 d 103 11 _ _ _).trans rfl
set_option maxRecDepth 20000 in
theorem B104_0 (d : Nat) (x1 x2 : Int) (μ : amM) : At cr2 d 104 0 [] [0, x1, x2, 0] μ = bnd (RD cr2 d 143 [0, x1] μ) (fun v1 μ1 => (if v1 = 0 then At cr2 d 104 1 [] [0, 0, 0, 0] μ1 else bnd (RD cr2 d 146 [x2] μ1) (fun v2 μ2 => (if v2 = 0 then At cr2 d 104 1 [] [0, 0, 0, 0] μ2 else At cr2 d 104 2 [] [0, x1, x2, 0] μ2)))) := (At_eq cr2 d 104 0 _ _ _).trans rfl
set_option maxRecDepth 20000 in
theorem B104_1 (d : Nat) (μ : amM) : At cr2 d 104 1 [] [0, 0, 0, 0] μ = bnd (RD cr2 d 141 [0, 1] μ) (fun v1 μ1 => some (v1, μ1)) := (At_eq cr2 d 104 1 _ _ _).trans rfl
set_option maxRecDepth 20000 in
theorem B104_2 (d : Nat) (x1 x2 : Int) (μ : amM) : At cr2 d 104 2 [] [0, x1, x2, 0] μ = bnd (RD cr2 d 144 [0, x1] μ) (fun v1 μ1 => (if v1 = 0 then At cr2 d 104 3 [] [0, x1, x2, 0] μ1 else bnd (RD cr2 d 141 [0, 2] μ1) (fun v2 μ2 => some (v2, μ2)))) := (At_eq cr2 d 104 2 _ _ _).trans rfl
set_option maxRecDepth 20000 in
theorem B104_3 (d : Nat) (x1 x2 : Int) (μ : amM) : At cr2 d 104 3 [] [0, x1, x2, 0] μ = rd 3 64 μ x1 (fun v1 => wr 3 64 μ x1 (w32 (x2.tdiv 10)) (fun μ1 => wr 4 64 μ1 x1 (x2.tmod 10) (fun μ2 => some (v1, μ2)))) := (At_eq cr2 d 104 3 _ _ _).trans rfl
set_option maxRecDepth 20000 in
theorem B105_0 (d : Nat) (x1 x2 : Int) (μ : amM) : At cr2 d 105 0 [] [0, x1, x2] μ = bnd (RD cr2 d 143 [0, x1] μ) (fun v1 μ1 => (if v1 = 0 then At cr2 d 105 1 [] [0, 0, 0] μ1 else bnd (RD cr2 d 142 [x2, 0, 6] μ1) (fun v2 μ2 => (if v2 = 0 then At cr2 d 105 1 [] [0, 0, 0] μ2 else At cr2 d 105 2 [] [0, x1, x2] μ2)))) := (At_eq cr2 d 105 0 _ _ _).trans rfl
set_option maxRecDepth 20000 in
theorem B105_1 (d : Nat) (μ : amM) : At cr2 d 105 1 [] [0, 0, 0] μ = bnd (RD cr2 d 141 [0, 1] μ) (fun v1 μ1 => some (v1, μ1)) := (At_eq cr2 d 105 1 _ _ _).trans rfl
set_option maxRecDepth 20000 in
theorem B105_2 (d : Nat) (x1 x2 : Int) (μ : amM) : At cr2 d 105 2 [] [0, x1, x2] μ = bnd (RD cr2 d 144 [0, x1] μ) (fun v1 μ1 => (if v1 = 0 then At cr2 d 105 3 [] [0, x1, x2] μ1 else bnd (RD cr2 d 141 [0, 2] μ1) (fun v2 μ2 => some (v2, μ2)))) := (At_eq cr2 d 105 2 _ _ _).trans rfl
set_option maxRecDepth 20000 in
theorem B105_3 (d : Nat) (x1 x2 : Int) (μ : amM) : At cr2 d 105 3 [] [0, x1, x2] μ = rd 3 64 μ x1 (fun v1 => bnd (RD cr2 d 85 [v1, x2] μ) (fun v2 μ1 => (if v2 = 0 then bnd (RD cr2 d 141 [0, 5] μ1) (fun v3 μ2 => some (v3, μ2)) else At cr2 d 105 4 [] [0, x1, 0] μ1))) := (At_eq cr2 d 105 3 _ _ _).trans rfl
set_option maxRecDepth 20000 in
theorem B105_4 (d : Nat) (x1 : Int) (μ : amM) : At cr2 d 105 4 [] [0, x1, 0] μ = rd 4 64 μ x1 (fun v1 => some (v1, μ)) := (At_eq cr2 d 105 4 _ _ _).trans rfl
set_option maxRecDepth 20000 in
theorem B106_0 (d : Nat) (x1 x2 x3 : Int) (μ : amM) : At cr2 d 106 0 [] [0, x1, x2, x3, 0, 0] μ = bnd (RD cr2 d 143 [0, x1] μ) (fun v1 μ1 => (if v1 = 0 then At cr2 d 106 1 [] [0, 0, 0, 0, 0, 0] μ1 else bnd (RD cr2 d 145 [x2, x3] μ1) (fun v2 μ2 => (if v2 = 0 then At cr2 d 106 1 [] [0, 0, 0, 0, 0, 0] μ2 else At cr2 d 106 2 [] [0, x1, x2, x3, 0, 0] μ2)))) := (At_eq cr2 d 106 0 _ _ _).trans rfl
set_option maxRecDepth 20000 in
theorem B106_1 (d : Nat) (μ : amM) : At cr2 d 106 1 [] [0, 0, 0, 0, 0, 0] μ = bnd (RD cr2 d 141 [0, 1] μ) (fun v1 μ1 => some (v1, μ1)) := (At_eq cr2 d 106 1 _ _ _).trans rfl
set_option maxRecDepth 20000 in
theorem B106_2 (d : Nat) (x1 x2 x3 : Int) (μ : amM) : At cr2 d 106 2 [] [0, x1, x2, x3, 0, 0] μ = bnd (RD cr2 d 144 [0, x1] μ) (fun v1 μ1 => (if v1 = 0 then At cr2 d 106 3 [] [0, x1, x2, x3, 0, 0] μ1 else bnd (RD cr2 d 141 [0, 2] μ1) (fun v2 μ2 => some (v2, μ2)))) := (At_eq cr2 d 106 2 _ _ _).trans rfl
set_option maxRecDepth 20000 in
theorem B106_3 (d : Nat) (x1 x2 x3 : Int) (μ : amM) : At cr2 d 106 3 [] [0, x1, x2, x3, 0, 0] μ = bnd (RD cr2 d 71 [2, x1, x2, x3] μ) (fun v1 μ1 => (if v1 = 0 then bnd (RD cr2 d 141 [0, 3] μ1) (fun v2 μ2 => some (v2, μ2)) else At cr2 d 106 4 [] [0, x1, x2, x3, 2, 0] μ1)) := (At_eq cr2 d 106 3 _ _ _).trans rfl
set_option maxRecDepth 20000 in
theorem B106_4 (d : Nat) (x1 x2 x3 : Int) (μ : amM) : At cr2 d 106 4 [] [0, x1, x2, x3, 2, 0] μ = rd 5 64 μ x1 (fun v1 => bnd (RD cr2 d 8 [v1, x2, x3] μ) (fun v2 μ1 => bnd (RD cr2 d 74 [2, x1, v2] μ1) (fun v3 μ2 => (if v3 = 0 then bnd (RD cr2 d 141 [0, 5] μ2) (fun v4 μ3 => some (v4, μ3)) else At cr2 d 106 5 [] [0, x1, x2, x3, 0, 0] μ2)))) := (At_eq cr2 d 106 4 _ _ _).trans rfl
set_option maxRecDepth 20000 in
theorem B106_5 (d : Nat) (x1 x2 x3 : Int) (μ : amM) : At cr2 d 106 5 [] [0, x1, x2, x3, 0, 0] μ = bnd (RD cr2 d 47 [1, x1, x2, x3] μ) (fun _ μ1 => some ((μ1 1 7), μ1)) := (At_eq cr2 d 106 5 _ _ _).trans rfl
set_option maxRecDepth 20000 in
theorem B107_0 (d : Nat) (x1 x2 : Int) (μ : amM) : At cr2 d 107 0 [] [0, x1, x2] μ = bnd (RD cr2 d 143 [0, x1] μ) (fun v1 μ1 => (if v1 = 0 then At cr2 d 107 1 [] [0, 0, 0] μ1 else bnd (RD cr2 d 143 [0, x2] μ1) (fun v2 μ2 => (if v2 = 0 then At cr2 d 107 1 [] [0, 0, 0] μ2 else At cr2 d 107 2 [] [0, x1, x2] μ2)))) := (At_eq cr2 d 107 0 _ _ _).trans rfl
set_option maxRecDepth 20000 in
theorem B107_1 (d : Nat) (μ : amM) : At cr2 d 107 1 [] [0, 0, 0] μ = bnd (RD cr2 d 141 [0, 1] μ) (fun v1 μ1 => some (v1, μ1)) := (At_eq cr2 d 107 1 _ _ _).trans rfl
set_option maxRecDepth 20000 in
theorem B107_2 (d : Nat) (x1 x2 : Int) (μ : amM) : At cr2 d 107 2 [] [0, x1, x2] μ = bnd (RD cr2 d 144 [0, x1] μ) (fun v1 μ1 => (if v1 = 0 then bnd (RD cr2 d 144 [0, x2] μ1) (fun v2 μ2 => (if v2 = 0 then At cr2 d 107 4 [] [0, x1, x2] μ2 else At cr2 d 107 3 [] [0, 0, 0] μ2)) else At cr2 d 107 3 [] [0, 0, 0] μ1)) := (At_eq cr2 d 107 2 _ _ _).trans rfl
set_option maxRecDepth 20000 in
theorem B107_3 (d : Nat) (μ : amM) : At cr2 d 107 3 [] [0, 0, 0] μ = bnd (RD cr2 d 141 [0, 2] μ) (fun v1 μ1 => some (v1, μ1)) := (At_eq cr2 d 107 3 _ _ _).trans rfl
set_option maxRecDepth 20000 in
theorem B107_4 (d : Nat) (x1 x2 : Int) (μ : amM) : At cr2 d 107 4 [] [0, x1, x2] μ = rd 5 64 μ x1 (fun v1 => rd 5 64 μ x2 (fun v2 => bnd (RD cr2 d 11 [v1, v2] μ) (fun v3 μ1 => some (v3, μ1)))) := (At_eq cr2 d 107 4 _ _ _).trans rfl
set_option maxRecDepth 20000 in
theorem B108_0 (d : Nat) (x1 x2 : Int) (μ : amM) : At cr2 d 108 0 [] [0, x1, x2, 0] μ = bnd (RD cr2 d 143 [0, x1] μ) (fun v1 μ1 => (if v1 = 0 then At cr2 d 108 1 [] [0, 0, 0, 0] μ1 else (if x2 < (-1) then At cr2 d 108 1 [] [0, 0, 0, 0] μ1 else At cr2 d 108 2 [] [0, x1, x2, 0] μ1))) := (At_eq cr2 d 108 0 _ _ _).trans rfl
set_option maxRecDepth 20000 in
theorem B108_1 (d : Nat) (μ : amM) : At cr2 d 108 1 [] [0, 0, 0, 0] μ = bnd (RD cr2 d 141 [0, 1] μ) (fun v1 μ1 => some (v1, μ1)) := (At_eq cr2 d 108 1 _ _ _).trans rfl
set_option maxRecDepth 20000 in
theorem B108_2 (d : Nat) (x1 x2 : Int) (μ : amM) : At cr2 d 108 2 [] [0, x1, x2, 0] μ = (if x2 = (-1) then bnd (RD cr2 d 75 [2, x1] μ) (fun v1 μ1 => some (v1, μ1)) else At cr2 d 108 3 [] [0, x1, x2, 0] μ) := (At_eq cr2 d 108 2 _ _ _).trans rfl
set_option maxRecDepth 20000 in
theorem B108_3 (d : Nat) (x1 x2 : Int) (μ : amM) : At cr2 d 108 3 [] [0, x1, x2, 0] μ = bnd (RD cr2 d 76 [2, x1, x2] μ) (fun v1 μ1 => (if v1 = (-1) then bnd (RD cr2 d 141 [0, 2] μ1) (fun v2 μ2 => At cr2 d 108 5 [v2] [0, 0, 0, 0] μ2) else At cr2 d 108 4 [] [0, 0, 0, v1] μ1)) := (At_eq cr2 d 108 3 _ _ _).trans rfl
set_option maxRecDepth 20000 in
theorem B108_4 (d : Nat) (x3 : Int) (μ : amM) : At cr2 d 108 4 [] [0, 0, 0, x3] μ = At cr2 d 108 5 [x3] [0, 0, 0, 0] μ := (At_eq cr2 d 108 4 _ _ _).trans rfl
set_option maxRecDepth 20000 in
theorem B108_5 (d : Nat) (s0 : Int) (μ : amM) : At cr2 d 108 5 [s0] [0, 0, 0, 0] μ = some (s0, μ) := (At_eq cr2 d 108 5 _ _ _).trans rfl
set_option maxRecDepth 20000 in
theorem B109_0 (d : Nat) (x1 : Int) (μ : amM) : At cr2 d 109 0 [] [0, x1, 0] μ = (if x1 < (-1) then bnd (RD cr2 d 141 [0, 1] μ) (fun v1 μ1 => some (v1, μ1)) else At cr2 d 109 1 [] [0, x1, 0] μ) := (At_eq cr2 d 109 0 _ _ _).trans rfl
set_option maxRecDepth 20000 in
theorem B109_1 (d : Nat) (x1 : Int) (μ : amM) : At cr2 d 109 1 [] [0, x1, 0] μ = bnd (RD cr2 d 79 [2] μ) (fun v1 μ1 => (if x1 = (-1) then some (v1, μ1) else At cr2 d 109 2 [] [0, x1, v1] μ1)) := (At_eq cr2 d 109 1 _ _ _).trans rfl
set_option maxRecDepth 20000 in
theorem B109_2 (d : Nat) (x1 x2 : Int) (μ : amM) : At cr2 d 109 2 [] [0, x1, x2] μ = (if x1 < x2 then rd 8 128 μ x1 (fun v1 => At cr2 d 109 4 [v1] [0, 0, 0] μ) else At cr2 d 109 3 [] [0, 0, 0] μ) := (At_eq cr2 d 109 2 _ _ _).trans rfl
set_option maxRecDepth 20000 in
theorem B109_3 (d : Nat) (μ : amM) : At cr2 d 109 3 [] [0, 0, 0] μ = bnd (RD cr2 d 141 [0, 2] μ) (fun v1 μ1 => At cr2 d 109 4 [v1] [0, 0, 0] μ1) := (At_eq cr2 d 109 3 _ _ _).trans rfl
set_option maxRecDepth 20000 in
theorem B109_4 (d : Nat) (s0 : Int) (μ : amM) : At cr2 d 109 4 [s0] [0, 0, 0] μ = some (s0, μ) := (At_eq cr2 d 109 4 _ _ _).trans rfl
set_option maxRecDepth 20000 in
theorem B110_0 (d : Nat) (x1 x3 : Int) (μ : amM) : At cr2 d 110 0 [] [0, x1, 0, x3, 0] μ = bnd (RD cr2 d 142 [x3, 1, 8] μ) (fun v1 μ1 => (if v1 = 0 then bnd (RD cr2 d 141 [0, 1] μ1) (fun v2 μ2 => some (v2, μ2)) else At cr2 d 110 1 [] [0, x1, 0, x3, 0] μ1)) := (At_eq cr2 d 110 0 _ _ _).trans rfl
set_option maxRecDepth 20000 in
theorem B110_1 (d : Nat) (x1 x3 : Int) (μ : amM) : At cr2 d 110 1 [] [0, x1, 0, x3, 0] μ = (if 50 < (w32 ((μ 1 4) + x3)) then bnd (RD cr2 d 141 [0, 4] μ) (fun v1 μ1 => some (v1, μ1)) else At cr2 d 110 2 [] [0, x1, 0, x3, 0] μ) := (At_eq cr2 d 110 1 _ _ _).trans rfl
set_option maxRecDepth 20000 in
theorem B110_2 (d : Nat) (x1 x3 : Int) (μ : amM) : At cr2 d 110 2 [] [0, x1, 0, x3, 0] μ = At cr2 d 110 3 [] [0, x1, 0, x3, 0] μ := (At_eq cr2 d 110 2 _ _ _).trans rfl
set_option maxRecDepth 20000 in
theorem B110_3 (d : Nat) (x1 x3 x4 : Int) (μ : amM) : At cr2 d 110 3 [] [0, x1, 0, x3, x4] μ = (if x4 < x3 then wr 11 50 μ (w32 ((μ 1 4) + x4)) (bAnd (w32 (lUshr x1 (w32 (8 * x4)))) 255) (fun μ1 => At cr2 d 110 3 [] [0, x1, 0, x3, (w32 (x4 + 1))] μ1) else At cr2 d 110 4 [] [0, 0, 0, x3, 0] μ) := (At_eq cr2 d 110 3 _ _ _).trans rfl
set_option maxRecDepth 20000 in
theorem B110_4 (d : Nat) (x3 : Int) (μ : amM) : At cr2 d 110 4 [] [0, 0, 0, x3, 0] μ = wf 1 4 μ (w32 ((μ 1 4) + x3)) (fun μ1 => some ((μ1 1 4), μ1)) := (At_eq cr2 d 110 4 _ _ _).trans rfl
set_option maxRecDepth 20000 in
theorem B111_0 (d : Nat) (x1 : Int) (μ : amM) : At cr2 d 111 0 [] [0, x1, 0] μ = bnd (RD cr2 d 142 [x1, 0, 1] μ) (fun v1 μ1 => (if v1 = 0 then bnd (RD cr2 d 141 [0, 1] μ1) (fun v2 μ2 => some (v2, μ2)) else At cr2 d 111 1 [] [0, x1, 0] μ1)) := (At_eq cr2 d 111 0 _ _ _).trans rfl
set_option maxRecDepth 20000 in
theorem B111_1 (d : Nat) (x1 : Int) (μ : amM) : At cr2 d 111 1 [] [0, x1, 0] μ = bnd (RD cr2 d 24 [37, 11, (μ 1 4), x1] μ) (fun v1 μ1 => wf 1 4 μ1 0 (fun μ2 => (if v1 = (-1) then At cr2 d 111 2 [] [0, x1, 0] μ2 else some ((w32 ((-10) - v1)), μ2)))) := (At_eq cr2 d 111 1 _ _ _).trans rfl
set_option maxRecDepth 20000 in
theorem B111_2 (d : Nat) (x1 : Int) (μ : amM) : At cr2 d 111 2 [] [0, x1, 0] μ = amQld cr2 23 μ 10 x1 (fun v1 => if amTg v1 = 3 then bnd (RD cr2 d 57 [v1, 38] μ) (fun _ μ1 => some (1, μ1)) else none) := (At_eq cr2 d 111 2 _ _ _).trans rfl
set_option maxRecDepth 20000 in
theorem B112_0 (d : Nat) (x1 x2 x3 x4 x5 : Int) (μ : amM) : At cr2 d 112 0 [] [0, x1, x2, x3, x4, x5] μ = bnd (RD cr2 d 142 [x1, 0, 1] μ) (fun v1 μ1 => (if v1 = 0 then bnd (RD cr2 d 141 [0, 1] μ1) (fun v2 μ2 => some (v2, μ2)) else At cr2 d 112 1 [] [0, x1, x2, x3, x4, x5] μ1)) := (At_eq cr2 d 112 0 _ _ _).trans rfl
set_option maxRecDepth 20000 in
theorem B112_1 (d : Nat) (x1 x2 x3 x4 x5 : Int) (μ : amM) : At cr2 d 112 1 [] [0, x1, x2, x3, x4, x5] μ = (if x1 = 0 then bnd (RD cr2 d 42 [1, x2, x3] μ) (fun v1 μ1 => At cr2 d 112 3 [v1] [0, 0, 0, 0, 0, 0] μ1) else At cr2 d 112 2 [] [0, 0, x2, x3, x4, x5] μ) := (At_eq cr2 d 112 1 _ _ _).trans rfl
set_option maxRecDepth 20000 in
theorem B112_2 (d : Nat) (x2 x3 x4 x5 : Int) (μ : amM) : At cr2 d 112 2 [] [0, 0, x2, x3, x4, x5] μ = bnd (RD cr2 d 43 [1, x2, x3, x4, x5] μ) (fun v1 μ1 => At cr2 d 112 3 [v1] [0, 0, 0, 0, 0, 0] μ1) := (At_eq cr2 d 112 2 _ _ _).trans rfl
set_option maxRecDepth 20000 in
theorem B112_3 (d : Nat) (s0 : Int) (μ : amM) : At cr2 d 112 3 [s0] [0, 0, 0, 0, 0, 0] μ = some (s0, μ) := (At_eq cr2 d 112 3 _ _ _).trans rfl
set_option maxRecDepth 20000 in
theorem B113_0 (d : Nat) (x1 x2 x3 x4 : Int) (μ : amM) : At cr2 d 113 0 [] [0, x1, x2, x3, x4, 0] μ = bnd (RD cr2 d 143 [0, x1] μ) (fun v1 μ1 => (if v1 = 0 then At cr2 d 113 1 [] [0, 0, 0, 0, 0, 0] μ1 else bnd (RD cr2 d 145 [x2, x3] μ1) (fun v2 μ2 => (if v2 = 0 then At cr2 d 113 1 [] [0, 0, 0, 0, 0, 0] μ2 else bnd (RD cr2 d 142 [x4, 0, 1] μ2) (fun v3 μ3 => (if v3 = 0 then At cr2 d 113 1 [] [0, 0, 0, 0, 0, 0] μ3 else At cr2 d 113 2 [] [0, x1, x2, x3, x4, 0] μ3)))))) := (At_eq cr2 d 113 0 _ _ _).trans rfl
set_option maxRecDepth 20000 in
theorem B113_1 (d : Nat) (μ : amM) : At cr2 d 113 1 [] [0, 0, 0, 0, 0, 0] μ = bnd (RD cr2 d 141 [0, 1] μ) (fun v1 μ1 => some (v1, μ1)) := (At_eq cr2 d 113 1 _ _ _).trans rfl
set_option maxRecDepth 20000 in
theorem B113_2 (d : Nat) (x1 x2 x3 x4 : Int) (μ : amM) : At cr2 d 113 2 [] [0, x1, x2, x3, x4, 0] μ = bnd (RD cr2 d 144 [0, x1] μ) (fun v1 μ1 => (if v1 = 0 then At cr2 d 113 3 [] [0, x1, x2, x3, x4, 0] μ1 else bnd (RD cr2 d 141 [0, 2] μ1) (fun v2 μ2 => some (v2, μ2)))) := (At_eq cr2 d 113 2 _ _ _).trans rfl
set_option maxRecDepth 20000 in
theorem B113_3 (d : Nat) (x1 x2 x3 x4 : Int) (μ : amM) : At cr2 d 113 3 [] [0, x1, x2, x3, x4, 0] μ = bnd (RD cr2 d 13 [41, 1, x1, x2, x3] μ) (fun v1 μ1 => (if v1 = (-1) then bnd (RD cr2 d 141 [0, 2] μ1) (fun v2 μ2 => some (v2, μ2)) else At cr2 d 113 4 [] [0, 0, 0, 0, x4, v1] μ1)) := (At_eq cr2 d 113 3 _ _ _).trans rfl
set_option maxRecDepth 20000 in
theorem B113_4 (d : Nat) (x4 x5 : Int) (μ : amM) : At cr2 d 113 4 [] [0, 0, 0, 0, x4, x5] μ = (if x4 = 0 then At cr2 d 113 6 [x5] [0, 0, 0, 0, 0, 0] μ else At cr2 d 113 5 [] [0, 0, 0, 0, 0, 0] μ) := (At_eq cr2 d 113 4 _ _ _).trans rfl
set_option maxRecDepth 20000 in
theorem B113_5 (d : Nat) (μ : amM) : At cr2 d 113 5 [] [0, 0, 0, 0, 0, 0] μ = At cr2 d 113 6 [(μ 41 5)] [0, 0, 0, 0, 0, 0] μ := (At_eq cr2 d 113 5 _ _ _).trans rfl
set_option maxRecDepth 20000 in
theorem B113_6 (d : Nat) (s0 : Int) (μ : amM) : At cr2 d 113 6 [s0] [0, 0, 0, 0, 0, 0] μ = some (s0, μ) := (At_eq cr2 d 113 6 _ _ _).trans rfl
set_option maxRecDepth 20000 in
theorem B114_0 (d : Nat) (x1 x2 x3 : Int) (μ : amM) : At cr2 d 114 0 [] [0, x1, x2, x3, 0] μ = bnd (RD cr2 d 143 [0, x1] μ) (fun v1 μ1 => (if v1 = 0 then At cr2 d 114 1 [] [0, 0, 0, 0, 0] μ1 else bnd (RD cr2 d 145 [x2, x3] μ1) (fun v2 μ2 => (if v2 = 0 then At cr2 d 114 1 [] [0, 0, 0, 0, 0] μ2 else At cr2 d 114 2 [] [0, x1, x2, x3, 0] μ2)))) := (At_eq cr2 d 114 0 _ _ _).trans rfl
set_option maxRecDepth 20000 in
theorem B114_1 (d : Nat) (μ : amM) : At cr2 d 114 1 [] [0, 0, 0, 0, 0] μ = bnd (RD cr2 d 141 [0, 1] μ) (fun v1 μ1 => some (v1, μ1)) := (At_eq cr2 d 114 1 _ _ _).trans rfl
set_option maxRecDepth 20000 in
theorem B114_2 (d : Nat) (x1 x2 x3 : Int) (μ : amM) : At cr2 d 114 2 [] [0, x1, x2, x3, 0] μ = bnd (RD cr2 d 144 [0, x1] μ) (fun v1 μ1 => (if v1 = 0 then At cr2 d 114 3 [] [0, x1, x2, x3, 0] μ1 else bnd (RD cr2 d 141 [0, 2] μ1) (fun v2 μ2 => some (v2, μ2)))) := (At_eq cr2 d 114 2 _ _ _).trans rfl
set_option maxRecDepth 20000 in
theorem B114_3 (d : Nat) (x1 x2 x3 : Int) (μ : amM) : At cr2 d 114 3 [] [0, x1, x2, x3, 0] μ = bnd (RD cr2 d 79 [2] μ) (fun v1 μ1 => (if 0 < v1 then bnd (RD cr2 d 141 [0, 3] μ1) (fun v2 μ2 => some (v2, μ2)) else At cr2 d 114 4 [] [0, x1, x2, x3, 0] μ1)) := (At_eq cr2 d 114 3 _ _ _).trans rfl
set_option maxRecDepth 20000 in
theorem B114_4 (d : Nat) (x1 x2 x3 : Int) (μ : amM) : At cr2 d 114 4 [] [0, x1, x2, x3, 0] μ = bnd (RD cr2 d 50 [50, 2, x1, x2, x3] μ) (fun v1 μ1 => (if v1 = (-1) then bnd (RD cr2 d 141 [0, 2] μ1) (fun v2 μ2 => At cr2 d 114 6 [v2] [0, 0, 0, 0, 0] μ2) else At cr2 d 114 5 [] [0, 0, 0, 0, v1] μ1)) := (At_eq cr2 d 114 4 _ _ _).trans rfl
set_option maxRecDepth 20000 in
theorem B114_5 (d : Nat) (x4 : Int) (μ : amM) : At cr2 d 114 5 [] [0, 0, 0, 0, x4] μ = At cr2 d 114 6 [x4] [0, 0, 0, 0, 0] μ := (At_eq cr2 d 114 5 _ _ _).trans rfl
set_option maxRecDepth 20000 in
theorem B114_6 (d : Nat) (s0 : Int) (μ : amM) : At cr2 d 114 6 [s0] [0, 0, 0, 0, 0] μ = some (s0, μ) := (At_eq cr2 d 114 6 _ _ _).trans rfl
set_option maxRecDepth 20000 in
theorem B115_0 (d : Nat) (μ : amM) : At cr2 d 115 0 [] [0, 0] μ = bnd (RD cr2 d 14 [41, 1] μ) (fun v1 μ1 => (if v1 = (-1) then bnd (RD cr2 d 141 [0, 2] μ1) (fun v2 μ2 => At cr2 d 115 2 [v2] [0, 0] μ2) else At cr2 d 115 1 [] [0, v1] μ1)) := (At_eq cr2 d 115 0 _ _ _).trans rfl
set_option maxRecDepth 20000 in
theorem B115_1 (d : Nat) (x1 : Int) (μ : amM) : At cr2 d 115 1 [] [0, x1] μ = At cr2 d 115 2 [x1] [0, 0] μ := (At_eq cr2 d 115 1 _ _ _).trans rfl
set_option maxRecDepth 20000 in
theorem B115_2 (d : Nat) (s0 : Int) (μ : amM) : At cr2 d 115 2 [s0] [0, 0] μ = some (s0, μ) := (At_eq cr2 d 115 2 _ _ _).trans rfl
set_option maxRecDepth 20000 in
theorem B116_0 (d : Nat) (x1 : Int) (μ : amM) : At cr2 d 116 0 [] [0, x1, 0, 0, 0] μ = bnd (RD cr2 d 142 [x1, 1, 9] μ) (fun v1 μ1 => (if v1 = 0 then bnd (RD cr2 d 141 [0, 1] μ1) (fun v2 μ2 => some (v2, μ2)) else At cr2 d 116 1 [] [0, x1, 0, 0, 0] μ1)) := (At_eq cr2 d 116 0 _ _ _).trans rfl
set_option maxRecDepth 20000 in
theorem B116_1 (d : Nat) (x1 : Int) (μ : amM) : At cr2 d 116 1 [] [0, x1, 0, 0, 0] μ = At cr2 d 116 2 [] [0, x1, 81, 0, 1] μ := (At_eq cr2 d 116 1 _ _ _).trans rfl
set_option maxRecDepth 20000 in
theorem B116_2 (d : Nat) (x1 x2 x4 : Int) (μ : amM) : At cr2 d 116 2 [] [0, x1, x2, 0, x4] μ = (if x4 < x1 then bnd (RD cr2 d 77 [2] μ) (fun v1 μ1 => At cr2 d 116 2 [] [0, x1, (w64 (x2 * v1)), 0, (w32 (x4 + 1))] μ1) else At cr2 d 116 3 [] [0, 0, x2, 0, 0] μ) := (At_eq cr2 d 116 2 _ _ _).trans rfl
set_option maxRecDepth 20000 in
theorem B116_3 (d : Nat) (x2 : Int) (μ : amM) : At cr2 d 116 3 [] [0, 0, x2, 0, 0] μ = some (x2, μ) := (At_eq cr2 d 116 3 _ _ _).trans rfl
set_option maxRecDepth 20000 in
theorem B117_0 (d : Nat) (x1 : Int) (μ : amM) : At cr2 d 117 0 [] [0, x1] μ = bnd (RD cr2 d 142 [x1, 3, 9] μ) (fun v1 μ1 => (if v1 = 0 then bnd (RD cr2 d 141 [0, 1] μ1) (fun v2 μ2 => some (v2, μ2)) else At cr2 d 117 1 [] [0, x1] μ1)) := (At_eq cr2 d 117 0 _ _ _).trans rfl
set_option maxRecDepth 20000 in
theorem B117_1 (d : Nat) (x1 : Int) (μ : amM) : At cr2 d 117 1 [] [0, x1] μ = bnd (RD cr2 d 91 [55, 2, x1] μ) (fun v1 μ1 => some (v1, μ1)) := (At_eq cr2 d 117 1 _ _ _).trans rfl
set_option maxRecDepth 20000 in
theorem B118_0 (d : Nat) (μ : amM) : At cr2 d 118 0 [] [0] μ = (if (μ 2 7) = 1 then (if 9 < (μ 2 10) then At cr2 d 118 1 [] [0] μ else At cr2 d 118 2 [] [0] μ) else At cr2 d 118 1 [] [0] μ) := (At_eq cr2 d 118 0 _ _ _).trans rfl
set_option maxRecDepth 20000 in
theorem B118_1 (d : Nat) (μ : amM) : At cr2 d 118 1 [] [0] μ = bnd (RD cr2 d 141 [0, 3] μ) (fun v1 μ1 => some (v1, μ1)) := (At_eq cr2 d 118 1 _ _ _).trans rfl
set_option maxRecDepth 20000 in
theorem B118_2 (d : Nat) (μ : amM) : At cr2 d 118 2 [] [0] μ = bnd (RD cr2 d 92 [55, 2] μ) (fun v1 μ1 => some (v1, μ1)) := (At_eq cr2 d 118 2 _ _ _).trans rfl
set_option maxRecDepth 20000 in
theorem B119_0 (d : Nat) (x1 : Int) (μ : amM) : At cr2 d 119 0 [] [0, x1, 0, 0, 0, 0] μ = bnd (RD cr2 d 147 [x1] μ) (fun v1 μ1 => (if v1 = 0 then bnd (RD cr2 d 141 [0, 1] μ1) (fun v2 μ2 => some (v2, μ2)) else At cr2 d 119 1 [] [0, x1, 0, 0, 0, 0] μ1)) := (At_eq cr2 d 119 0 _ _ _).trans rfl
set_option maxRecDepth 20000 in
theorem B119_1 (d : Nat) (x1 : Int) (μ : amM) : At cr2 d 119 1 [] [0, x1, 0, 0, 0, 0] μ = amQld cr2 24 μ 61 x1 (fun v1 => bnd (RD cr2 d 77 [2] μ) (fun v2 μ1 => if amTg v1 = 10 then bnd (RD cr2 d 35 [v1] μ1) (fun v3 μ2 => (if v3 = 0 then (if v2 = 0 then At cr2 d 119 2 [] [0, 0, 0, 0, 0, 0] μ2 else At cr2 d 119 3 [] [0, 0, v1, v2, 0, 0] μ2) else At cr2 d 119 2 [] [0, 0, 0, 0, 0, 0] μ2)) else none)) := (At_eq cr2 d 119 1 _ _ _).trans rfl
set_option maxRecDepth 20000 in
theorem B119_2 (d : Nat) (μ : amM) : At cr2 d 119 2 [] [0, 0, 0, 0, 0, 0] μ = bnd (RD cr2 d 141 [0, 2] μ) (fun v1 μ1 => some (v1, μ1)) := (At_eq cr2 d 119 2 _ _ _).trans rfl
set_option maxRecDepth 20000 in
theorem B119_3 (d : Nat) (x2 x3 : Int) (μ : amM) : At cr2 d 119 3 [] [0, 0, x2, x3, 0, 0] μ = At cr2 d 119 4 [] [0, 0, x2, x3, 0, 0] μ := (At_eq cr2 d 119 3 _ _ _).trans rfl
set_option maxRecDepth 20000 in
theorem B119_4 (d : Nat) (x2 x3 x4 x5 : Int) (μ : amM) : At cr2 d 119 4 [] [0, 0, x2, x3, x4, x5] μ = amGf cr2 μ 10 2 x2 (fun v1 => (if x5 < v1 then (if x5 = 0 then bnd (RD cr2 d 41 [1] μ) (fun v2 μ1 => At cr2 d 119 6 [(v2.tmod 81)] [0, 0, x2, x3, 0, x5] μ1) else At cr2 d 119 5 [] [0, 0, x2, x3, x4, x5] μ) else At cr2 d 119 7 [] [0, 0, x2, 0, 0, 0] μ)) := (At_eq cr2 d 119 4 _ _ _).trans rfl
set_option maxRecDepth 20000 in
theorem B119_5 (d : Nat) (x2 x3 x4 x5 : Int) (μ : amM) : At cr2 d 119 5 [] [0, 0, x2, x3, x4, x5] μ = bnd (RD cr2 d 41 [1] μ) (fun v1 μ1 => if x3 = 0 then none else bnd (RD cr2 d 78 [2, x4, (v1.tmod x3)] μ1) (fun v2 μ2 => At cr2 d 119 6 [v2] [0, 0, x2, x3, 0, x5] μ2)) := (At_eq cr2 d 119 5 _ _ _).trans rfl
set_option maxRecDepth 20000 in
theorem B119_6 (d : Nat) (s0 x2 x3 x5 : Int) (μ : amM) : At cr2 d 119 6 [s0] [0, 0, x2, x3, 0, x5] μ = if amTg x2 = 10 then bnd (RD cr2 d 37 [x2, x5, s0] μ) (fun _ μ1 => At cr2 d 119 4 [] [0, 0, x2, x3, s0, (w32 (x5 + 1))] μ1) else none := (At_eq cr2 d 119 6 _ _ _).trans rfl
set_option maxRecDepth 20000 in
theorem B119_7 (d : Nat) (x2 : Int) (μ : amM) : At cr2 d 119 7 [] [0, 0, x2, 0, 0, 0] μ = amGf cr2 μ 10 2 x2 (fun v1 => some (v1, μ)) := (At_eq cr2 d 119 7 _ _ _).trans rfl
set_option maxRecDepth 20000 in
theorem B120_0 (d : Nat) (x1 x2 : Int) (μ : amM) : At cr2 d 120 0 [] [0, x1, x2] μ = bnd (RD cr2 d 145 [x1, x2] μ) (fun v1 μ1 => (if v1 = 0 then bnd (RD cr2 d 141 [0, 1] μ1) (fun v2 μ2 => some (v2, μ2)) else At cr2 d 120 1 [] [0, x1, x2] μ1)) := (At_eq cr2 d 120 0 _ _ _).trans rfl
set_option maxRecDepth 20000 in
theorem B120_1 (d : Nat) (x1 x2 : Int) (μ : amM) : At cr2 d 120 1 [] [0, x1, x2] μ = bnd (RD cr2 d 82 [2, x1, x2] μ) (fun v1 μ1 => some (v1, μ1)) := (At_eq cr2 d 120 1 _ _ _).trans rfl
set_option maxRecDepth 20000 in
theorem B121_0 (d : Nat) (x1 x2 : Int) (μ : amM) : At cr2 d 121 0 [] [0, x1, x2] μ = bnd (RD cr2 d 145 [x1, x2] μ) (fun v1 μ1 => (if v1 = 0 then bnd (RD cr2 d 141 [0, 1] μ1) (fun v2 μ2 => some (v2, μ2)) else At cr2 d 121 1 [] [0, x1, x2] μ1)) := (At_eq cr2 d 121 0 _ _ _).trans rfl
set_option maxRecDepth 20000 in
theorem B121_1 (d : Nat) (x1 x2 : Int) (μ : amM) : At cr2 d 121 1 [] [0, x1, x2] μ = bnd (RD cr2 d 83 [2, x1, x2] μ) (fun v1 μ1 => some (v1, μ1)) := (At_eq cr2 d 121 1 _ _ _).trans rfl
set_option maxRecDepth 20000 in
theorem B122_0 (d : Nat) (μ : amM) : At cr2 d 122 0 [] [0, 0, 0, 0, 0] μ = At cr2 d 122 1 [] [0, 0, (-1), 0, 0] μ := (At_eq cr2 d 122 0 _ _ _).trans rfl
set_option maxRecDepth 20000 in
theorem B122_1 (d : Nat) (x1 x2 x3 : Int) (μ : amM) : At cr2 d 122 1 [] [0, x1, x2, x3, 0] μ = (if x3 < 12 then bnd (RD cr2 d 83 [2, (w32 (x3.tdiv 3)), (x3.tmod 3)] μ) (fun v1 μ1 => (if x2 < v1 then At cr2 d 122 2 [] [0, x3, v1, x3, 0] μ1 else At cr2 d 122 2 [] [0, x1, x2, x3, 0] μ1)) else At cr2 d 122 3 [] [0, x1, 0, 0, 0] μ) := (At_eq cr2 d 122 1 _ _ _).trans rfl
set_option maxRecDepth 20000 in
theorem B122_2 (d : Nat) (x1 x2 x3 : Int) (μ : amM) : At cr2 d 122 2 [] [0, x1, x2, x3, 0] μ = At cr2 d 122 1 [] [0, x1, x2, (w32 (x3 + 1)), 0] μ := (At_eq cr2 d 122 2 _ _ _).trans rfl
set_option maxRecDepth 20000 in
theorem B122_3 (d : Nat) (x1 : Int) (μ : amM) : At cr2 d 122 3 [] [0, x1, 0, 0, 0] μ = some (x1, μ) := (At_eq cr2 d 122 3 _ _ _).trans rfl
set_option maxRecDepth 20000 in
theorem B123_0 (d : Nat) (μ : amM) : At cr2 d 123 0 [] [0, 0] μ = bnd (RD cr2 d 1 [52, 2] μ) (fun v1 μ1 => (if v1 = 0 then At cr2 d 123 2 [(μ1 52 2)] [0, 0] μ1 else At cr2 d 123 1 [] [0, v1] μ1)) := (At_eq cr2 d 123 0 _ _ _).trans rfl
set_option maxRecDepth 20000 in
theorem B123_1 (d : Nat) (x1 : Int) (μ : amM) : At cr2 d 123 1 [] [0, x1] μ = bnd (RD cr2 d 141 [0, x1] μ) (fun v1 μ1 => At cr2 d 123 2 [v1] [0, 0] μ1) := (At_eq cr2 d 123 1 _ _ _).trans rfl
set_option maxRecDepth 20000 in
theorem B123_2 (d : Nat) (s0 : Int) (μ : amM) : At cr2 d 123 2 [s0] [0, 0] μ = some (s0, μ) := (At_eq cr2 d 123 2 _ _ _).trans rfl
set_option maxRecDepth 20000 in
theorem B124_0 (d : Nat) (μ : amM) : At cr2 d 124 0 [] [0, 0, 0] μ = At cr2 d 124 1 [] [0, 0, 0] μ := (At_eq cr2 d 124 0 _ _ _).trans rfl
set_option maxRecDepth 20000 in
theorem B124_1 (d : Nat) (x1 x2 : Int) (μ : amM) : At cr2 d 124 1 [] [0, x1, x2] μ = (if x2 < (μ 2 10) then bnd (RD cr2 d 144 [0, x2] μ) (fun v1 μ1 => (if v1 = 0 then rd 5 64 μ1 x2 (fun v2 => bnd (RD cr2 d 45 [1, v2] μ1) (fun v3 μ2 => At cr2 d 124 2 [] [0, (w32 (x1 + v3)), x2] μ2)) else At cr2 d 124 2 [] [0, x1, x2] μ1)) else At cr2 d 124 3 [] [0, x1, 0] μ) := (At_eq cr2 d 124 1 _ _ _).trans rfl
set_option maxRecDepth 20000 in
theorem B124_2 (d : Nat) (x1 x2 : Int) (μ : amM) : At cr2 d 124 2 [] [0, x1, x2] μ = At cr2 d 124 1 [] [0, x1, (w32 (x2 + 1))] μ := (At_eq cr2 d 124 2 _ _ _).trans rfl
set_option maxRecDepth 20000 in
theorem B124_3 (d : Nat) (x1 : Int) (μ : amM) : At cr2 d 124 3 [] [0, x1, 0] μ = some (x1, μ) := (At_eq cr2 d 124 3 _ _ _).trans rfl
set_option maxRecDepth 20000 in
theorem B125_0 (d : Nat) (x1 : Int) (μ : amM) : At cr2 d 125 0 [] [0, x1, 0, 0, 0, 0, 0, 0, 0] μ = bnd (RD cr2 d 142 [x1, 0, 1] μ) (fun v1 μ1 => (if v1 = 0 then bnd (RD cr2 d 141 [0, 1] μ1) (fun v2 μ2 => some (v2, μ2)) else At cr2 d 125 1 [] [0, x1, 0, 0, 0, 0, 0, 0, 0] μ1)) := (At_eq cr2 d 125 0 _ _ _).trans rfl
set_option maxRecDepth 20000 in
theorem B125_1 (d : Nat) (x1 : Int) (μ : amM) : At cr2 d 125 1 [] [0, x1, 0, 0, 0, 0, 0, 0, 0] μ = bnd (RD cr2 d 79 [2] μ) (fun v1 μ1 => At cr2 d 125 2 [] [0, x1, v1, (-1), 0, 0, 0, 0, 0] μ1) := (At_eq cr2 d 125 1 _ _ _).trans rfl
set_option maxRecDepth 20000 in
theorem B125_2 (d : Nat) (x1 x2 x3 x4 x5 : Int) (μ : amM) : At cr2 d 125 2 [] [0, x1, x2, x3, x4, x5, 0, 0, 0] μ = (if x5 < (w32 ((w32 ((μ 2 10) * 4)) * 3)) then bnd (RD cr2 d 81 [2, (w32 (x5.tdiv 12)), ((w32 (x5.tdiv 3)).tmod 4), (x5.tmod 3), x2] μ) (fun v1 μ1 => (if v1 = 0 then At cr2 d 125 4 [] [0, x1, x2, x3, x4, x5, 0, 0, 0] μ1 else bnd (RD cr2 d 46 [1, (w32 (x5.tdiv 12)), ((w32 (x5.tdiv 3)).tmod 4), (x5.tmod 3)] μ1) (fun v2 μ2 => (if x3 = (-1) then At cr2 d 125 3 [] [0, x1, x2, 0, 0, x5, 0, 0, v2] μ2 else (if x4 < v2 then At cr2 d 125 3 [] [0, x1, x2, 0, 0, x5, 0, 0, v2] μ2 else At cr2 d 125 4 [] [0, x1, x2, x3, x4, x5, 0, 0, 0] μ2))))) else At cr2 d 125 5 [] [0, x1, 0, x3, x4, 0, 0, 0, 0] μ) := (At_eq cr2 d 125 2 _ _ _).trans rfl
set_option maxRecDepth 20000 in
theorem B125_3 (d : Nat) (x1 x2 x5 x8 : Int) (μ : amM) : At cr2 d 125 3 [] [0, x1, x2, 0, 0, x5, 0, 0, x8] μ = At cr2 d 125 4 [] [0, x1, x2, x5, x8, x5, 0, 0, 0] μ := (At_eq cr2 d 125 3 _ _ _).trans rfl
set_option maxRecDepth 20000 in
theorem B125_4 (d : Nat) (x1 x2 x3 x4 x5 : Int) (μ : amM) : At cr2 d 125 4 [] [0, x1, x2, x3, x4, x5, 0, 0, 0] μ = At cr2 d 125 2 [] [0, x1, x2, x3, x4, (w32 (x5 + 1)), 0, 0, 0] μ := (At_eq cr2 d 125 4 _ _ _).trans rfl
set_option maxRecDepth 20000 in
theorem B125_5 (d : Nat) (x1 x3 x4 : Int) (μ : amM) : At cr2 d 125 5 [] [0, x1, 0, x3, x4, 0, 0, 0, 0] μ = (if x3 = (-1) then bnd (RD cr2 d 141 [0, 2] μ) (fun v1 μ1 => some (v1, μ1)) else At cr2 d 125 6 [] [0, x1, 0, x3, x4, 0, 0, 0, 0] μ) := (At_eq cr2 d 125 5 _ _ _).trans rfl
set_option maxRecDepth 20000 in
theorem B125_6 (d : Nat) (x1 x3 x4 : Int) (μ : amM) : At cr2 d 125 6 [] [0, x1, 0, x3, x4, 0, 0, 0, 0] μ = (if x1 = 0 then At cr2 d 125 8 [x3] [0, 0, 0, 0, 0, 0, 0, 0, 0] μ else At cr2 d 125 7 [] [0, 0, 0, 0, x4, 0, 0, 0, 0] μ) := (At_eq cr2 d 125 6 _ _ _).trans rfl
set_option maxRecDepth 20000 in
theorem B125_7 (d : Nat) (x4 : Int) (μ : amM) : At cr2 d 125 7 [] [0, 0, 0, 0, x4, 0, 0, 0, 0] μ = At cr2 d 125 8 [x4] [0, 0, 0, 0, 0, 0, 0, 0, 0] μ := (At_eq cr2 d 125 7 _ _ _).trans rfl
set_option maxRecDepth 20000 in
theorem B125_8 (d : Nat) (s0 : Int) (μ : amM) : At cr2 d 125 8 [s0] [0, 0, 0, 0, 0, 0, 0, 0, 0] μ = some (s0, μ) := (At_eq cr2 d 125 8 _ _ _).trans rfl
set_option maxRecDepth 20000 in
theorem B126_0 (d : Nat) (x1 : Int) (μ : amM) : At cr2 d 126 0 [] [0, x1] μ = bnd (RD cr2 d 142 [x1, 1, 200] μ) (fun v1 μ1 => (if v1 = 0 then bnd (RD cr2 d 141 [0, 1] μ1) (fun v2 μ2 => some (v2, μ2)) else At cr2 d 126 1 [] [0, x1] μ1)) := (At_eq cr2 d 126 0 _ _ _).trans rfl
set_option maxRecDepth 20000 in
theorem B126_1 (d : Nat) (x1 : Int) (μ : amM) : At cr2 d 126 1 [] [0, x1] μ = (if 9999 < (w32 ((μ 1 6) + x1)) then bnd (RD cr2 d 141 [0, 3] μ) (fun v1 μ1 => some (v1, μ1)) else At cr2 d 126 2 [] [0, x1] μ) := (At_eq cr2 d 126 1 _ _ _).trans rfl
set_option maxRecDepth 20000 in
theorem B126_2 (d : Nat) (x1 : Int) (μ : amM) : At cr2 d 126 2 [] [0, x1] μ = bnd (RD cr2 d 48 [1, x1] μ) (fun v1 μ1 => some (v1, μ1)) := (At_eq cr2 d 126 2 _ _ _).trans rfl
set_option maxRecDepth 20000 in
theorem B127_0 (d : Nat) (x1 : Int) (μ : amM) : At cr2 d 127 0 [] [0, x1, 0] μ = wf 1 8 μ x1 (fun μ1 => some ((μ 1 8), μ1)) := (At_eq cr2 d 127 0 _ _ _).trans rfl
set_option maxRecDepth 20000 in
theorem B128_0 (d : Nat) (x1 x2 x3 : Int) (μ : amM) : At cr2 d 128 0 [] [0, x1, x2, x3] μ = bnd (RD cr2 d 143 [0, x1] μ) (fun v1 μ1 => (if v1 = 0 then At cr2 d 128 1 [] [0, 0, 0, 0] μ1 else bnd (RD cr2 d 142 [x2, 0, 3] μ1) (fun v2 μ2 => (if v2 = 0 then At cr2 d 128 1 [] [0, 0, 0, 0] μ2 else At cr2 d 128 2 [] [0, x1, x2, x3] μ2)))) := (At_eq cr2 d 128 0 _ _ _).trans rfl
set_option maxRecDepth 20000 in
theorem B128_1 (d : Nat) (μ : amM) : At cr2 d 128 1 [] [0, 0, 0, 0] μ = bnd (RD cr2 d 141 [0, 1] μ) (fun v1 μ1 => some (v1, μ1)) := (At_eq cr2 d 128 1 _ _ _).trans rfl
set_option maxRecDepth 20000 in
theorem B128_2 (d : Nat) (x1 x2 x3 : Int) (μ : amM) : At cr2 d 128 2 [] [0, x1, x2, x3] μ = bnd (RD cr2 d 144 [0, x1] μ) (fun v1 μ1 => (if v1 = 0 then At cr2 d 128 3 [] [0, x1, x2, x3] μ1 else bnd (RD cr2 d 141 [0, 2] μ1) (fun v2 μ2 => some (v2, μ2)))) := (At_eq cr2 d 128 2 _ _ _).trans rfl
set_option maxRecDepth 20000 in
theorem B128_3 (d : Nat) (x1 x2 x3 : Int) (μ : amM) : At cr2 d 128 3 [] [0, x1, x2, x3] μ = bnd (RD cr2 d 86 [59, 2, x1, x2, x3] μ) (fun v1 μ1 => some (v1, μ1)) := (At_eq cr2 d 128 3 _ _ _).trans rfl
set_option maxRecDepth 20000 in
theorem B129_0 (d : Nat) (x1 : Int) (μ : amM) : At cr2 d 129 0 [] [0, x1] μ = bnd (RD cr2 d 142 [x1, 0, (w32 ((μ 59 1) - 1))] μ) (fun v1 μ1 => (if v1 = 0 then At cr2 d 129 1 [] [0, 0] μ1 else rd 60 40 μ1 x1 (fun v2 => At cr2 d 129 2 [v2] [0, 0] μ1))) := (At_eq cr2 d 129 0 _ _ _).trans rfl
set_option maxRecDepth 20000 in
theorem B129_1 (d : Nat) (μ : amM) : At cr2 d 129 1 [] [0, 0] μ = bnd (RD cr2 d 141 [0, 2] μ) (fun v1 μ1 => At cr2 d 129 2 [v1] [0, 0] μ1) := (At_eq cr2 d 129 1 _ _ _).trans rfl
set_option maxRecDepth 20000 in
theorem B129_2 (d : Nat) (s0 : Int) (μ : amM) : At cr2 d 129 2 [s0] [0, 0] μ = some (s0, μ) := (At_eq cr2 d 129 2 _ _ _).trans rfl
set_option maxRecDepth 20000 in
theorem B130_0 (d : Nat) (x1 x2 x3 : Int) (μ : amM) : At cr2 d 130 0 [] [0, x1, x2, x3] μ = bnd (RD cr2 d 147 [x1] μ) (fun v1 μ1 => (if v1 = 0 then At cr2 d 130 1 [] [0, 0, 0, 0] μ1 else (if x2 = 0 then At cr2 d 130 2 [] [0, x1, x2, x3] μ1 else (if x2 = 8 then At cr2 d 130 2 [] [0, x1, x2, x3] μ1 else (if x2 = 16 then At cr2 d 130 2 [] [0, x1, x2, x3] μ1 else (if x2 = 32 then At cr2 d 130 2 [] [0, x1, x2, x3] μ1 else At cr2 d 130 1 [] [0, 0, 0, 0] μ1)))))) := (At_eq cr2 d 130 0 _ _ _).trans rfl
set_option maxRecDepth 20000 in
theorem B130_1 (d : Nat) (μ : amM) : At cr2 d 130 1 [] [0, 0, 0, 0] μ = bnd (RD cr2 d 141 [0, 1] μ) (fun v1 μ1 => some (v1, μ1)) := (At_eq cr2 d 130 1 _ _ _).trans rfl
set_option maxRecDepth 20000 in
theorem B130_2 (d : Nat) (x1 x2 x3 : Int) (μ : amM) : At cr2 d 130 2 [] [0, x1, x2, x3] μ = (if x2 = 0 then At cr2 d 130 3 [] [0, x1, x2, x3] μ else (if x3 < 0 then bnd (RD cr2 d 141 [0, 3] μ) (fun v1 μ1 => some (v1, μ1)) else At cr2 d 130 3 [] [0, x1, x2, x3] μ)) := (At_eq cr2 d 130 2 _ _ _).trans rfl
set_option maxRecDepth 20000 in
theorem B130_3 (d : Nat) (x1 x2 x3 : Int) (μ : amM) : At cr2 d 130 3 [] [0, x1, x2, x3] μ = (if x2 = 0 then At cr2 d 130 4 [] [0, x1, x2, x3] μ else (if 64 < x3 then bnd (RD cr2 d 141 [0, 1] μ) (fun v1 μ1 => some (v1, μ1)) else At cr2 d 130 4 [] [0, x1, x2, x3] μ)) := (At_eq cr2 d 130 3 _ _ _).trans rfl
set_option maxRecDepth 20000 in
theorem B130_4 (d : Nat) (x1 x2 x3 : Int) (μ : amM) : At cr2 d 130 4 [] [0, x1, x2, x3] μ = amQld cr2 24 μ 61 x1 (fun v1 => (if x2 = 0 then At cr2 d 130 6 [0, x2, v1] [0, 0, 0, 0] μ else At cr2 d 130 5 [x2, v1] [0, 0, 0, x3] μ)) := (At_eq cr2 d 130 4 _ _ _).trans rfl
set_option maxRecDepth 20000 in
theorem B130_5 (d : Nat) (s0 s1 x3 : Int) (μ : amM) : At cr2 d 130 5 [s0, s1] [0, 0, 0, x3] μ = At cr2 d 130 6 [x3, s0, s1] [0, 0, 0, 0] μ := (At_eq cr2 d 130 5 _ _ _).trans rfl
set_option maxRecDepth 20000 in
theorem B130_6 (d : Nat) (s0 s1 s2 : Int) (μ : amM) : At cr2 d 130 6 [s0, s1, s2] [0, 0, 0, 0] μ = if amTg s2 = 10 then bnd (RD cr2 d 36 [s2, s1, s0] μ) (fun _ μ1 => some (1, μ1)) else none := (At_eq cr2 d 130 6 _ _ _).trans rfl
set_option maxRecDepth 20000 in
theorem B131_0 (d : Nat) (x1 x2 x3 : Int) (μ : amM) : At cr2 d 131 0 [] [0, x1, x2, x3] μ = bnd (RD cr2 d 147 [x1] μ) (fun v1 μ1 => (if v1 = 0 then bnd (RD cr2 d 141 [0, 1] μ1) (fun v2 μ2 => some (v2, μ2)) else At cr2 d 131 1 [] [0, x1, x2, x3] μ1)) := (At_eq cr2 d 131 0 _ _ _).trans rfl
set_option maxRecDepth 20000 in
theorem B131_1 (d : Nat) (x1 x2 x3 : Int) (μ : amM) : At cr2 d 131 1 [] [0, x1, x2, x3] μ = amQld cr2 24 μ 61 x1 (fun v1 => if amTg v1 = 10 then bnd (RD cr2 d 35 [v1] μ) (fun v2 μ1 => (if v2 = 0 then At cr2 d 131 2 [] [0, x1, x2, x3] μ1 else bnd (RD cr2 d 141 [0, 2] μ1) (fun v3 μ2 => some (v3, μ2)))) else none) := (At_eq cr2 d 131 1 _ _ _).trans rfl
set_option maxRecDepth 20000 in
theorem B131_2 (d : Nat) (x1 x2 x3 : Int) (μ : amM) : At cr2 d 131 2 [] [0, x1, x2, x3] μ = amQld cr2 24 μ 61 x1 (fun v1 => amGf cr2 μ 10 2 v1 (fun v2 => bnd (RD cr2 d 142 [x2, 0, (w32 (v2 - 1))] μ) (fun v3 μ1 => (if v3 = 0 then bnd (RD cr2 d 141 [0, 1] μ1) (fun v4 μ2 => some (v4, μ2)) else At cr2 d 131 3 [] [0, x1, x2, x3] μ1)))) := (At_eq cr2 d 131 2 _ _ _).trans rfl
set_option maxRecDepth 20000 in
theorem B131_3 (d : Nat) (x1 x2 x3 : Int) (μ : amM) : At cr2 d 131 3 [] [0, x1, x2, x3] μ = amQld cr2 24 μ 61 x1 (fun v1 => if amTg v1 = 10 then bnd (RD cr2 d 37 [v1, x2, x3] μ) (fun _ μ1 => some (1, μ1)) else none) := (At_eq cr2 d 131 3 _ _ _).trans rfl
set_option maxRecDepth 20000 in
theorem B132_0 (d : Nat) (x1 x2 x3 x4 x5 : Int) (μ : amM) : At cr2 d 132 0 [] [0, x1, x2, x3, x4, x5, 0, 0] μ = bnd (RD cr2 d 147 [x1] μ) (fun v1 μ1 => (if v1 = 0 then At cr2 d 132 1 [] [0, 0, 0, 0, 0, 0, 0, 0] μ1 else bnd (RD cr2 d 147 [x3] μ1) (fun v2 μ2 => (if v2 = 0 then At cr2 d 132 1 [] [0, 0, 0, 0, 0, 0, 0, 0] μ2 else At cr2 d 132 2 [] [0, x1, x2, x3, x4, x5, 0, 0] μ2)))) := (At_eq cr2 d 132 0 _ _ _).trans rfl
set_option maxRecDepth 20000 in
theorem B132_1 (d : Nat) (μ : amM) : At cr2 d 132 1 [] [0, 0, 0, 0, 0, 0, 0, 0] μ = bnd (RD cr2 d 141 [0, 1] μ) (fun v1 μ1 => some (v1, μ1)) := (At_eq cr2 d 132 1 _ _ _).trans rfl
set_option maxRecDepth 20000 in
theorem B132_2 (d : Nat) (x1 x2 x3 x4 x5 : Int) (μ : amM) : At cr2 d 132 2 [] [0, x1, x2, x3, x4, x5, 0, 0] μ = amQld cr2 24 μ 61 x1 (fun v1 => amQld cr2 24 μ 61 x3 (fun v2 => if amTg v1 = 10 then bnd (RD cr2 d 35 [v1] μ) (fun v3 μ1 => (if v3 = 0 then if amTg v2 = 10 then bnd (RD cr2 d 35 [v2] μ1) (fun v4 μ2 => (if v4 = 0 then At cr2 d 132 4 [] [0, 0, x2, 0, x4, x5, v1, v2] μ2 else At cr2 d 132 3 [] [0, 0, 0, 0, 0, 0, 0, 0] μ2)) else none else At cr2 d 132 3 [] [0, 0, 0, 0, 0, 0, 0, 0] μ1)) else none)) := (At_eq cr2 d 132 2 _ _ _).trans rfl
set_option maxRecDepth 20000 in
theorem B132_3 (d : Nat) (μ : amM) : At cr2 d 132 3 [] [0, 0, 0, 0, 0, 0, 0, 0] μ = bnd (RD cr2 d 141 [0, 2] μ) (fun v1 μ1 => some (v1, μ1)) := (At_eq cr2 d 132 3 _ _ _).trans rfl
set_option maxRecDepth 20000 in
theorem B132_4 (d : Nat) (x2 x4 x5 x6 x7 : Int) (μ : amM) : At cr2 d 132 4 [] [0, 0, x2, 0, x4, x5, x6, x7] μ = amGf cr2 μ 10 1 x6 (fun v1 => amGf cr2 μ 10 1 x7 (fun v2 => (if v1 = v2 then At cr2 d 132 5 [] [0, 0, x2, 0, x4, x5, x6, x7] μ else bnd (RD cr2 d 141 [0, 5] μ) (fun v3 μ1 => some (v3, μ1))))) := (At_eq cr2 d 132 4 _ _ _).trans rfl
set_option maxRecDepth 20000 in
theorem B132_5 (d : Nat) (x2 x4 x5 x6 x7 : Int) (μ : amM) : At cr2 d 132 5 [] [0, 0, x2, 0, x4, x5, x6, x7] μ = if amTg x6 = 10 then bnd (RD cr2 d 38 [x6, x2, x5] μ) (fun v1 μ1 => (if v1 = 0 then At cr2 d 132 6 [] [0, 0, 0, 0, 0, 0, 0, 0] μ1 else if amTg x7 = 10 then bnd (RD cr2 d 38 [x7, x4, x5] μ1) (fun v2 μ2 => (if v2 = 0 then At cr2 d 132 6 [] [0, 0, 0, 0, 0, 0, 0, 0] μ2 else At cr2 d 132 7 [] [0, 0, x2, 0, x4, x5, x6, x7] μ2)) else none)) else none := (At_eq cr2 d 132 5 _ _ _).trans rfl
set_option maxRecDepth 20000 in
theorem B132_6 (d : Nat) (μ : amM) : At cr2 d 132 6 [] [0, 0, 0, 0, 0, 0, 0, 0] μ = bnd (RD cr2 d 141 [0, 1] μ) (fun v1 μ1 => some (v1, μ1)) := (At_eq cr2 d 132 6 _ _ _).trans rfl
set_option maxRecDepth 20000 in
theorem B132_7 (d : Nat) (x2 x4 x5 x6 x7 : Int) (μ : amM) : At cr2 d 132 7 [] [0, 0, x2, 0, x4, x5, x6, x7] μ = amGf cr2 μ 10 0 x6 (fun v1 => amGf cr2 μ 10 0 x7 (fun v2 => amCpy μ v1 x2 v2 x4 x5 (fun μ1 => some (x5, μ1)))) := (At_eq cr2 d 132 7 _ _ _).trans rfl
set_option maxRecDepth 20000 in
theorem B133_0 (d : Nat) (x1 : Int) (μ : amM) : At cr2 d 133 0 [] [0, x1, 0, 0] μ = bnd (RD cr2 d 147 [x1] μ) (fun v1 μ1 => (if v1 = 0 then bnd (RD cr2 d 141 [0, 1] μ1) (fun v2 μ2 => some (v2, μ2)) else At cr2 d 133 1 [] [0, x1, 0, 0] μ1)) := (At_eq cr2 d 133 0 _ _ _).trans rfl
set_option maxRecDepth 20000 in
theorem B133_1 (d : Nat) (x1 : Int) (μ : amM) : At cr2 d 133 1 [] [0, x1, 0, 0] μ = amQld cr2 24 μ 61 x1 (fun v1 => if amTg v1 = 10 then bnd (RD cr2 d 35 [v1] μ) (fun v2 μ1 => (if v2 = 0 then At cr2 d 133 2 [] [0, 0, v1, 0] μ1 else bnd (RD cr2 d 141 [0, 2] μ1) (fun v3 μ2 => some (v3, μ2)))) else none) := (At_eq cr2 d 133 1 _ _ _).trans rfl
set_option maxRecDepth 20000 in
theorem B133_2 (d : Nat) (x2 : Int) (μ : amM) : At cr2 d 133 2 [] [0, 0, x2, 0] μ = At cr2 d 133 3 [] [0, 0, x2, 0] μ := (At_eq cr2 d 133 2 _ _ _).trans rfl
set_option maxRecDepth 20000 in
theorem B133_3 (d : Nat) (x2 x3 : Int) (μ : amM) : At cr2 d 133 3 [] [0, 0, x2, x3] μ = amGf cr2 μ 10 2 x2 (fun v1 => (if x3 < v1 then amGf cr2 μ 10 0 x2 (fun v2 => amAld μ v2 x3 (fun v3 => bnd (RD cr2 d 148 [0, x3, 0, v3] μ) (fun v4 μ1 => (if v4 = 0 then At cr2 d 133 4 [] [0, 0, x2, x3] μ1 else some (x3, μ1))))) else At cr2 d 133 5 [] [0, 0, x2, 0] μ)) := (At_eq cr2 d 133 3 _ _ _).trans rfl
set_option maxRecDepth 20000 in
theorem B133_4 (d : Nat) (x2 x3 : Int) (μ : amM) : At cr2 d 133 4 [] [0, 0, x2, x3] μ = amGf cr2 μ 10 0 x2 (fun v1 => amAld μ v1 x3 (fun v2 => bnd (RD cr2 d 6 [v2] μ) (fun v3 μ1 => bnd (RD cr2 d 67 [2, x3, 0, 0, v3] μ1) (fun _ μ2 => At cr2 d 133 3 [] [0, 0, x2, (w32 (x3 + 1))] μ2)))) := (At_eq cr2 d 133 4 _ _ _).trans rfl
set_option maxRecDepth 20000 in
theorem B133_5 (d : Nat) (x2 : Int) (μ : amM) : At cr2 d 133 5 [] [0, 0, x2, 0] μ = amGf cr2 μ 10 2 x2 (fun v1 => some (v1, μ)) := (At_eq cr2 d 133 5 _ _ _).trans rfl
set_option maxRecDepth 20000 in
theorem B134_0 (d : Nat) (x1 : Int) (μ : amM) : At cr2 d 134 0 [] [0, x1, 0, 0, 0] μ = bnd (RD cr2 d 147 [x1] μ) (fun v1 μ1 => (if v1 = 0 then bnd (RD cr2 d 141 [0, 1] μ1) (fun v2 μ2 => some (v2, μ2)) else At cr2 d 134 1 [] [0, x1, 0, 0, 0] μ1)) := (At_eq cr2 d 134 0 _ _ _).trans rfl
set_option maxRecDepth 20000 in
theorem B134_1 (d : Nat) (x1 : Int) (μ : amM) : At cr2 d 134 1 [] [0, x1, 0, 0, 0] μ = amQld cr2 24 μ 61 x1 (fun v1 => if amTg v1 = 10 then bnd (RD cr2 d 35 [v1] μ) (fun v2 μ1 => (if v2 = 0 then At cr2 d 134 2 [] [0, 0, v1, 0, 0] μ1 else bnd (RD cr2 d 141 [0, 2] μ1) (fun v3 μ2 => some (v3, μ2)))) else none) := (At_eq cr2 d 134 1 _ _ _).trans rfl
set_option maxRecDepth 20000 in
theorem B134_2 (d : Nat) (x2 : Int) (μ : amM) : At cr2 d 134 2 [] [0, 0, x2, 0, 0] μ = At cr2 d 134 3 [] [0, 0, x2, (μ 2 10), 0] μ := (At_eq cr2 d 134 2 _ _ _).trans rfl
set_option maxRecDepth 20000 in
theorem B134_3 (d : Nat) (x2 x3 x4 : Int) (μ : amM) : At cr2 d 134 3 [] [0, 0, x2, x3, x4] μ = amGf cr2 μ 10 2 x2 (fun v1 => (if x4 < v1 then (if x4 < x3 then amGf cr2 μ 10 0 x2 (fun v2 => amAld μ v2 x4 (fun v3 => bnd (RD cr2 d 69 [2, x4, v3] μ) (fun v4 μ1 => (if v4 = 0 then some (x4, μ1) else At cr2 d 134 4 [] [0, 0, x2, x3, x4] μ1)))) else At cr2 d 134 5 [] [0, 0, x2, x3, 0] μ) else At cr2 d 134 5 [] [0, 0, x2, x3, 0] μ)) := (At_eq cr2 d 134 3 _ _ _).trans rfl
set_option maxRecDepth 20000 in
theorem B134_4 (d : Nat) (x2 x3 x4 : Int) (μ : amM) : At cr2 d 134 4 [] [0, 0, x2, x3, x4] μ = At cr2 d 134 3 [] [0, 0, x2, x3, (w32 (x4 + 1))] μ := (At_eq cr2 d 134 4 _ _ _).trans rfl
set_option maxRecDepth 20000 in
theorem B134_5 (d : Nat) (x2 x3 : Int) (μ : amM) : At cr2 d 134 5 [] [0, 0, x2, x3, 0] μ = amGf cr2 μ 10 2 x2 (fun v1 => (if v1 = x3 then At cr2 d 134 7 [(-1)] [0, 0, 0, 0, 0] μ else At cr2 d 134 6 [] [0, 0, x2, x3, 0] μ)) := (At_eq cr2 d 134 5 _ _ _).trans rfl
set_option maxRecDepth 20000 in
theorem B134_6 (d : Nat) (x2 x3 : Int) (μ : amM) : At cr2 d 134 6 [] [0, 0, x2, x3, 0] μ = amGf cr2 μ 10 2 x2 (fun v1 => At cr2 d 134 7 [(jmin v1 x3)] [0, 0, 0, 0, 0] μ) := (At_eq cr2 d 134 6 _ _ _).trans rfl
set_option maxRecDepth 20000 in
theorem B134_7 (d : Nat) (s0 : Int) (μ : amM) : At cr2 d 134 7 [s0] [0, 0, 0, 0, 0] μ = some (s0, μ) := (At_eq cr2 d 134 7 _ _ _).trans rfl
set_option maxRecDepth 20000 in
theorem B135_0 (d : Nat) (μ : amM) : At cr2 d 135 0 [] [0] μ = bnd (RD cr2 d 40 [19, 1] μ) (fun _ μ1 => wf 0 10 μ1 (w32 ((μ1 0 10) + 1)) (fun μ2 => some ((μ2 0 10), μ2))) := (At_eq cr2 d 135 0 _ _ _).trans rfl
set_option maxRecDepth 20000 in
theorem B136_0 (d : Nat) (μ : amM) : At cr2 d 136 0 [] [0] μ = (if (μ 0 10) = 0 then bnd (RD cr2 d 141 [0, 2] μ) (fun v1 μ1 => some (v1, μ1)) else At cr2 d 136 1 [] [0] μ) := (At_eq cr2 d 136 0 _ _ _).trans rfl
set_option maxRecDepth 20000 in
theorem B136_1 (d : Nat) (μ : amM) : At cr2 d 136 1 [] [0] μ = bnd (RD cr2 d 40 [1, 19] μ) (fun _ μ1 => some ((μ1 1 6), μ1)) := (At_eq cr2 d 136 1 _ _ _).trans rfl
set_option maxRecDepth 20000 in
theorem B137_0 (d : Nat) (x1 : Int) (μ : amM) : At cr2 d 137 0 [] [0, x1] μ = (if (μ 1 5) < 20 then At cr2 d 137 1 [] [0, x1] μ else bnd (RD cr2 d 141 [0, 4] μ) (fun v1 μ1 => some (v1, μ1))) := (At_eq cr2 d 137 0 _ _ _).trans rfl
set_option maxRecDepth 20000 in
theorem B137_1 (d : Nat) (x1 : Int) (μ : amM) : At cr2 d 137 1 [] [0, x1] μ = wr 12 20 μ (μ 1 5) x1 (fun μ1 => wf 1 5 μ1 (w32 ((μ1 1 5) + 1)) (fun μ2 => some ((μ2 1 5), μ2))) := (At_eq cr2 d 137 1 _ _ _).trans rfl
set_option maxRecDepth 20000 in
theorem B138_0 (d : Nat) (μ : amM) : At cr2 d 138 0 [] [0, 0, 0] μ = wf 1 5 μ 0 (fun μ1 => At cr2 d 138 1 [] [0, (μ 1 5), 0] μ1) := (At_eq cr2 d 138 0 _ _ _).trans rfl
set_option maxRecDepth 20000 in
theorem B138_1 (d : Nat) (x1 x2 : Int) (μ : amM) : At cr2 d 138 1 [] [0, x1, x2] μ = (if x2 < x1 then (if x2 < (μ 2 10) then bnd (RD cr2 d 75 [2, x2] μ) (fun v1 μ1 => rd 12 20 μ1 x2 (fun v2 => (if v1 = v2 then At cr2 d 138 3 [] [0, x1, x2] μ1 else At cr2 d 138 2 [] [0, 0, x2] μ1))) else At cr2 d 138 2 [] [0, 0, x2] μ) else At cr2 d 138 4 [] [0, 0, 0] μ) := (At_eq cr2 d 138 1 _ _ _).trans rfl
set_option maxRecDepth 20000 in
theorem B138_2 (d : Nat) (x2 : Int) (μ : amM) : At cr2 d 138 2 [] [0, 0, x2] μ = some ((w32 (1 + x2)), μ) := (At_eq cr2 d 138 2 _ _ _).trans rfl
set_option maxRecDepth 20000 in
theorem B138_3 (d : Nat) (x1 x2 : Int) (μ : amM) : At cr2 d 138 3 [] [0, x1, x2] μ = At cr2 d 138 1 [] [0, x1, (w32 (x2 + 1))] μ := (At_eq cr2 d 138 3 _ _ _).trans rfl
set_option maxRecDepth 20000 in
theorem B138_4 (d : Nat) (μ : amM) : At cr2 d 138 4 [] [0, 0, 0] μ = some (0, μ) := (At_eq cr2 d 138 4 _ _ _).trans rfl
set_option maxRecDepth 20000 in
theorem B139_0 (d : Nat) (x1 : Int) (μ : amM) : At cr2 d 139 0 [] [0, x1] μ = (if x1 = 0 then At cr2 d 139 1 [] [0, 0] μ else if x1 = 1 then At cr2 d 139 2 [] [0, 0] μ else if x1 = 2 then At cr2 d 139 3 [] [0, 0] μ else if x1 = 3 then At cr2 d 139 4 [] [0, 0] μ else if x1 = 4 then At cr2 d 139 5 [] [0, 0] μ else if x1 = 5 then At cr2 d 139 6 [] [0, 0] μ else if x1 = 6 then At cr2 d 139 7 [] [0, 0] μ else if x1 = 7 then At cr2 d 139 8 [] [0, 0] μ else if x1 = 8 then At cr2 d 139 9 [] [0, 0] μ else if x1 = 9 then At cr2 d 139 10 [] [0, 0] μ else if x1 = 10 then At cr2 d 139 11 [] [0, 0] μ else if x1 = 11 then At cr2 d 139 12 [] [0, 0] μ else At cr2 d 139 13 [] [0, 0] μ) := (At_eq cr2 d 139 0 _ _ _).trans rfl
set_option maxRecDepth 20000 in
theorem B139_1 (d : Nat) (μ : amM) : At cr2 d 139 1 [] [0, 0] μ = some ((μ 2 7), μ) := (At_eq cr2 d 139 1 _ _ _).trans rfl
set_option maxRecDepth 20000 in
theorem B139_2 (d : Nat) (μ : amM) : At cr2 d 139 2 [] [0, 0] μ = some ((μ 2 8), μ) := (At_eq cr2 d 139 2 _ _ _).trans rfl
set_option maxRecDepth 20000 in
theorem B139_3 (d : Nat) (μ : amM) : At cr2 d 139 3 [] [0, 0] μ = some ((μ 2 9), μ) := (At_eq cr2 d 139 3 _ _ _).trans rfl
set_option maxRecDepth 20000 in
theorem B139_4 (d : Nat) (μ : amM) : At cr2 d 139 4 [] [0, 0] μ = some ((μ 2 11), μ) := (At_eq cr2 d 139 4 _ _ _).trans rfl
set_option maxRecDepth 20000 in
theorem B139_5 (d : Nat) (μ : amM) : At cr2 d 139 5 [] [0, 0] μ = some ((μ 2 12), μ) := (At_eq cr2 d 139 5 _ _ _).trans rfl
set_option maxRecDepth 20000 in
theorem B139_6 (d : Nat) (μ : amM) : At cr2 d 139 6 [] [0, 0] μ = bnd (RD cr2 d 68 [2] μ) (fun v1 μ1 => some (v1, μ1)) := (At_eq cr2 d 139 6 _ _ _).trans rfl
set_option maxRecDepth 20000 in
theorem B139_7 (d : Nat) (μ : amM) : At cr2 d 139 7 [] [0, 0] μ = some ((μ 1 6), μ) := (At_eq cr2 d 139 7 _ _ _).trans rfl
set_option maxRecDepth 20000 in
theorem B139_8 (d : Nat) (μ : amM) : At cr2 d 139 8 [] [0, 0] μ = some ((μ 1 7), μ) := (At_eq cr2 d 139 8 _ _ _).trans rfl
set_option maxRecDepth 20000 in
theorem B139_9 (d : Nat) (μ : amM) : At cr2 d 139 9 [] [0, 0] μ = some ((μ 1 4), μ) := (At_eq cr2 d 139 9 _ _ _).trans rfl
set_option maxRecDepth 20000 in
theorem B139_10 (d : Nat) (μ : amM) : At cr2 d 139 10 [] [0, 0] μ = some ((μ 1 5), μ) := (At_eq cr2 d 139 10 _ _ _).trans rfl
set_option maxRecDepth 20000 in
theorem B139_11 (d : Nat) (μ : amM) : At cr2 d 139 11 [] [0, 0] μ = some ((μ 59 1), μ) := (At_eq cr2 d 139 11 _ _ _).trans rfl
set_option maxRecDepth 20000 in
theorem B139_12 (d : Nat) (μ : amM) : At cr2 d 139 12 [] [0, 0] μ = some ((μ 1 8), μ) := (At_eq cr2 d 139 12 _ _ _).trans rfl
set_option maxRecDepth 20000 in
theorem B139_13 (d : Nat) (μ : amM) : At cr2 d 139 13 [] [0, 0] μ = bnd (RD cr2 d 141 [0, 1] μ) (fun v1 μ1 => some (v1, μ1)) := (At_eq cr2 d 139 13 _ _ _).trans rfl
set_option maxRecDepth 20000 in
theorem B140_0 (d : Nat) (x1 : Int) (μ : amM) : At cr2 d 140 0 [] [0, x1] μ = bnd (RD cr2 d 142 [x1, 1, 5] μ) (fun v1 μ1 => (if v1 = 0 then At cr2 d 140 1 [] [0, 0] μ1 else rd 62 6 μ1 x1 (fun v2 => At cr2 d 140 2 [v2] [0, 0] μ1))) := (At_eq cr2 d 140 0 _ _ _).trans rfl
set_option maxRecDepth 20000 in
theorem B140_1 (d : Nat) (μ : amM) : At cr2 d 140 1 [] [0, 0] μ = bnd (RD cr2 d 141 [0, 1] μ) (fun v1 μ1 => At cr2 d 140 2 [v1] [0, 0] μ1) := (At_eq cr2 d 140 1 _ _ _).trans rfl
set_option maxRecDepth 20000 in
theorem B140_2 (d : Nat) (s0 : Int) (μ : amM) : At cr2 d 140 2 [s0] [0, 0] μ = some (s0, μ) := (At_eq cr2 d 140 2 _ _ _).trans rfl
set_option maxRecDepth 20000 in
theorem B141_0 (d : Nat) (x1 : Int) (μ : amM) : At cr2 d 141 0 [] [0, x1] μ = rd 62 6 μ x1 (fun v1 => wr 62 6 μ x1 (w32 (v1 + 1)) (fun μ1 => some ((w32 ((-1000000000) - x1)), μ1))) := (At_eq cr2 d 141 0 _ _ _).trans rfl
set_option maxRecDepth 20000 in
theorem B142_0 (d : Nat) (x0 x1 x2 : Int) (μ : amM) : At cr2 d 142 0 [] [x0, x1, x2] μ = (if x0 < x1 then At cr2 d 142 1 [] [0, 0, 0] μ else (if x2 < x0 then At cr2 d 142 1 [] [0, 0, 0] μ else At cr2 d 142 2 [1] [0, 0, 0] μ)) := (At_eq cr2 d 142 0 _ _ _).trans rfl
set_option maxRecDepth 20000 in
theorem B142_1 (d : Nat) (μ : amM) : At cr2 d 142 1 [] [0, 0, 0] μ = At cr2 d 142 2 [0] [0, 0, 0] μ := (At_eq cr2 d 142 1 _ _ _).trans rfl
set_option maxRecDepth 20000 in
theorem B142_2 (d : Nat) (s0 : Int) (μ : amM) : At cr2 d 142 2 [s0] [0, 0, 0] μ = rb s0 μ := (At_eq cr2 d 142 2 _ _ _).trans rfl
set_option maxRecDepth 20000 in
theorem B143_0 (d : Nat) (x1 : Int) (μ : amM) : At cr2 d 143 0 [] [0, x1] μ = bnd (RD cr2 d 142 [x1, 0, (w32 ((μ 2 10) - 1))] μ) (fun v1 μ1 => rb v1 μ1) := (At_eq cr2 d 143 0 _ _ _).trans rfl
set_option maxRecDepth 20000 in
theorem B144_0 (d : Nat) (x1 : Int) (μ : amM) : At cr2 d 144 0 [] [0, x1] μ = rd 3 64 μ x1 (fun v1 => (if v1 = (-1) then At cr2 d 144 2 [1] [0, 0] μ else At cr2 d 144 1 [] [0, 0] μ)) := (At_eq cr2 d 144 0 _ _ _).trans rfl
set_option maxRecDepth 20000 in
theorem B144_1 (d : Nat) (μ : amM) : At cr2 d 144 1 [] [0, 0] μ = At cr2 d 144 2 [0] [0, 0] μ := (At_eq cr2 d 144 1 _ _ _).trans rfl
set_option maxRecDepth 20000 in
theorem B144_2 (d : Nat) (s0 : Int) (μ : amM) : At cr2 d 144 2 [s0] [0, 0] μ = rb s0 μ := (At_eq cr2 d 144 2 _ _ _).trans rfl
set_option maxRecDepth 20000 in
theorem B145_0 (d : Nat) (x0 x1 : Int) (μ : amM) : At cr2 d 145 0 [] [x0, x1] μ = bnd (RD cr2 d 142 [x0, 0, 3] μ) (fun v1 μ1 => (if v1 = 0 then At cr2 d 145 1 [] [0, 0] μ1 else bnd (RD cr2 d 142 [x1, 0, 2] μ1) (fun v2 μ2 => (if v2 = 0 then At cr2 d 145 1 [] [0, 0] μ2 else At cr2 d 145 2 [1] [0, 0] μ2)))) := (At_eq cr2 d 145 0 _ _ _).trans rfl
set_option maxRecDepth 20000 in
theorem B145_1 (d : Nat) (μ : amM) : At cr2 d 145 1 [] [0, 0] μ = At cr2 d 145 2 [0] [0, 0] μ := (At_eq cr2 d 145 1 _ _ _).trans rfl
set_option maxRecDepth 20000 in
theorem B145_2 (d : Nat) (s0 : Int) (μ : amM) : At cr2 d 145 2 [s0] [0, 0] μ = rb s0 μ := (At_eq cr2 d 145 2 _ _ _).trans rfl
set_option maxRecDepth 20000 in
theorem B146_0 (d : Nat) (x0 : Int) (μ : amM) : At cr2 d 146 0 [] [x0] μ = bnd (RD cr2 d 142 [x0, 0, 69] μ) (fun v1 μ1 => rb v1 μ1) := (At_eq cr2 d 146 0 _ _ _).trans rfl
set_option maxRecDepth 20000 in
theorem B147_0 (d : Nat) (x0 : Int) (μ : amM) : At cr2 d 147 0 [] [x0] μ = bnd (RD cr2 d 142 [x0, 0, 3] μ) (fun v1 μ1 => rb v1 μ1) := (At_eq cr2 d 147 0 _ _ _).trans rfl
set_option maxRecDepth 20000 in
theorem B148_0 (d : Nat) (x1 x2 x3 : Int) (μ : amM) : At cr2 d 148 0 [] [0, x1, x2, x3, 0] μ = bnd (RD cr2 d 143 [0, x1] μ) (fun v1 μ1 => (if v1 = 0 then At cr2 d 148 1 [] [0, 0, 0, 0, 0] μ1 else bnd (RD cr2 d 146 [x2] μ1) (fun v2 μ2 => (if v2 = 0 then At cr2 d 148 1 [] [0, 0, 0, 0, 0] μ2 else bnd (RD cr2 d 142 [x3, 0, 80] μ2) (fun v3 μ3 => (if v3 = 0 then At cr2 d 148 1 [] [0, 0, 0, 0, 0] μ3 else At cr2 d 148 2 [] [0, x1, x2, x3, 0] μ3)))))) := (At_eq cr2 d 148 0 _ _ _).trans rfl
set_option maxRecDepth 20000 in
theorem B148_1 (d : Nat) (μ : amM) : At cr2 d 148 1 [] [0, 0, 0, 0, 0] μ = some (1, μ) := (At_eq cr2 d 148 1 _ _ _).trans rfl
set_option maxRecDepth 20000 in
theorem B148_2 (d : Nat) (x1 x2 x3 : Int) (μ : amM) : At cr2 d 148 2 [] [0, x1, x2, x3, 0] μ = bnd (RD cr2 d 144 [0, x1] μ) (fun v1 μ1 => (if v1 = 0 then some (3, μ1) else At cr2 d 148 3 [] [0, x1, x2, x3, 0] μ1)) := (At_eq cr2 d 148 2 _ _ _).trans rfl
set_option maxRecDepth 20000 in
theorem B148_3 (d : Nat) (x1 x2 x3 : Int) (μ : amM) : At cr2 d 148 3 [] [0, x1, x2, x3, 0] μ = (if (w32 (x2.tdiv 10)) = 5 then At cr2 d 148 4 [] [0, 0, 0, 0, 0] μ else bnd (RD cr2 d 6 [x3] μ) (fun v1 μ1 => bnd (RD cr2 d 74 [2, x1, v1] μ1) (fun v2 μ2 => (if v2 = 0 then At cr2 d 148 5 [] [0, 0, 0, 0, 0] μ2 else At cr2 d 148 4 [] [0, 0, 0, 0, 0] μ2)))) := (At_eq cr2 d 148 3 _ _ _).trans rfl
set_option maxRecDepth 20000 in
theorem B148_4 (d : Nat) (μ : amM) : At cr2 d 148 4 [] [0, 0, 0, 0, 0] μ = At cr2 d 148 6 [1] [0, 0, 0, 0, 0] μ := (At_eq cr2 d 148 4 _ _ _).trans rfl
set_option maxRecDepth 20000 in
theorem B148_5 (d : Nat) (μ : amM) : At cr2 d 148 5 [] [0, 0, 0, 0, 0] μ = At cr2 d 148 6 [0] [0, 0, 0, 0, 0] μ := (At_eq cr2 d 148 5 _ _ _).trans rfl
set_option maxRecDepth 20000 in
theorem B148_6 (d : Nat) (s0 : Int) (μ : amM) : At cr2 d 148 6 [s0] [0, 0, 0, 0, 0] μ = (if s0 = 0 then At cr2 d 148 7 [] [0, 0, 0, 0, 0] μ else At cr2 d 148 8 [0] [0, 0, 0, 0, 0] μ) := (At_eq cr2 d 148 6 _ _ _).trans rfl
set_option maxRecDepth 20000 in
theorem B148_7 (d : Nat) (μ : amM) : At cr2 d 148 7 [] [0, 0, 0, 0, 0] μ = At cr2 d 148 8 [5] [0, 0, 0, 0, 0] μ := (At_eq cr2 d 148 7 _ _ _).trans rfl
set_option maxRecDepth 20000 in
theorem B148_8 (d : Nat) (s0 : Int) (μ : amM) : At cr2 d 148 8 [s0] [0, 0, 0, 0, 0] μ = some (s0, μ) := (At_eq cr2 d 148 8 _ _ _).trans rfl
set_option maxRecDepth 20000 in
theorem B150_0 (d : Nat) (x1 : Int) (μ : amM) : At cr2 d 150 0 [] [71, x1] μ = rd 74 6 μ x1 (fun v1 => wr 74 6 μ x1 (w32 (v1 + 1)) (fun μ1 => some ((w32 ((-1000000000) - x1)), μ1))) := (At_eq cr2 d 150 0 _ _ _).trans rfl
set_option maxRecDepth 20000 in
theorem B151_0 (d : Nat) (x0 x2 x4 : Int) (μ : amM) : At cr2 d 151 0 [] [x0, 0, x2, 0, x4, 0] μ = (if (if x0 < x2 then (-1) else if x0 = x2 then 0 else 1) < 0 then At cr2 d 151 1 [] [0, 0, 0, 0, 0, 0] μ else (if 0 < (if x0 < x4 then (-1) else if x0 = x4 then 0 else 1) then At cr2 d 151 1 [] [0, 0, 0, 0, 0, 0] μ else At cr2 d 151 2 [1] [0, 0, 0, 0, 0, 0] μ)) := (At_eq cr2 d 151 0 _ _ _).trans rfl
set_option maxRecDepth 20000 in
theorem B151_1 (d : Nat) (μ : amM) : At cr2 d 151 1 [] [0, 0, 0, 0, 0, 0] μ = At cr2 d 151 2 [0] [0, 0, 0, 0, 0, 0] μ := (At_eq cr2 d 151 1 _ _ _).trans rfl
set_option maxRecDepth 20000 in
theorem B151_2 (d : Nat) (s0 : Int) (μ : amM) : At cr2 d 151 2 [s0] [0, 0, 0, 0, 0, 0] μ = rb s0 μ := (At_eq cr2 d 151 2 _ _ _).trans rfl
set_option maxRecDepth 20000 in
theorem B152_0 (d : Nat) (x0 x1 x2 : Int) (μ : amM) : At cr2 d 152 0 [] [x0, x1, x2] μ = (if x0 < x1 then At cr2 d 152 3 [x1] [0, 0, 0] μ else At cr2 d 152 1 [] [x0, 0, x2] μ) := (At_eq cr2 d 152 0 _ _ _).trans rfl
set_option maxRecDepth 20000 in
theorem B152_1 (d : Nat) (x0 x2 : Int) (μ : amM) : At cr2 d 152 1 [] [x0, 0, x2] μ = (if x2 < x0 then At cr2 d 152 3 [x2] [0, 0, 0] μ else At cr2 d 152 2 [] [x0, 0, 0] μ) := (At_eq cr2 d 152 1 _ _ _).trans rfl
set_option maxRecDepth 20000 in
theorem B152_2 (d : Nat) (x0 : Int) (μ : amM) : At cr2 d 152 2 [] [x0, 0, 0] μ = At cr2 d 152 3 [x0] [0, 0, 0] μ := (At_eq cr2 d 152 2 _ _ _).trans rfl
set_option maxRecDepth 20000 in
theorem B152_3 (d : Nat) (s0 : Int) (μ : amM) : At cr2 d 152 3 [s0] [0, 0, 0] μ = some (s0, μ) := (At_eq cr2 d 152 3 _ _ _).trans rfl
set_option maxRecDepth 20000 in
theorem B153_0 (d : Nat) (μ : amM) : At cr2 d 153 0 [] [71] μ = some ((w32 ((μ 72 0) * (μ 72 1))), μ) := (At_eq cr2 d 153 0 _ _ _).trans rfl
set_option maxRecDepth 20000 in
theorem B154_0 (d : Nat) (x1 : Int) (μ : amM) : At cr2 d 154 0 [] [71, x1] μ = bnd (RD cr2 d 153 [71] μ) (fun v1 μ1 => bnd (RD cr2 d 151 [x1, 0, (w32 (v1 - 1))] μ1) (fun v2 μ2 => rb v2 μ2)) := (At_eq cr2 d 154 0 _ _ _).trans rfl
set_option maxRecDepth 20000 in
theorem B155_0 (d : Nat) (x1 : Int) (μ : amM) : At cr2 d 155 0 [] [71, x1] μ = rd 72 576 μ (w32 (20 + x1)) (fun v1 => (if v1 = 0 then At cr2 d 155 2 [1] [0, 0] μ else At cr2 d 155 1 [] [0, 0] μ)) := (At_eq cr2 d 155 0 _ _ _).trans rfl
set_option maxRecDepth 20000 in
theorem B155_1 (d : Nat) (μ : amM) : At cr2 d 155 1 [] [0, 0] μ = At cr2 d 155 2 [0] [0, 0] μ := (At_eq cr2 d 155 1 _ _ _).trans rfl
set_option maxRecDepth 20000 in
theorem B155_2 (d : Nat) (s0 : Int) (μ : amM) : At cr2 d 155 2 [s0] [0, 0] μ = rb s0 μ := (At_eq cr2 d 155 2 _ _ _).trans rfl
set_option maxRecDepth 20000 in
theorem B156_0 (d : Nat) (x1 : Int) (μ : amM) : At cr2 d 156 0 [] [71, x1] μ = rd 72 576 μ (w32 (20 + x1)) (fun v1 => some ((w32 (v1 - 1)), μ)) := (At_eq cr2 d 156 0 _ _ _).trans rfl
set_option maxRecDepth 20000 in
theorem B157_0 (d : Nat) (x1 x2 : Int) (μ : amM) : At cr2 d 157 0 [] [71, x1, x2] μ = rd 72 576 μ (w32 ((w32 (148 + (w32 (4 * x1)))) + x2)) (fun v1 => some (v1, μ)) := (At_eq cr2 d 157 0 _ _ _).trans rfl
set_option maxRecDepth 20000 in
theorem B158_0 (d : Nat) (x1 x2 x3 : Int) (μ : amM) : At cr2 d 158 0 [] [71, x1, x2, x3] μ = wr 72 576 μ (w32 ((w32 (148 + (w32 (4 * x1)))) + x2)) x3 (fun μ1 => some (0, μ1)) := (At_eq cr2 d 158 0 _ _ _).trans rfl
set_option maxRecDepth 20000 in
theorem B159_0 (d : Nat) (μ : amM) : At cr2 d 159 0 [] [71] μ = (if (μ 71 5) < (μ 71 6) then (if (μ 71 7) < 0 then rd 72 576 μ (w32 ((μ 71 4) + (μ 71 5))) (fun v1 => At cr2 d 159 2 [v1] [0] μ) else At cr2 d 159 1 [] [0] μ) else At cr2 d 159 1 [] [0] μ) := (At_eq cr2 d 159 0 _ _ _).trans rfl
set_option maxRecDepth 20000 in
theorem B159_1 (d : Nat) (μ : amM) : At cr2 d 159 1 [] [0] μ = At cr2 d 159 2 [(-1)] [0] μ := (At_eq cr2 d 159 1 _ _ _).trans rfl
set_option maxRecDepth 20000 in
theorem B159_2 (d : Nat) (s0 : Int) (μ : amM) : At cr2 d 159 2 [s0] [0] μ = some (s0, μ) := (At_eq cr2 d 159 2 _ _ _).trans rfl
set_option maxRecDepth 20000 in
theorem B160_0 (d : Nat) (μ : amM) : At cr2 d 160 0 [] [71] μ = (if (μ 71 7) < 0 then At cr2 d 160 2 [(μ 71 5), 71] [0] μ else At cr2 d 160 1 [71] [71] μ) := (At_eq cr2 d 160 0 _ _ _).trans rfl
set_option maxRecDepth 20000 in
theorem B160_1 (d : Nat) (μ : amM) : At cr2 d 160 1 [71] [71] μ = At cr2 d 160 2 [(μ 71 7), 71] [0] μ := (At_eq cr2 d 160 1 _ _ _).trans rfl
set_option maxRecDepth 20000 in
theorem B160_2 (d : Nat) (s0 : Int) (μ : amM) : At cr2 d 160 2 [s0, 71] [0] μ = wf 71 7 μ s0 (fun μ1 => some (0, μ1)) := (At_eq cr2 d 160 2 _ _ _).trans rfl
set_option maxRecDepth 20000 in
theorem B161_0 (d : Nat) (x1 : Int) (μ : amM) : At cr2 d 161 0 [] [71, x1] μ = bnd (RD cr2 d 159 [71] μ) (fun v1 μ1 => (if v1 = x1 then At cr2 d 161 1 [] [71, 0] μ1 else some (0, μ1))) := (At_eq cr2 d 161 0 _ _ _).trans rfl
set_option maxRecDepth 20000 in
theorem B161_1 (d : Nat) (μ : amM) : At cr2 d 161 1 [] [71, 0] μ = wf 71 5 μ (w32 ((μ 71 5) + 1)) (fun μ1 => some (1, μ1)) := (At_eq cr2 d 161 1 _ _ _).trans rfl
set_option maxRecDepth 20000 in
theorem B162_0 (d : Nat) (x1 : Int) (μ : amM) : At cr2 d 162 0 [] [71, x1] μ = (if (μ 71 9) = 0 then At cr2 d 162 6 [] [0, x1] μ else (if x1 = 99 then At cr2 d 162 5 [0] [0, 0] μ else At cr2 d 162 1 [] [0, x1] μ)) := (At_eq cr2 d 162 0 _ _ _).trans rfl
set_option maxRecDepth 20000 in
theorem B162_1 (d : Nat) (x1 : Int) (μ : amM) : At cr2 d 162 1 [] [0, x1] μ = (if x1 = 114 then At cr2 d 162 5 [1] [0, 0] μ else At cr2 d 162 2 [] [0, x1] μ) := (At_eq cr2 d 162 1 _ _ _).trans rfl
set_option maxRecDepth 20000 in
theorem B162_2 (d : Nat) (x1 : Int) (μ : amM) : At cr2 d 162 2 [] [0, x1] μ = (if x1 = 100 then At cr2 d 162 5 [2] [0, 0] μ else At cr2 d 162 3 [] [0, x1] μ) := (At_eq cr2 d 162 2 _ _ _).trans rfl
end
section
/-! ===== the blocks, one by one, the second half ===== -/
set_option maxRecDepth 20000 in
theorem B162_3 (d : Nat) (x1 : Int) (μ : amM) : At cr2 d 162 3 [] [0, x1] μ = (if x1 = 118 then At cr2 d 162 5 [3] [0, 0] μ else At cr2 d 162 4 [] [0, 0] μ) := (At_eq cr2 d 162 3 _ _ _).trans rfl
set_option maxRecDepth 20000 in
theorem B162_4 (d : Nat) (μ : amM) : At cr2 d 162 4 [] [0, 0] μ = At cr2 d 162 5 [(-1)] [0, 0] μ := (At_eq cr2 d 162 4 _ _ _).trans rfl
set_option maxRecDepth 20000 in
theorem B162_5 (d : Nat) (s0 : Int) (μ : amM) : At cr2 d 162 5 [s0] [0, 0] μ = some (s0, μ) := (At_eq cr2 d 162 5 _ _ _).trans rfl
set_option maxRecDepth 20000 in
theorem B162_6 (d : Nat) (x1 : Int) (μ : amM) : At cr2 d 162 6 [] [0, x1] μ = (if x1 = 107 then At cr2 d 162 9 [0] [0, 0] μ else At cr2 d 162 7 [] [0, x1] μ) := (At_eq cr2 d 162 6 _ _ _).trans rfl
set_option maxRecDepth 20000 in
theorem B162_7 (d : Nat) (x1 : Int) (μ : amM) : At cr2 d 162 7 [] [0, x1] μ = (if x1 = 109 then At cr2 d 162 9 [1] [0, 0] μ else At cr2 d 162 8 [] [0, 0] μ) := (At_eq cr2 d 162 7 _ _ _).trans rfl
set_option maxRecDepth 20000 in
theorem B162_8 (d : Nat) (μ : amM) : At cr2 d 162 8 [] [0, 0] μ = At cr2 d 162 9 [(-1)] [0, 0] μ := (At_eq cr2 d 162 8 _ _ _).trans rfl
set_option maxRecDepth 20000 in
theorem B162_9 (d : Nat) (s0 : Int) (μ : amM) : At cr2 d 162 9 [s0] [0, 0] μ = some (s0, μ) := (At_eq cr2 d 162 9 _ _ _).trans rfl
set_option maxRecDepth 20000 in
theorem B163_0 (d : Nat) (μ : amM) : At cr2 d 163 0 [] [71, 0, 0] μ = bnd (RD cr2 d 164 [71] μ) (fun v1 μ1 => At cr2 d 163 1 [] [71, v1, 0] μ1) := (At_eq cr2 d 163 0 _ _ _).trans rfl
set_option maxRecDepth 20000 in
theorem B163_1 (d : Nat) (x1 : Int) (μ : amM) : At cr2 d 163 1 [] [71, x1, 0] μ = bnd (RD cr2 d 161 [71, 124] μ) (fun v1 μ1 => (if v1 = 0 then At cr2 d 163 5 [] [0, x1, 0] μ1 else bnd (RD cr2 d 164 [71] μ1) (fun v2 μ2 => (if x1 = 0 then (if v2 = 0 then At cr2 d 163 3 [] [71, 0, 0] μ2 else At cr2 d 163 2 [] [71, 0, 0] μ2) else At cr2 d 163 2 [] [71, 0, 0] μ2)))) := (At_eq cr2 d 163 1 _ _ _).trans rfl
set_option maxRecDepth 20000 in
theorem B163_2 (d : Nat) (μ : amM) : At cr2 d 163 2 [] [71, 0, 0] μ = At cr2 d 163 4 [1] [71, 0, 0] μ := (At_eq cr2 d 163 2 _ _ _).trans rfl
set_option maxRecDepth 20000 in
theorem B163_3 (d : Nat) (μ : amM) : At cr2 d 163 3 [] [71, 0, 0] μ = At cr2 d 163 4 [0] [71, 0, 0] μ := (At_eq cr2 d 163 3 _ _ _).trans rfl
set_option maxRecDepth 20000 in
theorem B163_4 (d : Nat) (s0 : Int) (μ : amM) : At cr2 d 163 4 [s0] [71, 0, 0] μ = At cr2 d 163 1 [] [71, s0, 0] μ := (At_eq cr2 d 163 4 _ _ _).trans rfl
set_option maxRecDepth 20000 in
theorem B163_5 (d : Nat) (x1 : Int) (μ : amM) : At cr2 d 163 5 [] [0, x1, 0] μ = some (x1, μ) := (At_eq cr2 d 163 5 _ _ _).trans rfl
set_option maxRecDepth 20000 in
theorem B164_0 (d : Nat) (μ : amM) : At cr2 d 164 0 [] [71, 0, 0] μ = bnd (RD cr2 d 165 [71] μ) (fun v1 μ1 => At cr2 d 164 1 [] [71, v1, 0] μ1) := (At_eq cr2 d 164 0 _ _ _).trans rfl
set_option maxRecDepth 20000 in
theorem B164_1 (d : Nat) (x1 : Int) (μ : amM) : At cr2 d 164 1 [] [71, x1, 0] μ = bnd (RD cr2 d 161 [71, 38] μ) (fun v1 μ1 => (if v1 = 0 then At cr2 d 164 4 [] [0, x1, 0] μ1 else bnd (RD cr2 d 165 [71] μ1) (fun v2 μ2 => (if x1 = 0 then At cr2 d 164 2 [] [71, 0, 0] μ2 else (if v2 = 0 then At cr2 d 164 2 [] [71, 0, 0] μ2 else At cr2 d 164 3 [1] [71, 0, 0] μ2))))) := (At_eq cr2 d 164 1 _ _ _).trans rfl
set_option maxRecDepth 20000 in
theorem B164_2 (d : Nat) (μ : amM) : At cr2 d 164 2 [] [71, 0, 0] μ = At cr2 d 164 3 [0] [71, 0, 0] μ := (At_eq cr2 d 164 2 _ _ _).trans rfl
set_option maxRecDepth 20000 in
theorem B164_3 (d : Nat) (s0 : Int) (μ : amM) : At cr2 d 164 3 [s0] [71, 0, 0] μ = At cr2 d 164 1 [] [71, s0, 0] μ := (At_eq cr2 d 164 3 _ _ _).trans rfl
set_option maxRecDepth 20000 in
theorem B164_4 (d : Nat) (x1 : Int) (μ : amM) : At cr2 d 164 4 [] [0, x1, 0] μ = some (x1, μ) := (At_eq cr2 d 164 4 _ _ _).trans rfl
set_option maxRecDepth 20000 in
theorem B165_0 (d : Nat) (μ : amM) : At cr2 d 165 0 [] [71, 0, 0, 0] μ = bnd (RD cr2 d 166 [71] μ) (fun v1 μ1 => bnd (RD cr2 d 159 [71] μ1) (fun v2 μ2 => (if v2 = 60 then At cr2 d 165 1 [] [71, v1, v2, 0] μ2 else (if v2 = 61 then At cr2 d 165 1 [] [71, v1, v2, 0] μ2 else (if v2 = 62 then At cr2 d 165 1 [] [71, v1, v2, 0] μ2 else some (v1, μ2)))))) := (At_eq cr2 d 165 0 _ _ _).trans rfl
set_option maxRecDepth 20000 in
theorem B165_1 (d : Nat) (x1 x2 : Int) (μ : amM) : At cr2 d 165 1 [] [71, x1, x2, 0] μ = wf 71 5 μ (w32 ((μ 71 5) + 1)) (fun μ1 => bnd (RD cr2 d 166 [71] μ1) (fun v1 μ2 => (if x2 = 60 then (if x1 < v1 then At cr2 d 165 4 [] [0, 0, 0, 0] μ2 else At cr2 d 165 5 [] [0, 0, 0, 0] μ2) else At cr2 d 165 2 [] [0, x1, x2, v1] μ2))) := (At_eq cr2 d 165 1 _ _ _).trans rfl
set_option maxRecDepth 20000 in
theorem B165_2 (d : Nat) (x1 x2 x3 : Int) (μ : amM) : At cr2 d 165 2 [] [0, x1, x2, x3] μ = (if x2 = 61 then (if x1 = x3 then At cr2 d 165 4 [] [0, 0, 0, 0] μ else At cr2 d 165 5 [] [0, 0, 0, 0] μ) else At cr2 d 165 3 [] [0, x1, 0, x3] μ) := (At_eq cr2 d 165 2 _ _ _).trans rfl
set_option maxRecDepth 20000 in
theorem B165_3 (d : Nat) (x1 x3 : Int) (μ : amM) : At cr2 d 165 3 [] [0, x1, 0, x3] μ = (if x3 < x1 then At cr2 d 165 4 [] [0, 0, 0, 0] μ else At cr2 d 165 5 [] [0, 0, 0, 0] μ) := (At_eq cr2 d 165 3 _ _ _).trans rfl
set_option maxRecDepth 20000 in
theorem B165_4 (d : Nat) (μ : amM) : At cr2 d 165 4 [] [0, 0, 0, 0] μ = At cr2 d 165 6 [1] [0, 0, 0, 0] μ := (At_eq cr2 d 165 4 _ _ _).trans rfl
set_option maxRecDepth 20000 in
theorem B165_5 (d : Nat) (μ : amM) : At cr2 d 165 5 [] [0, 0, 0, 0] μ = At cr2 d 165 6 [0] [0, 0, 0, 0] μ := (At_eq cr2 d 165 5 _ _ _).trans rfl
set_option maxRecDepth 20000 in
theorem B165_6 (d : Nat) (s0 : Int) (μ : amM) : At cr2 d 165 6 [s0] [0, 0, 0, 0] μ = some (s0, μ) := (At_eq cr2 d 165 6 _ _ _).trans rfl
set_option maxRecDepth 20000 in
theorem B166_0 (d : Nat) (μ : amM) : At cr2 d 166 0 [] [71, 0, 0, 0] μ = bnd (RD cr2 d 167 [71] μ) (fun v1 μ1 => At cr2 d 166 1 [] [71, v1, 0, 0] μ1) := (At_eq cr2 d 166 0 _ _ _).trans rfl
set_option maxRecDepth 20000 in
theorem B166_1 (d : Nat) (x1 : Int) (μ : amM) : At cr2 d 166 1 [] [71, x1, 0, 0] μ = bnd (RD cr2 d 159 [71] μ) (fun v1 μ1 => (if v1 = 43 then At cr2 d 166 2 [] [71, x1, 0, 0] μ1 else bnd (RD cr2 d 159 [71] μ1) (fun v2 μ2 => (if v2 = 45 then At cr2 d 166 2 [] [71, x1, 0, 0] μ2 else At cr2 d 166 5 [] [0, x1, 0, 0] μ2)))) := (At_eq cr2 d 166 1 _ _ _).trans rfl
set_option maxRecDepth 20000 in
theorem B166_2 (d : Nat) (x1 : Int) (μ : amM) : At cr2 d 166 2 [] [71, x1, 0, 0] μ = bnd (RD cr2 d 159 [71] μ) (fun v1 μ1 => wf 71 5 μ1 (w32 ((μ1 71 5) + 1)) (fun μ2 => bnd (RD cr2 d 167 [71] μ2) (fun v2 μ3 => (if v1 = 43 then At cr2 d 166 4 [(w32 (x1 + v2))] [71, 0, 0, 0] μ3 else At cr2 d 166 3 [] [71, x1, 0, v2] μ3)))) := (At_eq cr2 d 166 2 _ _ _).trans rfl
set_option maxRecDepth 20000 in
theorem B166_3 (d : Nat) (x1 x3 : Int) (μ : amM) : At cr2 d 166 3 [] [71, x1, 0, x3] μ = At cr2 d 166 4 [(w32 (x1 - x3))] [71, 0, 0, 0] μ := (At_eq cr2 d 166 3 _ _ _).trans rfl
set_option maxRecDepth 20000 in
theorem B166_4 (d : Nat) (s0 : Int) (μ : amM) : At cr2 d 166 4 [s0] [71, 0, 0, 0] μ = At cr2 d 166 1 [] [71, s0, 0, 0] μ := (At_eq cr2 d 166 4 _ _ _).trans rfl
set_option maxRecDepth 20000 in
theorem B166_5 (d : Nat) (x1 : Int) (μ : amM) : At cr2 d 166 5 [] [0, x1, 0, 0] μ = some (x1, μ) := (At_eq cr2 d 166 5 _ _ _).trans rfl
set_option maxRecDepth 20000 in
theorem B167_0 (d : Nat) (μ : amM) : At cr2 d 167 0 [] [71, 0, 0, 0] μ = bnd (RD cr2 d 168 [71] μ) (fun v1 μ1 => At cr2 d 167 1 [] [71, v1, 0, 0] μ1) := (At_eq cr2 d 167 0 _ _ _).trans rfl
set_option maxRecDepth 20000 in
theorem B167_1 (d : Nat) (x1 : Int) (μ : amM) : At cr2 d 167 1 [] [71, x1, 0, 0] μ = bnd (RD cr2 d 159 [71] μ) (fun v1 μ1 => (if v1 = 42 then At cr2 d 167 2 [] [71, x1, 0, 0] μ1 else bnd (RD cr2 d 159 [71] μ1) (fun v2 μ2 => (if v2 = 47 then At cr2 d 167 2 [] [71, x1, 0, 0] μ2 else bnd (RD cr2 d 159 [71] μ2) (fun v3 μ3 => (if v3 = 37 then At cr2 d 167 2 [] [71, x1, 0, 0] μ3 else At cr2 d 167 7 [] [0, x1, 0, 0] μ3)))))) := (At_eq cr2 d 167 1 _ _ _).trans rfl
set_option maxRecDepth 20000 in
theorem B167_2 (d : Nat) (x1 : Int) (μ : amM) : At cr2 d 167 2 [] [71, x1, 0, 0] μ = bnd (RD cr2 d 159 [71] μ) (fun v1 μ1 => wf 71 5 μ1 (w32 ((μ1 71 5) + 1)) (fun μ2 => bnd (RD cr2 d 168 [71] μ2) (fun v2 μ3 => (if v1 = 42 then At cr2 d 167 6 [(w32 (x1 * v2))] [71, 0, 0, 0] μ3 else At cr2 d 167 3 [] [71, x1, v1, v2] μ3)))) := (At_eq cr2 d 167 2 _ _ _).trans rfl
set_option maxRecDepth 20000 in
theorem B167_3 (d : Nat) (x1 x2 x3 : Int) (μ : amM) : At cr2 d 167 3 [] [71, x1, x2, x3] μ = (if x3 = 0 then At cr2 d 167 6 [0] [71, 0, 0, 0] μ else At cr2 d 167 4 [] [71, x1, x2, x3] μ) := (At_eq cr2 d 167 3 _ _ _).trans rfl
set_option maxRecDepth 20000 in
theorem B167_4 (d : Nat) (x1 x2 x3 : Int) (μ : amM) : At cr2 d 167 4 [] [71, x1, x2, x3] μ = (if x2 = 47 then if x3 = 0 then none else At cr2 d 167 6 [(w32 (x1.tdiv x3))] [71, 0, 0, 0] μ else At cr2 d 167 5 [] [71, x1, 0, x3] μ) := (At_eq cr2 d 167 4 _ _ _).trans rfl
set_option maxRecDepth 20000 in
theorem B167_5 (d : Nat) (x1 x3 : Int) (μ : amM) : At cr2 d 167 5 [] [71, x1, 0, x3] μ = if x3 = 0 then none else At cr2 d 167 6 [(x1.tmod x3)] [71, 0, 0, 0] μ := (At_eq cr2 d 167 5 _ _ _).trans rfl
set_option maxRecDepth 20000 in
theorem B167_6 (d : Nat) (s0 : Int) (μ : amM) : At cr2 d 167 6 [s0] [71, 0, 0, 0] μ = At cr2 d 167 1 [] [71, s0, 0, 0] μ := (At_eq cr2 d 167 6 _ _ _).trans rfl
set_option maxRecDepth 20000 in
theorem B167_7 (d : Nat) (x1 : Int) (μ : amM) : At cr2 d 167 7 [] [0, x1, 0, 0] μ = some (x1, μ) := (At_eq cr2 d 167 7 _ _ _).trans rfl
set_option maxRecDepth 20000 in
theorem B168_0 (d : Nat) (μ : amM) : At cr2 d 168 0 [] [71, 0, 0, 0, 0] μ = bnd (RD cr2 d 159 [71] μ) (fun v1 μ1 => (if v1 = 33 then At cr2 d 168 1 [] [71, v1, 0, 0, 0] μ1 else (if v1 = 40 then At cr2 d 168 1 [] [71, v1, 0, 0, 0] μ1 else At cr2 d 168 9 [] [71, v1, 0, 0, 0] μ1))) := (At_eq cr2 d 168 0 _ _ _).trans rfl
set_option maxRecDepth 20000 in
theorem B168_1 (d : Nat) (x1 : Int) (μ : amM) : At cr2 d 168 1 [] [71, x1, 0, 0, 0] μ = (if (μ 71 8) = 5 then bnd (RD cr2 d 160 [71] μ) (fun v1 μ1 => some (v1, μ1)) else At cr2 d 168 2 [] [71, x1, 0, 0, 0] μ) := (At_eq cr2 d 168 1 _ _ _).trans rfl
set_option maxRecDepth 20000 in
theorem B168_2 (d : Nat) (x1 : Int) (μ : amM) : At cr2 d 168 2 [] [71, x1, 0, 0, 0] μ = wf 71 8 μ (w32 ((μ 71 8) + 1)) (fun μ1 => wf 71 5 μ1 (w32 ((μ1 71 5) + 1)) (fun μ2 => (if x1 = 40 then bnd (RD cr2 d 163 [71] μ2) (fun v1 μ3 => At cr2 d 168 4 [v1] [71, x1, 0, 0, 0] μ3) else At cr2 d 168 3 [] [71, x1, 0, 0, 0] μ2))) := (At_eq cr2 d 168 2 _ _ _).trans rfl
set_option maxRecDepth 20000 in
theorem B168_3 (d : Nat) (x1 : Int) (μ : amM) : At cr2 d 168 3 [] [71, x1, 0, 0, 0] μ = bnd (RD cr2 d 168 [71] μ) (fun v1 μ1 => At cr2 d 168 4 [v1] [71, x1, 0, 0, 0] μ1) := (At_eq cr2 d 168 3 _ _ _).trans rfl
set_option maxRecDepth 20000 in
theorem B168_4 (d : Nat) (s0 x1 : Int) (μ : amM) : At cr2 d 168 4 [s0] [71, x1, 0, 0, 0] μ = (if x1 = 40 then bnd (RD cr2 d 161 [71, 41] μ) (fun v1 μ1 => (if v1 = 0 then bnd (RD cr2 d 160 [71] μ1) (fun v2 μ2 => some (v2, μ2)) else At cr2 d 168 5 [] [71, x1, s0, 0, 0] μ1)) else At cr2 d 168 5 [] [71, x1, s0, 0, 0] μ) := (At_eq cr2 d 168 4 _ _ _).trans rfl
set_option maxRecDepth 20000 in
theorem B168_5 (d : Nat) (x1 x2 : Int) (μ : amM) : At cr2 d 168 5 [] [71, x1, x2, 0, 0] μ = wf 71 8 μ (w32 ((μ 71 8) - 1)) (fun μ1 => (if x1 = 40 then At cr2 d 168 8 [x2] [0, 0, 0, 0, 0] μ1 else At cr2 d 168 6 [] [0, 0, x2, 0, 0] μ1)) := (At_eq cr2 d 168 5 _ _ _).trans rfl
set_option maxRecDepth 20000 in
theorem B168_6 (d : Nat) (x2 : Int) (μ : amM) : At cr2 d 168 6 [] [0, 0, x2, 0, 0] μ = (if x2 = 0 then At cr2 d 168 8 [1] [0, 0, 0, 0, 0] μ else At cr2 d 168 7 [] [0, 0, 0, 0, 0] μ) := (At_eq cr2 d 168 6 _ _ _).trans rfl
set_option maxRecDepth 20000 in
theorem B168_7 (d : Nat) (μ : amM) : At cr2 d 168 7 [] [0, 0, 0, 0, 0] μ = At cr2 d 168 8 [0] [0, 0, 0, 0, 0] μ := (At_eq cr2 d 168 7 _ _ _).trans rfl
set_option maxRecDepth 20000 in
theorem B168_8 (d : Nat) (s0 : Int) (μ : amM) : At cr2 d 168 8 [s0] [0, 0, 0, 0, 0] μ = some (s0, μ) := (At_eq cr2 d 168 8 _ _ _).trans rfl
set_option maxRecDepth 20000 in
theorem B168_9 (d : Nat) (x1 : Int) (μ : amM) : At cr2 d 168 9 [] [71, x1, 0, 0, 0] μ = bnd (RD cr2 d 162 [71, x1] μ) (fun v1 μ1 => (if v1 < 0 then At cr2 d 168 10 [] [71, 0, 0, 0, 0] μ1 else wf 71 5 μ1 (w32 ((μ1 71 5) + 1)) (fun μ2 => rd 75 4 μ2 v1 (fun v2 => some (v2, μ2))))) := (At_eq cr2 d 168 9 _ _ _).trans rfl
set_option maxRecDepth 20000 in
theorem B168_10 (d : Nat) (μ : amM) : At cr2 d 168 10 [] [71, 0, 0, 0, 0] μ = At cr2 d 168 11 [] [71, 0, 0, 0, 0] μ := (At_eq cr2 d 168 10 _ _ _).trans rfl
set_option maxRecDepth 20000 in
theorem B168_11 (d : Nat) (x3 x4 : Int) (μ : amM) : At cr2 d 168 11 [] [71, 0, 0, x3, x4] μ = (if x4 < 4 then bnd (RD cr2 d 159 [71] μ) (fun v1 μ1 => bnd (RD cr2 d 151 [v1, 48, 57] μ1) (fun v2 μ2 => (if v2 = 0 then At cr2 d 168 12 [] [71, 0, 0, x3, x4] μ2 else bnd (RD cr2 d 159 [71] μ2) (fun v3 μ3 => wf 71 5 μ3 (w32 ((μ3 71 5) + 1)) (fun μ4 => At cr2 d 168 11 [] [71, 0, 0, (w32 ((w32 ((w32 (10 * x3)) + v3)) - 48)), (w32 (x4 + 1))] μ4))))) else At cr2 d 168 12 [] [71, 0, 0, x3, x4] μ) := (At_eq cr2 d 168 11 _ _ _).trans rfl
set_option maxRecDepth 20000 in
theorem B168_12 (d : Nat) (x3 x4 : Int) (μ : amM) : At cr2 d 168 12 [] [71, 0, 0, x3, x4] μ = (if x4 = 0 then bnd (RD cr2 d 160 [71] μ) (fun v1 μ1 => At cr2 d 168 14 [v1] [0, 0, 0, 0, 0] μ1) else At cr2 d 168 13 [] [0, 0, 0, x3, 0] μ) := (At_eq cr2 d 168 12 _ _ _).trans rfl
set_option maxRecDepth 20000 in
theorem B168_13 (d : Nat) (x3 : Int) (μ : amM) : At cr2 d 168 13 [] [0, 0, 0, x3, 0] μ = At cr2 d 168 14 [x3] [0, 0, 0, 0, 0] μ := (At_eq cr2 d 168 13 _ _ _).trans rfl
set_option maxRecDepth 20000 in
theorem B168_14 (d : Nat) (s0 : Int) (μ : amM) : At cr2 d 168 14 [s0] [0, 0, 0, 0, 0] μ = some (s0, μ) := (At_eq cr2 d 168 14 _ _ _).trans rfl
set_option maxRecDepth 20000 in
theorem B169_0 (d : Nat) (x1 x2 x3 : Int) (μ : amM) : At cr2 d 169 0 [] [71, x1, x2, x3, 0] μ = wf 71 4 μ x1 (fun μ1 => wf 71 5 μ1 0 (fun μ2 => wf 71 6 μ2 x2 (fun μ3 => wf 71 7 μ3 (-1) (fun μ4 => wf 71 8 μ4 0 (fun μ5 => (if x3 = 1 then At cr2 d 169 2 [1, 71] [71, 0, 0, 0, 0] μ5 else At cr2 d 169 1 [71] [71, 0, 0, 0, 0] μ5)))))) := (At_eq cr2 d 169 0 _ _ _).trans rfl
set_option maxRecDepth 20000 in
theorem B169_1 (d : Nat) (μ : amM) : At cr2 d 169 1 [71] [71, 0, 0, 0, 0] μ = At cr2 d 169 2 [0, 71] [71, 0, 0, 0, 0] μ := (At_eq cr2 d 169 1 _ _ _).trans rfl
set_option maxRecDepth 20000 in
theorem B169_2 (d : Nat) (s0 : Int) (μ : amM) : At cr2 d 169 2 [s0, 71] [71, 0, 0, 0, 0] μ = amPf cr2 μ 11 9 71 s0 (fun μ1 => bnd (RD cr2 d 163 [71] μ1) (fun v1 μ2 => (if (μ2 71 7) < 0 then (if (μ2 71 5) < (μ2 71 6) then bnd (RD cr2 d 160 [71] μ2) (fun v2 μ3 => some (v2, μ3)) else At cr2 d 169 3 [] [0, 0, 0, 0, v1] μ2) else At cr2 d 169 3 [] [0, 0, 0, 0, v1] μ2))) := (At_eq cr2 d 169 2 _ _ _).trans rfl
set_option maxRecDepth 20000 in
theorem B169_3 (d : Nat) (x4 : Int) (μ : amM) : At cr2 d 169 3 [] [0, 0, 0, 0, x4] μ = some (x4, μ) := (At_eq cr2 d 169 3 _ _ _).trans rfl
set_option maxRecDepth 20000 in
theorem B170_0 (d : Nat) (x1 x3 : Int) (μ : amM) : At cr2 d 170 0 [] [71, x1, 0, x3, 0] μ = bnd (RD cr2 d 151 [x3, 1, 8] μ) (fun v1 μ1 => (if v1 = 0 then bnd (RD cr2 d 150 [71, 1] μ1) (fun v2 μ2 => some (v2, μ2)) else At cr2 d 170 1 [] [71, x1, 0, x3, 0] μ1)) := (At_eq cr2 d 170 0 _ _ _).trans rfl
set_option maxRecDepth 20000 in
theorem B170_1 (d : Nat) (x1 x3 : Int) (μ : amM) : At cr2 d 170 1 [] [71, x1, 0, x3, 0] μ = (if 50 < (w32 ((μ 72 8) + x3)) then bnd (RD cr2 d 150 [71, 4] μ) (fun v2 μ1 => some (v2, μ1)) else At cr2 d 170 2 [] [71, x1, 0, x3, 0] μ) := (At_eq cr2 d 170 1 _ _ _).trans rfl
set_option maxRecDepth 20000 in
theorem B170_2 (d : Nat) (x1 x3 : Int) (μ : amM) : At cr2 d 170 2 [] [71, x1, 0, x3, 0] μ = At cr2 d 170 3 [] [71, x1, 0, x3, 0] μ := (At_eq cr2 d 170 2 _ _ _).trans rfl
set_option maxRecDepth 20000 in
theorem B170_3 (d : Nat) (x1 x3 x4 : Int) (μ : amM) : At cr2 d 170 3 [] [71, x1, 0, x3, x4] μ = (if x4 < x3 then wr 72 576 μ (w32 (526 + (μ 72 8))) (w32 (lAnd (lShr x1 (w32 (8 * x4))) 255)) (fun μ1 => wf 72 8 μ1 (w32 ((μ1 72 8) + 1)) (fun μ2 => At cr2 d 170 3 [] [71, x1, 0, x3, (w32 (x4 + 1))] μ2)) else At cr2 d 170 4 [] [71, 0, 0, 0, 0] μ) := (At_eq cr2 d 170 3 _ _ _).trans rfl
set_option maxRecDepth 20000 in
theorem B170_4 (d : Nat) (μ : amM) : At cr2 d 170 4 [] [71, 0, 0, 0, 0] μ = some ((μ 72 8), μ) := (At_eq cr2 d 170 4 _ _ _).trans rfl
set_option maxRecDepth 20000 in
theorem B171_0 (d : Nat) (x1 : Int) (μ : amM) : At cr2 d 171 0 [] [71, x1, 0, 0, 0] μ = bnd (RD cr2 d 151 [x1, 0, 1] μ) (fun v1 μ1 => (if v1 = 0 then bnd (RD cr2 d 150 [71, 1] μ1) (fun v2 μ2 => some (v2, μ2)) else At cr2 d 171 1 [] [71, x1, 0, 0, 0] μ1)) := (At_eq cr2 d 171 0 _ _ _).trans rfl
set_option maxRecDepth 20000 in
theorem B171_1 (d : Nat) (x1 : Int) (μ : amM) : At cr2 d 171 1 [] [71, x1, 0, 0, 0] μ = wf 72 8 μ 0 (fun μ1 => bnd (RD cr2 d 169 [71, 526, (μ 72 8), x1] μ1) (fun v2 μ2 => (if (μ2 71 7) < 0 then At cr2 d 171 2 [] [71, x1, (μ 72 8), 0, 0] μ2 else some ((w32 ((-10) - (μ2 71 7))), μ2)))) := (At_eq cr2 d 171 1 _ _ _).trans rfl
set_option maxRecDepth 20000 in
theorem B171_2 (d : Nat) (x1 x2 : Int) (μ : amM) : At cr2 d 171 2 [] [71, x1, x2, 0, 0] μ = wr 72 576 μ (w32 (404 + x1)) x2 (fun μ1 => At cr2 d 171 3 [] [71, x1, x2, 0, 0] μ1) := (At_eq cr2 d 171 2 _ _ _).trans rfl
set_option maxRecDepth 20000 in
theorem B171_3 (d : Nat) (x1 x2 x4 : Int) (μ : amM) : At cr2 d 171 3 [] [71, x1, x2, 0, x4] μ = (if x4 < x2 then rd 72 576 μ (w32 (526 + x4)) (fun v1 => wr 72 576 μ (w32 ((w32 (426 + (w32 (50 * x1)))) + x4)) v1 (fun μ1 => At cr2 d 171 3 [] [71, x1, x2, 0, (w32 (x4 + 1))] μ1)) else At cr2 d 171 4 [] [0, 0, 0, 0, 0] μ) := (At_eq cr2 d 171 3 _ _ _).trans rfl
set_option maxRecDepth 20000 in
theorem B171_4 (d : Nat) (μ : amM) : At cr2 d 171 4 [] [0, 0, 0, 0, 0] μ = some (1, μ) := (At_eq cr2 d 171 4 _ _ _).trans rfl
set_option maxRecDepth 20000 in
theorem B172_0 (d : Nat) (x1 x2 x3 x4 x5 : Int) (μ : amM) : At cr2 d 172 0 [] [71, x1, x2, x3, x4, x5, 0] μ = (if x1 = 0 then At cr2 d 172 2 [(w32 (10 + x3))] [71, x1, x2, x3, x4, x5, 0] μ else At cr2 d 172 1 [] [71, x1, x2, x3, x4, x5, 0] μ) := (At_eq cr2 d 172 0 _ _ _).trans rfl
set_option maxRecDepth 20000 in
theorem B172_1 (d : Nat) (x1 x2 x3 x4 x5 : Int) (μ : amM) : At cr2 d 172 1 [] [71, x1, x2, x3, x4, x5, 0] μ = At cr2 d 172 2 [0] [71, x1, x2, x3, x4, x5, 0] μ := (At_eq cr2 d 172 1 _ _ _).trans rfl
set_option maxRecDepth 20000 in
theorem B172_2 (d : Nat) (s0 x1 x2 x3 x4 x5 : Int) (μ : amM) : At cr2 d 172 2 [s0] [71, x1, x2, x3, x4, x5, 0] μ = rd 72 576 μ (w32 (404 + x1)) (fun v1 => (if 0 < v1 then wf 75 0 μ x2 (fun μ1 => wf 75 1 μ1 x3 (fun μ2 => wf 75 2 μ2 x4 (fun μ3 => wf 75 3 μ3 x5 (fun μ4 => rd 72 576 μ4 (w32 (404 + x1)) (fun v2 => bnd (RD cr2 d 169 [71, (w32 (426 + (w32 (50 * x1)))), v2, x1] μ4) (fun v3 μ5 => At cr2 d 172 3 [] [0, x1, 0, 0, 0, 0, v3] μ5)))))) else At cr2 d 172 3 [] [0, x1, 0, 0, 0, 0, s0] μ)) := (At_eq cr2 d 172 2 _ _ _).trans rfl
set_option maxRecDepth 20000 in
theorem B172_3 (d : Nat) (x1 x6 : Int) (μ : amM) : At cr2 d 172 3 [] [0, x1, 0, 0, 0, 0, x6] μ = (if x1 = 0 then bnd (RD cr2 d 152 [x6, 0, 99] μ) (fun v1 μ1 => At cr2 d 172 5 [v1] [0, 0, 0, 0, 0, 0, 0] μ1) else At cr2 d 172 4 [] [0, 0, 0, 0, 0, 0, x6] μ) := (At_eq cr2 d 172 3 _ _ _).trans rfl
set_option maxRecDepth 20000 in
theorem B172_4 (d : Nat) (x6 : Int) (μ : amM) : At cr2 d 172 4 [] [0, 0, 0, 0, 0, 0, x6] μ = bnd (RD cr2 d 152 [x6, (-99), 99] μ) (fun v1 μ1 => At cr2 d 172 5 [v1] [0, 0, 0, 0, 0, 0, 0] μ1) := (At_eq cr2 d 172 4 _ _ _).trans rfl
set_option maxRecDepth 20000 in
theorem B172_5 (d : Nat) (s0 : Int) (μ : amM) : At cr2 d 172 5 [s0] [0, 0, 0, 0, 0, 0, 0] μ = some (s0, μ) := (At_eq cr2 d 172 5 _ _ _).trans rfl
set_option maxRecDepth 20000 in
theorem B173_0 (d : Nat) (x1 x2 x3 x4 x5 : Int) (μ : amM) : At cr2 d 173 0 [] [71, x1, x2, x3, x4, x5] μ = bnd (RD cr2 d 151 [x1, 0, 1] μ) (fun v1 μ1 => (if v1 = 0 then At cr2 d 173 1 [] [71, 0, 0, 0, 0, 0] μ1 else bnd (RD cr2 d 172 [71, x1, x2, x3, x4, x5] μ1) (fun v2 μ2 => At cr2 d 173 2 [v2] [0, 0, 0, 0, 0, 0] μ2))) := (At_eq cr2 d 173 0 _ _ _).trans rfl
set_option maxRecDepth 20000 in
theorem B173_1 (d : Nat) (μ : amM) : At cr2 d 173 1 [] [71, 0, 0, 0, 0, 0] μ = bnd (RD cr2 d 150 [71, 1] μ) (fun v1 μ1 => At cr2 d 173 2 [v1] [0, 0, 0, 0, 0, 0] μ1) := (At_eq cr2 d 173 1 _ _ _).trans rfl
set_option maxRecDepth 20000 in
theorem B173_2 (d : Nat) (s0 : Int) (μ : amM) : At cr2 d 173 2 [s0] [0, 0, 0, 0, 0, 0] μ = some (s0, μ) := (At_eq cr2 d 173 2 _ _ _).trans rfl
set_option maxRecDepth 20000 in
theorem B174_0 (d : Nat) (x1 x2 : Int) (μ : amM) : At cr2 d 174 0 [] [71, x1, x2] μ = wr 76 128 μ (μ 71 13) x1 (fun μ1 => wr 77 128 μ1 (μ1 71 13) x2 (fun μ2 => wf 71 13 μ2 (w32 ((μ2 71 13) + 1)) (fun μ3 => some (0, μ3)))) := (At_eq cr2 d 174 0 _ _ _).trans rfl
set_option maxRecDepth 20000 in
theorem B175_0 (d : Nat) (μ : amM) : At cr2 d 175 0 [] [71, 0, 0, 0] μ = wf 71 13 μ 0 (fun μ1 => At cr2 d 175 1 [] [71, (μ1 72 1), 0, 0] μ1) := (At_eq cr2 d 175 0 _ _ _).trans rfl
set_option maxRecDepth 20000 in
theorem B175_1 (d : Nat) (x1 x2 : Int) (μ : amM) : At cr2 d 175 1 [] [71, x1, x2, 0] μ = bnd (RD cr2 d 153 [71] μ) (fun v1 μ1 => (if x2 < v1 then if x1 = 0 then none else (if (w32 ((x2.tmod x1) + 1)) < x1 then bnd (RD cr2 d 174 [71, x2, (w32 (x2 + 1))] μ1) (fun _ μ2 => At cr2 d 175 2 [] [71, x1, x2, (x2.tmod x1)] μ2) else At cr2 d 175 2 [] [71, x1, x2, (x2.tmod x1)] μ1) else At cr2 d 175 6 [] [0, 0, 0, 0] μ1)) := (At_eq cr2 d 175 1 _ _ _).trans rfl
set_option maxRecDepth 20000 in
theorem B175_2 (d : Nat) (x1 x2 x3 : Int) (μ : amM) : At cr2 d 175 2 [] [71, x1, x2, x3] μ = (if 0 < (μ 72 2) then (if 2 < x1 then (if x3 = 0 then bnd (RD cr2 d 174 [71, x2, (w32 ((w32 (x2 + x1)) - 1))] μ) (fun _ μ1 => At cr2 d 175 3 [] [71, x1, x2, 0] μ1) else At cr2 d 175 3 [] [71, x1, x2, 0] μ) else At cr2 d 175 3 [] [71, x1, x2, 0] μ) else At cr2 d 175 3 [] [71, x1, x2, 0] μ) := (At_eq cr2 d 175 2 _ _ _).trans rfl
set_option maxRecDepth 20000 in
theorem B175_3 (d : Nat) (x1 x2 : Int) (μ : amM) : At cr2 d 175 3 [] [71, x1, x2, 0] μ = bnd (RD cr2 d 153 [71] μ) (fun v1 μ1 => (if (w32 (x2 + x1)) < v1 then bnd (RD cr2 d 174 [71, x2, (w32 (x2 + x1))] μ1) (fun _ μ2 => At cr2 d 175 4 [] [71, x1, x2, 0] μ2) else At cr2 d 175 4 [] [71, x1, x2, 0] μ1)) := (At_eq cr2 d 175 3 _ _ _).trans rfl
set_option maxRecDepth 20000 in
theorem B175_4 (d : Nat) (x1 x2 : Int) (μ : amM) : At cr2 d 175 4 [] [71, x1, x2, 0] μ = (if (μ 72 2) = 2 then (if 2 < (μ 72 0) then (if x2 < x1 then bnd (RD cr2 d 174 [71, x2, (w32 (x2 + (w32 ((w32 ((μ 72 0) - 1)) * x1))))] μ) (fun _ μ1 => At cr2 d 175 5 [] [71, x1, x2, 0] μ1) else At cr2 d 175 5 [] [71, x1, x2, 0] μ) else At cr2 d 175 5 [] [71, x1, x2, 0] μ) else At cr2 d 175 5 [] [71, x1, x2, 0] μ) := (At_eq cr2 d 175 4 _ _ _).trans rfl
set_option maxRecDepth 20000 in
theorem B175_5 (d : Nat) (x1 x2 : Int) (μ : amM) : At cr2 d 175 5 [] [71, x1, x2, 0] μ = At cr2 d 175 1 [] [71, x1, (w32 (x2 + 1)), 0] μ := (At_eq cr2 d 175 5 _ _ _).trans rfl
set_option maxRecDepth 20000 in
theorem B175_6 (d : Nat) (μ : amM) : At cr2 d 175 6 [] [0, 0, 0, 0] μ = some (0, μ) := (At_eq cr2 d 175 6 _ _ _).trans rfl
set_option maxRecDepth 20000 in
theorem B176_0 (d : Nat) (x1 x2 : Int) (μ : amM) : At cr2 d 176 0 [] [71, x1, x2, 0, 0] μ = At cr2 d 176 1 [] [71, x1, x2, 0, 0] μ := (At_eq cr2 d 176 0 _ _ _).trans rfl
set_option maxRecDepth 20000 in
theorem B176_1 (d : Nat) (x1 x2 x3 x4 : Int) (μ : amM) : At cr2 d 176 1 [] [71, x1, x2, x3, x4] μ = (if x4 < 4 then bnd (RD cr2 d 157 [71, x1, x4] μ) (fun v1 μ1 => (if v1 < 3 then bnd (RD cr2 d 157 [71, x1, x4] μ1) (fun v2 μ2 => bnd (RD cr2 d 157 [71, x2, x4] μ2) (fun v3 μ3 => (if v2 = v3 then At cr2 d 176 3 [1, x3] [71, x1, x2, 0, x4] μ3 else At cr2 d 176 2 [x3] [71, x1, x2, 0, x4] μ3))) else At cr2 d 176 2 [x3] [71, x1, x2, 0, x4] μ1)) else At cr2 d 176 4 [] [0, 0, 0, x3, 0] μ) := (At_eq cr2 d 176 1 _ _ _).trans rfl
set_option maxRecDepth 20000 in
theorem B176_2 (d : Nat) (s0 x1 x2 x4 : Int) (μ : amM) : At cr2 d 176 2 [s0] [71, x1, x2, 0, x4] μ = At cr2 d 176 3 [0, s0] [71, x1, x2, 0, x4] μ := (At_eq cr2 d 176 2 _ _ _).trans rfl
set_option maxRecDepth 20000 in
theorem B176_3 (d : Nat) (s0 s1 x1 x2 x4 : Int) (μ : amM) : At cr2 d 176 3 [s0, s1] [71, x1, x2, 0, x4] μ = At cr2 d 176 1 [] [71, x1, x2, (w32 (s1 + s0)), (w32 (x4 + 1))] μ := (At_eq cr2 d 176 3 _ _ _).trans rfl
set_option maxRecDepth 20000 in
theorem B176_4 (d : Nat) (x3 : Int) (μ : amM) : At cr2 d 176 4 [] [0, 0, 0, x3, 0] μ = some (x3, μ) := (At_eq cr2 d 176 4 _ _ _).trans rfl
set_option maxRecDepth 20000 in
theorem B177_0 (d : Nat) (x1 : Int) (μ : amM) : At cr2 d 177 0 [] [71, x1] μ = bnd (RD cr2 d 155 [71, x1] μ) (fun v1 μ1 => (if v1 = 0 then bnd (RD cr2 d 156 [71, x1] μ1) (fun v2 μ2 => (if v2 = 5 then At cr2 d 177 1 [] [0, 0] μ2 else At cr2 d 177 2 [1] [0, 0] μ2)) else At cr2 d 177 1 [] [0, 0] μ1)) := (At_eq cr2 d 177 0 _ _ _).trans rfl
set_option maxRecDepth 20000 in
theorem B177_1 (d : Nat) (μ : amM) : At cr2 d 177 1 [] [0, 0] μ = At cr2 d 177 2 [0] [0, 0] μ := (At_eq cr2 d 177 1 _ _ _).trans rfl
set_option maxRecDepth 20000 in
theorem B177_2 (d : Nat) (s0 : Int) (μ : amM) : At cr2 d 177 2 [s0] [0, 0] μ = rb s0 μ := (At_eq cr2 d 177 2 _ _ _).trans rfl
set_option maxRecDepth 20000 in
theorem B178_0 (d : Nat) (x1 : Int) (μ : amM) : At cr2 d 178 0 [] [71, x1] μ = rd 76 128 μ x1 (fun v1 => bnd (RD cr2 d 177 [71, v1] μ) (fun v2 μ1 => (if v2 = 0 then At cr2 d 178 1 [] [0, 0] μ1 else rd 77 128 μ1 x1 (fun v3 => bnd (RD cr2 d 177 [71, v3] μ1) (fun v4 μ2 => (if v4 = 0 then At cr2 d 178 1 [] [0, 0] μ2 else rd 76 128 μ2 x1 (fun v5 => rd 77 128 μ2 x1 (fun v6 => bnd (RD cr2 d 176 [71, v5, v6] μ2) (fun v7 μ3 => bnd (RD cr2 d 151 [v7, (μ3 72 3), (μ3 72 4)] μ3) (fun v10 μ4 => (if v10 = 0 then At cr2 d 178 2 [1] [0, 0] μ4 else At cr2 d 178 1 [] [0, 0] μ4))))))))))) := (At_eq cr2 d 178 0 _ _ _).trans rfl
set_option maxRecDepth 20000 in
theorem B178_1 (d : Nat) (μ : amM) : At cr2 d 178 1 [] [0, 0] μ = At cr2 d 178 2 [0] [0, 0] μ := (At_eq cr2 d 178 1 _ _ _).trans rfl
set_option maxRecDepth 20000 in
theorem B178_2 (d : Nat) (s0 : Int) (μ : amM) : At cr2 d 178 2 [s0] [0, 0] μ = rb s0 μ := (At_eq cr2 d 178 2 _ _ _).trans rfl
set_option maxRecDepth 20000 in
theorem B179_0 (d : Nat) (x1 : Int) (μ : amM) : At cr2 d 179 0 [] [71, x1, 0, 0] μ = At cr2 d 179 1 [] [71, x1, 1, 0] μ := (At_eq cr2 d 179 0 _ _ _).trans rfl
set_option maxRecDepth 20000 in
theorem B179_1 (d : Nat) (x1 x2 x3 : Int) (μ : amM) : At cr2 d 179 1 [] [71, x1, x2, x3] μ = (if x3 < (μ 71 13) then (if x2 = 0 then At cr2 d 179 4 [] [71, x1, 0, x3] μ else rd 76 128 μ x3 (fun v1 => (if v1 = x1 then At cr2 d 179 2 [] [71, x1, 0, x3] μ else rd 77 128 μ x3 (fun v2 => (if v2 = x1 then At cr2 d 179 2 [] [71, x1, 0, x3] μ else At cr2 d 179 3 [] [71, x1, 0, x3] μ))))) else At cr2 d 179 6 [] [0, 0, x2, 0] μ) := (At_eq cr2 d 179 1 _ _ _).trans rfl
set_option maxRecDepth 20000 in
theorem B179_2 (d : Nat) (x1 x3 : Int) (μ : amM) : At cr2 d 179 2 [] [71, x1, 0, x3] μ = bnd (RD cr2 d 178 [71, x3] μ) (fun v1 μ1 => (if v1 = 0 then At cr2 d 179 3 [] [71, x1, 0, x3] μ1 else At cr2 d 179 4 [] [71, x1, 0, x3] μ1)) := (At_eq cr2 d 179 2 _ _ _).trans rfl
set_option maxRecDepth 20000 in
theorem B179_3 (d : Nat) (x1 x3 : Int) (μ : amM) : At cr2 d 179 3 [] [71, x1, 0, x3] μ = At cr2 d 179 5 [1] [71, x1, 0, x3] μ := (At_eq cr2 d 179 3 _ _ _).trans rfl
set_option maxRecDepth 20000 in
theorem B179_4 (d : Nat) (x1 x3 : Int) (μ : amM) : At cr2 d 179 4 [] [71, x1, 0, x3] μ = At cr2 d 179 5 [0] [71, x1, 0, x3] μ := (At_eq cr2 d 179 4 _ _ _).trans rfl
set_option maxRecDepth 20000 in
theorem B179_5 (d : Nat) (s0 x1 x3 : Int) (μ : amM) : At cr2 d 179 5 [s0] [71, x1, 0, x3] μ = At cr2 d 179 1 [] [71, x1, s0, (w32 (x3 + 1))] μ := (At_eq cr2 d 179 5 _ _ _).trans rfl
set_option maxRecDepth 20000 in
theorem B179_6 (d : Nat) (x2 : Int) (μ : amM) : At cr2 d 179 6 [] [0, 0, x2, 0] μ = rb x2 μ := (At_eq cr2 d 179 6 _ _ _).trans rfl
set_option maxRecDepth 20000 in
theorem B180_0 (d : Nat) (μ : amM) : At cr2 d 180 0 [] [71, 0] μ = wf 71 14 μ 0 (fun μ1 => wf 71 15 μ1 (-1) (fun μ2 => At cr2 d 180 1 [] [71, (w32 ((μ2 71 13) - 1))] μ2)) := (At_eq cr2 d 180 0 _ _ _).trans rfl
set_option maxRecDepth 20000 in
theorem B180_1 (d : Nat) (x1 : Int) (μ : amM) : At cr2 d 180 1 [] [71, x1] μ = (if x1 < 0 then At cr2 d 180 3 [] [0, 0] μ else bnd (RD cr2 d 178 [71, x1] μ) (fun v1 μ1 => (if v1 = 0 then At cr2 d 180 2 [] [71, x1] μ1 else wf 71 14 μ1 (w32 ((μ1 71 14) + 1)) (fun μ2 => wf 71 15 μ2 x1 (fun μ3 => At cr2 d 180 2 [] [71, x1] μ3))))) := (At_eq cr2 d 180 1 _ _ _).trans rfl
set_option maxRecDepth 20000 in
theorem B180_2 (d : Nat) (x1 : Int) (μ : amM) : At cr2 d 180 2 [] [71, x1] μ = At cr2 d 180 1 [] [71, (w32 (x1 + (-1)))] μ := (At_eq cr2 d 180 2 _ _ _).trans rfl
set_option maxRecDepth 20000 in
theorem B180_3 (d : Nat) (μ : amM) : At cr2 d 180 3 [] [0, 0] μ = some (0, μ) := (At_eq cr2 d 180 3 _ _ _).trans rfl
set_option maxRecDepth 20000 in
theorem B181_0 (d : Nat) (μ : amM) : At cr2 d 181 0 [] [71] μ = bnd (RD cr2 d 180 [71] μ) (fun _ μ1 => (if (μ1 71 14) = 0 then At cr2 d 181 2 [1] [0] μ1 else At cr2 d 181 1 [] [0] μ1)) := (At_eq cr2 d 181 0 _ _ _).trans rfl
set_option maxRecDepth 20000 in
theorem B181_1 (d : Nat) (μ : amM) : At cr2 d 181 1 [] [0] μ = At cr2 d 181 2 [0] [0] μ := (At_eq cr2 d 181 1 _ _ _).trans rfl
set_option maxRecDepth 20000 in
theorem B181_2 (d : Nat) (s0 : Int) (μ : amM) : At cr2 d 181 2 [s0] [0] μ = rb s0 μ := (At_eq cr2 d 181 2 _ _ _).trans rfl
set_option maxRecDepth 20000 in
theorem B182_0 (d : Nat) (x1 x2 x3 : Int) (μ : amM) : At cr2 d 182 0 [] [71, x1, x2, x3] μ = wr 72 576 μ (w32 (20 + x1)) (w32 (1 + (w32 (x2.tdiv 10)))) (fun μ1 => wr 72 576 μ1 (w32 (84 + x1)) (x2.tmod 10) (fun μ2 => bnd (RD cr2 d 158 [71, x1, 0, (w32 (x3.tdiv 27))] μ2) (fun _ μ3 => bnd (RD cr2 d 158 [71, x1, 1, ((w32 (x3.tdiv 9)).tmod 3)] μ3) (fun _ μ4 => bnd (RD cr2 d 158 [71, x1, 2, ((w32 (x3.tdiv 3)).tmod 3)] μ4) (fun _ μ5 => bnd (RD cr2 d 158 [71, x1, 3, (x3.tmod 3)] μ5) (fun _ μ6 => some (0, μ6))))))) := (At_eq cr2 d 182 0 _ _ _).trans rfl
set_option maxRecDepth 20000 in
theorem B183_0 (d : Nat) (x1 : Int) (μ : amM) : At cr2 d 183 0 [] [71, x1, 0] μ = wr 72 576 μ (w32 (20 + x1)) 0 (fun μ1 => wr 72 576 μ1 (w32 (84 + x1)) 0 (fun μ2 => At cr2 d 183 1 [] [71, x1, 0] μ2)) := (At_eq cr2 d 183 0 _ _ _).trans rfl
set_option maxRecDepth 20000 in
theorem B183_1 (d : Nat) (x1 x2 : Int) (μ : amM) : At cr2 d 183 1 [] [71, x1, x2] μ = (if x2 < 4 then bnd (RD cr2 d 158 [71, x1, x2, 0] μ) (fun _ μ1 => At cr2 d 183 1 [] [71, x1, (w32 (x2 + 1))] μ1) else At cr2 d 183 2 [] [0, 0, 0] μ) := (At_eq cr2 d 183 1 _ _ _).trans rfl
set_option maxRecDepth 20000 in
theorem B183_2 (d : Nat) (μ : amM) : At cr2 d 183 2 [] [0, 0, 0] μ = some (0, μ) := (At_eq cr2 d 183 2 _ _ _).trans rfl
set_option maxRecDepth 20000 in
theorem B184_0 (d : Nat) (μ : amM) : At cr2 d 184 0 [] [71, 0, 0] μ = At cr2 d 184 1 [] [71, 0, 0] μ := (At_eq cr2 d 184 0 _ _ _).trans rfl
set_option maxRecDepth 20000 in
theorem B184_1 (d : Nat) (x1 x2 : Int) (μ : amM) : At cr2 d 184 1 [] [71, x1, x2] μ = bnd (RD cr2 d 153 [71] μ) (fun v1 μ1 => (if x2 < v1 then bnd (RD cr2 d 155 [71, x2] μ1) (fun v2 μ2 => (if v2 = 0 then At cr2 d 184 2 [x1] [71, 0, x2] μ2 else At cr2 d 184 3 [0, x1] [71, 0, x2] μ2)) else At cr2 d 184 4 [] [0, x1, 0] μ1)) := (At_eq cr2 d 184 1 _ _ _).trans rfl
set_option maxRecDepth 20000 in
theorem B184_2 (d : Nat) (s0 x2 : Int) (μ : amM) : At cr2 d 184 2 [s0] [71, 0, x2] μ = At cr2 d 184 3 [1, s0] [71, 0, x2] μ := (At_eq cr2 d 184 2 _ _ _).trans rfl
set_option maxRecDepth 20000 in
theorem B184_3 (d : Nat) (s0 s1 x2 : Int) (μ : amM) : At cr2 d 184 3 [s0, s1] [71, 0, x2] μ = At cr2 d 184 1 [] [71, (w32 (s1 + s0)), (w32 (x2 + 1))] μ := (At_eq cr2 d 184 3 _ _ _).trans rfl
set_option maxRecDepth 20000 in
theorem B184_4 (d : Nat) (x1 : Int) (μ : amM) : At cr2 d 184 4 [] [0, x1, 0] μ = some (x1, μ) := (At_eq cr2 d 184 4 _ _ _).trans rfl
set_option maxRecDepth 20000 in
theorem B185_0 (d : Nat) (x1 x2 : Int) (μ : amM) : At cr2 d 185 0 [] [71, x1, x2, 0, 0] μ = rd 72 576 μ (w32 (84 + x1)) (fun v1 => bnd (RD cr2 d 172 [71, 0, x2, v1, 0, 0] μ) (fun v2 μ1 => bnd (RD cr2 d 156 [71, x1] μ1) (fun v3 μ2 => (if v3 = 1 then At cr2 d 185 1 [] [0, 0, 0, 0, v2] μ2 else if v3 = 2 then At cr2 d 185 2 [] [0, 0, 0, 0, v2] μ2 else if v3 = 3 then At cr2 d 185 3 [] [0, 0, 0, v1, 0] μ2 else if v3 = 4 then At cr2 d 185 4 [] [0, 0, 0, 0, v2] μ2 else if v3 = 5 then At cr2 d 185 5 [] [0, 0, 0, 0, 0] μ2 else if v3 = 6 then At cr2 d 185 6 [] [0, 0, 0, v1, 0] μ2 else At cr2 d 185 9 [] [0, 0, 0, 0, v2] μ2)))) := (At_eq cr2 d 185 0 _ _ _).trans rfl
set_option maxRecDepth 20000 in
theorem B185_1 (d : Nat) (x4 : Int) (μ : amM) : At cr2 d 185 1 [] [0, 0, 0, 0, x4] μ = some ((w32 (x4.tdiv 2)), μ) := (At_eq cr2 d 185 1 _ _ _).trans rfl
set_option maxRecDepth 20000 in
theorem B185_2 (d : Nat) (x4 : Int) (μ : amM) : At cr2 d 185 2 [] [0, 0, 0, 0, x4] μ = some ((w32 (2 * x4)), μ) := (At_eq cr2 d 185 2 _ _ _).trans rfl
set_option maxRecDepth 20000 in
theorem B185_3 (d : Nat) (x3 : Int) (μ : amM) : At cr2 d 185 3 [] [0, 0, 0, x3, 0] μ = some (x3, μ) := (At_eq cr2 d 185 3 _ _ _).trans rfl
set_option maxRecDepth 20000 in
theorem B185_4 (d : Nat) (x4 : Int) (μ : amM) : At cr2 d 185 4 [] [0, 0, 0, 0, x4] μ = some ((w32 ((w32 (x4.tdiv 2)) + 5)), μ) := (At_eq cr2 d 185 4 _ _ _).trans rfl
set_option maxRecDepth 20000 in
theorem B185_5 (d : Nat) (μ : amM) : At cr2 d 185 5 [] [0, 0, 0, 0, 0] μ = some ((-1), μ) := (At_eq cr2 d 185 5 _ _ _).trans rfl
set_option maxRecDepth 20000 in
theorem B185_6 (d : Nat) (x3 : Int) (μ : amM) : At cr2 d 185 6 [] [0, 0, 0, x3, 0] μ = (if x3 < 3 then At cr2 d 185 8 [0] [0, 0, 0, 0, 0] μ else At cr2 d 185 7 [] [0, 0, 0, x3, 0] μ) := (At_eq cr2 d 185 6 _ _ _).trans rfl
set_option maxRecDepth 20000 in
theorem B185_7 (d : Nat) (x3 : Int) (μ : amM) : At cr2 d 185 7 [] [0, 0, 0, x3, 0] μ = At cr2 d 185 8 [(w32 (x3 - 3))] [0, 0, 0, 0, 0] μ := (At_eq cr2 d 185 7 _ _ _).trans rfl
set_option maxRecDepth 20000 in
theorem B185_8 (d : Nat) (s0 : Int) (μ : amM) : At cr2 d 185 8 [s0] [0, 0, 0, 0, 0] μ = some (s0, μ) := (At_eq cr2 d 185 8 _ _ _).trans rfl
set_option maxRecDepth 20000 in
theorem B185_9 (d : Nat) (x4 : Int) (μ : amM) : At cr2 d 185 9 [] [0, 0, 0, 0, x4] μ = some (x4, μ) := (At_eq cr2 d 185 9 _ _ _).trans rfl
set_option maxRecDepth 20000 in
theorem B186_0 (d : Nat) (x1 : Int) (μ : amM) : At cr2 d 186 0 [] [71, x1] μ = bnd (RD cr2 d 157 [71, x1, 0] μ) (fun v1 μ1 => bnd (RD cr2 d 157 [71, x1, 1] μ1) (fun v2 μ2 => bnd (RD cr2 d 157 [71, x1, 2] μ2) (fun v3 μ3 => bnd (RD cr2 d 157 [71, x1, 3] μ3) (fun v4 μ4 => bnd (RD cr2 d 172 [71, 1, v1, v2, v3, v4] μ4) (fun v5 μ5 => some (v5, μ5)))))) := (At_eq cr2 d 186 0 _ _ _).trans rfl
set_option maxRecDepth 20000 in
theorem B187_0 (d : Nat) (x1 x2 x3 : Int) (μ : amM) : At cr2 d 187 0 [] [71, x1, x2, x3, 0] μ = bnd (RD cr2 d 151 [x1, 1, 8] μ) (fun v1 μ1 => (if v1 = 0 then At cr2 d 187 1 [] [71, 0, 0, 0, 0] μ1 else bnd (RD cr2 d 151 [x2, 1, 8] μ1) (fun v2 μ2 => (if v2 = 0 then At cr2 d 187 1 [] [71, 0, 0, 0, 0] μ2 else bnd (RD cr2 d 151 [x3, 0, 2] μ2) (fun v3 μ3 => (if v3 = 0 then At cr2 d 187 1 [] [71, 0, 0, 0, 0] μ3 else At cr2 d 187 2 [] [71, x1, x2, x3, 0] μ3)))))) := (At_eq cr2 d 187 0 _ _ _).trans rfl
set_option maxRecDepth 20000 in
theorem B187_1 (d : Nat) (μ : amM) : At cr2 d 187 1 [] [71, 0, 0, 0, 0] μ = bnd (RD cr2 d 150 [71, 1] μ) (fun v1 μ1 => some (v1, μ1)) := (At_eq cr2 d 187 1 _ _ _).trans rfl
set_option maxRecDepth 20000 in
theorem B187_2 (d : Nat) (x1 x2 x3 : Int) (μ : amM) : At cr2 d 187 2 [] [71, x1, x2, x3, 0] μ = wf 72 0 μ x1 (fun μ1 => wf 72 1 μ1 x2 (fun μ2 => wf 72 2 μ2 x3 (fun μ3 => At cr2 d 187 3 [] [71, 0, 0, 0, 0] μ3))) := (At_eq cr2 d 187 2 _ _ _).trans rfl
set_option maxRecDepth 20000 in
theorem B187_3 (d : Nat) (x4 : Int) (μ : amM) : At cr2 d 187 3 [] [71, 0, 0, 0, x4] μ = (if x4 < 64 then bnd (RD cr2 d 183 [71, x4] μ) (fun _ μ1 => At cr2 d 187 3 [] [71, 0, 0, 0, (w32 (x4 + 1))] μ1) else At cr2 d 187 4 [] [71, 0, 0, 0, 0] μ) := (At_eq cr2 d 187 3 _ _ _).trans rfl
set_option maxRecDepth 20000 in
theorem B187_4 (d : Nat) (μ : amM) : At cr2 d 187 4 [] [71, 0, 0, 0, 0] μ = bnd (RD cr2 d 153 [71] μ) (fun v1 μ1 => some (v1, μ1)) := (At_eq cr2 d 187 4 _ _ _).trans rfl
set_option maxRecDepth 20000 in
theorem B188_0 (d : Nat) (x1 x2 : Int) (μ : amM) : At cr2 d 188 0 [] [71, x1, x2, 0] μ = bnd (RD cr2 d 151 [x1, 0, 1] μ) (fun v1 μ1 => (if v1 = 0 then At cr2 d 188 1 [] [71, 0, 0, 0] μ1 else bnd (RD cr2 d 151 [x2, 0, 4] μ1) (fun v2 μ2 => (if v2 = 0 then At cr2 d 188 1 [] [71, 0, 0, 0] μ2 else At cr2 d 188 2 [] [71, x1, x2, 0] μ2)))) := (At_eq cr2 d 188 0 _ _ _).trans rfl
set_option maxRecDepth 20000 in
theorem B188_1 (d : Nat) (μ : amM) : At cr2 d 188 1 [] [71, 0, 0, 0] μ = bnd (RD cr2 d 150 [71, 1] μ) (fun v1 μ1 => some (v1, μ1)) := (At_eq cr2 d 188 1 _ _ _).trans rfl
set_option maxRecDepth 20000 in
theorem B188_2 (d : Nat) (x1 x2 : Int) (μ : amM) : At cr2 d 188 2 [] [71, x1, x2, 0] μ = (if x1 = 0 then (if (μ 72 4) < x2 then At cr2 d 188 4 [] [71, 0, 0, 0] μ else At cr2 d 188 5 [] [71, x1, x2, 0] μ) else At cr2 d 188 3 [] [71, x1, x2, 0] μ) := (At_eq cr2 d 188 2 _ _ _).trans rfl
set_option maxRecDepth 20000 in
theorem B188_3 (d : Nat) (x1 x2 : Int) (μ : amM) : At cr2 d 188 3 [] [71, x1, x2, 0] μ = (if x2 < (μ 72 3) then At cr2 d 188 4 [] [71, 0, 0, 0] μ else At cr2 d 188 5 [] [71, x1, x2, 0] μ) := (At_eq cr2 d 188 3 _ _ _).trans rfl
set_option maxRecDepth 20000 in
theorem B188_4 (d : Nat) (μ : amM) : At cr2 d 188 4 [] [71, 0, 0, 0] μ = bnd (RD cr2 d 150 [71, 3] μ) (fun v1 μ1 => some (v1, μ1)) := (At_eq cr2 d 188 4 _ _ _).trans rfl
set_option maxRecDepth 20000 in
theorem B188_5 (d : Nat) (x1 x2 : Int) (μ : amM) : At cr2 d 188 5 [] [71, x1, x2, 0] μ = rd 72 576 μ (w32 (3 + x1)) (fun v1 => wr 72 576 μ (w32 (3 + x1)) x2 (fun μ1 => some (v1, μ1))) := (At_eq cr2 d 188 5 _ _ _).trans rfl
set_option maxRecDepth 20000 in
theorem B189_0 (d : Nat) (x1 x2 x3 : Int) (μ : amM) : At cr2 d 189 0 [] [71, x1, x2, x3] μ = bnd (RD cr2 d 182 [71, x1, x2, x3] μ) (fun _ μ1 => bnd (RD cr2 d 175 [71] μ1) (fun _ μ2 => bnd (RD cr2 d 179 [71, x1] μ2) (fun v1 μ3 => (if v1 = 0 then At cr2 d 189 1 [] [71, x1, 0, 0] μ3 else some (1, μ3))))) := (At_eq cr2 d 189 0 _ _ _).trans rfl
set_option maxRecDepth 20000 in
theorem B189_1 (d : Nat) (x1 : Int) (μ : amM) : At cr2 d 189 1 [] [71, x1, 0, 0] μ = bnd (RD cr2 d 183 [71, x1] μ) (fun _ μ1 => some (0, μ1)) := (At_eq cr2 d 189 1 _ _ _).trans rfl
set_option maxRecDepth 20000 in
theorem B190_0 (d : Nat) (x1 x2 x3 : Int) (μ : amM) : At cr2 d 190 0 [] [71, x1, x2, x3] μ = bnd (RD cr2 d 154 [71, x1] μ) (fun v1 μ1 => (if v1 = 0 then At cr2 d 190 1 [] [71, 0, 0, 0] μ1 else bnd (RD cr2 d 151 [x2, 0, 69] μ1) (fun v2 μ2 => (if v2 = 0 then At cr2 d 190 1 [] [71, 0, 0, 0] μ2 else bnd (RD cr2 d 151 [x3, 0, 80] μ2) (fun v3 μ3 => (if v3 = 0 then At cr2 d 190 1 [] [71, 0, 0, 0] μ3 else At cr2 d 190 2 [] [71, x1, x2, x3] μ3)))))) := (At_eq cr2 d 190 0 _ _ _).trans rfl
set_option maxRecDepth 20000 in
theorem B190_1 (d : Nat) (μ : amM) : At cr2 d 190 1 [] [71, 0, 0, 0] μ = bnd (RD cr2 d 150 [71, 1] μ) (fun v1 μ1 => some (v1, μ1)) := (At_eq cr2 d 190 1 _ _ _).trans rfl
set_option maxRecDepth 20000 in
theorem B190_2 (d : Nat) (x1 x2 x3 : Int) (μ : amM) : At cr2 d 190 2 [] [71, x1, x2, x3] μ = bnd (RD cr2 d 155 [71, x1] μ) (fun v1 μ1 => (if v1 = 0 then bnd (RD cr2 d 150 [71, 3] μ1) (fun v2 μ2 => some (v2, μ2)) else At cr2 d 190 3 [] [71, x1, x2, x3] μ1)) := (At_eq cr2 d 190 2 _ _ _).trans rfl
set_option maxRecDepth 20000 in
theorem B190_3 (d : Nat) (x1 x2 x3 : Int) (μ : amM) : At cr2 d 190 3 [] [71, x1, x2, x3] μ = bnd (RD cr2 d 189 [71, x1, x2, x3] μ) (fun v1 μ1 => (if v1 = 0 then At cr2 d 190 4 [] [71, 0, 0, 0] μ1 else bnd (RD cr2 d 184 [71] μ1) (fun v2 μ2 => At cr2 d 190 5 [v2] [0, 0, 0, 0] μ2))) := (At_eq cr2 d 190 3 _ _ _).trans rfl
set_option maxRecDepth 20000 in
theorem B190_4 (d : Nat) (μ : amM) : At cr2 d 190 4 [] [71, 0, 0, 0] μ = bnd (RD cr2 d 150 [71, 5] μ) (fun v1 μ1 => At cr2 d 190 5 [v1] [0, 0, 0, 0] μ1) := (At_eq cr2 d 190 4 _ _ _).trans rfl
set_option maxRecDepth 20000 in
theorem B190_5 (d : Nat) (s0 : Int) (μ : amM) : At cr2 d 190 5 [s0] [0, 0, 0, 0] μ = some (s0, μ) := (At_eq cr2 d 190 5 _ _ _).trans rfl
set_option maxRecDepth 20000 in
theorem B191_0 (d : Nat) (x1 : Int) (μ : amM) : At cr2 d 191 0 [] [71, x1, 0, 0] μ = At cr2 d 191 1 [] [71, x1, 0, 0] μ := (At_eq cr2 d 191 0 _ _ _).trans rfl
set_option maxRecDepth 20000 in
theorem B191_1 (d : Nat) (x1 x2 x3 : Int) (μ : amM) : At cr2 d 191 1 [] [71, x1, x2, x3] μ = (if x3 < 4 then bnd (RD cr2 d 157 [71, x1, x3] μ) (fun v1 μ1 => At cr2 d 191 1 [] [71, x1, (w32 ((w32 (3 * x2)) + (v1.tmod 3))), (w32 (x3 + 1))] μ1) else At cr2 d 191 2 [] [0, 0, x2, 0] μ) := (At_eq cr2 d 191 1 _ _ _).trans rfl
set_option maxRecDepth 20000 in
theorem B191_2 (d : Nat) (x2 : Int) (μ : amM) : At cr2 d 191 2 [] [0, 0, x2, 0] μ = some (x2, μ) := (At_eq cr2 d 191 2 _ _ _).trans rfl
set_option maxRecDepth 20000 in
theorem B192_0 (d : Nat) (x1 : Int) (μ : amM) : At cr2 d 192 0 [] [71, x1, 0] μ = bnd (RD cr2 d 154 [71, x1] μ) (fun v1 μ1 => (if v1 = 0 then bnd (RD cr2 d 150 [71, 1] μ1) (fun v2 μ2 => some (v2, μ2)) else At cr2 d 192 1 [] [71, x1, 0] μ1)) := (At_eq cr2 d 192 0 _ _ _).trans rfl
set_option maxRecDepth 20000 in
theorem B192_1 (d : Nat) (x1 : Int) (μ : amM) : At cr2 d 192 1 [] [71, x1, 0] μ = bnd (RD cr2 d 155 [71, x1] μ) (fun v1 μ1 => (if v1 = 0 then At cr2 d 192 2 [] [71, x1, 0] μ1 else bnd (RD cr2 d 150 [71, 2] μ1) (fun v2 μ2 => some (v2, μ2)))) := (At_eq cr2 d 192 1 _ _ _).trans rfl
set_option maxRecDepth 20000 in
theorem B192_2 (d : Nat) (x1 : Int) (μ : amM) : At cr2 d 192 2 [] [71, x1, 0] μ = bnd (RD cr2 d 191 [71, x1] μ) (fun v1 μ1 => bnd (RD cr2 d 183 [71, x1] μ1) (fun _ μ2 => some (v1, μ2))) := (At_eq cr2 d 192 2 _ _ _).trans rfl
set_option maxRecDepth 20000 in
theorem B193_0 (d : Nat) (x1 x2 : Int) (μ : amM) : At cr2 d 193 0 [] [71, x1, x2] μ = bnd (RD cr2 d 154 [71, x1] μ) (fun v1 μ1 => (if v1 = 0 then At cr2 d 193 1 [] [71, 0, 0] μ1 else bnd (RD cr2 d 151 [x2, 0, 11] μ1) (fun v2 μ2 => (if v2 = 0 then At cr2 d 193 1 [] [71, 0, 0] μ2 else At cr2 d 193 2 [] [71, x1, x2] μ2)))) := (At_eq cr2 d 193 0 _ _ _).trans rfl
set_option maxRecDepth 20000 in
theorem B193_1 (d : Nat) (μ : amM) : At cr2 d 193 1 [] [71, 0, 0] μ = bnd (RD cr2 d 150 [71, 1] μ) (fun v1 μ1 => some (v1, μ1)) := (At_eq cr2 d 193 1 _ _ _).trans rfl
set_option maxRecDepth 20000 in
theorem B193_2 (d : Nat) (x1 x2 : Int) (μ : amM) : At cr2 d 193 2 [] [71, x1, x2] μ = (if x2 = 0 then bnd (RD cr2 d 155 [71, x1] μ) (fun v1 μ1 => (if v1 = 0 then At cr2 d 193 3 [] [0, 0, 0] μ1 else At cr2 d 193 4 [0] [0, 0, 0] μ1)) else At cr2 d 193 5 [] [71, x1, x2] μ) := (At_eq cr2 d 193 2 _ _ _).trans rfl
set_option maxRecDepth 20000 in
theorem B193_3 (d : Nat) (μ : amM) : At cr2 d 193 3 [] [0, 0, 0] μ = At cr2 d 193 4 [1] [0, 0, 0] μ := (At_eq cr2 d 193 3 _ _ _).trans rfl
set_option maxRecDepth 20000 in
theorem B193_4 (d : Nat) (s0 : Int) (μ : amM) : At cr2 d 193 4 [s0] [0, 0, 0] μ = some (s0, μ) := (At_eq cr2 d 193 4 _ _ _).trans rfl
set_option maxRecDepth 20000 in
theorem B193_5 (d : Nat) (x1 x2 : Int) (μ : amM) : At cr2 d 193 5 [] [71, x1, x2] μ = bnd (RD cr2 d 155 [71, x1] μ) (fun v1 μ1 => (if v1 = 0 then At cr2 d 193 6 [] [71, x1, x2] μ1 else bnd (RD cr2 d 150 [71, 2] μ1) (fun v2 μ2 => some (v2, μ2)))) := (At_eq cr2 d 193 5 _ _ _).trans rfl
set_option maxRecDepth 20000 in
theorem B193_6 (d : Nat) (x1 x2 : Int) (μ : amM) : At cr2 d 193 6 [] [71, x1, x2] μ = (if x2 = 1 then bnd (RD cr2 d 156 [71, x1] μ) (fun v1 μ1 => At cr2 d 193 11 [v1] [0, 0, 0] μ1) else At cr2 d 193 7 [] [71, x1, x2] μ) := (At_eq cr2 d 193 6 _ _ _).trans rfl
set_option maxRecDepth 20000 in
theorem B193_7 (d : Nat) (x1 x2 : Int) (μ : amM) : At cr2 d 193 7 [] [71, x1, x2] μ = (if x2 = 2 then rd 72 576 μ (w32 (84 + x1)) (fun v1 => At cr2 d 193 11 [v1] [0, 0, 0] μ) else At cr2 d 193 8 [] [71, x1, x2] μ) := (At_eq cr2 d 193 7 _ _ _).trans rfl
set_option maxRecDepth 20000 in
theorem B193_8 (d : Nat) (x1 x2 : Int) (μ : amM) : At cr2 d 193 8 [] [71, x1, x2] μ = (if x2 < 7 then bnd (RD cr2 d 157 [71, x1, (w32 (x2 - 3))] μ) (fun v1 μ1 => At cr2 d 193 11 [v1] [0, 0, 0] μ1) else At cr2 d 193 9 [] [71, x1, x2] μ) := (At_eq cr2 d 193 8 _ _ _).trans rfl
set_option maxRecDepth 20000 in
theorem B193_9 (d : Nat) (x1 x2 : Int) (μ : amM) : At cr2 d 193 9 [] [71, x1, x2] μ = (if x2 < 11 then bnd (RD cr2 d 185 [71, x1, (w32 (x2 - 7))] μ) (fun v1 μ1 => At cr2 d 193 11 [v1] [0, 0, 0] μ1) else At cr2 d 193 10 [] [71, x1, 0] μ) := (At_eq cr2 d 193 9 _ _ _).trans rfl
set_option maxRecDepth 20000 in
theorem B193_10 (d : Nat) (x1 : Int) (μ : amM) : At cr2 d 193 10 [] [71, x1, 0] μ = bnd (RD cr2 d 186 [71, x1] μ) (fun v1 μ1 => At cr2 d 193 11 [v1] [0, 0, 0] μ1) := (At_eq cr2 d 193 10 _ _ _).trans rfl
set_option maxRecDepth 20000 in
theorem B193_11 (d : Nat) (s0 : Int) (μ : amM) : At cr2 d 193 11 [s0] [0, 0, 0] μ = some (s0, μ) := (At_eq cr2 d 193 11 _ _ _).trans rfl
set_option maxRecDepth 20000 in
theorem B194_0 (d : Nat) (x1 x2 : Int) (μ : amM) : At cr2 d 194 0 [] [71, x1, x2, 0] μ = bnd (RD cr2 d 154 [71, x1] μ) (fun v1 μ1 => (if v1 = 0 then At cr2 d 194 1 [] [71, 0, 0, 0] μ1 else bnd (RD cr2 d 151 [x2, 0, 69] μ1) (fun v2 μ2 => (if v2 = 0 then At cr2 d 194 1 [] [71, 0, 0, 0] μ2 else At cr2 d 194 2 [] [71, x1, x2, 0] μ2)))) := (At_eq cr2 d 194 0 _ _ _).trans rfl
set_option maxRecDepth 20000 in
theorem B194_1 (d : Nat) (μ : amM) : At cr2 d 194 1 [] [71, 0, 0, 0] μ = bnd (RD cr2 d 150 [71, 1] μ) (fun v1 μ1 => some (v1, μ1)) := (At_eq cr2 d 194 1 _ _ _).trans rfl
set_option maxRecDepth 20000 in
theorem B194_2 (d : Nat) (x1 x2 : Int) (μ : amM) : At cr2 d 194 2 [] [71, x1, x2, 0] μ = bnd (RD cr2 d 155 [71, x1] μ) (fun v1 μ1 => (if v1 = 0 then At cr2 d 194 3 [] [71, x1, x2, 0] μ1 else bnd (RD cr2 d 150 [71, 2] μ1) (fun v2 μ2 => some (v2, μ2)))) := (At_eq cr2 d 194 2 _ _ _).trans rfl
set_option maxRecDepth 20000 in
theorem B194_3 (d : Nat) (x1 x2 : Int) (μ : amM) : At cr2 d 194 3 [] [71, x1, x2, 0] μ = bnd (RD cr2 d 156 [71, x1] μ) (fun v1 μ1 => wr 72 576 μ1 (w32 (20 + x1)) (w32 (1 + (w32 (x2.tdiv 10)))) (fun μ2 => wr 72 576 μ2 (w32 (84 + x1)) (x2.tmod 10) (fun μ3 => some (v1, μ3)))) := (At_eq cr2 d 194 3 _ _ _).trans rfl
set_option maxRecDepth 20000 in
theorem B195_0 (d : Nat) (x0 : Int) (μ : amM) : At cr2 d 195 0 [] [x0] μ = (if x0 < 4 then At cr2 d 195 2 [0] [0] μ else At cr2 d 195 1 [] [x0] μ) := (At_eq cr2 d 195 0 _ _ _).trans rfl
set_option maxRecDepth 20000 in
theorem B195_1 (d : Nat) (x0 : Int) (μ : amM) : At cr2 d 195 1 [] [x0] μ = At cr2 d 195 2 [(w32 (x0 - 3))] [0] μ := (At_eq cr2 d 195 1 _ _ _).trans rfl
set_option maxRecDepth 20000 in
theorem B195_2 (d : Nat) (s0 : Int) (μ : amM) : At cr2 d 195 2 [s0] [0] μ = some (s0, μ) := (At_eq cr2 d 195 2 _ _ _).trans rfl
set_option maxRecDepth 20000 in
theorem B196_0 (d : Nat) (x1 x2 : Int) (μ : amM) : At cr2 d 196 0 [] [71, x1, x2, 0] μ = bnd (RD cr2 d 154 [71, x1] μ) (fun v1 μ1 => (if v1 = 0 then At cr2 d 196 1 [] [71, 0, 0, 0] μ1 else bnd (RD cr2 d 151 [x2, 0, 6] μ1) (fun v2 μ2 => (if v2 = 0 then At cr2 d 196 1 [] [71, 0, 0, 0] μ2 else At cr2 d 196 2 [] [71, x1, x2, 0] μ2)))) := (At_eq cr2 d 196 0 _ _ _).trans rfl
set_option maxRecDepth 20000 in
theorem B196_1 (d : Nat) (μ : amM) : At cr2 d 196 1 [] [71, 0, 0, 0] μ = bnd (RD cr2 d 150 [71, 1] μ) (fun v1 μ1 => some (v1, μ1)) := (At_eq cr2 d 196 1 _ _ _).trans rfl
set_option maxRecDepth 20000 in
theorem B196_2 (d : Nat) (x1 x2 : Int) (μ : amM) : At cr2 d 196 2 [] [71, x1, x2, 0] μ = bnd (RD cr2 d 155 [71, x1] μ) (fun v1 μ1 => (if v1 = 0 then At cr2 d 196 3 [] [71, x1, x2, 0] μ1 else bnd (RD cr2 d 150 [71, 2] μ1) (fun v2 μ2 => some (v2, μ2)))) := (At_eq cr2 d 196 2 _ _ _).trans rfl
set_option maxRecDepth 20000 in
theorem B196_3 (d : Nat) (x1 x2 : Int) (μ : amM) : At cr2 d 196 3 [] [71, x1, x2, 0] μ = bnd (RD cr2 d 156 [71, x1] μ) (fun v1 μ1 => (if x2 = 0 then At cr2 d 196 4 [] [71, x1, 0, 0] μ1 else (if x2 = v1 then At cr2 d 196 4 [] [71, x1, 0, 0] μ1 else bnd (RD cr2 d 195 [v1] μ1) (fun v2 μ2 => (if x2 = v2 then At cr2 d 196 4 [] [71, x1, 0, 0] μ2 else At cr2 d 196 5 [] [71, 0, 0, 0] μ2))))) := (At_eq cr2 d 196 3 _ _ _).trans rfl
set_option maxRecDepth 20000 in
theorem B196_4 (d : Nat) (x1 : Int) (μ : amM) : At cr2 d 196 4 [] [71, x1, 0, 0] μ = rd 72 576 μ (w32 (84 + x1)) (fun v1 => At cr2 d 196 6 [v1] [0, 0, 0, 0] μ) := (At_eq cr2 d 196 4 _ _ _).trans rfl
set_option maxRecDepth 20000 in
theorem B196_5 (d : Nat) (μ : amM) : At cr2 d 196 5 [] [71, 0, 0, 0] μ = bnd (RD cr2 d 150 [71, 5] μ) (fun v1 μ1 => At cr2 d 196 6 [v1] [0, 0, 0, 0] μ1) := (At_eq cr2 d 196 5 _ _ _).trans rfl
set_option maxRecDepth 20000 in
theorem B196_6 (d : Nat) (s0 : Int) (μ : amM) : At cr2 d 196 6 [s0] [0, 0, 0, 0] μ = some (s0, μ) := (At_eq cr2 d 196 6 _ _ _).trans rfl
set_option maxRecDepth 20000 in
theorem B197_0 (d : Nat) (x0 x1 : Int) (μ : amM) : At cr2 d 197 0 [] [x0, x1] μ = bnd (RD cr2 d 151 [x0, 0, 3] μ) (fun v1 μ1 => (if v1 = 0 then At cr2 d 197 1 [] [0, 0] μ1 else bnd (RD cr2 d 151 [x1, 0, 2] μ1) (fun v2 μ2 => (if v2 = 0 then At cr2 d 197 1 [] [0, 0] μ2 else At cr2 d 197 2 [1] [0, 0] μ2)))) := (At_eq cr2 d 197 0 _ _ _).trans rfl
set_option maxRecDepth 20000 in
theorem B197_1 (d : Nat) (μ : amM) : At cr2 d 197 1 [] [0, 0] μ = At cr2 d 197 2 [0] [0, 0] μ := (At_eq cr2 d 197 1 _ _ _).trans rfl
set_option maxRecDepth 20000 in
theorem B197_2 (d : Nat) (s0 : Int) (μ : amM) : At cr2 d 197 2 [s0] [0, 0] μ = rb s0 μ := (At_eq cr2 d 197 2 _ _ _).trans rfl
set_option maxRecDepth 20000 in
theorem B198_0 (d : Nat) (x1 : Int) (μ : amM) : At cr2 d 198 0 [] [71, x1] μ = bnd (RD cr2 d 152 [(w32 ((μ 72 6) + x1)), 0, 999999] μ) (fun v2 μ1 => wf 72 6 μ1 v2 (fun μ2 => some (0, μ2))) := (At_eq cr2 d 198 0 _ _ _).trans rfl
set_option maxRecDepth 20000 in
theorem B199_0 (d : Nat) (x1 x2 x3 : Int) (μ : amM) : At cr2 d 199 0 [] [71, x1, x2, x3, 0] μ = bnd (RD cr2 d 154 [71, x1] μ) (fun v1 μ1 => (if v1 = 0 then At cr2 d 199 1 [] [71, 0, 0, 0, 0] μ1 else bnd (RD cr2 d 197 [x2, x3] μ1) (fun v2 μ2 => (if v2 = 0 then At cr2 d 199 1 [] [71, 0, 0, 0, 0] μ2 else At cr2 d 199 2 [] [71, x1, x2, x3, 0] μ2)))) := (At_eq cr2 d 199 0 _ _ _).trans rfl
set_option maxRecDepth 20000 in
theorem B199_1 (d : Nat) (μ : amM) : At cr2 d 199 1 [] [71, 0, 0, 0, 0] μ = bnd (RD cr2 d 150 [71, 1] μ) (fun v1 μ1 => some (v1, μ1)) := (At_eq cr2 d 199 1 _ _ _).trans rfl
set_option maxRecDepth 20000 in
theorem B199_2 (d : Nat) (x1 x2 x3 : Int) (μ : amM) : At cr2 d 199 2 [] [71, x1, x2, x3, 0] μ = bnd (RD cr2 d 155 [71, x1] μ) (fun v1 μ1 => (if v1 = 0 then At cr2 d 199 3 [] [71, x1, x2, x3, 0] μ1 else bnd (RD cr2 d 150 [71, 2] μ1) (fun v2 μ2 => some (v2, μ2)))) := (At_eq cr2 d 199 2 _ _ _).trans rfl
set_option maxRecDepth 20000 in
theorem B199_3 (d : Nat) (x1 x2 x3 : Int) (μ : amM) : At cr2 d 199 3 [] [71, x1, x2, x3, 0] μ = bnd (RD cr2 d 157 [71, x1, x2] μ) (fun v1 μ1 => (if v1 = x3 then At cr2 d 199 4 [] [71, 0, 0, 0, 0] μ1 else bnd (RD cr2 d 156 [71, x1] μ1) (fun v2 μ2 => (if v2 = 5 then At cr2 d 199 4 [] [71, 0, 0, 0, 0] μ2 else At cr2 d 199 5 [] [71, x1, x2, x3, v1] μ2)))) := (At_eq cr2 d 199 3 _ _ _).trans rfl
set_option maxRecDepth 20000 in
theorem B199_4 (d : Nat) (μ : amM) : At cr2 d 199 4 [] [71, 0, 0, 0, 0] μ = bnd (RD cr2 d 150 [71, 3] μ) (fun v1 μ1 => some (v1, μ1)) := (At_eq cr2 d 199 4 _ _ _).trans rfl
set_option maxRecDepth 20000 in
theorem B199_5 (d : Nat) (x1 x2 x3 x4 : Int) (μ : amM) : At cr2 d 199 5 [] [71, x1, x2, x3, x4] μ = bnd (RD cr2 d 158 [71, x1, x2, x3] μ) (fun _ μ1 => bnd (RD cr2 d 175 [71] μ1) (fun _ μ2 => bnd (RD cr2 d 179 [71, x1] μ2) (fun v1 μ3 => (if v1 = 0 then bnd (RD cr2 d 158 [71, x1, x2, x4] μ3) (fun _ μ4 => bnd (RD cr2 d 150 [71, 5] μ4) (fun v2 μ5 => some (v2, μ5))) else At cr2 d 199 6 [] [71, x1, x2, 0, 0] μ3)))) := (At_eq cr2 d 199 5 _ _ _).trans rfl
set_option maxRecDepth 20000 in
theorem B199_6 (d : Nat) (x1 x2 : Int) (μ : amM) : At cr2 d 199 6 [] [71, x1, x2, 0, 0] μ = bnd (RD cr2 d 185 [71, x1, x2] μ) (fun v1 μ1 => bnd (RD cr2 d 198 [71, v1] μ1) (fun _ μ2 => some ((μ2 72 6), μ2))) := (At_eq cr2 d 199 6 _ _ _).trans rfl
set_option maxRecDepth 20000 in
theorem B200_0 (d : Nat) (x1 x2 : Int) (μ : amM) : At cr2 d 200 0 [] [71, x1, x2] μ = bnd (RD cr2 d 154 [71, x1] μ) (fun v1 μ1 => (if v1 = 0 then At cr2 d 200 1 [] [71, 0, 0] μ1 else bnd (RD cr2 d 154 [71, x2] μ1) (fun v2 μ2 => (if v2 = 0 then At cr2 d 200 1 [] [71, 0, 0] μ2 else At cr2 d 200 2 [] [71, x1, x2] μ2)))) := (At_eq cr2 d 200 0 _ _ _).trans rfl
set_option maxRecDepth 20000 in
theorem B200_1 (d : Nat) (μ : amM) : At cr2 d 200 1 [] [71, 0, 0] μ = bnd (RD cr2 d 150 [71, 1] μ) (fun v1 μ1 => some (v1, μ1)) := (At_eq cr2 d 200 1 _ _ _).trans rfl
set_option maxRecDepth 20000 in
theorem B200_2 (d : Nat) (x1 x2 : Int) (μ : amM) : At cr2 d 200 2 [] [71, x1, x2] μ = bnd (RD cr2 d 155 [71, x1] μ) (fun v1 μ1 => (if v1 = 0 then bnd (RD cr2 d 155 [71, x2] μ1) (fun v2 μ2 => (if v2 = 0 then At cr2 d 200 4 [] [71, x1, x2] μ2 else At cr2 d 200 3 [] [71, 0, 0] μ2)) else At cr2 d 200 3 [] [71, 0, 0] μ1)) := (At_eq cr2 d 200 2 _ _ _).trans rfl
set_option maxRecDepth 20000 in
theorem B200_3 (d : Nat) (μ : amM) : At cr2 d 200 3 [] [71, 0, 0] μ = bnd (RD cr2 d 150 [71, 2] μ) (fun v1 μ1 => At cr2 d 200 5 [v1] [0, 0, 0] μ1) := (At_eq cr2 d 200 3 _ _ _).trans rfl
set_option maxRecDepth 20000 in
theorem B200_4 (d : Nat) (x1 x2 : Int) (μ : amM) : At cr2 d 200 4 [] [71, x1, x2] μ = bnd (RD cr2 d 176 [71, x1, x2] μ) (fun v1 μ1 => At cr2 d 200 5 [v1] [0, 0, 0] μ1) := (At_eq cr2 d 200 4 _ _ _).trans rfl
set_option maxRecDepth 20000 in
theorem B200_5 (d : Nat) (s0 : Int) (μ : amM) : At cr2 d 200 5 [s0] [0, 0, 0] μ = some (s0, μ) := (At_eq cr2 d 200 5 _ _ _).trans rfl
set_option maxRecDepth 20000 in
theorem B201_0 (d : Nat) (x1 x2 : Int) (μ : amM) : At cr2 d 201 0 [] [71, x1, x2, 0, 0, 0] μ = At cr2 d 201 1 [] [71, x1, x2, 1, 0, 0] μ := (At_eq cr2 d 201 0 _ _ _).trans rfl
set_option maxRecDepth 20000 in
theorem B201_1 (d : Nat) (x1 x2 x3 x4 : Int) (μ : amM) : At cr2 d 201 1 [] [71, x1, x2, x3, x4, 0] μ = (if x4 < (μ 71 13) then (if x3 = 0 then At cr2 d 201 6 [] [0, 0, 0, x3, 0, 0] μ else rd 76 128 μ x4 (fun v1 => (if v1 = x1 then rd 77 128 μ x4 (fun v2 => At cr2 d 201 4 [v2] [71, x1, x2, x3, x4, 0] μ) else At cr2 d 201 2 [] [71, x1, x2, x3, x4, 0] μ))) else At cr2 d 201 6 [] [0, 0, 0, x3, 0, 0] μ) := (At_eq cr2 d 201 1 _ _ _).trans rfl
set_option maxRecDepth 20000 in
theorem B201_2 (d : Nat) (x1 x2 x3 x4 : Int) (μ : amM) : At cr2 d 201 2 [] [71, x1, x2, x3, x4, 0] μ = rd 77 128 μ x4 (fun v1 => (if v1 = x1 then rd 76 128 μ x4 (fun v2 => At cr2 d 201 4 [v2] [71, x1, x2, x3, x4, 0] μ) else At cr2 d 201 3 [] [71, x1, x2, x3, x4, 0] μ)) := (At_eq cr2 d 201 2 _ _ _).trans rfl
set_option maxRecDepth 20000 in
theorem B201_3 (d : Nat) (x1 x2 x3 x4 : Int) (μ : amM) : At cr2 d 201 3 [] [71, x1, x2, x3, x4, 0] μ = At cr2 d 201 4 [(-1)] [71, x1, x2, x3, x4, 0] μ := (At_eq cr2 d 201 3 _ _ _).trans rfl
set_option maxRecDepth 20000 in
theorem B201_4 (d : Nat) (s0 x1 x2 x3 x4 : Int) (μ : amM) : At cr2 d 201 4 [s0] [71, x1, x2, x3, x4, 0] μ = (if s0 < 0 then At cr2 d 201 5 [] [71, x1, x2, x3, x4, 0] μ else bnd (RD cr2 d 177 [71, s0] μ) (fun v1 μ1 => (if v1 = 0 then At cr2 d 201 5 [] [71, x1, x2, x3, x4, 0] μ1 else bnd (RD cr2 d 202 [71, s0, x2] μ1) (fun v2 μ2 => bnd (RD cr2 d 151 [v2, (μ2 72 3), (μ2 72 4)] μ2) (fun v5 μ3 => At cr2 d 201 5 [] [71, x1, x2, v5, x4, 0] μ3))))) := (At_eq cr2 d 201 4 _ _ _).trans rfl
set_option maxRecDepth 20000 in
theorem B201_5 (d : Nat) (x1 x2 x3 x4 : Int) (μ : amM) : At cr2 d 201 5 [] [71, x1, x2, x3, x4, 0] μ = At cr2 d 201 1 [] [71, x1, x2, x3, (w32 (x4 + 1)), 0] μ := (At_eq cr2 d 201 5 _ _ _).trans rfl
set_option maxRecDepth 20000 in
theorem B201_6 (d : Nat) (x3 : Int) (μ : amM) : At cr2 d 201 6 [] [0, 0, 0, x3, 0, 0] μ = rb x3 μ := (At_eq cr2 d 201 6 _ _ _).trans rfl
set_option maxRecDepth 20000 in
theorem B202_0 (d : Nat) (x1 x2 : Int) (μ : amM) : At cr2 d 202 0 [] [71, x1, x2, 0, 0, 0] μ = At cr2 d 202 1 [] [71, x1, 0, 0, x2, 3] μ := (At_eq cr2 d 202 0 _ _ _).trans rfl
set_option maxRecDepth 20000 in
theorem B202_1 (d : Nat) (x1 x3 x4 x5 : Int) (μ : amM) : At cr2 d 202 1 [] [71, x1, 0, x3, x4, x5] μ = (if x5 < 0 then At cr2 d 202 4 [] [0, 0, 0, x3, 0, 0] μ else bnd (RD cr2 d 157 [71, x1, x5] μ) (fun v1 μ1 => (if v1 = (x4.tmod 3) then At cr2 d 202 3 [1, x3] [71, x1, 0, 0, x4, x5] μ1 else At cr2 d 202 2 [x3] [71, x1, 0, 0, x4, x5] μ1))) := (At_eq cr2 d 202 1 _ _ _).trans rfl
set_option maxRecDepth 20000 in
theorem B202_2 (d : Nat) (s0 x1 x4 x5 : Int) (μ : amM) : At cr2 d 202 2 [s0] [71, x1, 0, 0, x4, x5] μ = At cr2 d 202 3 [0, s0] [71, x1, 0, 0, x4, x5] μ := (At_eq cr2 d 202 2 _ _ _).trans rfl
set_option maxRecDepth 20000 in
theorem B202_3 (d : Nat) (s0 s1 x1 x4 x5 : Int) (μ : amM) : At cr2 d 202 3 [s0, s1] [71, x1, 0, 0, x4, x5] μ = At cr2 d 202 1 [] [71, x1, 0, (w32 (s1 + s0)), (w32 (x4.tdiv 3)), (w32 (x5 + (-1)))] μ := (At_eq cr2 d 202 3 _ _ _).trans rfl
set_option maxRecDepth 20000 in
theorem B202_4 (d : Nat) (x3 : Int) (μ : amM) : At cr2 d 202 4 [] [0, 0, 0, x3, 0, 0] μ = some (x3, μ) := (At_eq cr2 d 202 4 _ _ _).trans rfl
set_option maxRecDepth 20000 in
theorem B203_0 (d : Nat) (x1 : Int) (μ : amM) : At cr2 d 203 0 [] [71, x1, 0, 0] μ = At cr2 d 203 1 [] [71, x1, 0, 0] μ := (At_eq cr2 d 203 0 _ _ _).trans rfl
set_option maxRecDepth 20000 in
theorem B203_1 (d : Nat) (x1 x2 x3 : Int) (μ : amM) : At cr2 d 203 1 [] [71, x1, x2, x3] μ = (if x3 < 81 then bnd (RD cr2 d 201 [71, x1, x3] μ) (fun v1 μ1 => (if v1 = 0 then At cr2 d 203 2 [x2] [71, x1, 0, x3] μ1 else At cr2 d 203 3 [1, x2] [71, x1, 0, x3] μ1)) else At cr2 d 203 4 [] [0, 0, x2, 0] μ) := (At_eq cr2 d 203 1 _ _ _).trans rfl
set_option maxRecDepth 20000 in
theorem B203_2 (d : Nat) (s0 x1 x3 : Int) (μ : amM) : At cr2 d 203 2 [s0] [71, x1, 0, x3] μ = At cr2 d 203 3 [0, s0] [71, x1, 0, x3] μ := (At_eq cr2 d 203 2 _ _ _).trans rfl
set_option maxRecDepth 20000 in
theorem B203_3 (d : Nat) (s0 s1 x1 x3 : Int) (μ : amM) : At cr2 d 203 3 [s0, s1] [71, x1, 0, x3] μ = At cr2 d 203 1 [] [71, x1, (w32 (s1 + s0)), (w32 (x3 + 1))] μ := (At_eq cr2 d 203 3 _ _ _).trans rfl
set_option maxRecDepth 20000 in
theorem B203_4 (d : Nat) (x2 : Int) (μ : amM) : At cr2 d 203 4 [] [0, 0, x2, 0] μ = some (x2, μ) := (At_eq cr2 d 203 4 _ _ _).trans rfl
set_option maxRecDepth 20000 in
theorem B204_0 (d : Nat) (x1 x2 : Int) (μ : amM) : At cr2 d 204 0 [] [71, x1, x2, 0, 0] μ = bnd (RD cr2 d 154 [71, x1] μ) (fun v1 μ1 => (if v1 = 0 then At cr2 d 204 1 [] [71, 0, 0, 0, 0] μ1 else (if x2 < (-1) then At cr2 d 204 1 [] [71, 0, 0, 0, 0] μ1 else At cr2 d 204 2 [] [71, x1, x2, 0, 0] μ1))) := (At_eq cr2 d 204 0 _ _ _).trans rfl
set_option maxRecDepth 20000 in
theorem B204_1 (d : Nat) (μ : amM) : At cr2 d 204 1 [] [71, 0, 0, 0, 0] μ = bnd (RD cr2 d 150 [71, 1] μ) (fun v1 μ1 => some (v1, μ1)) := (At_eq cr2 d 204 1 _ _ _).trans rfl
set_option maxRecDepth 20000 in
theorem B204_2 (d : Nat) (x1 x2 : Int) (μ : amM) : At cr2 d 204 2 [] [71, x1, x2, 0, 0] μ = bnd (RD cr2 d 175 [71] μ) (fun _ μ1 => (if x2 < 0 then bnd (RD cr2 d 203 [71, x1] μ1) (fun v1 μ2 => some (v1, μ2)) else At cr2 d 204 3 [] [71, x1, x2, 0, 0] μ1)) := (At_eq cr2 d 204 2 _ _ _).trans rfl
set_option maxRecDepth 20000 in
theorem B204_3 (d : Nat) (x1 x2 : Int) (μ : amM) : At cr2 d 204 3 [] [71, x1, x2, 0, 0] μ = At cr2 d 204 4 [] [71, x1, x2, 0, 0] μ := (At_eq cr2 d 204 3 _ _ _).trans rfl
set_option maxRecDepth 20000 in
theorem B204_4 (d : Nat) (x1 x2 x3 x4 : Int) (μ : amM) : At cr2 d 204 4 [] [71, x1, x2, x3, x4] μ = (if x4 < 81 then bnd (RD cr2 d 201 [71, x1, x4] μ) (fun v1 μ1 => (if v1 = 0 then At cr2 d 204 6 [] [71, x1, x2, x3, x4] μ1 else (if x3 = x2 then some (x4, μ1) else At cr2 d 204 5 [] [71, x1, x2, x3, x4] μ1))) else At cr2 d 204 7 [] [71, 0, 0, 0, 0] μ) := (At_eq cr2 d 204 4 _ _ _).trans rfl
set_option maxRecDepth 20000 in
theorem B204_5 (d : Nat) (x1 x2 x3 x4 : Int) (μ : amM) : At cr2 d 204 5 [] [71, x1, x2, x3, x4] μ = At cr2 d 204 6 [] [71, x1, x2, (w32 (x3 + 1)), x4] μ := (At_eq cr2 d 204 5 _ _ _).trans rfl
set_option maxRecDepth 20000 in
theorem B204_6 (d : Nat) (x1 x2 x3 x4 : Int) (μ : amM) : At cr2 d 204 6 [] [71, x1, x2, x3, x4] μ = At cr2 d 204 4 [] [71, x1, x2, x3, (w32 (x4 + 1))] μ := (At_eq cr2 d 204 6 _ _ _).trans rfl
set_option maxRecDepth 20000 in
theorem B204_7 (d : Nat) (μ : amM) : At cr2 d 204 7 [] [71, 0, 0, 0, 0] μ = bnd (RD cr2 d 150 [71, 2] μ) (fun v1 μ1 => some (v1, μ1)) := (At_eq cr2 d 204 7 _ _ _).trans rfl
set_option maxRecDepth 20000 in
theorem B205_0 (d : Nat) (x1 : Int) (μ : amM) : At cr2 d 205 0 [] [71, x1, 0, 0] μ = (if x1 < (-1) then bnd (RD cr2 d 150 [71, 1] μ) (fun v1 μ1 => some (v1, μ1)) else At cr2 d 205 1 [] [71, x1, 0, 0] μ) := (At_eq cr2 d 205 0 _ _ _).trans rfl
set_option maxRecDepth 20000 in
theorem B205_1 (d : Nat) (x1 : Int) (μ : amM) : At cr2 d 205 1 [] [71, x1, 0, 0] μ = bnd (RD cr2 d 175 [71] μ) (fun _ μ1 => bnd (RD cr2 d 180 [71] μ1) (fun _ μ2 => (if x1 < 0 then some ((μ2 71 14), μ2) else At cr2 d 205 2 [] [71, x1, 0, 0] μ2))) := (At_eq cr2 d 205 1 _ _ _).trans rfl
set_option maxRecDepth 20000 in
theorem B205_2 (d : Nat) (x1 : Int) (μ : amM) : At cr2 d 205 2 [] [71, x1, 0, 0] μ = At cr2 d 205 3 [] [71, x1, 0, 0] μ := (At_eq cr2 d 205 2 _ _ _).trans rfl
set_option maxRecDepth 20000 in
theorem B205_3 (d : Nat) (x1 x2 x3 : Int) (μ : amM) : At cr2 d 205 3 [] [71, x1, x2, x3] μ = (if x3 < (μ 71 13) then bnd (RD cr2 d 178 [71, x3] μ) (fun v1 μ1 => (if v1 = 0 then At cr2 d 205 5 [] [71, x1, x2, x3] μ1 else (if x2 = x1 then rd 76 128 μ1 x3 (fun v2 => rd 77 128 μ1 x3 (fun v3 => some ((w32 ((w32 (64 * v2)) + v3)), μ1))) else At cr2 d 205 4 [] [71, x1, x2, x3] μ1))) else At cr2 d 205 6 [] [71, 0, 0, 0] μ) := (At_eq cr2 d 205 3 _ _ _).trans rfl
set_option maxRecDepth 20000 in
theorem B205_4 (d : Nat) (x1 x2 x3 : Int) (μ : amM) : At cr2 d 205 4 [] [71, x1, x2, x3] μ = At cr2 d 205 5 [] [71, x1, (w32 (x2 + 1)), x3] μ := (At_eq cr2 d 205 4 _ _ _).trans rfl
set_option maxRecDepth 20000 in
theorem B205_5 (d : Nat) (x1 x2 x3 : Int) (μ : amM) : At cr2 d 205 5 [] [71, x1, x2, x3] μ = At cr2 d 205 3 [] [71, x1, x2, (w32 (x3 + 1))] μ := (At_eq cr2 d 205 5 _ _ _).trans rfl
set_option maxRecDepth 20000 in
theorem B205_6 (d : Nat) (μ : amM) : At cr2 d 205 6 [] [71, 0, 0, 0] μ = bnd (RD cr2 d 150 [71, 2] μ) (fun v1 μ1 => some (v1, μ1)) := (At_eq cr2 d 205 6 _ _ _).trans rfl
set_option maxRecDepth 20000 in
theorem B206_0 (d : Nat) (x1 x2 x3 : Int) (μ : amM) : At cr2 d 206 0 [] [71, x1, x2, x3, 0, 0] μ = (if (μ 71 21) = (w32 ((w32 (4 * x1)) + x2)) then At cr2 d 206 2 [1] [71, x1, x2, x3, 0, 0] μ else At cr2 d 206 1 [] [71, x1, x2, x3, 0, 0] μ) := (At_eq cr2 d 206 0 _ _ _).trans rfl
set_option maxRecDepth 20000 in
theorem B206_1 (d : Nat) (x1 x2 x3 : Int) (μ : amM) : At cr2 d 206 1 [] [71, x1, x2, x3, 0, 0] μ = At cr2 d 206 2 [0] [71, x1, x2, x3, 0, 0] μ := (At_eq cr2 d 206 1 _ _ _).trans rfl
set_option maxRecDepth 20000 in
theorem B206_2 (d : Nat) (s0 x1 x2 x3 : Int) (μ : amM) : At cr2 d 206 2 [s0] [71, x1, x2, x3, 0, 0] μ = At cr2 d 206 3 [] [71, x1, x2, x3, s0, 0] μ := (At_eq cr2 d 206 2 _ _ _).trans rfl
set_option maxRecDepth 20000 in
theorem B206_3 (d : Nat) (x1 x2 x3 x4 x5 : Int) (μ : amM) : At cr2 d 206 3 [] [71, x1, x2, x3, x4, x5] μ = (if x5 < x3 then (if x4 = 0 then rd 80 6 μ x5 (fun v1 => (if v1 = x1 then rd 81 6 μ x5 (fun v2 => (if v2 = x2 then At cr2 d 206 4 [] [71, x1, x2, x3, 0, x5] μ else At cr2 d 206 5 [] [71, x1, x2, x3, 0, x5] μ)) else At cr2 d 206 5 [] [71, x1, x2, x3, 0, x5] μ)) else At cr2 d 206 4 [] [71, x1, x2, x3, 0, x5] μ) else At cr2 d 206 7 [] [0, 0, 0, 0, x4, 0] μ) := (At_eq cr2 d 206 3 _ _ _).trans rfl
set_option maxRecDepth 20000 in
theorem B206_4 (d : Nat) (x1 x2 x3 x5 : Int) (μ : amM) : At cr2 d 206 4 [] [71, x1, x2, x3, 0, x5] μ = At cr2 d 206 6 [1] [71, x1, x2, x3, 0, x5] μ := (At_eq cr2 d 206 4 _ _ _).trans rfl
set_option maxRecDepth 20000 in
theorem B206_5 (d : Nat) (x1 x2 x3 x5 : Int) (μ : amM) : At cr2 d 206 5 [] [71, x1, x2, x3, 0, x5] μ = At cr2 d 206 6 [0] [71, x1, x2, x3, 0, x5] μ := (At_eq cr2 d 206 5 _ _ _).trans rfl
set_option maxRecDepth 20000 in
theorem B206_6 (d : Nat) (s0 x1 x2 x3 x5 : Int) (μ : amM) : At cr2 d 206 6 [s0] [71, x1, x2, x3, 0, x5] μ = At cr2 d 206 3 [] [71, x1, x2, x3, s0, (w32 (x5 + 1))] μ := (At_eq cr2 d 206 6 _ _ _).trans rfl
set_option maxRecDepth 20000 in
theorem B206_7 (d : Nat) (x4 : Int) (μ : amM) : At cr2 d 206 7 [] [0, 0, 0, 0, x4, 0] μ = rb x4 μ := (At_eq cr2 d 206 7 _ _ _).trans rfl
set_option maxRecDepth 20000 in
theorem B207_0 (d : Nat) (x1 : Int) (μ : amM) : At cr2 d 207 0 [] [71, x1, 0, 0, 0, 0, 0, 0, 0, 0] μ = At cr2 d 207 1 [] [71, x1, (-1), 0, 0, 1, 0, 0, 0, 0] μ := (At_eq cr2 d 207 0 _ _ _).trans rfl
set_option maxRecDepth 20000 in
theorem B207_1 (d : Nat) (x1 x2 x3 x4 x5 : Int) (μ : amM) : At cr2 d 207 1 [] [71, x1, x2, x3, x4, x5, 0, 0, 0, 0] μ = (if x4 < 0 then At cr2 d 207 12 [] [0, 0, x2, 0, 0, 0, 0, 0, 0, 0] μ else (if x5 = 0 then At cr2 d 207 7 [] [71, x1, x2, x3, x4, x5, 0, 0, 0, 0] μ else bnd (RD cr2 d 180 [71] μ) (fun _ μ1 => wr 79 6 μ1 x4 24 (fun μ2 => wr 78 6 μ2 x4 (μ2 71 15) (fun μ3 => (if (μ3 71 14) = 0 then (if x2 < 0 then At cr2 d 207 2 [] [71, x1, 0, x3, x4, 0, 0, 0, 0, 0] μ3 else (if x3 < x2 then At cr2 d 207 2 [] [71, x1, 0, x3, x4, 0, 0, 0, 0, 0] μ3 else At cr2 d 207 3 [] [71, x1, x2, x3, x4, 0, 0, 0, 0, 0] μ3)) else At cr2 d 207 5 [] [71, x1, x2, x3, x4, 0, 0, 0, 0, 0] μ3)))))) := (At_eq cr2 d 207 1 _ _ _).trans rfl
set_option maxRecDepth 20000 in
theorem B207_2 (d : Nat) (x1 x3 x4 : Int) (μ : amM) : At cr2 d 207 2 [] [71, x1, 0, x3, x4, 0, 0, 0, 0, 0] μ = At cr2 d 207 4 [x3] [71, x1, 0, x3, x4, 0, 0, 0, 0, 0] μ := (At_eq cr2 d 207 2 _ _ _).trans rfl
set_option maxRecDepth 20000 in
theorem B207_3 (d : Nat) (x1 x2 x3 x4 : Int) (μ : amM) : At cr2 d 207 3 [] [71, x1, x2, x3, x4, 0, 0, 0, 0, 0] μ = At cr2 d 207 4 [x2] [71, x1, 0, x3, x4, 0, 0, 0, 0, 0] μ := (At_eq cr2 d 207 3 _ _ _).trans rfl
set_option maxRecDepth 20000 in
theorem B207_4 (d : Nat) (s0 x1 x3 x4 : Int) (μ : amM) : At cr2 d 207 4 [s0] [71, x1, 0, x3, x4, 0, 0, 0, 0, 0] μ = At cr2 d 207 6 [] [71, x1, s0, x3, x4, 0, 0, 0, 0, 0] μ := (At_eq cr2 d 207 4 _ _ _).trans rfl
set_option maxRecDepth 20000 in
theorem B207_5 (d : Nat) (x1 x2 x3 x4 : Int) (μ : amM) : At cr2 d 207 5 [] [71, x1, x2, x3, x4, 0, 0, 0, 0, 0] μ = (if x4 < x1 then (if (w32 (4 * (w32 (x1 - x4)))) < (μ 71 14) then At cr2 d 207 6 [] [71, x1, x2, x3, x4, 0, 0, 0, 0, 0] μ else wr 79 6 μ x4 (-1) (fun μ1 => At cr2 d 207 6 [] [71, x1, x2, x3, x4, 0, 0, 0, 0, 0] μ1)) else At cr2 d 207 6 [] [71, x1, x2, x3, x4, 0, 0, 0, 0, 0] μ) := (At_eq cr2 d 207 5 _ _ _).trans rfl
set_option maxRecDepth 20000 in
theorem B207_6 (d : Nat) (x1 x2 x3 x4 : Int) (μ : amM) : At cr2 d 207 6 [] [71, x1, x2, x3, x4, 0, 0, 0, 0, 0] μ = At cr2 d 207 7 [] [71, x1, x2, x3, x4, 0, 0, 0, 0, 0] μ := (At_eq cr2 d 207 6 _ _ _).trans rfl
set_option maxRecDepth 20000 in
theorem B207_7 (d : Nat) (x1 x2 x3 x4 x5 : Int) (μ : amM) : At cr2 d 207 7 [] [71, x1, x2, x3, x4, x5, 0, 0, 0, 0] μ = rd 79 6 μ x4 (fun v1 => wr 79 6 μ x4 (w32 (v1 + 1)) (fun μ1 => rd 79 6 μ1 x4 (fun v2 => (if v2 < 24 then At cr2 d 207 8 [] [71, x1, x2, x3, x4, x5, v2, 0, 0, 0] μ1 else (if (w32 (x4 + (-1))) < 0 then At cr2 d 207 1 [] [71, x1, x2, x3, (w32 (x4 + (-1))), x5, 0, 0, 0, 0] μ1 else rd 80 6 μ1 (w32 (x4 + (-1))) (fun v3 => rd 81 6 μ1 (w32 (x4 + (-1))) (fun v4 => rd 82 6 μ1 (w32 (x4 + (-1))) (fun v5 => bnd (RD cr2 d 158 [71, v3, v4, v5] μ1) (fun _ μ2 => rd 80 6 μ2 (w32 (x4 + (-1))) (fun v6 => rd 81 6 μ2 (w32 (x4 + (-1))) (fun v7 => bnd (RD cr2 d 185 [71, v6, v7] μ2) (fun v8 μ3 => At cr2 d 207 1 [] [71, x1, x2, (w32 (x3 - v8)), (w32 (x4 + (-1))), x5, 0, 0, 0, 0] μ3)))))))))))) := (At_eq cr2 d 207 7 _ _ _).trans rfl
set_option maxRecDepth 20000 in
theorem B207_8 (d : Nat) (x1 x2 x3 x4 x5 x6 : Int) (μ : amM) : At cr2 d 207 8 [] [71, x1, x2, x3, x4, x5, x6, 0, 0, 0] μ = (if x6 < 12 then rd 78 6 μ x4 (fun v1 => rd 76 128 μ v1 (fun v2 => At cr2 d 207 10 [v2] [71, x1, x2, x3, x4, x5, x6, 0, 0, 0] μ)) else At cr2 d 207 9 [] [71, x1, x2, x3, x4, x5, x6, 0, 0, 0] μ) := (At_eq cr2 d 207 8 _ _ _).trans rfl
set_option maxRecDepth 20000 in
theorem B207_9 (d : Nat) (x1 x2 x3 x4 x5 x6 : Int) (μ : amM) : At cr2 d 207 9 [] [71, x1, x2, x3, x4, x5, x6, 0, 0, 0] μ = rd 78 6 μ x4 (fun v1 => rd 77 128 μ v1 (fun v2 => At cr2 d 207 10 [v2] [71, x1, x2, x3, x4, x5, x6, 0, 0, 0] μ)) := (At_eq cr2 d 207 9 _ _ _).trans rfl
set_option maxRecDepth 20000 in
theorem B207_10 (d : Nat) (s0 x1 x2 x3 x4 x5 x6 : Int) (μ : amM) : At cr2 d 207 10 [s0] [71, x1, x2, x3, x4, x5, x6, 0, 0, 0] μ = bnd (RD cr2 d 157 [71, s0, (w32 ((x6.tmod 12).tdiv 3))] μ) (fun v1 μ1 => (if v1 = (x6.tmod 3) then At cr2 d 207 1 [] [71, x1, x2, x3, x4, x5, 0, 0, 0, 0] μ1 else bnd (RD cr2 d 206 [71, s0, (w32 ((x6.tmod 12).tdiv 3)), x4] μ1) (fun v2 μ2 => (if v2 = 0 then At cr2 d 207 11 [] [71, x1, x2, x3, x4, 0, 0, s0, (w32 ((x6.tmod 12).tdiv 3)), (x6.tmod 3)] μ2 else At cr2 d 207 1 [] [71, x1, x2, x3, x4, x5, 0, 0, 0, 0] μ2)))) := (At_eq cr2 d 207 10 _ _ _).trans rfl
set_option maxRecDepth 20000 in
theorem B207_11 (d : Nat) (x1 x2 x3 x4 x7 x8 x9 : Int) (μ : amM) : At cr2 d 207 11 [] [71, x1, x2, x3, x4, 0, 0, x7, x8, x9] μ = wr 80 6 μ x4 x7 (fun μ1 => wr 81 6 μ1 x4 x8 (fun μ2 => bnd (RD cr2 d 157 [71, x7, x8] μ2) (fun v1 μ3 => wr 82 6 μ3 x4 v1 (fun μ4 => bnd (RD cr2 d 185 [71, x7, x8] μ4) (fun v2 μ5 => bnd (RD cr2 d 158 [71, x7, x8, x9] μ5) (fun _ μ6 => At cr2 d 207 1 [] [71, x1, x2, (w32 (x3 + v2)), (w32 (x4 + 1)), 1, 0, 0, 0, 0] μ6)))))) := (At_eq cr2 d 207 11 _ _ _).trans rfl
set_option maxRecDepth 20000 in
theorem B207_12 (d : Nat) (x2 : Int) (μ : amM) : At cr2 d 207 12 [] [0, 0, x2, 0, 0, 0, 0, 0, 0, 0] μ = some (x2, μ) := (At_eq cr2 d 207 12 _ _ _).trans rfl
set_option maxRecDepth 20000 in
theorem B208_0 (d : Nat) (x1 : Int) (μ : amM) : At cr2 d 208 0 [] [71, x1, 0, 0] μ = At cr2 d 208 1 [] [71, x1, 0, 0] μ := (At_eq cr2 d 208 0 _ _ _).trans rfl
set_option maxRecDepth 20000 in
theorem B208_1 (d : Nat) (x1 x2 : Int) (μ : amM) : At cr2 d 208 1 [] [71, x1, x2, 0] μ = (if 4 < (w32 (x2 + x1)) then At cr2 d 208 3 [] [0, 0, 0, 0] μ else bnd (RD cr2 d 207 [71, x2] μ) (fun v1 μ1 => (if v1 < 0 then At cr2 d 208 2 [] [71, x1, x2, 0] μ1 else wf 71 22 μ1 (w32 (x2 + x1)) (fun μ2 => wf 71 23 μ2 v1 (fun μ3 => some (1, μ3)))))) := (At_eq cr2 d 208 1 _ _ _).trans rfl
set_option maxRecDepth 20000 in
theorem B208_2 (d : Nat) (x1 x2 : Int) (μ : amM) : At cr2 d 208 2 [] [71, x1, x2, 0] μ = At cr2 d 208 1 [] [71, x1, (w32 (x2 + 1)), 0] μ := (At_eq cr2 d 208 2 _ _ _).trans rfl
set_option maxRecDepth 20000 in
theorem B208_3 (d : Nat) (μ : amM) : At cr2 d 208 3 [] [0, 0, 0, 0] μ = some (0, μ) := (At_eq cr2 d 208 3 _ _ _).trans rfl
set_option maxRecDepth 20000 in
theorem B209_0 (d : Nat) (x1 x2 x3 : Int) (μ : amM) : At cr2 d 209 0 [] [71, x1, x2, x3, 0, 0, 0] μ = bnd (RD cr2 d 157 [71, x1, x2] μ) (fun v1 μ1 => (if v1 = x3 then At cr2 d 209 1 [] [71, x1, x2, x3, v1, 0, 0] μ1 else bnd (RD cr2 d 156 [71, x1] μ1) (fun v2 μ2 => (if v2 = 5 then some (0, μ2) else At cr2 d 209 1 [] [71, x1, x2, x3, v1, 0, 0] μ2)))) := (At_eq cr2 d 209 0 _ _ _).trans rfl
set_option maxRecDepth 20000 in
theorem B209_1 (d : Nat) (x1 x2 x3 x4 : Int) (μ : amM) : At cr2 d 209 1 [] [71, x1, x2, x3, x4, 0, 0] μ = bnd (RD cr2 d 175 [71] μ) (fun _ μ1 => wf 71 21 μ1 (w32 ((w32 (4 * x1)) + x2)) (fun μ2 => (if x4 = x3 then At cr2 d 209 3 [0] [71, x1, x2, x3, x4, 0, 0] μ2 else At cr2 d 209 2 [] [71, x1, x2, x3, x4, 0, 0] μ2))) := (At_eq cr2 d 209 1 _ _ _).trans rfl
set_option maxRecDepth 20000 in
theorem B209_2 (d : Nat) (x1 x2 x3 x4 : Int) (μ : amM) : At cr2 d 209 2 [] [71, x1, x2, x3, x4, 0, 0] μ = bnd (RD cr2 d 185 [71, x1, x2] μ) (fun v1 μ1 => At cr2 d 209 3 [v1] [71, x1, x2, x3, x4, 0, 0] μ1) := (At_eq cr2 d 209 2 _ _ _).trans rfl
set_option maxRecDepth 20000 in
theorem B209_3 (d : Nat) (s0 x1 x2 x3 x4 : Int) (μ : amM) : At cr2 d 209 3 [s0] [71, x1, x2, x3, x4, 0, 0] μ = bnd (RD cr2 d 158 [71, x1, x2, x3] μ) (fun _ μ1 => (if x4 = x3 then At cr2 d 209 5 [0, 71] [71, x1, x2, 0, x4, s0, 0] μ1 else At cr2 d 209 4 [71] [71, x1, x2, 0, x4, s0, 0] μ1)) := (At_eq cr2 d 209 3 _ _ _).trans rfl
set_option maxRecDepth 20000 in
theorem B209_4 (d : Nat) (x1 x2 x4 x5 : Int) (μ : amM) : At cr2 d 209 4 [71] [71, x1, x2, 0, x4, x5, 0] μ = At cr2 d 209 5 [1, 71] [71, x1, x2, 0, x4, x5, 0] μ := (At_eq cr2 d 209 4 _ _ _).trans rfl
set_option maxRecDepth 20000 in
theorem B209_5 (d : Nat) (s0 x1 x2 x4 x5 : Int) (μ : amM) : At cr2 d 209 5 [s0, 71] [71, x1, x2, 0, x4, x5, 0] μ = bnd (RD cr2 d 208 [71, s0] μ) (fun v1 μ1 => bnd (RD cr2 d 158 [71, x1, x2, x4] μ1) (fun _ μ2 => wf 71 23 μ2 (w32 ((μ2 71 23) + x5)) (fun μ3 => rb v1 μ3))) := (At_eq cr2 d 209 5 _ _ _).trans rfl
set_option maxRecDepth 20000 in
theorem B210_0 (d : Nat) (x1 x2 x3 x4 : Int) (μ : amM) : At cr2 d 210 0 [] [71, x1, x2, x3, x4] μ = bnd (RD cr2 d 154 [71, x1] μ) (fun v1 μ1 => (if v1 = 0 then At cr2 d 210 1 [] [71, 0, 0, 0, 0] μ1 else bnd (RD cr2 d 197 [x2, x3] μ1) (fun v2 μ2 => (if v2 = 0 then At cr2 d 210 1 [] [71, 0, 0, 0, 0] μ2 else bnd (RD cr2 d 151 [x4, 0, 1] μ2) (fun v3 μ3 => (if v3 = 0 then At cr2 d 210 1 [] [71, 0, 0, 0, 0] μ3 else At cr2 d 210 2 [] [71, x1, x2, x3, x4] μ3)))))) := (At_eq cr2 d 210 0 _ _ _).trans rfl
set_option maxRecDepth 20000 in
theorem B210_1 (d : Nat) (μ : amM) : At cr2 d 210 1 [] [71, 0, 0, 0, 0] μ = bnd (RD cr2 d 150 [71, 1] μ) (fun v1 μ1 => some (v1, μ1)) := (At_eq cr2 d 210 1 _ _ _).trans rfl
set_option maxRecDepth 20000 in
theorem B210_2 (d : Nat) (x1 x2 x3 x4 : Int) (μ : amM) : At cr2 d 210 2 [] [71, x1, x2, x3, x4] μ = bnd (RD cr2 d 155 [71, x1] μ) (fun v1 μ1 => (if v1 = 0 then bnd (RD cr2 d 209 [71, x1, x2, x3] μ1) (fun v2 μ2 => (if v2 = 0 then At cr2 d 210 3 [] [71, 0, 0, 0, 0] μ2 else At cr2 d 210 4 [] [71, 0, 0, 0, x4] μ2)) else At cr2 d 210 3 [] [71, 0, 0, 0, 0] μ1)) := (At_eq cr2 d 210 2 _ _ _).trans rfl
set_option maxRecDepth 20000 in
theorem B210_3 (d : Nat) (μ : amM) : At cr2 d 210 3 [] [71, 0, 0, 0, 0] μ = bnd (RD cr2 d 150 [71, 2] μ) (fun v1 μ1 => some (v1, μ1)) := (At_eq cr2 d 210 3 _ _ _).trans rfl
set_option maxRecDepth 20000 in
theorem B210_4 (d : Nat) (x4 : Int) (μ : amM) : At cr2 d 210 4 [] [71, 0, 0, 0, x4] μ = (if x4 = 0 then At cr2 d 210 6 [(μ 71 22)] [0, 0, 0, 0, 0] μ else At cr2 d 210 5 [] [71, 0, 0, 0, 0] μ) := (At_eq cr2 d 210 4 _ _ _).trans rfl
set_option maxRecDepth 20000 in
theorem B210_5 (d : Nat) (μ : amM) : At cr2 d 210 5 [] [71, 0, 0, 0, 0] μ = At cr2 d 210 6 [(μ 71 23)] [0, 0, 0, 0, 0] μ := (At_eq cr2 d 210 5 _ _ _).trans rfl
set_option maxRecDepth 20000 in
theorem B210_6 (d : Nat) (s0 : Int) (μ : amM) : At cr2 d 210 6 [s0] [0, 0, 0, 0, 0] μ = some (s0, μ) := (At_eq cr2 d 210 6 _ _ _).trans rfl
set_option maxRecDepth 20000 in
theorem B211_0 (d : Nat) (μ : amM) : At cr2 d 211 0 [] [71] μ = bnd (RD cr2 d 175 [71] μ) (fun _ μ1 => wf 71 21 μ1 (-1) (fun μ2 => bnd (RD cr2 d 208 [71, 0] μ2) (fun v1 μ3 => (if v1 = 0 then At cr2 d 211 1 [] [71] μ3 else At cr2 d 211 2 [(μ3 71 22)] [0] μ3)))) := (At_eq cr2 d 211 0 _ _ _).trans rfl
set_option maxRecDepth 20000 in
theorem B211_1 (d : Nat) (μ : amM) : At cr2 d 211 1 [] [71] μ = bnd (RD cr2 d 150 [71, 2] μ) (fun v1 μ1 => At cr2 d 211 2 [v1] [0] μ1) := (At_eq cr2 d 211 1 _ _ _).trans rfl
set_option maxRecDepth 20000 in
theorem B211_2 (d : Nat) (s0 : Int) (μ : amM) : At cr2 d 211 2 [s0] [0] μ = some (s0, μ) := (At_eq cr2 d 211 2 _ _ _).trans rfl
set_option maxRecDepth 20000 in
theorem B212_0 (d : Nat) (x1 : Int) (μ : amM) : At cr2 d 212 0 [] [71, x1, 0, 0] μ = wf 83 0 μ x1 (fun μ1 => wf 71 25 μ1 1 (fun μ2 => At cr2 d 212 1 [] [71, x1, 0, 0] μ2)) := (At_eq cr2 d 212 0 _ _ _).trans rfl
set_option maxRecDepth 20000 in
theorem B212_1 (d : Nat) (x1 x2 : Int) (μ : amM) : At cr2 d 212 1 [] [71, x1, x2, 0] μ = (if x2 < (μ 71 13) then rd 76 128 μ x2 (fun v1 => (if v1 = x1 then rd 77 128 μ x2 (fun v2 => At cr2 d 212 4 [v2] [71, x1, x2, 0] μ) else At cr2 d 212 2 [] [71, x1, x2, 0] μ)) else At cr2 d 212 6 [] [0, 0, 0, 0] μ) := (At_eq cr2 d 212 1 _ _ _).trans rfl
set_option maxRecDepth 20000 in
theorem B212_2 (d : Nat) (x1 x2 : Int) (μ : amM) : At cr2 d 212 2 [] [71, x1, x2, 0] μ = rd 77 128 μ x2 (fun v1 => (if v1 = x1 then rd 76 128 μ x2 (fun v2 => At cr2 d 212 4 [v2] [71, x1, x2, 0] μ) else At cr2 d 212 3 [] [71, x1, x2, 0] μ)) := (At_eq cr2 d 212 2 _ _ _).trans rfl
set_option maxRecDepth 20000 in
theorem B212_3 (d : Nat) (x1 x2 : Int) (μ : amM) : At cr2 d 212 3 [] [71, x1, x2, 0] μ = At cr2 d 212 4 [(-1)] [71, x1, x2, 0] μ := (At_eq cr2 d 212 3 _ _ _).trans rfl
set_option maxRecDepth 20000 in
theorem B212_4 (d : Nat) (s0 x1 x2 : Int) (μ : amM) : At cr2 d 212 4 [s0] [71, x1, x2, 0] μ = (if s0 < 0 then At cr2 d 212 5 [] [71, x1, x2, 0] μ else wr 83 5 μ (μ 71 25) s0 (fun μ1 => wf 71 25 μ1 (w32 ((μ1 71 25) + 1)) (fun μ2 => At cr2 d 212 5 [] [71, x1, x2, 0] μ2))) := (At_eq cr2 d 212 4 _ _ _).trans rfl
set_option maxRecDepth 20000 in
theorem B212_5 (d : Nat) (x1 x2 : Int) (μ : amM) : At cr2 d 212 5 [] [71, x1, x2, 0] μ = At cr2 d 212 1 [] [71, x1, (w32 (x2 + 1)), 0] μ := (At_eq cr2 d 212 5 _ _ _).trans rfl
set_option maxRecDepth 20000 in
theorem B212_6 (d : Nat) (μ : amM) : At cr2 d 212 6 [] [0, 0, 0, 0] μ = some (0, μ) := (At_eq cr2 d 212 6 _ _ _).trans rfl
set_option maxRecDepth 20000 in
theorem B213_0 (d : Nat) (x1 x2 x3 : Int) (μ : amM) : At cr2 d 213 0 [] [71, x1, x2, x3] μ = bnd (RD cr2 d 177 [71, x1] μ) (fun v1 μ1 => (if v1 = 0 then At cr2 d 213 1 [] [0, 0, 0, 0] μ1 else bnd (RD cr2 d 157 [71, x1, x2] μ1) (fun v2 μ2 => (if v2 = x3 then At cr2 d 213 1 [] [0, 0, 0, 0] μ2 else At cr2 d 213 2 [1] [0, 0, 0, 0] μ2)))) := (At_eq cr2 d 213 0 _ _ _).trans rfl
set_option maxRecDepth 20000 in
theorem B213_1 (d : Nat) (μ : amM) : At cr2 d 213 1 [] [0, 0, 0, 0] μ = At cr2 d 213 2 [0] [0, 0, 0, 0] μ := (At_eq cr2 d 213 1 _ _ _).trans rfl
set_option maxRecDepth 20000 in
theorem B213_2 (d : Nat) (s0 : Int) (μ : amM) : At cr2 d 213 2 [s0] [0, 0, 0, 0] μ = rb s0 μ := (At_eq cr2 d 213 2 _ _ _).trans rfl
set_option maxRecDepth 20000 in
theorem B214_0 (d : Nat) (x1 x2 x3 : Int) (μ : amM) : At cr2 d 214 0 [] [71, x1, x2, x3, 0, 0] μ = bnd (RD cr2 d 213 [71, x1, x2, x3] μ) (fun v1 μ1 => (if v1 = 0 then some (0, μ1) else At cr2 d 214 1 [] [71, x1, x2, x3, 0, 0] μ1)) := (At_eq cr2 d 214 0 _ _ _).trans rfl
set_option maxRecDepth 20000 in
theorem B214_1 (d : Nat) (x1 x2 x3 : Int) (μ : amM) : At cr2 d 214 1 [] [71, x1, x2, x3, 0, 0] μ = bnd (RD cr2 d 157 [71, x1, x2] μ) (fun v1 μ1 => bnd (RD cr2 d 158 [71, x1, x2, x3] μ1) (fun _ μ2 => bnd (RD cr2 d 179 [71, x1] μ2) (fun v2 μ3 => bnd (RD cr2 d 158 [71, x1, x2, v1] μ3) (fun _ μ4 => rb v2 μ4)))) := (At_eq cr2 d 214 1 _ _ _).trans rfl
set_option maxRecDepth 20000 in
theorem B215_0 (d : Nat) (x1 x2 x3 x4 : Int) (μ : amM) : At cr2 d 215 0 [] [71, x1, x2, x3, x4, 0, 0, 0, 0, 0] μ = (if x1 = 0 then bnd (RD cr2 d 214 [71, x2, x3, x4] μ) (fun v1 μ1 => rb v1 μ1) else At cr2 d 215 1 [] [71, x1, x2, x3, x4, 0, 0, 0, 0, 0] μ) := (At_eq cr2 d 215 0 _ _ _).trans rfl
set_option maxRecDepth 20000 in
theorem B215_1 (d : Nat) (x1 x2 x3 x4 : Int) (μ : amM) : At cr2 d 215 1 [] [71, x1, x2, x3, x4, 0, 0, 0, 0, 0] μ = At cr2 d 215 2 [] [71, x1, x2, x3, x4, 0, 0, 0, 0, 0] μ := (At_eq cr2 d 215 1 _ _ _).trans rfl
set_option maxRecDepth 20000 in
theorem B215_2 (d : Nat) (x1 x2 x3 x4 x5 x6 : Int) (μ : amM) : At cr2 d 215 2 [] [71, x1, x2, x3, x4, x5, x6, 0, 0, 0] μ = (if x6 < (w32 (12 * (μ 71 25))) then (if x5 = 0 then rd 83 5 μ (w32 (x6.tdiv 12)) (fun v1 => bnd (RD cr2 d 213 [71, v1, (w32 ((x6.tmod 12).tdiv 3)), (x6.tmod 3)] μ) (fun v2 μ1 => (if v2 = 0 then At cr2 d 215 7 [] [71, x1, x2, x3, x4, x5, x6, 0, 0, 0] μ1 else At cr2 d 215 3 [] [71, x1, x2, x3, x4, x5, x6, v1, (w32 ((x6.tmod 12).tdiv 3)), 0] μ1))) else At cr2 d 215 8 [] [0, 0, 0, 0, 0, x5, 0, 0, 0, 0] μ) else At cr2 d 215 8 [] [0, 0, 0, 0, 0, x5, 0, 0, 0, 0] μ) := (At_eq cr2 d 215 2 _ _ _).trans rfl
set_option maxRecDepth 20000 in
theorem B215_3 (d : Nat) (x1 x2 x3 x4 x5 x6 x7 x8 : Int) (μ : amM) : At cr2 d 215 3 [] [71, x1, x2, x3, x4, x5, x6, x7, x8, 0] μ = bnd (RD cr2 d 157 [71, x7, x8] μ) (fun v1 μ1 => bnd (RD cr2 d 158 [71, x7, x8, (x6.tmod 3)] μ1) (fun _ μ2 => bnd (RD cr2 d 179 [71, x7] μ2) (fun v2 μ3 => (if v2 = 0 then At cr2 d 215 6 [] [71, x1, x2, x3, x4, x5, x6, x7, x8, v1] μ3 else (if x1 = 1 then bnd (RD cr2 d 214 [71, x2, x3, x4] μ3) (fun v3 μ4 => At cr2 d 215 5 [v3] [71, x1, x2, x3, x4, 0, x6, x7, x8, v1] μ4) else At cr2 d 215 4 [] [71, x1, x2, x3, x4, 0, x6, x7, x8, v1] μ3))))) := (At_eq cr2 d 215 3 _ _ _).trans rfl
set_option maxRecDepth 20000 in
theorem B215_4 (d : Nat) (x1 x2 x3 x4 x6 x7 x8 x9 : Int) (μ : amM) : At cr2 d 215 4 [] [71, x1, x2, x3, x4, 0, x6, x7, x8, x9] μ = bnd (RD cr2 d 216 [71, x2, x3, x4] μ) (fun v1 μ1 => At cr2 d 215 5 [v1] [71, x1, x2, x3, x4, 0, x6, x7, x8, x9] μ1) := (At_eq cr2 d 215 4 _ _ _).trans rfl
set_option maxRecDepth 20000 in
theorem B215_5 (d : Nat) (s0 x1 x2 x3 x4 x6 x7 x8 x9 : Int) (μ : amM) : At cr2 d 215 5 [s0] [71, x1, x2, x3, x4, 0, x6, x7, x8, x9] μ = At cr2 d 215 6 [] [71, x1, x2, x3, x4, s0, x6, x7, x8, x9] μ := (At_eq cr2 d 215 5 _ _ _).trans rfl
set_option maxRecDepth 20000 in
theorem B215_6 (d : Nat) (x1 x2 x3 x4 x5 x6 x7 x8 x9 : Int) (μ : amM) : At cr2 d 215 6 [] [71, x1, x2, x3, x4, x5, x6, x7, x8, x9] μ = bnd (RD cr2 d 158 [71, x7, x8, x9] μ) (fun _ μ1 => At cr2 d 215 7 [] [71, x1, x2, x3, x4, x5, x6, 0, 0, 0] μ1) := (At_eq cr2 d 215 6 _ _ _).trans rfl
set_option maxRecDepth 20000 in
theorem B215_7 (d : Nat) (x1 x2 x3 x4 x5 x6 : Int) (μ : amM) : At cr2 d 215 7 [] [71, x1, x2, x3, x4, x5, x6, 0, 0, 0] μ = At cr2 d 215 2 [] [71, x1, x2, x3, x4, x5, (w32 (x6 + 1)), 0, 0, 0] μ := (At_eq cr2 d 215 7 _ _ _).trans rfl
set_option maxRecDepth 20000 in
theorem B215_8 (d : Nat) (x5 : Int) (μ : amM) : At cr2 d 215 8 [] [0, 0, 0, 0, 0, x5, 0, 0, 0, 0] μ = rb x5 μ := (At_eq cr2 d 215 8 _ _ _).trans rfl
set_option maxRecDepth 20000 in
theorem B216_0 (d : Nat) (x1 x2 x3 : Int) (μ : amM) : At cr2 d 216 0 [] [71, x1, x2, x3, 0, 0, 0, 0, 0] μ = At cr2 d 216 1 [] [71, x1, x2, x3, 0, 0, 0, 0, 0] μ := (At_eq cr2 d 216 0 _ _ _).trans rfl
set_option maxRecDepth 20000 in
theorem B216_1 (d : Nat) (x1 x2 x3 x4 x5 : Int) (μ : amM) : At cr2 d 216 1 [] [71, x1, x2, x3, x4, x5, 0, 0, 0] μ = (if x5 < (w32 (12 * (μ 71 25))) then (if x4 = 0 then rd 83 5 μ (w32 (x5.tdiv 12)) (fun v1 => bnd (RD cr2 d 213 [71, v1, (w32 ((x5.tmod 12).tdiv 3)), (x5.tmod 3)] μ) (fun v2 μ1 => (if v2 = 0 then At cr2 d 216 5 [] [71, x1, x2, x3, x4, x5, 0, 0, 0] μ1 else At cr2 d 216 2 [] [71, x1, x2, x3, 0, x5, v1, (w32 ((x5.tmod 12).tdiv 3)), 0] μ1))) else At cr2 d 216 6 [] [0, 0, 0, 0, x4, 0, 0, 0, 0] μ) else At cr2 d 216 6 [] [0, 0, 0, 0, x4, 0, 0, 0, 0] μ) := (At_eq cr2 d 216 1 _ _ _).trans rfl
set_option maxRecDepth 20000 in
theorem B216_2 (d : Nat) (x1 x2 x3 x5 x6 x7 : Int) (μ : amM) : At cr2 d 216 2 [] [71, x1, x2, x3, 0, x5, x6, x7, 0] μ = bnd (RD cr2 d 157 [71, x6, x7] μ) (fun v1 μ1 => bnd (RD cr2 d 158 [71, x6, x7, (x5.tmod 3)] μ1) (fun _ μ2 => bnd (RD cr2 d 179 [71, x6] μ2) (fun v2 μ3 => (if v2 = 0 then At cr2 d 216 3 [] [71, x1, x2, x3, 0, x5, x6, x7, v1] μ3 else bnd (RD cr2 d 214 [71, x1, x2, x3] μ3) (fun v3 μ4 => (if v3 = 0 then At cr2 d 216 3 [] [71, x1, x2, x3, 0, x5, x6, x7, v1] μ4 else At cr2 d 216 4 [1] [71, x1, x2, x3, 0, x5, x6, x7, v1] μ4)))))) := (At_eq cr2 d 216 2 _ _ _).trans rfl
set_option maxRecDepth 20000 in
theorem B216_3 (d : Nat) (x1 x2 x3 x5 x6 x7 x8 : Int) (μ : amM) : At cr2 d 216 3 [] [71, x1, x2, x3, 0, x5, x6, x7, x8] μ = At cr2 d 216 4 [0] [71, x1, x2, x3, 0, x5, x6, x7, x8] μ := (At_eq cr2 d 216 3 _ _ _).trans rfl
set_option maxRecDepth 20000 in
theorem B216_4 (d : Nat) (s0 x1 x2 x3 x5 x6 x7 x8 : Int) (μ : amM) : At cr2 d 216 4 [s0] [71, x1, x2, x3, 0, x5, x6, x7, x8] μ = bnd (RD cr2 d 158 [71, x6, x7, x8] μ) (fun _ μ1 => At cr2 d 216 5 [] [71, x1, x2, x3, s0, x5, 0, 0, 0] μ1) := (At_eq cr2 d 216 4 _ _ _).trans rfl
set_option maxRecDepth 20000 in
theorem B216_5 (d : Nat) (x1 x2 x3 x4 x5 : Int) (μ : amM) : At cr2 d 216 5 [] [71, x1, x2, x3, x4, x5, 0, 0, 0] μ = At cr2 d 216 1 [] [71, x1, x2, x3, x4, (w32 (x5 + 1)), 0, 0, 0] μ := (At_eq cr2 d 216 5 _ _ _).trans rfl
set_option maxRecDepth 20000 in
theorem B216_6 (d : Nat) (x4 : Int) (μ : amM) : At cr2 d 216 6 [] [0, 0, 0, 0, x4, 0, 0, 0, 0] μ = rb x4 μ := (At_eq cr2 d 216 6 _ _ _).trans rfl
set_option maxRecDepth 20000 in
theorem B217_0 (d : Nat) (x1 x2 x3 : Int) (μ : amM) : At cr2 d 217 0 [] [71, x1, x2, x3, 0] μ = bnd (RD cr2 d 154 [71, x1] μ) (fun v1 μ1 => (if v1 = 0 then At cr2 d 217 1 [] [71, 0, 0, 0, 0] μ1 else bnd (RD cr2 d 197 [x2, x3] μ1) (fun v2 μ2 => (if v2 = 0 then At cr2 d 217 1 [] [71, 0, 0, 0, 0] μ2 else At cr2 d 217 2 [] [71, x1, x2, x3, 0] μ2)))) := (At_eq cr2 d 217 0 _ _ _).trans rfl
set_option maxRecDepth 20000 in
theorem B217_1 (d : Nat) (μ : amM) : At cr2 d 217 1 [] [71, 0, 0, 0, 0] μ = bnd (RD cr2 d 150 [71, 1] μ) (fun v1 μ1 => some (v1, μ1)) := (At_eq cr2 d 217 1 _ _ _).trans rfl
set_option maxRecDepth 20000 in
theorem B217_2 (d : Nat) (x1 x2 x3 : Int) (μ : amM) : At cr2 d 217 2 [] [71, x1, x2, x3, 0] μ = bnd (RD cr2 d 155 [71, x1] μ) (fun v1 μ1 => (if v1 = 0 then At cr2 d 217 3 [] [71, x1, x2, x3, 0] μ1 else bnd (RD cr2 d 150 [71, 2] μ1) (fun v2 μ2 => some (v2, μ2)))) := (At_eq cr2 d 217 2 _ _ _).trans rfl
set_option maxRecDepth 20000 in
theorem B217_3 (d : Nat) (x1 x2 x3 : Int) (μ : amM) : At cr2 d 217 3 [] [71, x1, x2, x3, 0] μ = bnd (RD cr2 d 175 [71] μ) (fun _ μ1 => bnd (RD cr2 d 181 [71] μ1) (fun v1 μ2 => (if v1 = 0 then bnd (RD cr2 d 150 [71, 3] μ2) (fun v2 μ3 => some (v2, μ3)) else At cr2 d 217 4 [] [71, x1, x2, x3, 0] μ2))) := (At_eq cr2 d 217 3 _ _ _).trans rfl
set_option maxRecDepth 20000 in
theorem B217_4 (d : Nat) (x1 x2 x3 : Int) (μ : amM) : At cr2 d 217 4 [] [71, x1, x2, x3, 0] μ = bnd (RD cr2 d 157 [71, x1, x2] μ) (fun v1 μ1 => (if v1 = x3 then some (0, μ1) else At cr2 d 217 5 [] [71, x1, x2, x3, 0] μ1)) := (At_eq cr2 d 217 4 _ _ _).trans rfl
set_option maxRecDepth 20000 in
theorem B217_5 (d : Nat) (x1 x2 x3 : Int) (μ : amM) : At cr2 d 217 5 [] [71, x1, x2, x3, 0] μ = bnd (RD cr2 d 212 [71, x1] μ) (fun _ μ1 => At cr2 d 217 6 [] [71, x1, x2, x3, 0] μ1) := (At_eq cr2 d 217 5 _ _ _).trans rfl
set_option maxRecDepth 20000 in
theorem B217_6 (d : Nat) (x1 x2 x3 x4 : Int) (μ : amM) : At cr2 d 217 6 [] [71, x1, x2, x3, x4] μ = (if x4 < 3 then bnd (RD cr2 d 215 [71, x4, x1, x2, x3] μ) (fun v1 μ1 => (if v1 = 0 then At cr2 d 217 7 [] [71, x1, x2, x3, x4] μ1 else some ((w32 (x4 + 1)), μ1))) else At cr2 d 217 8 [] [71, 0, 0, 0, 0] μ) := (At_eq cr2 d 217 6 _ _ _).trans rfl
set_option maxRecDepth 20000 in
theorem B217_7 (d : Nat) (x1 x2 x3 x4 : Int) (μ : amM) : At cr2 d 217 7 [] [71, x1, x2, x3, x4] μ = At cr2 d 217 6 [] [71, x1, x2, x3, (w32 (x4 + 1))] μ := (At_eq cr2 d 217 7 _ _ _).trans rfl
set_option maxRecDepth 20000 in
theorem B217_8 (d : Nat) (μ : amM) : At cr2 d 217 8 [] [71, 0, 0, 0, 0] μ = bnd (RD cr2 d 150 [71, 2] μ) (fun v1 μ1 => some (v1, μ1)) := (At_eq cr2 d 217 8 _ _ _).trans rfl
set_option maxRecDepth 20000 in
theorem B218_0 (d : Nat) (x0 x1 : Int) (μ : amM) : At cr2 d 218 0 [] [x0, x1, 0, 0, 0, 0] μ = At cr2 d 218 1 [] [0, 0, 0, x0, x1, 0] μ := (At_eq cr2 d 218 0 _ _ _).trans rfl
set_option maxRecDepth 20000 in
theorem B218_1 (d : Nat) (x2 x3 x4 x5 : Int) (μ : amM) : At cr2 d 218 1 [] [0, 0, x2, x3, x4, x5] μ = (if x5 < 4 then (if (x3.tmod 3) = (x4.tmod 3) then At cr2 d 218 3 [1, x2] [0, 0, 0, x3, x4, x5] μ else At cr2 d 218 2 [x2] [0, 0, 0, x3, x4, x5] μ) else At cr2 d 218 4 [] [0, 0, x2, 0, 0, 0] μ) := (At_eq cr2 d 218 1 _ _ _).trans rfl
set_option maxRecDepth 20000 in
theorem B218_2 (d : Nat) (s0 x3 x4 x5 : Int) (μ : amM) : At cr2 d 218 2 [s0] [0, 0, 0, x3, x4, x5] μ = At cr2 d 218 3 [0, s0] [0, 0, 0, x3, x4, x5] μ := (At_eq cr2 d 218 2 _ _ _).trans rfl
set_option maxRecDepth 20000 in
theorem B218_3 (d : Nat) (s0 s1 x3 x4 x5 : Int) (μ : amM) : At cr2 d 218 3 [s0, s1] [0, 0, 0, x3, x4, x5] μ = At cr2 d 218 1 [] [0, 0, (w32 (s1 + s0)), (w32 (x3.tdiv 3)), (w32 (x4.tdiv 3)), (w32 (x5 + 1))] μ := (At_eq cr2 d 218 3 _ _ _).trans rfl
set_option maxRecDepth 20000 in
theorem B218_4 (d : Nat) (x2 : Int) (μ : amM) : At cr2 d 218 4 [] [0, 0, x2, 0, 0, 0] μ = some (x2, μ) := (At_eq cr2 d 218 4 _ _ _).trans rfl
set_option maxRecDepth 20000 in
theorem B219_0 (d : Nat) (μ : amM) : At cr2 d 219 0 [] [71, 0, 0] μ = At cr2 d 219 1 [] [71, 0, 0] μ := (At_eq cr2 d 219 0 _ _ _).trans rfl
set_option maxRecDepth 20000 in
theorem B219_1 (d : Nat) (x1 : Int) (μ : amM) : At cr2 d 219 1 [] [71, x1, 0] μ = (if x1 < 81 then At cr2 d 219 2 [] [71, x1, 0] μ else At cr2 d 219 4 [] [0, 0, 0] μ) := (At_eq cr2 d 219 1 _ _ _).trans rfl
set_option maxRecDepth 20000 in
theorem B219_2 (d : Nat) (x1 x2 : Int) (μ : amM) : At cr2 d 219 2 [] [71, x1, x2] μ = (if x2 < 81 then bnd (RD cr2 d 218 [x1, x2] μ) (fun v1 μ1 => bnd (RD cr2 d 151 [v1, (μ1 72 3), (μ1 72 4)] μ1) (fun v4 μ2 => amPst 22 μ2 86 (w32 ((w32 (81 * x1)) + x2)) v4 (fun μ3 => At cr2 d 219 2 [] [71, x1, (w32 (x2 + 1))] μ3))) else At cr2 d 219 3 [] [71, x1, 0] μ) := (At_eq cr2 d 219 2 _ _ _).trans rfl
set_option maxRecDepth 20000 in
theorem B219_3 (d : Nat) (x1 : Int) (μ : amM) : At cr2 d 219 3 [] [71, x1, 0] μ = At cr2 d 219 1 [] [71, (w32 (x1 + 1)), 0] μ := (At_eq cr2 d 219 3 _ _ _).trans rfl
set_option maxRecDepth 20000 in
theorem B219_4 (d : Nat) (μ : amM) : At cr2 d 219 4 [] [0, 0, 0] μ = some (0, μ) := (At_eq cr2 d 219 4 _ _ _).trans rfl
set_option maxRecDepth 20000 in
theorem B220_0 (d : Nat) (μ : amM) : At cr2 d 220 0 [] [71, 0, 0] μ = At cr2 d 220 1 [] [71, 0, 0] μ := (At_eq cr2 d 220 0 _ _ _).trans rfl
set_option maxRecDepth 20000 in
theorem B220_1 (d : Nat) (x1 : Int) (μ : amM) : At cr2 d 220 1 [] [71, x1, 0] μ = (if x1 < 81 then wr 85 82 μ x1 0 (fun μ1 => At cr2 d 220 2 [] [71, x1, 0] μ1) else At cr2 d 220 6 [] [71, 0, 0] μ) := (At_eq cr2 d 220 1 _ _ _).trans rfl
set_option maxRecDepth 20000 in
theorem B220_2 (d : Nat) (x1 x2 : Int) (μ : amM) : At cr2 d 220 2 [] [71, x1, x2] μ = (if x2 < 81 then rd 85 82 μ x1 (fun v1 => rd 86 6561 μ (w32 ((w32 (81 * x2)) + x1)) (fun v2 => (if v2 = 0 then At cr2 d 220 3 [v1, x1, 85] [71, x1, x2] μ else rd 84 82 μ x2 (fun v3 => At cr2 d 220 4 [v3, v1, x1, 85] [71, x1, x2] μ)))) else At cr2 d 220 5 [] [71, x1, 0] μ) := (At_eq cr2 d 220 2 _ _ _).trans rfl
set_option maxRecDepth 20000 in
theorem B220_3 (d : Nat) (s0 s1 x1 x2 : Int) (μ : amM) : At cr2 d 220 3 [s0, s1, 85] [71, x1, x2] μ = At cr2 d 220 4 [0, s0, s1, 85] [71, x1, x2] μ := (At_eq cr2 d 220 3 _ _ _).trans rfl
set_option maxRecDepth 20000 in
theorem B220_4 (d : Nat) (s0 s1 s2 x1 x2 : Int) (μ : amM) : At cr2 d 220 4 [s0, s1, s2, 85] [71, x1, x2] μ = wr 85 82 μ s2 (w64 (s1 + s0)) (fun μ1 => At cr2 d 220 2 [] [71, x1, (w32 (x2 + 1))] μ1) := (At_eq cr2 d 220 4 _ _ _).trans rfl
set_option maxRecDepth 20000 in
theorem B220_5 (d : Nat) (x1 : Int) (μ : amM) : At cr2 d 220 5 [] [71, x1, 0] μ = At cr2 d 220 1 [] [71, (w32 (x1 + 1)), 0] μ := (At_eq cr2 d 220 5 _ _ _).trans rfl
set_option maxRecDepth 20000 in
theorem B220_6 (d : Nat) (μ : amM) : At cr2 d 220 6 [] [71, 0, 0] μ = At cr2 d 220 7 [] [71, 0, 0] μ := (At_eq cr2 d 220 6 _ _ _).trans rfl
set_option maxRecDepth 20000 in
theorem B220_7 (d : Nat) (x1 : Int) (μ : amM) : At cr2 d 220 7 [] [71, x1, 0] μ = (if x1 < 81 then rd 85 82 μ x1 (fun v1 => wr 84 82 μ x1 v1 (fun μ1 => At cr2 d 220 7 [] [71, (w32 (x1 + 1)), 0] μ1)) else At cr2 d 220 8 [] [0, 0, 0] μ) := (At_eq cr2 d 220 7 _ _ _).trans rfl
set_option maxRecDepth 20000 in
theorem B220_8 (d : Nat) (μ : amM) : At cr2 d 220 8 [] [0, 0, 0] μ = some (0, μ) := (At_eq cr2 d 220 8 _ _ _).trans rfl
set_option maxRecDepth 20000 in
theorem B221_0 (d : Nat) (x1 : Int) (μ : amM) : At cr2 d 221 0 [] [71, x1, 0, 0, 0] μ = bnd (RD cr2 d 151 [x1, 1, 9] μ) (fun v1 μ1 => (if v1 = 0 then bnd (RD cr2 d 150 [71, 1] μ1) (fun v2 μ2 => some (v2, μ2)) else At cr2 d 221 1 [] [71, x1, 0, 0, 0] μ1)) := (At_eq cr2 d 221 0 _ _ _).trans rfl
set_option maxRecDepth 20000 in
theorem B221_1 (d : Nat) (x1 : Int) (μ : amM) : At cr2 d 221 1 [] [71, x1, 0, 0, 0] μ = bnd (RD cr2 d 219 [71] μ) (fun _ μ1 => At cr2 d 221 2 [] [71, x1, 0, 0, 0] μ1) := (At_eq cr2 d 221 1 _ _ _).trans rfl
set_option maxRecDepth 20000 in
theorem B221_2 (d : Nat) (x1 x2 x4 : Int) (μ : amM) : At cr2 d 221 2 [] [71, x1, x2, 0, x4] μ = (if x4 < 81 then wr 84 82 μ x4 1 (fun μ1 => At cr2 d 221 2 [] [71, x1, x2, 0, (w32 (x4 + 1))] μ1) else At cr2 d 221 3 [] [71, x1, x2, 0, 0] μ) := (At_eq cr2 d 221 2 _ _ _).trans rfl
set_option maxRecDepth 20000 in
theorem B221_3 (d : Nat) (x1 x2 : Int) (μ : amM) : At cr2 d 221 3 [] [71, x1, x2, 0, 0] μ = At cr2 d 221 4 [] [71, x1, x2, 0, 1] μ := (At_eq cr2 d 221 3 _ _ _).trans rfl
set_option maxRecDepth 20000 in
theorem B221_4 (d : Nat) (x1 x2 x4 : Int) (μ : amM) : At cr2 d 221 4 [] [71, x1, x2, 0, x4] μ = (if x4 < x1 then bnd (RD cr2 d 220 [71] μ) (fun _ μ1 => At cr2 d 221 4 [] [71, x1, x2, 0, (w32 (x4 + 1))] μ1) else At cr2 d 221 5 [] [71, 0, x2, 0, 0] μ) := (At_eq cr2 d 221 4 _ _ _).trans rfl
set_option maxRecDepth 20000 in
theorem B221_5 (d : Nat) (x2 : Int) (μ : amM) : At cr2 d 221 5 [] [71, 0, x2, 0, 0] μ = At cr2 d 221 6 [] [71, 0, x2, 0, 0] μ := (At_eq cr2 d 221 5 _ _ _).trans rfl
set_option maxRecDepth 20000 in
theorem B221_6 (d : Nat) (x2 x4 : Int) (μ : amM) : At cr2 d 221 6 [] [71, 0, x2, 0, x4] μ = (if x4 < 81 then rd 84 82 μ x4 (fun v1 => At cr2 d 221 6 [] [71, 0, (w64 (x2 + v1)), 0, (w32 (x4 + 1))] μ) else At cr2 d 221 7 [] [0, 0, x2, 0, 0] μ) := (At_eq cr2 d 221 6 _ _ _).trans rfl
set_option maxRecDepth 20000 in
theorem B221_7 (d : Nat) (x2 : Int) (μ : amM) : At cr2 d 221 7 [] [0, 0, x2, 0, 0] μ = some (x2, μ) := (At_eq cr2 d 221 7 _ _ _).trans rfl
set_option maxRecDepth 20000 in
theorem B222_0 (d : Nat) (x1 : Int) (μ : amM) : At cr2 d 222 0 [] [71, x1, 0, 0, 0, 0] μ = bnd (RD cr2 d 151 [x1, 3, 9] μ) (fun v1 μ1 => (if v1 = 0 then bnd (RD cr2 d 150 [71, 1] μ1) (fun v2 μ2 => some (v2, μ2)) else At cr2 d 222 1 [] [71, x1, 0, 0, 0, 0] μ1)) := (At_eq cr2 d 222 0 _ _ _).trans rfl
set_option maxRecDepth 20000 in
theorem B222_1 (d : Nat) (x1 : Int) (μ : amM) : At cr2 d 222 1 [] [71, x1, 0, 0, 0, 0] μ = bnd (RD cr2 d 219 [71] μ) (fun _ μ1 => At cr2 d 222 2 [] [71, x1, 0, 0, 0, 0] μ1) := (At_eq cr2 d 222 1 _ _ _).trans rfl
set_option maxRecDepth 20000 in
theorem B222_2 (d : Nat) (x1 x2 x4 : Int) (μ : amM) : At cr2 d 222 2 [] [71, x1, x2, 0, x4, 0] μ = (if x4 < 81 then At cr2 d 222 3 [] [71, x1, x2, 0, x4, 0] μ else At cr2 d 222 13 [] [0, 0, x2, 0, 0, 0] μ) := (At_eq cr2 d 222 2 _ _ _).trans rfl
set_option maxRecDepth 20000 in
theorem B222_3 (d : Nat) (x1 x2 x4 x5 : Int) (μ : amM) : At cr2 d 222 3 [] [71, x1, x2, 0, x4, x5] μ = (if x5 < 81 then (if x5 = x4 then At cr2 d 222 5 [1, x5, 84] [71, x1, x2, 0, x4, x5] μ else At cr2 d 222 4 [x5, 84] [71, x1, x2, 0, x4, x5] μ) else At cr2 d 222 6 [] [71, x1, x2, 0, x4, 0] μ) := (At_eq cr2 d 222 3 _ _ _).trans rfl
set_option maxRecDepth 20000 in
theorem B222_4 (d : Nat) (s0 x1 x2 x4 x5 : Int) (μ : amM) : At cr2 d 222 4 [s0, 84] [71, x1, x2, 0, x4, x5] μ = At cr2 d 222 5 [0, s0, 84] [71, x1, x2, 0, x4, x5] μ := (At_eq cr2 d 222 4 _ _ _).trans rfl
set_option maxRecDepth 20000 in
theorem B222_5 (d : Nat) (s0 s1 x1 x2 x4 x5 : Int) (μ : amM) : At cr2 d 222 5 [s0, s1, 84] [71, x1, x2, 0, x4, x5] μ = wr 84 82 μ s1 s0 (fun μ1 => At cr2 d 222 3 [] [71, x1, x2, 0, x4, (w32 (x5 + 1))] μ1) := (At_eq cr2 d 222 5 _ _ _).trans rfl
set_option maxRecDepth 20000 in
theorem B222_6 (d : Nat) (x1 x2 x4 : Int) (μ : amM) : At cr2 d 222 6 [] [71, x1, x2, 0, x4, 0] μ = At cr2 d 222 7 [] [71, x1, x2, 0, x4, 1] μ := (At_eq cr2 d 222 6 _ _ _).trans rfl
set_option maxRecDepth 20000 in
theorem B222_7 (d : Nat) (x1 x2 x4 x5 : Int) (μ : amM) : At cr2 d 222 7 [] [71, x1, x2, 0, x4, x5] μ = (if x5 < x1 then bnd (RD cr2 d 220 [71] μ) (fun _ μ1 => At cr2 d 222 7 [] [71, x1, x2, 0, x4, (w32 (x5 + 1))] μ1) else At cr2 d 222 8 [] [71, x1, x2, 0, x4, 0] μ) := (At_eq cr2 d 222 7 _ _ _).trans rfl
set_option maxRecDepth 20000 in
theorem B222_8 (d : Nat) (x1 x2 x4 : Int) (μ : amM) : At cr2 d 222 8 [] [71, x1, x2, 0, x4, 0] μ = At cr2 d 222 9 [] [71, x1, x2, 0, x4, 0] μ := (At_eq cr2 d 222 8 _ _ _).trans rfl
set_option maxRecDepth 20000 in
theorem B222_9 (d : Nat) (x1 x2 x4 x5 : Int) (μ : amM) : At cr2 d 222 9 [] [71, x1, x2, 0, x4, x5] μ = (if x5 < 81 then rd 86 6561 μ (w32 ((w32 (81 * x5)) + x4)) (fun v1 => (if v1 = 0 then At cr2 d 222 10 [x2] [71, x1, 0, 0, x4, x5] μ else rd 84 82 μ x5 (fun v2 => At cr2 d 222 11 [v2, x2] [71, x1, 0, 0, x4, x5] μ))) else At cr2 d 222 12 [] [71, x1, x2, 0, x4, 0] μ) := (At_eq cr2 d 222 9 _ _ _).trans rfl
set_option maxRecDepth 20000 in
theorem B222_10 (d : Nat) (s0 x1 x4 x5 : Int) (μ : amM) : At cr2 d 222 10 [s0] [71, x1, 0, 0, x4, x5] μ = At cr2 d 222 11 [0, s0] [71, x1, 0, 0, x4, x5] μ := (At_eq cr2 d 222 10 _ _ _).trans rfl
set_option maxRecDepth 20000 in
theorem B222_11 (d : Nat) (s0 s1 x1 x4 x5 : Int) (μ : amM) : At cr2 d 222 11 [s0, s1] [71, x1, 0, 0, x4, x5] μ = At cr2 d 222 9 [] [71, x1, (w64 (s1 + s0)), 0, x4, (w32 (x5 + 1))] μ := (At_eq cr2 d 222 11 _ _ _).trans rfl
set_option maxRecDepth 20000 in
theorem B222_12 (d : Nat) (x1 x2 x4 : Int) (μ : amM) : At cr2 d 222 12 [] [71, x1, x2, 0, x4, 0] μ = At cr2 d 222 2 [] [71, x1, x2, 0, (w32 (x4 + 1)), 0] μ := (At_eq cr2 d 222 12 _ _ _).trans rfl
set_option maxRecDepth 20000 in
theorem B222_13 (d : Nat) (x2 : Int) (μ : amM) : At cr2 d 222 13 [] [0, 0, x2, 0, 0, 0] μ = some (x2, μ) := (At_eq cr2 d 222 13 _ _ _).trans rfl
set_option maxRecDepth 20000 in
theorem B223_0 (d : Nat) (x1 x2 x3 x4 : Int) (μ : amM) : At cr2 d 223 0 [] [71, x1, x2, x3, x4] μ = (if x2 = 81 then (if x4 = 81 then bnd (RD cr2 d 177 [71, x1] μ) (fun v1 μ1 => (if v1 = 0 then At cr2 d 223 1 [] [0, 0, 0, 0, 0] μ1 else bnd (RD cr2 d 177 [71, x3] μ1) (fun v2 μ2 => (if v2 = 0 then At cr2 d 223 1 [] [0, 0, 0, 0, 0] μ2 else bnd (RD cr2 d 176 [71, x1, x3] μ2) (fun v3 μ3 => bnd (RD cr2 d 151 [v3, (μ3 72 3), (μ3 72 4)] μ3) (fun v6 μ4 => (if v6 = 0 then At cr2 d 223 2 [] [0, 0, 0, 0, 0] μ4 else At cr2 d 223 1 [] [0, 0, 0, 0, 0] μ4))))))) else At cr2 d 223 4 [] [71, x1, x2, x3, x4] μ) else At cr2 d 223 4 [] [71, x1, x2, x3, x4] μ) := (At_eq cr2 d 223 0 _ _ _).trans rfl
set_option maxRecDepth 20000 in
theorem B223_1 (d : Nat) (μ : amM) : At cr2 d 223 1 [] [0, 0, 0, 0, 0] μ = At cr2 d 223 3 [1] [0, 0, 0, 0, 0] μ := (At_eq cr2 d 223 1 _ _ _).trans rfl
set_option maxRecDepth 20000 in
theorem B223_2 (d : Nat) (μ : amM) : At cr2 d 223 2 [] [0, 0, 0, 0, 0] μ = At cr2 d 223 3 [0] [0, 0, 0, 0, 0] μ := (At_eq cr2 d 223 2 _ _ _).trans rfl
set_option maxRecDepth 20000 in
theorem B223_3 (d : Nat) (s0 : Int) (μ : amM) : At cr2 d 223 3 [s0] [0, 0, 0, 0, 0] μ = rb s0 μ := (At_eq cr2 d 223 3 _ _ _).trans rfl
set_option maxRecDepth 20000 in
theorem B223_4 (d : Nat) (x1 x2 x3 x4 : Int) (μ : amM) : At cr2 d 223 4 [] [71, x1, x2, x3, x4] μ = (if x2 = 81 then bnd (RD cr2 d 177 [71, x1] μ) (fun v1 μ1 => (if v1 = 0 then At cr2 d 223 5 [] [0, 0, 0, 0, 0] μ1 else bnd (RD cr2 d 202 [71, x1, x4] μ1) (fun v2 μ2 => bnd (RD cr2 d 151 [v2, (μ2 72 3), (μ2 72 4)] μ2) (fun v5 μ3 => (if v5 = 0 then At cr2 d 223 6 [] [0, 0, 0, 0, 0] μ3 else At cr2 d 223 5 [] [0, 0, 0, 0, 0] μ3))))) else At cr2 d 223 8 [] [71, 0, x2, x3, x4] μ) := (At_eq cr2 d 223 4 _ _ _).trans rfl
set_option maxRecDepth 20000 in
theorem B223_5 (d : Nat) (μ : amM) : At cr2 d 223 5 [] [0, 0, 0, 0, 0] μ = At cr2 d 223 7 [1] [0, 0, 0, 0, 0] μ := (At_eq cr2 d 223 5 _ _ _).trans rfl
set_option maxRecDepth 20000 in
theorem B223_6 (d : Nat) (μ : amM) : At cr2 d 223 6 [] [0, 0, 0, 0, 0] μ = At cr2 d 223 7 [0] [0, 0, 0, 0, 0] μ := (At_eq cr2 d 223 6 _ _ _).trans rfl
set_option maxRecDepth 20000 in
theorem B223_7 (d : Nat) (s0 : Int) (μ : amM) : At cr2 d 223 7 [s0] [0, 0, 0, 0, 0] μ = rb s0 μ := (At_eq cr2 d 223 7 _ _ _).trans rfl
set_option maxRecDepth 20000 in
theorem B223_8 (d : Nat) (x2 x3 x4 : Int) (μ : amM) : At cr2 d 223 8 [] [71, 0, x2, x3, x4] μ = (if x4 = 81 then bnd (RD cr2 d 177 [71, x3] μ) (fun v1 μ1 => (if v1 = 0 then At cr2 d 223 9 [] [0, 0, 0, 0, 0] μ1 else bnd (RD cr2 d 202 [71, x3, x2] μ1) (fun v2 μ2 => bnd (RD cr2 d 151 [v2, (μ2 72 3), (μ2 72 4)] μ2) (fun v5 μ3 => (if v5 = 0 then At cr2 d 223 10 [] [0, 0, 0, 0, 0] μ3 else At cr2 d 223 9 [] [0, 0, 0, 0, 0] μ3))))) else At cr2 d 223 12 [] [71, 0, x2, 0, x4] μ) := (At_eq cr2 d 223 8 _ _ _).trans rfl
set_option maxRecDepth 20000 in
theorem B223_9 (d : Nat) (μ : amM) : At cr2 d 223 9 [] [0, 0, 0, 0, 0] μ = At cr2 d 223 11 [1] [0, 0, 0, 0, 0] μ := (At_eq cr2 d 223 9 _ _ _).trans rfl
set_option maxRecDepth 20000 in
theorem B223_10 (d : Nat) (μ : amM) : At cr2 d 223 10 [] [0, 0, 0, 0, 0] μ = At cr2 d 223 11 [0] [0, 0, 0, 0, 0] μ := (At_eq cr2 d 223 10 _ _ _).trans rfl
set_option maxRecDepth 20000 in
theorem B223_11 (d : Nat) (s0 : Int) (μ : amM) : At cr2 d 223 11 [s0] [0, 0, 0, 0, 0] μ = rb s0 μ := (At_eq cr2 d 223 11 _ _ _).trans rfl
set_option maxRecDepth 20000 in
theorem B223_12 (d : Nat) (x2 x4 : Int) (μ : amM) : At cr2 d 223 12 [] [71, 0, x2, 0, x4] μ = rd 86 6561 μ (w32 ((w32 (81 * x2)) + x4)) (fun v1 => rb v1 μ) := (At_eq cr2 d 223 12 _ _ _).trans rfl
set_option maxRecDepth 20000 in
theorem B224_0 (d : Nat) (x1 x2 : Int) (μ : amM) : At cr2 d 224 0 [] [71, x1, x2] μ = bnd (RD cr2 d 155 [71, x1] μ) (fun v1 μ1 => (if x2 < 81 then At cr2 d 224 2 [1, v1] [0, 0, 0] μ1 else At cr2 d 224 1 [v1] [0, 0, 0] μ1)) := (At_eq cr2 d 224 0 _ _ _).trans rfl
set_option maxRecDepth 20000 in
theorem B224_1 (d : Nat) (s0 : Int) (μ : amM) : At cr2 d 224 1 [s0] [0, 0, 0] μ = At cr2 d 224 2 [0, s0] [0, 0, 0] μ := (At_eq cr2 d 224 1 _ _ _).trans rfl
set_option maxRecDepth 20000 in
theorem B224_2 (d : Nat) (s0 s1 : Int) (μ : amM) : At cr2 d 224 2 [s0, s1] [0, 0, 0] μ = (if s1 = s0 then At cr2 d 224 4 [1] [0, 0, 0] μ else At cr2 d 224 3 [] [0, 0, 0] μ) := (At_eq cr2 d 224 2 _ _ _).trans rfl
set_option maxRecDepth 20000 in
theorem B224_3 (d : Nat) (μ : amM) : At cr2 d 224 3 [] [0, 0, 0] μ = At cr2 d 224 4 [0] [0, 0, 0] μ := (At_eq cr2 d 224 3 _ _ _).trans rfl
set_option maxRecDepth 20000 in
theorem B224_4 (d : Nat) (s0 : Int) (μ : amM) : At cr2 d 224 4 [s0] [0, 0, 0] μ = rb s0 μ := (At_eq cr2 d 224 4 _ _ _).trans rfl
set_option maxRecDepth 20000 in
theorem B225_0 (d : Nat) (x1 : Int) (μ : amM) : At cr2 d 225 0 [] [71, x1, 0, 0, 0, 0, 0] μ = At cr2 d 225 1 [] [71, x1, (μ 72 1), 0, 0, 0, 0] μ := (At_eq cr2 d 225 0 _ _ _).trans rfl
set_option maxRecDepth 20000 in
theorem B225_1 (d : Nat) (x1 x2 x3 : Int) (μ : amM) : At cr2 d 225 1 [] [71, x1, x2, x3, 0, 0, 0] μ = (if 81 < x3 then At cr2 d 225 4 [] [71, x1, x2, 0, 0, 0, 0] μ else (if x3 = x1 then At cr2 d 225 3 [1, x3, 84] [71, x1, x2, x3, 0, 0, 0] μ else At cr2 d 225 2 [x3, 84] [71, x1, x2, x3, 0, 0, 0] μ)) := (At_eq cr2 d 225 1 _ _ _).trans rfl
set_option maxRecDepth 20000 in
theorem B225_2 (d : Nat) (s0 x1 x2 x3 : Int) (μ : amM) : At cr2 d 225 2 [s0, 84] [71, x1, x2, x3, 0, 0, 0] μ = At cr2 d 225 3 [0, s0, 84] [71, x1, x2, x3, 0, 0, 0] μ := (At_eq cr2 d 225 2 _ _ _).trans rfl
set_option maxRecDepth 20000 in
theorem B225_3 (d : Nat) (s0 s1 x1 x2 x3 : Int) (μ : amM) : At cr2 d 225 3 [s0, s1, 84] [71, x1, x2, x3, 0, 0, 0] μ = wr 84 82 μ s1 s0 (fun μ1 => At cr2 d 225 1 [] [71, x1, x2, (w32 (x3 + 1)), 0, 0, 0] μ1) := (At_eq cr2 d 225 3 _ _ _).trans rfl
set_option maxRecDepth 20000 in
theorem B225_4 (d : Nat) (x1 x2 : Int) (μ : amM) : At cr2 d 225 4 [] [71, x1, x2, 0, 0, 0, 0] μ = At cr2 d 225 5 [] [71, x1, x2, 1, 0, 0, 0] μ := (At_eq cr2 d 225 4 _ _ _).trans rfl
set_option maxRecDepth 20000 in
theorem B225_5 (d : Nat) (x1 x2 x3 : Int) (μ : amM) : At cr2 d 225 5 [] [71, x1, x2, x3, 0, 0, 0] μ = (if x3 < x2 then At cr2 d 225 6 [] [71, x1, x2, x3, 0, 0, 0] μ else At cr2 d 225 14 [] [71, x1, x2, 0, 0, 0, 0] μ) := (At_eq cr2 d 225 5 _ _ _).trans rfl
set_option maxRecDepth 20000 in
theorem B225_6 (d : Nat) (x1 x2 x3 x4 : Int) (μ : amM) : At cr2 d 225 6 [] [71, x1, x2, x3, x4, 0, 0] μ = (if 81 < x4 then At cr2 d 225 11 [] [71, x1, x2, x3, 0, 0, 0] μ else wr 85 82 μ x4 0 (fun μ1 => At cr2 d 225 7 [] [71, x1, x2, x3, x4, 0, 0] μ1)) := (At_eq cr2 d 225 6 _ _ _).trans rfl
set_option maxRecDepth 20000 in
theorem B225_7 (d : Nat) (x1 x2 x3 x4 x5 : Int) (μ : amM) : At cr2 d 225 7 [] [71, x1, x2, x3, x4, x5, 0] μ = (if 81 < x5 then At cr2 d 225 10 [] [71, x1, x2, x3, x4, 0, 0] μ else bnd (RD cr2 d 224 [71, x3, x4] μ) (fun v1 μ1 => (if v1 = 0 then At cr2 d 225 10 [] [71, x1, x2, x3, x4, 0, 0] μ1 else rd 85 82 μ1 x4 (fun v2 => rd 84 82 μ1 x5 (fun v3 => (if 0 < (if v3 < 0 then (-1) else if v3 = 0 then 0 else 1) then bnd (RD cr2 d 223 [71, (w32 (x3 - 1)), x5, x3, x4] μ1) (fun v4 μ2 => (if v4 = 0 then At cr2 d 225 8 [v2, x4, 85] [71, x1, x2, x3, x4, x5, 0] μ2 else rd 84 82 μ2 x5 (fun v5 => At cr2 d 225 9 [v5, v2, x4, 85] [71, x1, x2, x3, x4, x5, 0] μ2))) else At cr2 d 225 8 [v2, x4, 85] [71, x1, x2, x3, x4, x5, 0] μ1)))))) := (At_eq cr2 d 225 7 _ _ _).trans rfl
set_option maxRecDepth 20000 in
theorem B225_8 (d : Nat) (s0 s1 x1 x2 x3 x4 x5 : Int) (μ : amM) : At cr2 d 225 8 [s0, s1, 85] [71, x1, x2, x3, x4, x5, 0] μ = At cr2 d 225 9 [0, s0, s1, 85] [71, x1, x2, x3, x4, x5, 0] μ := (At_eq cr2 d 225 8 _ _ _).trans rfl
set_option maxRecDepth 20000 in
theorem B225_9 (d : Nat) (s0 s1 s2 x1 x2 x3 x4 x5 : Int) (μ : amM) : At cr2 d 225 9 [s0, s1, s2, 85] [71, x1, x2, x3, x4, x5, 0] μ = wr 85 82 μ s2 (w64 (s1 + s0)) (fun μ1 => At cr2 d 225 7 [] [71, x1, x2, x3, x4, (w32 (x5 + 1)), 0] μ1) := (At_eq cr2 d 225 9 _ _ _).trans rfl
set_option maxRecDepth 20000 in
theorem B225_10 (d : Nat) (x1 x2 x3 x4 : Int) (μ : amM) : At cr2 d 225 10 [] [71, x1, x2, x3, x4, 0, 0] μ = At cr2 d 225 6 [] [71, x1, x2, x3, (w32 (x4 + 1)), 0, 0] μ := (At_eq cr2 d 225 10 _ _ _).trans rfl
set_option maxRecDepth 20000 in
theorem B225_11 (d : Nat) (x1 x2 x3 : Int) (μ : amM) : At cr2 d 225 11 [] [71, x1, x2, x3, 0, 0, 0] μ = At cr2 d 225 12 [] [71, x1, x2, x3, 0, 0, 0] μ := (At_eq cr2 d 225 11 _ _ _).trans rfl
set_option maxRecDepth 20000 in
theorem B225_12 (d : Nat) (x1 x2 x3 x4 : Int) (μ : amM) : At cr2 d 225 12 [] [71, x1, x2, x3, x4, 0, 0] μ = (if 81 < x4 then At cr2 d 225 13 [] [71, x1, x2, x3, 0, 0, 0] μ else rd 85 82 μ x4 (fun v1 => wr 84 82 μ x4 v1 (fun μ1 => At cr2 d 225 12 [] [71, x1, x2, x3, (w32 (x4 + 1)), 0, 0] μ1))) := (At_eq cr2 d 225 12 _ _ _).trans rfl
set_option maxRecDepth 20000 in
theorem B225_13 (d : Nat) (x1 x2 x3 : Int) (μ : amM) : At cr2 d 225 13 [] [71, x1, x2, x3, 0, 0, 0] μ = At cr2 d 225 5 [] [71, x1, x2, (w32 (x3 + 1)), 0, 0, 0] μ := (At_eq cr2 d 225 13 _ _ _).trans rfl
set_option maxRecDepth 20000 in
theorem B225_14 (d : Nat) (x1 x2 : Int) (μ : amM) : At cr2 d 225 14 [] [71, x1, x2, 0, 0, 0, 0] μ = (if 0 < (μ 72 2) then (if 2 < x2 then At cr2 d 225 16 [1] [71, x1, x2, 0, 0, 0, 0] μ else At cr2 d 225 15 [] [71, x1, x2, 0, 0, 0, 0] μ) else At cr2 d 225 15 [] [71, x1, x2, 0, 0, 0, 0] μ) := (At_eq cr2 d 225 14 _ _ _).trans rfl
set_option maxRecDepth 20000 in
theorem B225_15 (d : Nat) (x1 x2 : Int) (μ : amM) : At cr2 d 225 15 [] [71, x1, x2, 0, 0, 0, 0] μ = At cr2 d 225 16 [0] [71, x1, x2, 0, 0, 0, 0] μ := (At_eq cr2 d 225 15 _ _ _).trans rfl
set_option maxRecDepth 20000 in
theorem B225_16 (d : Nat) (s0 x1 x2 : Int) (μ : amM) : At cr2 d 225 16 [s0] [71, x1, x2, 0, 0, 0, 0] μ = At cr2 d 225 17 [] [71, x1, x2, s0, 0, 0, 0] μ := (At_eq cr2 d 225 16 _ _ _).trans rfl
set_option maxRecDepth 20000 in
theorem B225_17 (d : Nat) (x1 x2 x3 x4 x6 : Int) (μ : amM) : At cr2 d 225 17 [] [71, x1, x2, x3, x4, 0, x6] μ = (if 81 < x6 then At cr2 d 225 21 [] [0, 0, 0, 0, x4, 0, 0] μ else rd 84 82 μ x6 (fun v1 => (if 0 < (if v1 < 0 then (-1) else if v1 = 0 then 0 else 1) then (if x3 = 0 then At cr2 d 225 18 [x4] [71, x1, x2, x3, 0, 0, x6] μ else bnd (RD cr2 d 223 [71, (w32 (x2 - 1)), x6, 0, x1] μ) (fun v2 μ1 => (if v2 = 0 then At cr2 d 225 19 [x4] [71, x1, x2, x3, 0, 0, x6] μ1 else At cr2 d 225 18 [x4] [71, x1, x2, x3, 0, 0, x6] μ1))) else At cr2 d 225 19 [x4] [71, x1, x2, x3, 0, 0, x6] μ))) := (At_eq cr2 d 225 17 _ _ _).trans rfl
set_option maxRecDepth 20000 in
theorem B225_18 (d : Nat) (s0 x1 x2 x3 x6 : Int) (μ : amM) : At cr2 d 225 18 [s0] [71, x1, x2, x3, 0, 0, x6] μ = rd 84 82 μ x6 (fun v1 => At cr2 d 225 20 [v1, s0] [71, x1, x2, x3, 0, 0, x6] μ) := (At_eq cr2 d 225 18 _ _ _).trans rfl
set_option maxRecDepth 20000 in
theorem B225_19 (d : Nat) (s0 x1 x2 x3 x6 : Int) (μ : amM) : At cr2 d 225 19 [s0] [71, x1, x2, x3, 0, 0, x6] μ = At cr2 d 225 20 [0, s0] [71, x1, x2, x3, 0, 0, x6] μ := (At_eq cr2 d 225 19 _ _ _).trans rfl
set_option maxRecDepth 20000 in
theorem B225_20 (d : Nat) (s0 s1 x1 x2 x3 x6 : Int) (μ : amM) : At cr2 d 225 20 [s0, s1] [71, x1, x2, x3, 0, 0, x6] μ = At cr2 d 225 17 [] [71, x1, x2, x3, (w64 (s1 + s0)), 0, (w32 (x6 + 1))] μ := (At_eq cr2 d 225 20 _ _ _).trans rfl
set_option maxRecDepth 20000 in
theorem B225_21 (d : Nat) (x4 : Int) (μ : amM) : At cr2 d 225 21 [] [0, 0, 0, 0, x4, 0, 0] μ = some (x4, μ) := (At_eq cr2 d 225 21 _ _ _).trans rfl
set_option maxRecDepth 20000 in
theorem B226_0 (d : Nat) (μ : amM) : At cr2 d 226 0 [] [71, 0, 0, 0] μ = (if (μ 72 0) = 1 then bnd (RD cr2 d 153 [71] μ) (fun v2 μ1 => (if 9 < v2 then At cr2 d 226 1 [] [71, 0, 0, 0] μ1 else At cr2 d 226 2 [] [71, 0, 0, 0] μ1)) else At cr2 d 226 1 [] [71, 0, 0, 0] μ) := (At_eq cr2 d 226 0 _ _ _).trans rfl
set_option maxRecDepth 20000 in
theorem B226_1 (d : Nat) (μ : amM) : At cr2 d 226 1 [] [71, 0, 0, 0] μ = bnd (RD cr2 d 150 [71, 3] μ) (fun v1 μ1 => some (v1, μ1)) := (At_eq cr2 d 226 1 _ _ _).trans rfl
set_option maxRecDepth 20000 in
theorem B226_2 (d : Nat) (μ : amM) : At cr2 d 226 2 [] [71, 0, 0, 0] μ = bnd (RD cr2 d 219 [71] μ) (fun _ μ1 => At cr2 d 226 3 [] [71, 0, 0, 0] μ1) := (At_eq cr2 d 226 2 _ _ _).trans rfl
set_option maxRecDepth 20000 in
theorem B226_3 (d : Nat) (x1 x3 : Int) (μ : amM) : At cr2 d 226 3 [] [71, x1, 0, x3] μ = (if 81 < x3 then At cr2 d 226 6 [] [0, x1, 0, 0] μ else bnd (RD cr2 d 224 [71, 0, x3] μ) (fun v1 μ1 => (if v1 = 0 then At cr2 d 226 4 [x1] [71, 0, 0, x3] μ1 else bnd (RD cr2 d 225 [71, x3] μ1) (fun v2 μ2 => At cr2 d 226 5 [v2, x1] [71, 0, 0, x3] μ2)))) := (At_eq cr2 d 226 3 _ _ _).trans rfl
set_option maxRecDepth 20000 in
theorem B226_4 (d : Nat) (s0 x3 : Int) (μ : amM) : At cr2 d 226 4 [s0] [71, 0, 0, x3] μ = At cr2 d 226 5 [0, s0] [71, 0, 0, x3] μ := (At_eq cr2 d 226 4 _ _ _).trans rfl
set_option maxRecDepth 20000 in
theorem B226_5 (d : Nat) (s0 s1 x3 : Int) (μ : amM) : At cr2 d 226 5 [s0, s1] [71, 0, 0, x3] μ = At cr2 d 226 3 [] [71, (w64 (s1 + s0)), 0, (w32 (x3 + 1))] μ := (At_eq cr2 d 226 5 _ _ _).trans rfl
set_option maxRecDepth 20000 in
theorem B226_6 (d : Nat) (x1 : Int) (μ : amM) : At cr2 d 226 6 [] [0, x1, 0, 0] μ = some (x1, μ) := (At_eq cr2 d 226 6 _ _ _).trans rfl
set_option maxRecDepth 20000 in
theorem B227_0 (d : Nat) (μ : amM) : At cr2 d 227 0 [] [71] μ = wf 72 7 μ (w32 ((w32 ((μ 72 7) * 1103515245)) + 12345)) (fun μ1 => some ((bUshr (μ1 72 7) 8), μ1)) := (At_eq cr2 d 227 0 _ _ _).trans rfl
set_option maxRecDepth 20000 in
theorem B228_0 (d : Nat) (μ : amM) : At cr2 d 228 0 [] [71, 0] μ = At cr2 d 228 1 [] [71, 0] μ := (At_eq cr2 d 228 0 _ _ _).trans rfl
set_option maxRecDepth 20000 in
theorem B228_1 (d : Nat) (x1 : Int) (μ : amM) : At cr2 d 228 1 [] [71, x1] μ = (if x1 < 256 then rd 72 576 μ (w32 (148 + x1)) (fun v1 => wr 87 256 μ x1 v1 (fun μ1 => At cr2 d 228 1 [] [71, (w32 (x1 + 1))] μ1)) else At cr2 d 228 2 [] [0, 0] μ) := (At_eq cr2 d 228 1 _ _ _).trans rfl
set_option maxRecDepth 20000 in
theorem B228_2 (d : Nat) (μ : amM) : At cr2 d 228 2 [] [0, 0] μ = some (0, μ) := (At_eq cr2 d 228 2 _ _ _).trans rfl
set_option maxRecDepth 20000 in
theorem B229_0 (d : Nat) (μ : amM) : At cr2 d 229 0 [] [71, 0] μ = At cr2 d 229 1 [] [71, 0] μ := (At_eq cr2 d 229 0 _ _ _).trans rfl
set_option maxRecDepth 20000 in
theorem B229_1 (d : Nat) (x1 : Int) (μ : amM) : At cr2 d 229 1 [] [71, x1] μ = (if x1 < 256 then rd 87 256 μ x1 (fun v1 => wr 72 576 μ (w32 (148 + x1)) v1 (fun μ1 => At cr2 d 229 1 [] [71, (w32 (x1 + 1))] μ1)) else At cr2 d 229 2 [] [0, 0] μ) := (At_eq cr2 d 229 1 _ _ _).trans rfl
set_option maxRecDepth 20000 in
theorem B229_2 (d : Nat) (μ : amM) : At cr2 d 229 2 [] [0, 0] μ = some (0, μ) := (At_eq cr2 d 229 2 _ _ _).trans rfl
set_option maxRecDepth 20000 in
theorem B230_0 (d : Nat) (x1 x2 : Int) (μ : amM) : At cr2 d 230 0 [] [71, x1, x2, 0, 0] μ = At cr2 d 230 1 [] [71, x1, x2, 0, 0] μ := (At_eq cr2 d 230 0 _ _ _).trans rfl
set_option maxRecDepth 20000 in
theorem B230_1 (d : Nat) (x1 x2 x3 x4 : Int) (μ : amM) : At cr2 d 230 1 [] [71, x1, x2, x3, x4] μ = bnd (RD cr2 d 153 [71] μ) (fun v1 μ1 => (if x4 < v1 then bnd (RD cr2 d 177 [71, x4] μ1) (fun v2 μ2 => (if v2 = 0 then At cr2 d 230 2 [] [71, x1, x2, x3, x4] μ2 else bnd (RD cr2 d 157 [71, x4, x1] μ2) (fun v3 μ3 => (if v3 = x2 then bnd (RD cr2 d 158 [71, x4, x1, 3] μ3) (fun _ μ4 => At cr2 d 230 2 [] [71, x1, x2, (w32 (x3 + 1)), x4] μ4) else At cr2 d 230 2 [] [71, x1, x2, x3, x4] μ3)))) else At cr2 d 230 3 [] [0, 0, 0, x3, 0] μ1)) := (At_eq cr2 d 230 1 _ _ _).trans rfl
set_option maxRecDepth 20000 in
theorem B230_2 (d : Nat) (x1 x2 x3 x4 : Int) (μ : amM) : At cr2 d 230 2 [] [71, x1, x2, x3, x4] μ = At cr2 d 230 1 [] [71, x1, x2, x3, (w32 (x4 + 1))] μ := (At_eq cr2 d 230 2 _ _ _).trans rfl
set_option maxRecDepth 20000 in
theorem B230_3 (d : Nat) (x3 : Int) (μ : amM) : At cr2 d 230 3 [] [0, 0, 0, x3, 0] μ = some (x3, μ) := (At_eq cr2 d 230 3 _ _ _).trans rfl
set_option maxRecDepth 20000 in
theorem B231_0 (d : Nat) (x1 x2 : Int) (μ : amM) : At cr2 d 231 0 [] [71, x1, x2] μ = bnd (RD cr2 d 197 [x1, x2] μ) (fun v1 μ1 => (if v1 = 0 then At cr2 d 231 1 [] [71, 0, 0] μ1 else bnd (RD cr2 d 230 [71, x1, x2] μ1) (fun v2 μ2 => At cr2 d 231 2 [v2] [0, 0, 0] μ2))) := (At_eq cr2 d 231 0 _ _ _).trans rfl
set_option maxRecDepth 20000 in
theorem B231_1 (d : Nat) (μ : amM) : At cr2 d 231 1 [] [71, 0, 0] μ = bnd (RD cr2 d 150 [71, 1] μ) (fun v1 μ1 => At cr2 d 231 2 [v1] [0, 0, 0] μ1) := (At_eq cr2 d 231 1 _ _ _).trans rfl
set_option maxRecDepth 20000 in
theorem B231_2 (d : Nat) (s0 : Int) (μ : amM) : At cr2 d 231 2 [s0] [0, 0, 0] μ = some (s0, μ) := (At_eq cr2 d 231 2 _ _ _).trans rfl
set_option maxRecDepth 20000 in
theorem B232_0 (d : Nat) (x1 x2 : Int) (μ : amM) : At cr2 d 232 0 [] [71, x1, x2, 0] μ = bnd (RD cr2 d 228 [71] μ) (fun _ μ1 => bnd (RD cr2 d 230 [71, x1, x2] μ1) (fun v1 μ2 => bnd (RD cr2 d 175 [71] μ2) (fun _ μ3 => bnd (RD cr2 d 180 [71] μ3) (fun _ μ4 => bnd (RD cr2 d 229 [71] μ4) (fun _ μ5 => some ((μ5 71 14), μ5)))))) := (At_eq cr2 d 232 0 _ _ _).trans rfl
set_option maxRecDepth 20000 in
theorem B233_0 (d : Nat) (x1 x2 : Int) (μ : amM) : At cr2 d 233 0 [] [71, x1, x2] μ = bnd (RD cr2 d 197 [x1, x2] μ) (fun v1 μ1 => (if v1 = 0 then At cr2 d 233 1 [] [71, 0, 0] μ1 else bnd (RD cr2 d 232 [71, x1, x2] μ1) (fun v2 μ2 => At cr2 d 233 2 [v2] [0, 0, 0] μ2))) := (At_eq cr2 d 233 0 _ _ _).trans rfl
set_option maxRecDepth 20000 in
theorem B233_1 (d : Nat) (μ : amM) : At cr2 d 233 1 [] [71, 0, 0] μ = bnd (RD cr2 d 150 [71, 1] μ) (fun v1 μ1 => At cr2 d 233 2 [v1] [0, 0, 0] μ1) := (At_eq cr2 d 233 1 _ _ _).trans rfl
set_option maxRecDepth 20000 in
theorem B233_2 (d : Nat) (s0 : Int) (μ : amM) : At cr2 d 233 2 [s0] [0, 0, 0] μ = some (s0, μ) := (At_eq cr2 d 233 2 _ _ _).trans rfl
set_option maxRecDepth 20000 in
theorem B234_0 (d : Nat) (μ : amM) : At cr2 d 234 0 [] [71, 0, 0, 0, 0] μ = At cr2 d 234 1 [] [71, 0, (-1), 0, 0] μ := (At_eq cr2 d 234 0 _ _ _).trans rfl
set_option maxRecDepth 20000 in
theorem B234_1 (d : Nat) (x1 x2 x3 : Int) (μ : amM) : At cr2 d 234 1 [] [71, x1, x2, x3, 0] μ = (if x3 < 12 then bnd (RD cr2 d 232 [71, (w32 (x3.tdiv 3)), (x3.tmod 3)] μ) (fun v1 μ1 => (if x2 < v1 then At cr2 d 234 3 [x3] [71, 0, x2, x3, v1] μ1 else At cr2 d 234 2 [] [71, x1, x2, x3, v1] μ1)) else At cr2 d 234 6 [] [0, x1, 0, 0, 0] μ) := (At_eq cr2 d 234 1 _ _ _).trans rfl
set_option maxRecDepth 20000 in
theorem B234_2 (d : Nat) (x1 x2 x3 x4 : Int) (μ : amM) : At cr2 d 234 2 [] [71, x1, x2, x3, x4] μ = At cr2 d 234 3 [x1] [71, 0, x2, x3, x4] μ := (At_eq cr2 d 234 2 _ _ _).trans rfl
set_option maxRecDepth 20000 in
theorem B234_3 (d : Nat) (s0 x2 x3 x4 : Int) (μ : amM) : At cr2 d 234 3 [s0] [71, 0, x2, x3, x4] μ = (if x2 < x4 then At cr2 d 234 5 [x4] [71, s0, 0, x3, 0] μ else At cr2 d 234 4 [] [71, s0, x2, x3, 0] μ) := (At_eq cr2 d 234 3 _ _ _).trans rfl
set_option maxRecDepth 20000 in
theorem B234_4 (d : Nat) (x1 x2 x3 : Int) (μ : amM) : At cr2 d 234 4 [] [71, x1, x2, x3, 0] μ = At cr2 d 234 5 [x2] [71, x1, 0, x3, 0] μ := (At_eq cr2 d 234 4 _ _ _).trans rfl
set_option maxRecDepth 20000 in
theorem B234_5 (d : Nat) (s0 x1 x3 : Int) (μ : amM) : At cr2 d 234 5 [s0] [71, x1, 0, x3, 0] μ = At cr2 d 234 1 [] [71, x1, s0, (w32 (x3 + 1)), 0] μ := (At_eq cr2 d 234 5 _ _ _).trans rfl
set_option maxRecDepth 20000 in
theorem B234_6 (d : Nat) (x1 : Int) (μ : amM) : At cr2 d 234 6 [] [0, x1, 0, 0, 0] μ = some (x1, μ) := (At_eq cr2 d 234 6 _ _ _).trans rfl
set_option maxRecDepth 20000 in
theorem B235_0 (d : Nat) (μ : amM) : At cr2 d 235 0 [] [71, 0, 0, 0, 0] μ = bnd (RD cr2 d 175 [71] μ) (fun _ μ1 => At cr2 d 235 1 [] [71, 0, 0, 0, 0] μ1) := (At_eq cr2 d 235 0 _ _ _).trans rfl
set_option maxRecDepth 20000 in
theorem B235_1 (d : Nat) (x1 x2 : Int) (μ : amM) : At cr2 d 235 1 [] [71, x1, x2, 0, 0] μ = bnd (RD cr2 d 153 [71] μ) (fun v1 μ1 => (if x2 < v1 then bnd (RD cr2 d 155 [71, x2] μ1) (fun v2 μ2 => (if v2 = 0 then At cr2 d 235 2 [] [71, x1, x2, 0, 0] μ2 else wr 88 64 μ2 x1 x2 (fun μ3 => At cr2 d 235 2 [] [71, (w32 (x1 + 1)), x2, 0, 0] μ3))) else At cr2 d 235 3 [] [71, x1, 0, 0, 0] μ1)) := (At_eq cr2 d 235 1 _ _ _).trans rfl
set_option maxRecDepth 20000 in
theorem B235_2 (d : Nat) (x1 x2 : Int) (μ : amM) : At cr2 d 235 2 [] [71, x1, x2, 0, 0] μ = At cr2 d 235 1 [] [71, x1, (w32 (x2 + 1)), 0, 0] μ := (At_eq cr2 d 235 2 _ _ _).trans rfl
set_option maxRecDepth 20000 in
theorem B235_3 (d : Nat) (x1 : Int) (μ : amM) : At cr2 d 235 3 [] [71, x1, 0, 0, 0] μ = (if 0 < x1 then wf 89 0 μ (-1) (fun μ1 => At cr2 d 235 4 [] [71, x1, 0, 0, 0] μ1) else At cr2 d 235 4 [] [71, x1, 0, 0, 0] μ) := (At_eq cr2 d 235 3 _ _ _).trans rfl
set_option maxRecDepth 20000 in
theorem B235_4 (d : Nat) (x1 x2 x3 : Int) (μ : amM) : At cr2 d 235 4 [] [71, x1, x2, x3, 0] μ = (if x3 < 0 then At cr2 d 235 7 [] [71, x1, x2, x3, 0] μ else (if x3 < x1 then (if 20000 < x2 then At cr2 d 235 7 [] [71, x1, x2, x3, 0] μ else rd 88 64 μ x3 (fun v1 => bnd (RD cr2 d 183 [71, v1] μ) (fun _ μ1 => rd 89 64 μ1 x3 (fun v2 => wr 89 64 μ1 x3 (w32 (v2 + 1)) (fun μ2 => rd 89 64 μ2 x3 (fun v3 => (if v3 = 81 then At cr2 d 235 4 [] [71, x1, x2, (w32 (x3 + (-1))), 0] μ2 else At cr2 d 235 5 [] [71, x1, x2, x3, v1] μ2))))))) else At cr2 d 235 7 [] [71, x1, x2, x3, 0] μ)) := (At_eq cr2 d 235 4 _ _ _).trans rfl
set_option maxRecDepth 20000 in
theorem B235_5 (d : Nat) (x1 x2 x3 x4 : Int) (μ : amM) : At cr2 d 235 5 [] [71, x1, x2, x3, x4] μ = (if 20000 < (w32 (x2 + 1)) then At cr2 d 235 6 [] [71, x1, (w32 (x2 + 1)), x3, 0] μ else rd 89 64 μ x3 (fun v1 => bnd (RD cr2 d 201 [71, x4, v1] μ) (fun v2 μ1 => (if v2 = 0 then At cr2 d 235 6 [] [71, x1, (w32 (x2 + 1)), x3, 0] μ1 else rd 89 64 μ1 x3 (fun v3 => bnd (RD cr2 d 182 [71, x4, 0, v3] μ1) (fun _ μ2 => (if (w32 (x3 + 1)) < x1 then wr 89 64 μ2 (w32 (x3 + 1)) (-1) (fun μ3 => At cr2 d 235 6 [] [71, x1, (w32 (x2 + 1)), (w32 (x3 + 1)), 0] μ3) else At cr2 d 235 6 [] [71, x1, (w32 (x2 + 1)), (w32 (x3 + 1)), 0] μ2))))))) := (At_eq cr2 d 235 5 _ _ _).trans rfl
set_option maxRecDepth 20000 in
theorem B235_6 (d : Nat) (x1 x2 x3 : Int) (μ : amM) : At cr2 d 235 6 [] [71, x1, x2, x3, 0] μ = At cr2 d 235 4 [] [71, x1, x2, x3, 0] μ := (At_eq cr2 d 235 6 _ _ _).trans rfl
set_option maxRecDepth 20000 in
theorem B235_7 (d : Nat) (x1 x2 x3 : Int) (μ : amM) : At cr2 d 235 7 [] [71, x1, x2, x3, 0] μ = (if x3 = x1 then some (x1, μ) else At cr2 d 235 8 [] [71, x1, x2, 0, 0] μ) := (At_eq cr2 d 235 7 _ _ _).trans rfl
set_option maxRecDepth 20000 in
theorem B235_8 (d : Nat) (x1 x2 : Int) (μ : amM) : At cr2 d 235 8 [] [71, x1, x2, 0, 0] μ = At cr2 d 235 9 [] [71, x1, x2, 0, 0] μ := (At_eq cr2 d 235 8 _ _ _).trans rfl
set_option maxRecDepth 20000 in
theorem B235_9 (d : Nat) (x1 x2 x4 : Int) (μ : amM) : At cr2 d 235 9 [] [71, x1, x2, 0, x4] μ = (if x4 < x1 then rd 88 64 μ x4 (fun v1 => bnd (RD cr2 d 183 [71, v1] μ) (fun _ μ1 => At cr2 d 235 9 [] [71, x1, x2, 0, (w32 (x4 + 1))] μ1)) else At cr2 d 235 10 [] [71, 0, x2, 0, 0] μ) := (At_eq cr2 d 235 9 _ _ _).trans rfl
set_option maxRecDepth 20000 in
theorem B235_10 (d : Nat) (x2 : Int) (μ : amM) : At cr2 d 235 10 [] [71, 0, x2, 0, 0] μ = (if 20000 < x2 then At cr2 d 235 12 [4, 71] [0, 0, 0, 0, 0] μ else At cr2 d 235 11 [71] [0, 0, 0, 0, 0] μ) := (At_eq cr2 d 235 10 _ _ _).trans rfl
set_option maxRecDepth 20000 in
theorem B235_11 (d : Nat) (μ : amM) : At cr2 d 235 11 [71] [0, 0, 0, 0, 0] μ = At cr2 d 235 12 [2, 71] [0, 0, 0, 0, 0] μ := (At_eq cr2 d 235 11 _ _ _).trans rfl
set_option maxRecDepth 20000 in
theorem B235_12 (d : Nat) (s0 : Int) (μ : amM) : At cr2 d 235 12 [s0, 71] [0, 0, 0, 0, 0] μ = bnd (RD cr2 d 150 [71, s0] μ) (fun v1 μ1 => some (v1, μ1)) := (At_eq cr2 d 235 12 _ _ _).trans rfl
set_option maxRecDepth 20000 in
theorem B236_0 (d : Nat) (μ : amM) : At cr2 d 236 0 [] [71, 0, 0] μ = At cr2 d 236 1 [] [71, 0, 0] μ := (At_eq cr2 d 236 0 _ _ _).trans rfl
set_option maxRecDepth 20000 in
theorem B236_1 (d : Nat) (x1 x2 : Int) (μ : amM) : At cr2 d 236 1 [] [71, x1, x2] μ = bnd (RD cr2 d 153 [71] μ) (fun v1 μ1 => (if x2 < v1 then bnd (RD cr2 d 155 [71, x2] μ1) (fun v2 μ2 => (if v2 = 0 then At cr2 d 236 2 [x1] [71, 0, x2] μ2 else At cr2 d 236 3 [0, x1] [71, 0, x2] μ2)) else At cr2 d 236 4 [] [0, x1, 0] μ1)) := (At_eq cr2 d 236 1 _ _ _).trans rfl
set_option maxRecDepth 20000 in
theorem B236_2 (d : Nat) (s0 x2 : Int) (μ : amM) : At cr2 d 236 2 [s0] [71, 0, x2] μ = bnd (RD cr2 d 186 [71, x2] μ) (fun v1 μ1 => At cr2 d 236 3 [v1, s0] [71, 0, x2] μ1) := (At_eq cr2 d 236 2 _ _ _).trans rfl
set_option maxRecDepth 20000 in
theorem B236_3 (d : Nat) (s0 s1 x2 : Int) (μ : amM) : At cr2 d 236 3 [s0, s1] [71, 0, x2] μ = At cr2 d 236 1 [] [71, (w32 (s1 + s0)), (w32 (x2 + 1))] μ := (At_eq cr2 d 236 3 _ _ _).trans rfl
set_option maxRecDepth 20000 in
theorem B236_4 (d : Nat) (x1 : Int) (μ : amM) : At cr2 d 236 4 [] [0, x1, 0] μ = some (x1, μ) := (At_eq cr2 d 236 4 _ _ _).trans rfl
set_option maxRecDepth 20000 in
theorem B237_0 (d : Nat) (x1 : Int) (μ : amM) : At cr2 d 237 0 [] [71, x1, 0, 0, 0, 0, 0, 0, 0, 0, 0] μ = bnd (RD cr2 d 151 [x1, 0, 1] μ) (fun v1 μ1 => (if v1 = 0 then bnd (RD cr2 d 150 [71, 1] μ1) (fun v2 μ2 => some (v2, μ2)) else At cr2 d 237 1 [] [71, x1, 0, 0, 0, 0, 0, 0, 0, 0, 0] μ1)) := (At_eq cr2 d 237 0 _ _ _).trans rfl
set_option maxRecDepth 20000 in
theorem B237_1 (d : Nat) (x1 : Int) (μ : amM) : At cr2 d 237 1 [] [71, x1, 0, 0, 0, 0, 0, 0, 0, 0, 0] μ = bnd (RD cr2 d 175 [71] μ) (fun _ μ1 => At cr2 d 237 2 [] [71, x1, (-1), 0, 0, 0, 0, 0, 0, 0, 0] μ1) := (At_eq cr2 d 237 1 _ _ _).trans rfl
set_option maxRecDepth 20000 in
theorem B237_2 (d : Nat) (x1 x2 x3 x4 : Int) (μ : amM) : At cr2 d 237 2 [] [71, x1, x2, x3, x4, 0, 0, 0, 0, 0, 0] μ = bnd (RD cr2 d 153 [71] μ) (fun v1 μ1 => (if x4 < (w32 (12 * v1)) then bnd (RD cr2 d 213 [71, (w32 (x4.tdiv 12)), (w32 ((x4.tmod 12).tdiv 3)), (x4.tmod 3)] μ1) (fun v2 μ2 => (if v2 = 0 then At cr2 d 237 6 [] [71, x1, x2, x3, x4, 0, 0, 0, 0, 0, 0] μ2 else At cr2 d 237 3 [] [71, x1, x2, x3, x4, (w32 (x4.tdiv 12)), (w32 ((x4.tmod 12).tdiv 3)), (x4.tmod 3), 0, 0, 0] μ2)) else At cr2 d 237 7 [] [71, x1, x2, x3, 0, 0, 0, 0, 0, 0, 0] μ1)) := (At_eq cr2 d 237 2 _ _ _).trans rfl
set_option maxRecDepth 20000 in
theorem B237_3 (d : Nat) (x1 x2 x3 x4 x5 x6 x7 : Int) (μ : amM) : At cr2 d 237 3 [] [71, x1, x2, x3, x4, x5, x6, x7, 0, 0, 0] μ = bnd (RD cr2 d 157 [71, x5, x6] μ) (fun v1 μ1 => bnd (RD cr2 d 186 [71, x5] μ1) (fun v2 μ2 => bnd (RD cr2 d 158 [71, x5, x6, x7] μ2) (fun _ μ3 => bnd (RD cr2 d 186 [71, x5] μ3) (fun v3 μ4 => bnd (RD cr2 d 185 [71, x5, x6] μ4) (fun v4 μ5 => (if x2 < 0 then At cr2 d 237 4 [] [71, x1, x2, x3, x4, x5, x6, 0, v1, 0, (w32 ((w32 (v3 - v2)) - v4))] μ5 else (if x3 < (w32 ((w32 (v3 - v2)) - v4)) then At cr2 d 237 4 [] [71, x1, x2, x3, x4, x5, x6, 0, v1, 0, (w32 ((w32 (v3 - v2)) - v4))] μ5 else At cr2 d 237 5 [] [71, x1, x2, x3, x4, x5, x6, 0, v1, 0, 0] μ5))))))) := (At_eq cr2 d 237 3 _ _ _).trans rfl
set_option maxRecDepth 20000 in
theorem B237_4 (d : Nat) (x1 x2 x3 x4 x5 x6 x8 x10 : Int) (μ : amM) : At cr2 d 237 4 [] [71, x1, x2, x3, x4, x5, x6, 0, x8, 0, x10] μ = bnd (RD cr2 d 181 [71] μ) (fun v1 μ1 => (if v1 = 0 then At cr2 d 237 5 [] [71, x1, x2, x3, x4, x5, x6, 0, x8, 0, 0] μ1 else At cr2 d 237 5 [] [71, x1, x4, x10, x4, x5, x6, 0, x8, 0, 0] μ1)) := (At_eq cr2 d 237 4 _ _ _).trans rfl
set_option maxRecDepth 20000 in
theorem B237_5 (d : Nat) (x1 x2 x3 x4 x5 x6 x8 : Int) (μ : amM) : At cr2 d 237 5 [] [71, x1, x2, x3, x4, x5, x6, 0, x8, 0, 0] μ = bnd (RD cr2 d 158 [71, x5, x6, x8] μ) (fun _ μ1 => At cr2 d 237 6 [] [71, x1, x2, x3, x4, 0, 0, 0, 0, 0, 0] μ1) := (At_eq cr2 d 237 5 _ _ _).trans rfl
set_option maxRecDepth 20000 in
theorem B237_6 (d : Nat) (x1 x2 x3 x4 : Int) (μ : amM) : At cr2 d 237 6 [] [71, x1, x2, x3, x4, 0, 0, 0, 0, 0, 0] μ = At cr2 d 237 2 [] [71, x1, x2, x3, (w32 (x4 + 1)), 0, 0, 0, 0, 0, 0] μ := (At_eq cr2 d 237 6 _ _ _).trans rfl
set_option maxRecDepth 20000 in
theorem B237_7 (d : Nat) (x1 x2 x3 : Int) (μ : amM) : At cr2 d 237 7 [] [71, x1, x2, x3, 0, 0, 0, 0, 0, 0, 0] μ = (if x2 < 0 then bnd (RD cr2 d 150 [71, 2] μ) (fun v1 μ1 => At cr2 d 237 10 [v1] [0, 0, 0, 0, 0, 0, 0, 0, 0, 0, 0] μ1) else At cr2 d 237 8 [] [0, x1, x2, x3, 0, 0, 0, 0, 0, 0, 0] μ) := (At_eq cr2 d 237 7 _ _ _).trans rfl
set_option maxRecDepth 20000 in
theorem B237_8 (d : Nat) (x1 x2 x3 : Int) (μ : amM) : At cr2 d 237 8 [] [0, x1, x2, x3, 0, 0, 0, 0, 0, 0, 0] μ = (if x1 = 0 then At cr2 d 237 10 [x2] [0, 0, 0, 0, 0, 0, 0, 0, 0, 0, 0] μ else At cr2 d 237 9 [] [0, 0, 0, x3, 0, 0, 0, 0, 0, 0, 0] μ) := (At_eq cr2 d 237 8 _ _ _).trans rfl
set_option maxRecDepth 20000 in
theorem B237_9 (d : Nat) (x3 : Int) (μ : amM) : At cr2 d 237 9 [] [0, 0, 0, x3, 0, 0, 0, 0, 0, 0, 0] μ = At cr2 d 237 10 [x3] [0, 0, 0, 0, 0, 0, 0, 0, 0, 0, 0] μ := (At_eq cr2 d 237 9 _ _ _).trans rfl
set_option maxRecDepth 20000 in
theorem B237_10 (d : Nat) (s0 : Int) (μ : amM) : At cr2 d 237 10 [s0] [0, 0, 0, 0, 0, 0, 0, 0, 0, 0, 0] μ = some (s0, μ) := (At_eq cr2 d 237 10 _ _ _).trans rfl
set_option maxRecDepth 20000 in
theorem B238_0 (d : Nat) (μ : amM) : At cr2 d 238 0 [] [71, 0, 0, 0, 0] μ = bnd (RD cr2 d 227 [71] μ) (fun v1 μ1 => bnd (RD cr2 d 153 [71] μ1) (fun v2 μ2 => if v2 = 0 then none else bnd (RD cr2 d 227 [71] μ2) (fun v3 μ3 => bnd (RD cr2 d 227 [71] μ3) (fun v4 μ4 => wf 72 5 μ4 (w32 ((μ4 72 5) + 1)) (fun μ5 => bnd (RD cr2 d 213 [71, (v1.tmod v2), (v3.tmod 4), (v4.tmod 3)] μ5) (fun v6 μ6 => (if v6 = 0 then some (0, μ6) else At cr2 d 238 1 [] [71, (v1.tmod v2), (v3.tmod 4), (v4.tmod 3), 0] μ6))))))) := (At_eq cr2 d 238 0 _ _ _).trans rfl
set_option maxRecDepth 20000 in
theorem B238_1 (d : Nat) (x1 x2 x3 : Int) (μ : amM) : At cr2 d 238 1 [] [71, x1, x2, x3, 0] μ = bnd (RD cr2 d 157 [71, x1, x2] μ) (fun v1 μ1 => bnd (RD cr2 d 158 [71, x1, x2, x3] μ1) (fun _ μ2 => bnd (RD cr2 d 181 [71] μ2) (fun v2 μ3 => (if v2 = 0 then At cr2 d 238 2 [] [71, x1, x2, 0, v1] μ3 else bnd (RD cr2 d 185 [71, x1, x2] μ3) (fun v3 μ4 => bnd (RD cr2 d 198 [71, v3] μ4) (fun _ μ5 => some (1, μ5))))))) := (At_eq cr2 d 238 1 _ _ _).trans rfl
set_option maxRecDepth 20000 in
theorem B238_2 (d : Nat) (x1 x2 x4 : Int) (μ : amM) : At cr2 d 238 2 [] [71, x1, x2, 0, x4] μ = bnd (RD cr2 d 158 [71, x1, x2, x4] μ) (fun _ μ1 => some (0, μ1)) := (At_eq cr2 d 238 2 _ _ _).trans rfl
set_option maxRecDepth 20000 in
theorem B239_0 (d : Nat) (x1 : Int) (μ : amM) : At cr2 d 239 0 [] [71, x1, 0, 0] μ = bnd (RD cr2 d 151 [x1, 1, 200] μ) (fun v1 μ1 => (if v1 = 0 then bnd (RD cr2 d 150 [71, 1] μ1) (fun v2 μ2 => some (v2, μ2)) else At cr2 d 239 1 [] [71, x1, 0, 0] μ1)) := (At_eq cr2 d 239 0 _ _ _).trans rfl
set_option maxRecDepth 20000 in
theorem B239_1 (d : Nat) (x1 : Int) (μ : amM) : At cr2 d 239 1 [] [71, x1, 0, 0] μ = (if 9999 < (w32 ((μ 72 5) + x1)) then bnd (RD cr2 d 150 [71, 3] μ) (fun v2 μ1 => some (v2, μ1)) else At cr2 d 239 2 [] [71, x1, 0, 0] μ) := (At_eq cr2 d 239 1 _ _ _).trans rfl
set_option maxRecDepth 20000 in
theorem B239_2 (d : Nat) (x1 : Int) (μ : amM) : At cr2 d 239 2 [] [71, x1, 0, 0] μ = bnd (RD cr2 d 175 [71] μ) (fun _ μ1 => At cr2 d 239 3 [] [71, x1, 0, 0] μ1) := (At_eq cr2 d 239 2 _ _ _).trans rfl
set_option maxRecDepth 20000 in
theorem B239_3 (d : Nat) (x1 x2 x3 : Int) (μ : amM) : At cr2 d 239 3 [] [71, x1, x2, x3] μ = (if x3 < x1 then bnd (RD cr2 d 238 [71] μ) (fun v1 μ1 => (if v1 = 0 then At cr2 d 239 4 [x2] [71, x1, 0, x3] μ1 else At cr2 d 239 5 [1, x2] [71, x1, 0, x3] μ1)) else At cr2 d 239 6 [] [0, 0, x2, 0] μ) := (At_eq cr2 d 239 3 _ _ _).trans rfl
set_option maxRecDepth 20000 in
theorem B239_4 (d : Nat) (s0 x1 x3 : Int) (μ : amM) : At cr2 d 239 4 [s0] [71, x1, 0, x3] μ = At cr2 d 239 5 [0, s0] [71, x1, 0, x3] μ := (At_eq cr2 d 239 4 _ _ _).trans rfl
set_option maxRecDepth 20000 in
theorem B239_5 (d : Nat) (s0 s1 x1 x3 : Int) (μ : amM) : At cr2 d 239 5 [s0, s1] [71, x1, 0, x3] μ = At cr2 d 239 3 [] [71, x1, (w32 (s1 + s0)), (w32 (x3 + 1))] μ := (At_eq cr2 d 239 5 _ _ _).trans rfl
set_option maxRecDepth 20000 in
theorem B239_6 (d : Nat) (x2 : Int) (μ : amM) : At cr2 d 239 6 [] [0, 0, x2, 0] μ = some (x2, μ) := (At_eq cr2 d 239 6 _ _ _).trans rfl
set_option maxRecDepth 20000 in
theorem B240_0 (d : Nat) (x1 : Int) (μ : amM) : At cr2 d 240 0 [] [71, x1, 0] μ = wf 72 7 μ x1 (fun μ1 => some ((μ 72 7), μ1)) := (At_eq cr2 d 240 0 _ _ _).trans rfl
set_option maxRecDepth 20000 in
theorem B241_0 (d : Nat) (x1 : Int) (μ : amM) : At cr2 d 241 0 [] [71, x1] μ = (if (μ 71 33) < 40 then wr 90 40 μ (μ 71 33) x1 (fun μ1 => wf 71 33 μ1 (w32 ((μ1 71 33) + 1)) (fun μ2 => At cr2 d 241 1 [] [0, 0] μ2)) else At cr2 d 241 1 [] [0, 0] μ) := (At_eq cr2 d 241 0 _ _ _).trans rfl
set_option maxRecDepth 20000 in
theorem B241_1 (d : Nat) (μ : amM) : At cr2 d 241 1 [] [0, 0] μ = some (0, μ) := (At_eq cr2 d 241 1 _ _ _).trans rfl
set_option maxRecDepth 20000 in
theorem B242_0 (d : Nat) (μ : amM) : At cr2 d 242 0 [] [71] μ = bnd (RD cr2 d 156 [71, (μ 71 34)] μ) (fun v1 μ1 => some (v1, μ1)) := (At_eq cr2 d 242 0 _ _ _).trans rfl
set_option maxRecDepth 20000 in
theorem B243_0 (d : Nat) (x1 x2 : Int) (μ : amM) : At cr2 d 243 0 [] [71, x1, x2] μ = (if x1 = 0 then At cr2 d 243 1 [] [71, 0, x2] μ else if x1 = 2 then At cr2 d 243 2 [] [71, 0, x2] μ else At cr2 d 243 3 [] [71, x1, x2] μ) := (At_eq cr2 d 243 0 _ _ _).trans rfl
set_option maxRecDepth 20000 in
theorem B243_1 (d : Nat) (x2 : Int) (μ : amM) : At cr2 d 243 1 [] [71, 0, x2] μ = bnd (RD cr2 d 241 [71, 10] μ) (fun _ μ1 => some ((w32 (x2 + (μ1 71 34))), μ1)) := (At_eq cr2 d 243 1 _ _ _).trans rfl
set_option maxRecDepth 20000 in
theorem B243_2 (d : Nat) (x2 : Int) (μ : amM) : At cr2 d 243 2 [] [71, 0, x2] μ = bnd (RD cr2 d 241 [71, 30] μ) (fun _ μ1 => bnd (RD cr2 d 195 [2] μ1) (fun v1 μ2 => bnd (RD cr2 d 243 [71, v1, x2] μ2) (fun v2 μ3 => some ((w32 (v2 * 3)), μ3)))) := (At_eq cr2 d 243 2 _ _ _).trans rfl
set_option maxRecDepth 20000 in
theorem B243_3 (d : Nat) (x1 x2 : Int) (μ : amM) : At cr2 d 243 3 [] [71, x1, x2] μ = bnd (RD cr2 d 195 [x1] μ) (fun v1 μ1 => bnd (RD cr2 d 243 [71, v1, x2] μ1) (fun v2 μ2 => some (v2, μ2))) := (At_eq cr2 d 243 3 _ _ _).trans rfl
set_option maxRecDepth 20000 in
theorem B244_0 (d : Nat) (x1 x2 : Int) (μ : amM) : At cr2 d 244 0 [] [71, x1, x2, 0] μ = (if x1 = 0 then At cr2 d 244 1 [] [71, 0, x2, 0] μ else if x1 = 1 then At cr2 d 244 2 [] [71, 0, x2, 0] μ else if x1 = 2 then At cr2 d 244 4 [] [71, x1, x2, 0] μ else if x1 = 3 then At cr2 d 244 4 [] [71, x1, x2, 0] μ else if x1 = 4 then At cr2 d 244 3 [] [71, 0, x2, 0] μ else At cr2 d 244 4 [] [71, x1, x2, 0] μ) := (At_eq cr2 d 244 0 _ _ _).trans rfl
set_option maxRecDepth 20000 in
theorem B244_1 (d : Nat) (x2 : Int) (μ : amM) : At cr2 d 244 1 [] [71, 0, x2, 0] μ = bnd (RD cr2 d 241 [71, 11] μ) (fun _ μ1 => bnd (RD cr2 d 242 [71] μ1) (fun v1 μ2 => bnd (RD cr2 d 243 [71, v1, x2] μ2) (fun v2 μ3 => some ((w32 (v2 * 2)), μ3)))) := (At_eq cr2 d 244 1 _ _ _).trans rfl
set_option maxRecDepth 20000 in
theorem B244_2 (d : Nat) (x2 : Int) (μ : amM) : At cr2 d 244 2 [] [71, 0, x2, 0] μ = bnd (RD cr2 d 241 [71, 20] μ) (fun _ μ1 => bnd (RD cr2 d 195 [1] μ1) (fun v1 μ2 => bnd (RD cr2 d 244 [71, v1, x2] μ2) (fun v2 μ3 => bnd (RD cr2 d 242 [71] μ3) (fun v3 μ4 => bnd (RD cr2 d 245 [71, v3, 1] μ4) (fun v4 μ5 => some ((w32 (v2 - v4)), μ5)))))) := (At_eq cr2 d 244 2 _ _ _).trans rfl
set_option maxRecDepth 20000 in
theorem B244_3 (d : Nat) (x2 : Int) (μ : amM) : At cr2 d 244 3 [] [71, 0, x2, 0] μ = bnd (RD cr2 d 241 [71, 50] μ) (fun _ μ1 => bnd (RD cr2 d 195 [4] μ1) (fun v1 μ2 => bnd (RD cr2 d 244 [71, v1, (w32 (x2 + 1))] μ2) (fun v2 μ3 => some (v2, μ3)))) := (At_eq cr2 d 244 3 _ _ _).trans rfl
set_option maxRecDepth 20000 in
theorem B244_4 (d : Nat) (x1 x2 : Int) (μ : amM) : At cr2 d 244 4 [] [71, x1, x2, 0] μ = bnd (RD cr2 d 195 [x1] μ) (fun v1 μ1 => bnd (RD cr2 d 244 [71, v1, x2] μ1) (fun v2 μ2 => some (v2, μ2))) := (At_eq cr2 d 244 4 _ _ _).trans rfl
set_option maxRecDepth 20000 in
theorem B245_0 (d : Nat) (x1 x2 : Int) (μ : amM) : At cr2 d 245 0 [] [71, x1, x2] μ = (if x1 = 0 then At cr2 d 245 1 [] [71, 0, x2] μ else if x1 = 3 then At cr2 d 245 2 [] [71, 0, x2] μ else if x1 = 6 then At cr2 d 245 3 [] [71, 0, x2] μ else At cr2 d 245 4 [] [71, x1, x2] μ) := (At_eq cr2 d 245 0 _ _ _).trans rfl
set_option maxRecDepth 20000 in
theorem B245_1 (d : Nat) (x2 : Int) (μ : amM) : At cr2 d 245 1 [] [71, 0, x2] μ = bnd (RD cr2 d 241 [71, 12] μ) (fun _ μ1 => rd 72 576 μ1 (w32 (84 + (μ1 71 34))) (fun v1 => some ((w32 (x2 - v1)), μ1))) := (At_eq cr2 d 245 1 _ _ _).trans rfl
set_option maxRecDepth 20000 in
theorem B245_2 (d : Nat) (x2 : Int) (μ : amM) : At cr2 d 245 2 [] [71, 0, x2] μ = bnd (RD cr2 d 241 [71, 40] μ) (fun _ μ1 => bnd (RD cr2 d 195 [3] μ1) (fun v1 μ2 => bnd (RD cr2 d 245 [71, v1, x2] μ2) (fun v2 μ3 => some ((w32 (-v2)), μ3)))) := (At_eq cr2 d 245 2 _ _ _).trans rfl
set_option maxRecDepth 20000 in
theorem B245_3 (d : Nat) (x2 : Int) (μ : amM) : At cr2 d 245 3 [] [71, 0, x2] μ = bnd (RD cr2 d 241 [71, 70] μ) (fun _ μ1 => bnd (RD cr2 d 195 [6] μ1) (fun v1 μ2 => bnd (RD cr2 d 245 [71, v1, x2] μ2) (fun v2 μ3 => some ((bXor v2 (μ3 71 34)), μ3)))) := (At_eq cr2 d 245 3 _ _ _).trans rfl
set_option maxRecDepth 20000 in
theorem B245_4 (d : Nat) (x1 x2 : Int) (μ : amM) : At cr2 d 245 4 [] [71, x1, x2] μ = bnd (RD cr2 d 195 [x1] μ) (fun v1 μ1 => bnd (RD cr2 d 245 [71, v1, x2] μ1) (fun v2 μ2 => some (v2, μ2))) := (At_eq cr2 d 245 4 _ _ _).trans rfl
set_option maxRecDepth 20000 in
theorem B246_0 (d : Nat) (x1 x2 : Int) (μ : amM) : At cr2 d 246 0 [] [71, x1, x2, 0] μ = (if x1 = 0 then At cr2 d 246 1 [] [71, 0, x2, 0] μ else if x1 = 5 then At cr2 d 246 2 [] [71, 0, x2, 0] μ else if x1 = 6 then At cr2 d 246 3 [] [71, 0, x2, 0] μ else At cr2 d 246 4 [] [71, x1, x2, 0] μ) := (At_eq cr2 d 246 0 _ _ _).trans rfl
set_option maxRecDepth 20000 in
theorem B246_1 (d : Nat) (x2 : Int) (μ : amM) : At cr2 d 246 1 [] [71, 0, x2, 0] μ = bnd (RD cr2 d 241 [71, 13] μ) (fun _ μ1 => bnd (RD cr2 d 242 [71] μ1) (fun v1 μ2 => bnd (RD cr2 d 244 [71, v1, x2] μ2) (fun v2 μ3 => bnd (RD cr2 d 242 [71] μ3) (fun v3 μ4 => bnd (RD cr2 d 245 [71, v3, x2] μ4) (fun v4 μ5 => some ((bXor v2 v4), μ5)))))) := (At_eq cr2 d 246 1 _ _ _).trans rfl
set_option maxRecDepth 20000 in
theorem B246_2 (d : Nat) (x2 : Int) (μ : amM) : At cr2 d 246 2 [] [71, 0, x2, 0] μ = bnd (RD cr2 d 241 [71, 60] μ) (fun _ μ1 => bnd (RD cr2 d 195 [5] μ1) (fun v1 μ2 => bnd (RD cr2 d 246 [71, v1, x2] μ2) (fun v2 μ3 => bnd (RD cr2 d 242 [71] μ3) (fun v3 μ4 => bnd (RD cr2 d 243 [71, v3, 2] μ4) (fun v4 μ5 => some ((w32 (v2 - v4)), μ5)))))) := (At_eq cr2 d 246 2 _ _ _).trans rfl
set_option maxRecDepth 20000 in
theorem B246_3 (d : Nat) (x2 : Int) (μ : amM) : At cr2 d 246 3 [] [71, 0, x2, 0] μ = bnd (RD cr2 d 241 [71, 71] μ) (fun _ μ1 => bnd (RD cr2 d 242 [71] μ1) (fun v1 μ2 => bnd (RD cr2 d 244 [71, v1, x2] μ2) (fun v2 μ3 => bnd (RD cr2 d 195 [6] μ3) (fun v3 μ4 => bnd (RD cr2 d 246 [71, v3, x2] μ4) (fun v4 μ5 => some ((w32 (v2 - v4)), μ5)))))) := (At_eq cr2 d 246 3 _ _ _).trans rfl
set_option maxRecDepth 20000 in
theorem B246_4 (d : Nat) (x1 x2 : Int) (μ : amM) : At cr2 d 246 4 [] [71, x1, x2, 0] μ = bnd (RD cr2 d 195 [x1] μ) (fun v1 μ1 => bnd (RD cr2 d 246 [71, v1, x2] μ1) (fun v2 μ2 => some (v2, μ2))) := (At_eq cr2 d 246 4 _ _ _).trans rfl
set_option maxRecDepth 20000 in
theorem B247_0 (d : Nat) (x1 x2 x3 : Int) (μ : amM) : At cr2 d 247 0 [] [71, x1, x2, x3, 0] μ = bnd (RD cr2 d 154 [71, x1] μ) (fun v1 μ1 => (if v1 = 0 then At cr2 d 247 1 [] [71, 0, 0, 0, 0] μ1 else bnd (RD cr2 d 151 [x2, 0, 3] μ1) (fun v2 μ2 => (if v2 = 0 then At cr2 d 247 1 [] [71, 0, 0, 0, 0] μ2 else At cr2 d 247 2 [] [71, x1, x2, x3, 0] μ2)))) := (At_eq cr2 d 247 0 _ _ _).trans rfl
set_option maxRecDepth 20000 in
theorem B247_1 (d : Nat) (μ : amM) : At cr2 d 247 1 [] [71, 0, 0, 0, 0] μ = bnd (RD cr2 d 150 [71, 1] μ) (fun v1 μ1 => some (v1, μ1)) := (At_eq cr2 d 247 1 _ _ _).trans rfl
set_option maxRecDepth 20000 in
theorem B247_2 (d : Nat) (x1 x2 x3 : Int) (μ : amM) : At cr2 d 247 2 [] [71, x1, x2, x3, 0] μ = bnd (RD cr2 d 155 [71, x1] μ) (fun v1 μ1 => (if v1 = 0 then At cr2 d 247 3 [] [71, x1, x2, x3, 0] μ1 else bnd (RD cr2 d 150 [71, 2] μ1) (fun v2 μ2 => some (v2, μ2)))) := (At_eq cr2 d 247 2 _ _ _).trans rfl
set_option maxRecDepth 20000 in
theorem B247_3 (d : Nat) (x1 x2 x3 : Int) (μ : amM) : At cr2 d 247 3 [] [71, x1, x2, x3, 0] μ = wf 71 33 μ 0 (fun μ1 => wf 71 34 μ1 x1 (fun μ2 => bnd (RD cr2 d 242 [71] μ2) (fun v1 μ3 => (if x2 = 0 then bnd (RD cr2 d 243 [71, v1, x3] μ3) (fun v2 μ4 => At cr2 d 247 7 [v2] [0, 0, 0, 0, 0] μ4) else At cr2 d 247 4 [] [71, 0, x2, x3, v1] μ3)))) := (At_eq cr2 d 247 3 _ _ _).trans rfl
set_option maxRecDepth 20000 in
theorem B247_4 (d : Nat) (x2 x3 x4 : Int) (μ : amM) : At cr2 d 247 4 [] [71, 0, x2, x3, x4] μ = (if x2 = 1 then bnd (RD cr2 d 244 [71, x4, x3] μ) (fun v1 μ1 => At cr2 d 247 7 [v1] [0, 0, 0, 0, 0] μ1) else At cr2 d 247 5 [] [71, 0, x2, x3, x4] μ) := (At_eq cr2 d 247 4 _ _ _).trans rfl
set_option maxRecDepth 20000 in
theorem B247_5 (d : Nat) (x2 x3 x4 : Int) (μ : amM) : At cr2 d 247 5 [] [71, 0, x2, x3, x4] μ = (if x2 = 2 then bnd (RD cr2 d 245 [71, x4, x3] μ) (fun v1 μ1 => At cr2 d 247 7 [v1] [0, 0, 0, 0, 0] μ1) else At cr2 d 247 6 [] [71, 0, 0, x3, x4] μ) := (At_eq cr2 d 247 5 _ _ _).trans rfl
set_option maxRecDepth 20000 in
theorem B247_6 (d : Nat) (x3 x4 : Int) (μ : amM) : At cr2 d 247 6 [] [71, 0, 0, x3, x4] μ = bnd (RD cr2 d 246 [71, x4, x3] μ) (fun v1 μ1 => At cr2 d 247 7 [v1] [0, 0, 0, 0, 0] μ1) := (At_eq cr2 d 247 6 _ _ _).trans rfl
set_option maxRecDepth 20000 in
theorem B247_7 (d : Nat) (s0 : Int) (μ : amM) : At cr2 d 247 7 [s0] [0, 0, 0, 0, 0] μ = some (s0, μ) := (At_eq cr2 d 247 7 _ _ _).trans rfl
set_option maxRecDepth 20000 in
theorem B248_0 (d : Nat) (x1 : Int) (μ : amM) : At cr2 d 248 0 [] [71, x1] μ = bnd (RD cr2 d 151 [x1, 0, (w32 ((μ 71 33) - 1))] μ) (fun v1 μ1 => (if v1 = 0 then At cr2 d 248 1 [] [71, 0] μ1 else rd 90 40 μ1 x1 (fun v2 => At cr2 d 248 2 [v2] [0, 0] μ1))) := (At_eq cr2 d 248 0 _ _ _).trans rfl
set_option maxRecDepth 20000 in
theorem B248_1 (d : Nat) (μ : amM) : At cr2 d 248 1 [] [71, 0] μ = bnd (RD cr2 d 150 [71, 2] μ) (fun v1 μ1 => At cr2 d 248 2 [v1] [0, 0] μ1) := (At_eq cr2 d 248 1 _ _ _).trans rfl
set_option maxRecDepth 20000 in
theorem B248_2 (d : Nat) (s0 : Int) (μ : amM) : At cr2 d 248 2 [s0] [0, 0] μ = some (s0, μ) := (At_eq cr2 d 248 2 _ _ _).trans rfl
set_option maxRecDepth 20000 in
theorem B249_0 (d : Nat) (x0 : Int) (μ : amM) : At cr2 d 249 0 [] [x0] μ = bnd (RD cr2 d 151 [x0, 0, 3] μ) (fun v1 μ1 => rb v1 μ1) := (At_eq cr2 d 249 0 _ _ _).trans rfl
set_option maxRecDepth 20000 in
theorem B250_0 (d : Nat) (x1 x2 x3 : Int) (μ : amM) : At cr2 d 250 0 [] [71, x1, x2, x3, 0] μ = bnd (RD cr2 d 249 [x1] μ) (fun v1 μ1 => (if v1 = 0 then At cr2 d 250 1 [] [71, 0, 0, 0, 0] μ1 else (if x2 = 0 then At cr2 d 250 2 [] [71, x1, x2, x3, 0] μ1 else (if x2 = 8 then At cr2 d 250 2 [] [71, x1, x2, x3, 0] μ1 else (if x2 = 16 then At cr2 d 250 2 [] [71, x1, x2, x3, 0] μ1 else (if x2 = 32 then At cr2 d 250 2 [] [71, x1, x2, x3, 0] μ1 else At cr2 d 250 1 [] [71, 0, 0, 0, 0] μ1)))))) := (At_eq cr2 d 250 0 _ _ _).trans rfl
set_option maxRecDepth 20000 in
theorem B250_1 (d : Nat) (μ : amM) : At cr2 d 250 1 [] [71, 0, 0, 0, 0] μ = bnd (RD cr2 d 150 [71, 1] μ) (fun v1 μ1 => some (v1, μ1)) := (At_eq cr2 d 250 1 _ _ _).trans rfl
set_option maxRecDepth 20000 in
theorem B250_2 (d : Nat) (x1 x2 x3 : Int) (μ : amM) : At cr2 d 250 2 [] [71, x1, x2, x3, 0] μ = (if x2 = 0 then At cr2 d 250 3 [] [71, x1, x2, x3, 0] μ else (if x3 < 0 then bnd (RD cr2 d 150 [71, 3] μ) (fun v1 μ1 => some (v1, μ1)) else At cr2 d 250 3 [] [71, x1, x2, x3, 0] μ)) := (At_eq cr2 d 250 2 _ _ _).trans rfl
set_option maxRecDepth 20000 in
theorem B250_3 (d : Nat) (x1 x2 x3 : Int) (μ : amM) : At cr2 d 250 3 [] [71, x1, x2, x3, 0] μ = (if x2 = 0 then At cr2 d 250 4 [] [71, x1, x2, x3, 0] μ else (if 64 < x3 then bnd (RD cr2 d 150 [71, 1] μ) (fun v1 μ1 => some (v1, μ1)) else At cr2 d 250 4 [] [71, x1, x2, x3, 0] μ)) := (At_eq cr2 d 250 3 _ _ _).trans rfl
set_option maxRecDepth 20000 in
theorem B250_4 (d : Nat) (x1 x2 x3 : Int) (μ : amM) : At cr2 d 250 4 [] [71, x1, x2, x3, 0] μ = wr 91 4 μ x1 x2 (fun μ1 => (if x2 = 0 then At cr2 d 250 6 [0, x1, 92] [71, x1, 0, 0, 0] μ1 else At cr2 d 250 5 [x1, 92] [71, x1, 0, x3, 0] μ1)) := (At_eq cr2 d 250 4 _ _ _).trans rfl
set_option maxRecDepth 20000 in
theorem B250_5 (d : Nat) (s0 x1 x3 : Int) (μ : amM) : At cr2 d 250 5 [s0, 92] [71, x1, 0, x3, 0] μ = At cr2 d 250 6 [x3, s0, 92] [71, x1, 0, 0, 0] μ := (At_eq cr2 d 250 5 _ _ _).trans rfl
set_option maxRecDepth 20000 in
theorem B250_6 (d : Nat) (s0 s1 x1 : Int) (μ : amM) : At cr2 d 250 6 [s0, s1, 92] [71, x1, 0, 0, 0] μ = wr 92 4 μ s1 s0 (fun μ1 => At cr2 d 250 7 [] [71, x1, 0, 0, 0] μ1) := (At_eq cr2 d 250 6 _ _ _).trans rfl
set_option maxRecDepth 20000 in
theorem B250_7 (d : Nat) (x1 x4 : Int) (μ : amM) : At cr2 d 250 7 [] [71, x1, 0, 0, x4] μ = (if x4 < 64 then wr 93 256 μ (w32 ((w32 (64 * x1)) + x4)) 0 (fun μ1 => At cr2 d 250 7 [] [71, x1, 0, 0, (w32 (x4 + 1))] μ1) else At cr2 d 250 8 [] [0, 0, 0, 0, 0] μ) := (At_eq cr2 d 250 7 _ _ _).trans rfl
set_option maxRecDepth 20000 in
theorem B250_8 (d : Nat) (μ : amM) : At cr2 d 250 8 [] [0, 0, 0, 0, 0] μ = some (1, μ) := (At_eq cr2 d 250 8 _ _ _).trans rfl
set_option maxRecDepth 20000 in
theorem B251_0 (d : Nat) (x1 x2 x3 : Int) (μ : amM) : At cr2 d 251 0 [] [71, x1, x2, x3] μ = bnd (RD cr2 d 249 [x1] μ) (fun v1 μ1 => (if v1 = 0 then bnd (RD cr2 d 150 [71, 1] μ1) (fun v2 μ2 => some (v2, μ2)) else At cr2 d 251 1 [] [71, x1, x2, x3] μ1)) := (At_eq cr2 d 251 0 _ _ _).trans rfl
set_option maxRecDepth 20000 in
theorem B251_1 (d : Nat) (x1 x2 x3 : Int) (μ : amM) : At cr2 d 251 1 [] [71, x1, x2, x3] μ = rd 91 4 μ x1 (fun v1 => (if v1 = 0 then bnd (RD cr2 d 150 [71, 2] μ) (fun v2 μ1 => some (v2, μ1)) else At cr2 d 251 2 [] [71, x1, x2, x3] μ)) := (At_eq cr2 d 251 1 _ _ _).trans rfl
set_option maxRecDepth 20000 in
theorem B251_2 (d : Nat) (x1 x2 x3 : Int) (μ : amM) : At cr2 d 251 2 [] [71, x1, x2, x3] μ = rd 92 4 μ x1 (fun v1 => bnd (RD cr2 d 151 [x2, 0, (w32 (v1 - 1))] μ) (fun v2 μ1 => (if v2 = 0 then bnd (RD cr2 d 150 [71, 1] μ1) (fun v3 μ2 => some (v3, μ2)) else At cr2 d 251 3 [] [71, x1, x2, x3] μ1))) := (At_eq cr2 d 251 2 _ _ _).trans rfl
set_option maxRecDepth 20000 in
theorem B251_3 (d : Nat) (x1 x2 x3 : Int) (μ : amM) : At cr2 d 251 3 [] [71, x1, x2, x3] μ = rd 91 4 μ x1 (fun v1 => (if v1 = 8 then At cr2 d 251 6 [(x3.bmod 256), (w32 ((w32 (64 * x1)) + x2)), 93] [0, 0, 0, 0] μ else At cr2 d 251 4 [(w32 ((w32 (64 * x1)) + x2)), 93] [71, x1, 0, x3] μ)) := (At_eq cr2 d 251 3 _ _ _).trans rfl
set_option maxRecDepth 20000 in
theorem B251_4 (d : Nat) (s0 x1 x3 : Int) (μ : amM) : At cr2 d 251 4 [s0, 93] [71, x1, 0, x3] μ = rd 91 4 μ x1 (fun v1 => (if v1 = 16 then At cr2 d 251 6 [(x3.bmod 65536), s0, 93] [0, 0, 0, 0] μ else At cr2 d 251 5 [s0, 93] [0, 0, 0, x3] μ)) := (At_eq cr2 d 251 4 _ _ _).trans rfl
set_option maxRecDepth 20000 in
theorem B251_5 (d : Nat) (s0 x3 : Int) (μ : amM) : At cr2 d 251 5 [s0, 93] [0, 0, 0, x3] μ = At cr2 d 251 6 [x3, s0, 93] [0, 0, 0, 0] μ := (At_eq cr2 d 251 5 _ _ _).trans rfl
set_option maxRecDepth 20000 in
theorem B251_6 (d : Nat) (s0 s1 : Int) (μ : amM) : At cr2 d 251 6 [s0, s1, 93] [0, 0, 0, 0] μ = wr 93 256 μ s1 s0 (fun μ1 => some (1, μ1)) := (At_eq cr2 d 251 6 _ _ _).trans rfl
set_option maxRecDepth 20000 in
theorem B252_0 (d : Nat) (x1 x2 x3 x4 x5 : Int) (μ : amM) : At cr2 d 252 0 [] [71, x1, x2, x3, x4, x5, 0] μ = bnd (RD cr2 d 249 [x1] μ) (fun v1 μ1 => (if v1 = 0 then At cr2 d 252 1 [] [71, 0, 0, 0, 0, 0, 0] μ1 else bnd (RD cr2 d 249 [x3] μ1) (fun v2 μ2 => (if v2 = 0 then At cr2 d 252 1 [] [71, 0, 0, 0, 0, 0, 0] μ2 else At cr2 d 252 2 [] [71, x1, x2, x3, x4, x5, 0] μ2)))) := (At_eq cr2 d 252 0 _ _ _).trans rfl
set_option maxRecDepth 20000 in
theorem B252_1 (d : Nat) (μ : amM) : At cr2 d 252 1 [] [71, 0, 0, 0, 0, 0, 0] μ = bnd (RD cr2 d 150 [71, 1] μ) (fun v1 μ1 => some (v1, μ1)) := (At_eq cr2 d 252 1 _ _ _).trans rfl
set_option maxRecDepth 20000 in
theorem B252_2 (d : Nat) (x1 x2 x3 x4 x5 : Int) (μ : amM) : At cr2 d 252 2 [] [71, x1, x2, x3, x4, x5, 0] μ = rd 91 4 μ x1 (fun v1 => (if v1 = 0 then At cr2 d 252 3 [] [71, 0, 0, 0, 0, 0, 0] μ else rd 91 4 μ x3 (fun v2 => (if v2 = 0 then At cr2 d 252 3 [] [71, 0, 0, 0, 0, 0, 0] μ else At cr2 d 252 4 [] [71, x1, x2, x3, x4, x5, 0] μ)))) := (At_eq cr2 d 252 2 _ _ _).trans rfl
set_option maxRecDepth 20000 in
theorem B252_3 (d : Nat) (μ : amM) : At cr2 d 252 3 [] [71, 0, 0, 0, 0, 0, 0] μ = bnd (RD cr2 d 150 [71, 2] μ) (fun v1 μ1 => some (v1, μ1)) := (At_eq cr2 d 252 3 _ _ _).trans rfl
set_option maxRecDepth 20000 in
theorem B252_4 (d : Nat) (x1 x2 x3 x4 x5 : Int) (μ : amM) : At cr2 d 252 4 [] [71, x1, x2, x3, x4, x5, 0] μ = rd 91 4 μ x1 (fun v1 => rd 91 4 μ x3 (fun v2 => (if v1 = v2 then At cr2 d 252 5 [] [71, x1, x2, x3, x4, x5, 0] μ else bnd (RD cr2 d 150 [71, 5] μ) (fun v3 μ1 => some (v3, μ1))))) := (At_eq cr2 d 252 4 _ _ _).trans rfl
set_option maxRecDepth 20000 in
theorem B252_5 (d : Nat) (x1 x2 x3 x4 x5 : Int) (μ : amM) : At cr2 d 252 5 [] [71, x1, x2, x3, x4, x5, 0] μ = (if x5 < 0 then At cr2 d 252 6 [] [71, 0, 0, 0, 0, 0, 0] μ else (if x2 < 0 then At cr2 d 252 6 [] [71, 0, 0, 0, 0, 0, 0] μ else (if x4 < 0 then At cr2 d 252 6 [] [71, 0, 0, 0, 0, 0, 0] μ else rd 92 4 μ x1 (fun v1 => (if (w32 (v1 - x2)) < x5 then At cr2 d 252 6 [] [71, 0, 0, 0, 0, 0, 0] μ else rd 92 4 μ x3 (fun v2 => (if (w32 (v2 - x4)) < x5 then At cr2 d 252 6 [] [71, 0, 0, 0, 0, 0, 0] μ else At cr2 d 252 7 [] [71, x1, x2, x3, x4, x5, 0] μ))))))) := (At_eq cr2 d 252 5 _ _ _).trans rfl
set_option maxRecDepth 20000 in
theorem B252_6 (d : Nat) (μ : amM) : At cr2 d 252 6 [] [71, 0, 0, 0, 0, 0, 0] μ = bnd (RD cr2 d 150 [71, 1] μ) (fun v1 μ1 => some (v1, μ1)) := (At_eq cr2 d 252 6 _ _ _).trans rfl
set_option maxRecDepth 20000 in
theorem B252_7 (d : Nat) (x1 x2 x3 x4 x5 : Int) (μ : amM) : At cr2 d 252 7 [] [71, x1, x2, x3, x4, x5, 0] μ = At cr2 d 252 8 [] [71, x1, x2, x3, x4, x5, 0] μ := (At_eq cr2 d 252 7 _ _ _).trans rfl
set_option maxRecDepth 20000 in
theorem B252_8 (d : Nat) (x1 x2 x3 x4 x5 x6 : Int) (μ : amM) : At cr2 d 252 8 [] [71, x1, x2, x3, x4, x5, x6] μ = (if x6 < x5 then rd 93 256 μ (w32 ((w32 ((w32 (64 * x1)) + x2)) + x6)) (fun v1 => wr 94 64 μ x6 v1 (fun μ1 => At cr2 d 252 8 [] [71, x1, x2, x3, x4, x5, (w32 (x6 + 1))] μ1)) else At cr2 d 252 9 [] [71, 0, 0, x3, x4, x5, 0] μ) := (At_eq cr2 d 252 8 _ _ _).trans rfl
set_option maxRecDepth 20000 in
theorem B252_9 (d : Nat) (x3 x4 x5 : Int) (μ : amM) : At cr2 d 252 9 [] [71, 0, 0, x3, x4, x5, 0] μ = At cr2 d 252 10 [] [71, 0, 0, x3, x4, x5, 0] μ := (At_eq cr2 d 252 9 _ _ _).trans rfl
set_option maxRecDepth 20000 in
theorem B252_10 (d : Nat) (x3 x4 x5 x6 : Int) (μ : amM) : At cr2 d 252 10 [] [71, 0, 0, x3, x4, x5, x6] μ = (if x6 < x5 then rd 94 64 μ x6 (fun v1 => wr 93 256 μ (w32 ((w32 ((w32 (64 * x3)) + x4)) + x6)) v1 (fun μ1 => At cr2 d 252 10 [] [71, 0, 0, x3, x4, x5, (w32 (x6 + 1))] μ1)) else At cr2 d 252 11 [] [0, 0, 0, 0, 0, x5, 0] μ) := (At_eq cr2 d 252 10 _ _ _).trans rfl
set_option maxRecDepth 20000 in
theorem B252_11 (d : Nat) (x5 : Int) (μ : amM) : At cr2 d 252 11 [] [0, 0, 0, 0, 0, x5, 0] μ = some (x5, μ) := (At_eq cr2 d 252 11 _ _ _).trans rfl
set_option maxRecDepth 20000 in
theorem B253_0 (d : Nat) (x1 : Int) (μ : amM) : At cr2 d 253 0 [] [71, x1, 0, 0, 0, 0] μ = bnd (RD cr2 d 249 [x1] μ) (fun v1 μ1 => (if v1 = 0 then bnd (RD cr2 d 150 [71, 1] μ1) (fun v2 μ2 => some (v2, μ2)) else At cr2 d 253 1 [] [71, x1, 0, 0, 0, 0] μ1)) := (At_eq cr2 d 253 0 _ _ _).trans rfl
set_option maxRecDepth 20000 in
theorem B253_1 (d : Nat) (x1 : Int) (μ : amM) : At cr2 d 253 1 [] [71, x1, 0, 0, 0, 0] μ = rd 91 4 μ x1 (fun v1 => (if v1 = 0 then bnd (RD cr2 d 150 [71, 2] μ) (fun v2 μ1 => some (v2, μ1)) else At cr2 d 253 2 [] [71, x1, 0, 0, 0, 0] μ)) := (At_eq cr2 d 253 1 _ _ _).trans rfl
set_option maxRecDepth 20000 in
theorem B253_2 (d : Nat) (x1 : Int) (μ : amM) : At cr2 d 253 2 [] [71, x1, 0, 0, 0, 0] μ = bnd (RD cr2 d 219 [71] μ) (fun _ μ1 => At cr2 d 253 3 [] [71, x1, 0, 0, 0, 0] μ1) := (At_eq cr2 d 253 2 _ _ _).trans rfl
set_option maxRecDepth 20000 in
theorem B253_3 (d : Nat) (x1 x2 x3 : Int) (μ : amM) : At cr2 d 253 3 [] [71, x1, x2, x3, 0, 0] μ = rd 92 4 μ x1 (fun v1 => (if x3 < v1 then (if x3 = 0 then bnd (RD cr2 d 254 [71, 81] μ) (fun v2 μ1 => At cr2 d 253 9 [] [71, x1, v2, x3, 0, 0] μ1) else At cr2 d 253 4 [] [71, x1, x2, x3, 0, 0] μ) else At cr2 d 253 10 [] [71, x1, 0, 0, 0, 0] μ)) := (At_eq cr2 d 253 3 _ _ _).trans rfl
set_option maxRecDepth 20000 in
theorem B253_4 (d : Nat) (x1 x2 x3 : Int) (μ : amM) : At cr2 d 253 4 [] [71, x1, x2, x3, 0, 0] μ = At cr2 d 253 5 [] [71, x1, x2, x3, 0, 0] μ := (At_eq cr2 d 253 4 _ _ _).trans rfl
set_option maxRecDepth 20000 in
theorem B253_5 (d : Nat) (x1 x2 x3 x4 x5 : Int) (μ : amM) : At cr2 d 253 5 [] [71, x1, x2, x3, x4, x5] μ = (if x5 < 81 then rd 86 6561 μ (w32 ((w32 (81 * x2)) + x5)) (fun v1 => (if v1 = 0 then At cr2 d 253 6 [x4] [71, x1, x2, x3, 0, x5] μ else At cr2 d 253 7 [1, x4] [71, x1, x2, x3, 0, x5] μ)) else At cr2 d 253 8 [] [71, x1, x2, x3, x4, 0] μ) := (At_eq cr2 d 253 5 _ _ _).trans rfl
set_option maxRecDepth 20000 in
theorem B253_6 (d : Nat) (s0 x1 x2 x3 x5 : Int) (μ : amM) : At cr2 d 253 6 [s0] [71, x1, x2, x3, 0, x5] μ = At cr2 d 253 7 [0, s0] [71, x1, x2, x3, 0, x5] μ := (At_eq cr2 d 253 6 _ _ _).trans rfl
set_option maxRecDepth 20000 in
theorem B253_7 (d : Nat) (s0 s1 x1 x2 x3 x5 : Int) (μ : amM) : At cr2 d 253 7 [s0, s1] [71, x1, x2, x3, 0, x5] μ = At cr2 d 253 5 [] [71, x1, x2, x3, (w32 (s1 + s0)), (w32 (x5 + 1))] μ := (At_eq cr2 d 253 7 _ _ _).trans rfl
set_option maxRecDepth 20000 in
theorem B253_8 (d : Nat) (x1 x2 x3 x4 : Int) (μ : amM) : At cr2 d 253 8 [] [71, x1, x2, x3, x4, 0] μ = bnd (RD cr2 d 254 [71, x4] μ) (fun v1 μ1 => bnd (RD cr2 d 255 [71, x2, v1] μ1) (fun v2 μ2 => At cr2 d 253 9 [] [71, x1, v2, x3, 0, 0] μ2)) := (At_eq cr2 d 253 8 _ _ _).trans rfl
set_option maxRecDepth 20000 in
theorem B253_9 (d : Nat) (x1 x2 x3 : Int) (μ : amM) : At cr2 d 253 9 [] [71, x1, x2, x3, 0, 0] μ = wr 93 256 μ (w32 ((w32 (64 * x1)) + x3)) x2 (fun μ1 => At cr2 d 253 3 [] [71, x1, x2, (w32 (x3 + 1)), 0, 0] μ1) := (At_eq cr2 d 253 9 _ _ _).trans rfl
set_option maxRecDepth 20000 in
theorem B253_10 (d : Nat) (x1 : Int) (μ : amM) : At cr2 d 253 10 [] [71, x1, 0, 0, 0, 0] μ = rd 92 4 μ x1 (fun v1 => some (v1, μ)) := (At_eq cr2 d 253 10 _ _ _).trans rfl
set_option maxRecDepth 20000 in
theorem B254_0 (d : Nat) (x1 : Int) (μ : amM) : At cr2 d 254 0 [] [71, x1] μ = bnd (RD cr2 d 227 [71] μ) (fun v1 μ1 => if x1 = 0 then none else some ((v1.tmod x1), μ1)) := (At_eq cr2 d 254 0 _ _ _).trans rfl
set_option maxRecDepth 20000 in
theorem B255_0 (d : Nat) (x1 x2 : Int) (μ : amM) : At cr2 d 255 0 [] [71, x1, x2, 0, 0] μ = At cr2 d 255 1 [] [71, x1, x2, 0, 0] μ := (At_eq cr2 d 255 0 _ _ _).trans rfl
set_option maxRecDepth 20000 in
theorem B255_1 (d : Nat) (x1 x2 x3 x4 : Int) (μ : amM) : At cr2 d 255 1 [] [71, x1, x2, x3, x4] μ = (if x4 < 81 then rd 86 6561 μ (w32 ((w32 (81 * x1)) + x4)) (fun v1 => (if v1 = 0 then At cr2 d 255 3 [] [71, x1, x2, x3, x4] μ else (if x3 = x2 then some (x4, μ) else At cr2 d 255 2 [] [71, x1, x2, x3, x4] μ))) else At cr2 d 255 4 [] [0, 0, 0, 0, 0] μ) := (At_eq cr2 d 255 1 _ _ _).trans rfl
set_option maxRecDepth 20000 in
theorem B255_2 (d : Nat) (x1 x2 x3 x4 : Int) (μ : amM) : At cr2 d 255 2 [] [71, x1, x2, x3, x4] μ = At cr2 d 255 3 [] [71, x1, x2, (w32 (x3 + 1)), x4] μ := (At_eq cr2 d 255 2 _ _ _).trans rfl
set_option maxRecDepth 20000 in
theorem B255_3 (d : Nat) (x1 x2 x3 x4 : Int) (μ : amM) : At cr2 d 255 3 [] [71, x1, x2, x3, x4] μ = At cr2 d 255 1 [] [71, x1, x2, x3, (w32 (x4 + 1))] μ := (At_eq cr2 d 255 3 _ _ _).trans rfl
set_option maxRecDepth 20000 in
theorem B255_4 (d : Nat) (μ : amM) : At cr2 d 255 4 [] [0, 0, 0, 0, 0] μ = some ((-1), μ) := (At_eq cr2 d 255 4 _ _ _).trans rfl
set_option maxRecDepth 20000 in
theorem B256_0 (d : Nat) (x1 : Int) (μ : amM) : At cr2 d 256 0 [] [71, x1, 0, 0, 0] μ = bnd (RD cr2 d 249 [x1] μ) (fun v1 μ1 => (if v1 = 0 then bnd (RD cr2 d 150 [71, 1] μ1) (fun v2 μ2 => some (v2, μ2)) else At cr2 d 256 1 [] [71, x1, 0, 0, 0] μ1)) := (At_eq cr2 d 256 0 _ _ _).trans rfl
set_option maxRecDepth 20000 in
theorem B256_1 (d : Nat) (x1 : Int) (μ : amM) : At cr2 d 256 1 [] [71, x1, 0, 0, 0] μ = rd 91 4 μ x1 (fun v1 => (if v1 = 0 then bnd (RD cr2 d 150 [71, 2] μ) (fun v2 μ1 => some (v2, μ1)) else At cr2 d 256 2 [] [71, x1, 0, 0, 0] μ)) := (At_eq cr2 d 256 1 _ _ _).trans rfl
set_option maxRecDepth 20000 in
theorem B256_2 (d : Nat) (x1 : Int) (μ : amM) : At cr2 d 256 2 [] [71, x1, 0, 0, 0] μ = At cr2 d 256 3 [] [71, x1, 0, 1, 0] μ := (At_eq cr2 d 256 2 _ _ _).trans rfl
set_option maxRecDepth 20000 in
theorem B256_3 (d : Nat) (x1 x2 x3 : Int) (μ : amM) : At cr2 d 256 3 [] [71, x1, x2, x3, 0] μ = rd 92 4 μ x1 (fun v1 => (if x2 < v1 then (if x3 = 0 then At cr2 d 256 8 [] [0, 0, x2, 0, 0] μ else rd 93 256 μ (w32 ((w32 (64 * x1)) + x2)) (fun v2 => bnd (RD cr2 d 154 [71, x2] μ) (fun v3 μ1 => (if v3 = 0 then At cr2 d 256 4 [] [71, x1, x2, 0, 0] μ1 else bnd (RD cr2 d 151 [v2, 0, 80] μ1) (fun v4 μ2 => (if v4 = 0 then At cr2 d 256 4 [] [71, x1, x2, 0, 0] μ2 else bnd (RD cr2 d 155 [71, x2] μ2) (fun v5 μ3 => (if v5 = 0 then At cr2 d 256 4 [] [71, x1, x2, 0, 0] μ3 else bnd (RD cr2 d 189 [71, x2, 0, v2] μ3) (fun v6 μ4 => (if v6 = 0 then At cr2 d 256 4 [] [71, x1, x2, 0, 0] μ4 else At cr2 d 256 5 [1] [71, x1, x2, 0, 0] μ4)))))))))) else At cr2 d 256 8 [] [0, 0, x2, 0, 0] μ)) := (At_eq cr2 d 256 3 _ _ _).trans rfl
set_option maxRecDepth 20000 in
theorem B256_4 (d : Nat) (x1 x2 : Int) (μ : amM) : At cr2 d 256 4 [] [71, x1, x2, 0, 0] μ = At cr2 d 256 5 [0] [71, x1, x2, 0, 0] μ := (At_eq cr2 d 256 4 _ _ _).trans rfl
set_option maxRecDepth 20000 in
theorem B256_5 (d : Nat) (s0 x1 x2 : Int) (μ : amM) : At cr2 d 256 5 [s0] [71, x1, x2, 0, 0] μ = (if s0 = 0 then At cr2 d 256 6 [x2] [71, x1, 0, s0, 0] μ else At cr2 d 256 7 [1, x2] [71, x1, 0, s0, 0] μ) := (At_eq cr2 d 256 5 _ _ _).trans rfl
set_option maxRecDepth 20000 in
theorem B256_6 (d : Nat) (s0 x1 x3 : Int) (μ : amM) : At cr2 d 256 6 [s0] [71, x1, 0, x3, 0] μ = At cr2 d 256 7 [0, s0] [71, x1, 0, x3, 0] μ := (At_eq cr2 d 256 6 _ _ _).trans rfl
set_option maxRecDepth 20000 in
theorem B256_7 (d : Nat) (s0 s1 x1 x3 : Int) (μ : amM) : At cr2 d 256 7 [s0, s1] [71, x1, 0, x3, 0] μ = At cr2 d 256 3 [] [71, x1, (w32 (s1 + s0)), x3, 0] μ := (At_eq cr2 d 256 7 _ _ _).trans rfl
set_option maxRecDepth 20000 in
theorem B256_8 (d : Nat) (x2 : Int) (μ : amM) : At cr2 d 256 8 [] [0, 0, x2, 0, 0] μ = some (x2, μ) := (At_eq cr2 d 256 8 _ _ _).trans rfl
set_option maxRecDepth 20000 in
theorem B257_0 (d : Nat) (x1 x2 : Int) (μ : amM) : At cr2 d 257 0 [] [71, x1, x2, 0, 0] μ = At cr2 d 257 1 [] [71, x1, x2, 0, 0] μ := (At_eq cr2 d 257 0 _ _ _).trans rfl
set_option maxRecDepth 20000 in
theorem B257_1 (d : Nat) (x1 x2 x3 x4 : Int) (μ : amM) : At cr2 d 257 1 [] [71, x1, x2, x3, x4] μ = (if x4 < 4 then (if x3 = 0 then bnd (RD cr2 d 155 [71, x1] μ) (fun v1 μ1 => (if v1 = 0 then bnd (RD cr2 d 157 [71, x1, x4] μ1) (fun v2 μ2 => (if v2 = 3 then At cr2 d 257 2 [] [71, x1, x2, 0, x4] μ2 else At cr2 d 257 3 [] [71, x1, x2, 0, x4] μ2)) else At cr2 d 257 3 [] [71, x1, x2, 0, x4] μ1)) else At cr2 d 257 2 [] [71, x1, x2, 0, x4] μ) else At cr2 d 257 5 [] [71, x1, x2, x3, 0] μ) := (At_eq cr2 d 257 1 _ _ _).trans rfl
set_option maxRecDepth 20000 in
theorem B257_2 (d : Nat) (x1 x2 x4 : Int) (μ : amM) : At cr2 d 257 2 [] [71, x1, x2, 0, x4] μ = At cr2 d 257 4 [1] [71, x1, x2, 0, x4] μ := (At_eq cr2 d 257 2 _ _ _).trans rfl
set_option maxRecDepth 20000 in
theorem B257_3 (d : Nat) (x1 x2 x4 : Int) (μ : amM) : At cr2 d 257 3 [] [71, x1, x2, 0, x4] μ = At cr2 d 257 4 [0] [71, x1, x2, 0, x4] μ := (At_eq cr2 d 257 3 _ _ _).trans rfl
set_option maxRecDepth 20000 in
theorem B257_4 (d : Nat) (s0 x1 x2 x4 : Int) (μ : amM) : At cr2 d 257 4 [s0] [71, x1, x2, 0, x4] μ = At cr2 d 257 1 [] [71, x1, x2, s0, (w32 (x4 + 1))] μ := (At_eq cr2 d 257 4 _ _ _).trans rfl
set_option maxRecDepth 20000 in
theorem B257_5 (d : Nat) (x1 x2 x3 : Int) (μ : amM) : At cr2 d 257 5 [] [71, x1, x2, x3, 0] μ = bnd (RD cr2 d 155 [71, x1] μ) (fun v1 μ1 => (if v1 = 0 then At cr2 d 257 7 [] [71, x1, x2, x3, 0] μ1 else (if x2 = (-1) then At cr2 d 257 9 [1] [0, 0, 0, 0, 0] μ1 else At cr2 d 257 6 [] [0, 0, 0, 0, 0] μ1))) := (At_eq cr2 d 257 5 _ _ _).trans rfl
set_option maxRecDepth 20000 in
theorem B257_6 (d : Nat) (μ : amM) : At cr2 d 257 6 [] [0, 0, 0, 0, 0] μ = At cr2 d 257 9 [0] [0, 0, 0, 0, 0] μ := (At_eq cr2 d 257 6 _ _ _).trans rfl
set_option maxRecDepth 20000 in
theorem B257_7 (d : Nat) (x1 x2 x3 : Int) (μ : amM) : At cr2 d 257 7 [] [71, x1, x2, x3, 0] μ = (if x3 = 0 then bnd (RD cr2 d 191 [71, x1] μ) (fun v1 μ1 => (if v1 = x2 then At cr2 d 257 9 [1] [0, 0, 0, 0, 0] μ1 else At cr2 d 257 8 [] [0, 0, 0, 0, 0] μ1)) else At cr2 d 257 8 [] [0, 0, 0, 0, 0] μ) := (At_eq cr2 d 257 7 _ _ _).trans rfl
set_option maxRecDepth 20000 in
theorem B257_8 (d : Nat) (μ : amM) : At cr2 d 257 8 [] [0, 0, 0, 0, 0] μ = At cr2 d 257 9 [0] [0, 0, 0, 0, 0] μ := (At_eq cr2 d 257 8 _ _ _).trans rfl
set_option maxRecDepth 20000 in
theorem B257_9 (d : Nat) (s0 : Int) (μ : amM) : At cr2 d 257 9 [s0] [0, 0, 0, 0, 0] μ = rb s0 μ := (At_eq cr2 d 257 9 _ _ _).trans rfl
set_option maxRecDepth 20000 in
theorem B258_0 (d : Nat) (x1 : Int) (μ : amM) : At cr2 d 258 0 [] [71, x1, 0] μ = bnd (RD cr2 d 249 [x1] μ) (fun v1 μ1 => (if v1 = 0 then bnd (RD cr2 d 150 [71, 1] μ1) (fun v2 μ2 => some (v2, μ2)) else At cr2 d 258 1 [] [71, x1, 0] μ1)) := (At_eq cr2 d 258 0 _ _ _).trans rfl
set_option maxRecDepth 20000 in
theorem B258_1 (d : Nat) (x1 : Int) (μ : amM) : At cr2 d 258 1 [] [71, x1, 0] μ = rd 91 4 μ x1 (fun v1 => (if v1 = 0 then bnd (RD cr2 d 150 [71, 2] μ) (fun v2 μ1 => some (v2, μ1)) else At cr2 d 258 2 [] [71, x1, 0] μ)) := (At_eq cr2 d 258 1 _ _ _).trans rfl
set_option maxRecDepth 20000 in
theorem B258_2 (d : Nat) (x1 : Int) (μ : amM) : At cr2 d 258 2 [] [71, x1, 0] μ = At cr2 d 258 3 [] [71, x1, 0] μ := (At_eq cr2 d 258 2 _ _ _).trans rfl
set_option maxRecDepth 20000 in
theorem B258_3 (d : Nat) (x1 x2 : Int) (μ : amM) : At cr2 d 258 3 [] [71, x1, x2] μ = rd 92 4 μ x1 (fun v1 => (if x2 < v1 then bnd (RD cr2 d 153 [71] μ) (fun v2 μ1 => (if x2 < v2 then rd 93 256 μ1 (w32 ((w32 (64 * x1)) + x2)) (fun v3 => bnd (RD cr2 d 257 [71, x2, v3] μ1) (fun v4 μ2 => (if v4 = 0 then At cr2 d 258 4 [] [71, x1, x2] μ2 else At cr2 d 258 3 [] [71, x1, (w32 (x2 + 1))] μ2))) else At cr2 d 258 4 [] [71, x1, x2] μ1)) else At cr2 d 258 4 [] [71, x1, x2] μ)) := (At_eq cr2 d 258 3 _ _ _).trans rfl
set_option maxRecDepth 20000 in
theorem B258_4 (d : Nat) (x1 x2 : Int) (μ : amM) : At cr2 d 258 4 [] [71, x1, x2] μ = rd 92 4 μ x1 (fun v1 => (if x2 = v1 then bnd (RD cr2 d 153 [71] μ) (fun v2 μ1 => (if x2 = v2 then At cr2 d 258 6 [(-1)] [0, 0, 0] μ1 else At cr2 d 258 5 [] [0, 0, x2] μ1)) else At cr2 d 258 5 [] [0, 0, x2] μ)) := (At_eq cr2 d 258 4 _ _ _).trans rfl
set_option maxRecDepth 20000 in
theorem B258_5 (d : Nat) (x2 : Int) (μ : amM) : At cr2 d 258 5 [] [0, 0, x2] μ = At cr2 d 258 6 [x2] [0, 0, 0] μ := (At_eq cr2 d 258 5 _ _ _).trans rfl
set_option maxRecDepth 20000 in
theorem B258_6 (d : Nat) (s0 : Int) (μ : amM) : At cr2 d 258 6 [s0] [0, 0, 0] μ = some (s0, μ) := (At_eq cr2 d 258 6 _ _ _).trans rfl
set_option maxRecDepth 20000 in
theorem B259_0 (d : Nat) (μ : amM) : At cr2 d 259 0 [] [71, 0] μ = At cr2 d 259 1 [] [71, 0] μ := (At_eq cr2 d 259 0 _ _ _).trans rfl
set_option maxRecDepth 20000 in
theorem B259_1 (d : Nat) (x1 : Int) (μ : amM) : At cr2 d 259 1 [] [71, x1] μ = (if x1 < 576 then rd 72 576 μ x1 (fun v1 => wr 73 576 μ x1 v1 (fun μ1 => At cr2 d 259 1 [] [71, (w32 (x1 + 1))] μ1)) else At cr2 d 259 2 [] [71, 0] μ) := (At_eq cr2 d 259 1 _ _ _).trans rfl
set_option maxRecDepth 20000 in
theorem B259_2 (d : Nat) (μ : amM) : At cr2 d 259 2 [] [71, 0] μ = wf 71 2 μ (w32 ((μ 71 2) + 1)) (fun μ1 => some ((μ1 71 2), μ1)) := (At_eq cr2 d 259 2 _ _ _).trans rfl
set_option maxRecDepth 20000 in
theorem B260_0 (d : Nat) (μ : amM) : At cr2 d 260 0 [] [71, 0] μ = (if (μ 71 2) = 0 then bnd (RD cr2 d 150 [71, 2] μ) (fun v1 μ1 => some (v1, μ1)) else At cr2 d 260 1 [] [71, 0] μ) := (At_eq cr2 d 260 0 _ _ _).trans rfl
set_option maxRecDepth 20000 in
theorem B260_1 (d : Nat) (μ : amM) : At cr2 d 260 1 [] [71, 0] μ = At cr2 d 260 2 [] [71, 0] μ := (At_eq cr2 d 260 1 _ _ _).trans rfl
set_option maxRecDepth 20000 in
theorem B260_2 (d : Nat) (x1 : Int) (μ : amM) : At cr2 d 260 2 [] [71, x1] μ = (if x1 < 576 then rd 73 576 μ x1 (fun v1 => wr 72 576 μ x1 v1 (fun μ1 => At cr2 d 260 2 [] [71, (w32 (x1 + 1))] μ1)) else At cr2 d 260 3 [] [71, 0] μ) := (At_eq cr2 d 260 2 _ _ _).trans rfl
set_option maxRecDepth 20000 in
theorem B260_3 (d : Nat) (μ : amM) : At cr2 d 260 3 [] [71, 0] μ = some ((μ 72 5), μ) := (At_eq cr2 d 260 3 _ _ _).trans rfl
set_option maxRecDepth 20000 in
theorem B261_0 (d : Nat) (x1 : Int) (μ : amM) : At cr2 d 261 0 [] [71, x1] μ = (if (μ 72 9) = 20 then bnd (RD cr2 d 150 [71, 4] μ) (fun v2 μ1 => some (v2, μ1)) else At cr2 d 261 1 [] [71, x1] μ) := (At_eq cr2 d 261 0 _ _ _).trans rfl
set_option maxRecDepth 20000 in
theorem B261_1 (d : Nat) (x1 : Int) (μ : amM) : At cr2 d 261 1 [] [71, x1] μ = wr 72 576 μ (w32 (406 + (μ 72 9))) x1 (fun μ1 => wf 72 9 μ1 (w32 ((μ1 72 9) + 1)) (fun μ2 => some ((μ2 72 9), μ2))) := (At_eq cr2 d 261 1 _ _ _).trans rfl
set_option maxRecDepth 20000 in
theorem B262_0 (d : Nat) (μ : amM) : At cr2 d 262 0 [] [71, 0, 0] μ = wf 72 9 μ 0 (fun μ1 => bnd (RD cr2 d 175 [71] μ1) (fun _ μ2 => At cr2 d 262 1 [] [71, (μ 72 9), 0] μ2)) := (At_eq cr2 d 262 0 _ _ _).trans rfl
set_option maxRecDepth 20000 in
theorem B262_1 (d : Nat) (x1 x2 : Int) (μ : amM) : At cr2 d 262 1 [] [71, x1, x2] μ = (if x2 < x1 then bnd (RD cr2 d 154 [71, x2] μ) (fun v1 μ1 => (if v1 = 0 then At cr2 d 262 2 [] [0, 0, x2] μ1 else rd 72 576 μ1 (w32 (406 + x2)) (fun v2 => bnd (RD cr2 d 203 [71, x2] μ1) (fun v3 μ2 => (if v2 = v3 then At cr2 d 262 3 [] [71, x1, x2] μ2 else At cr2 d 262 2 [] [0, 0, x2] μ2))))) else At cr2 d 262 4 [] [0, 0, 0] μ) := (At_eq cr2 d 262 1 _ _ _).trans rfl
set_option maxRecDepth 20000 in
theorem B262_2 (d : Nat) (x2 : Int) (μ : amM) : At cr2 d 262 2 [] [0, 0, x2] μ = some ((w32 (1 + x2)), μ) := (At_eq cr2 d 262 2 _ _ _).trans rfl
set_option maxRecDepth 20000 in
theorem B262_3 (d : Nat) (x1 x2 : Int) (μ : amM) : At cr2 d 262 3 [] [71, x1, x2] μ = At cr2 d 262 1 [] [71, x1, (w32 (x2 + 1))] μ := (At_eq cr2 d 262 3 _ _ _).trans rfl
set_option maxRecDepth 20000 in
theorem B262_4 (d : Nat) (μ : amM) : At cr2 d 262 4 [] [0, 0, 0] μ = some (0, μ) := (At_eq cr2 d 262 4 _ _ _).trans rfl
set_option maxRecDepth 20000 in
theorem B263_0 (d : Nat) (x1 : Int) (μ : amM) : At cr2 d 263 0 [] [71, x1] μ = (if x1 = 0 then At cr2 d 263 1 [] [71, 0] μ else if x1 = 1 then At cr2 d 263 2 [] [71, 0] μ else if x1 = 2 then At cr2 d 263 3 [] [71, 0] μ else if x1 = 3 then At cr2 d 263 4 [] [71, 0] μ else if x1 = 4 then At cr2 d 263 5 [] [71, 0] μ else if x1 = 5 then At cr2 d 263 6 [] [71, 0] μ else if x1 = 6 then At cr2 d 263 7 [] [71, 0] μ else if x1 = 7 then At cr2 d 263 8 [] [71, 0] μ else if x1 = 8 then At cr2 d 263 9 [] [71, 0] μ else if x1 = 9 then At cr2 d 263 10 [] [71, 0] μ else if x1 = 10 then At cr2 d 263 11 [] [71, 0] μ else if x1 = 11 then At cr2 d 263 12 [] [71, 0] μ else At cr2 d 263 13 [] [71, 0] μ) := (At_eq cr2 d 263 0 _ _ _).trans rfl
set_option maxRecDepth 20000 in
theorem B263_1 (d : Nat) (μ : amM) : At cr2 d 263 1 [] [71, 0] μ = some ((μ 72 0), μ) := (At_eq cr2 d 263 1 _ _ _).trans rfl
set_option maxRecDepth 20000 in
theorem B263_2 (d : Nat) (μ : amM) : At cr2 d 263 2 [] [71, 0] μ = some ((μ 72 1), μ) := (At_eq cr2 d 263 2 _ _ _).trans rfl
set_option maxRecDepth 20000 in
theorem B263_3 (d : Nat) (μ : amM) : At cr2 d 263 3 [] [71, 0] μ = some ((μ 72 2), μ) := (At_eq cr2 d 263 3 _ _ _).trans rfl
set_option maxRecDepth 20000 in
theorem B263_4 (d : Nat) (μ : amM) : At cr2 d 263 4 [] [71, 0] μ = some ((μ 72 3), μ) := (At_eq cr2 d 263 4 _ _ _).trans rfl
set_option maxRecDepth 20000 in
theorem B263_5 (d : Nat) (μ : amM) : At cr2 d 263 5 [] [71, 0] μ = some ((μ 72 4), μ) := (At_eq cr2 d 263 5 _ _ _).trans rfl
set_option maxRecDepth 20000 in
theorem B263_6 (d : Nat) (μ : amM) : At cr2 d 263 6 [] [71, 0] μ = bnd (RD cr2 d 184 [71] μ) (fun v1 μ1 => some (v1, μ1)) := (At_eq cr2 d 263 6 _ _ _).trans rfl
set_option maxRecDepth 20000 in
theorem B263_7 (d : Nat) (μ : amM) : At cr2 d 263 7 [] [71, 0] μ = some ((μ 72 5), μ) := (At_eq cr2 d 263 7 _ _ _).trans rfl
set_option maxRecDepth 20000 in
theorem B263_8 (d : Nat) (μ : amM) : At cr2 d 263 8 [] [71, 0] μ = some ((μ 72 6), μ) := (At_eq cr2 d 263 8 _ _ _).trans rfl
set_option maxRecDepth 20000 in
theorem B263_9 (d : Nat) (μ : amM) : At cr2 d 263 9 [] [71, 0] μ = some ((μ 72 8), μ) := (At_eq cr2 d 263 9 _ _ _).trans rfl
set_option maxRecDepth 20000 in
theorem B263_10 (d : Nat) (μ : amM) : At cr2 d 263 10 [] [71, 0] μ = some ((μ 72 9), μ) := (At_eq cr2 d 263 10 _ _ _).trans rfl
set_option maxRecDepth 20000 in
theorem B263_11 (d : Nat) (μ : amM) : At cr2 d 263 11 [] [71, 0] μ = some ((μ 71 33), μ) := (At_eq cr2 d 263 11 _ _ _).trans rfl
set_option maxRecDepth 20000 in
theorem B263_12 (d : Nat) (μ : amM) : At cr2 d 263 12 [] [71, 0] μ = some ((μ 72 7), μ) := (At_eq cr2 d 263 12 _ _ _).trans rfl
set_option maxRecDepth 20000 in
theorem B263_13 (d : Nat) (μ : amM) : At cr2 d 263 13 [] [71, 0] μ = bnd (RD cr2 d 150 [71, 1] μ) (fun v1 μ1 => some (v1, μ1)) := (At_eq cr2 d 263 13 _ _ _).trans rfl
set_option maxRecDepth 20000 in
theorem B264_0 (d : Nat) (x1 : Int) (μ : amM) : At cr2 d 264 0 [] [71, x1] μ = bnd (RD cr2 d 151 [x1, 1, 5] μ) (fun v1 μ1 => (if v1 = 0 then At cr2 d 264 1 [] [71, 0] μ1 else rd 74 6 μ1 x1 (fun v2 => At cr2 d 264 2 [v2] [0, 0] μ1))) := (At_eq cr2 d 264 0 _ _ _).trans rfl
set_option maxRecDepth 20000 in
theorem B264_1 (d : Nat) (μ : amM) : At cr2 d 264 1 [] [71, 0] μ = bnd (RD cr2 d 150 [71, 1] μ) (fun v1 μ1 => At cr2 d 264 2 [v1] [0, 0] μ1) := (At_eq cr2 d 264 1 _ _ _).trans rfl
set_option maxRecDepth 20000 in
theorem B264_2 (d : Nat) (s0 : Int) (μ : amM) : At cr2 d 264 2 [s0] [0, 0] μ = some (s0, μ) := (At_eq cr2 d 264 2 _ _ _).trans rfl
set_option maxRecDepth 20000 in
theorem B265_0 (d : Nat) (x0 : Int) (μ : amM) : At cr2 d 265 0 [] [x0] μ = some ((bAnd (w32 ((w32 ((bAnd (w32 ((w32 ((bAnd (w32 (x0 - (bAnd (bUshr x0 1) 1431655765))) 858993459) + (bAnd (bUshr (w32 (x0 - (bAnd (bUshr x0 1) 1431655765))) 2) 858993459))) + (bUshr (w32 ((bAnd (w32 (x0 - (bAnd (bUshr x0 1) 1431655765))) 858993459) + (bAnd (bUshr (w32 (x0 - (bAnd (bUshr x0 1) 1431655765))) 2) 858993459))) 4))) 252645135) + (bUshr (bAnd (w32 ((w32 ((bAnd (w32 (x0 - (bAnd (bUshr x0 1) 1431655765))) 858993459) + (bAnd (bUshr (w32 (x0 - (bAnd (bUshr x0 1) 1431655765))) 2) 858993459))) + (bUshr (w32 ((bAnd (w32 (x0 - (bAnd (bUshr x0 1) 1431655765))) 858993459) + (bAnd (bUshr (w32 (x0 - (bAnd (bUshr x0 1) 1431655765))) 2) 858993459))) 4))) 252645135) 8))) + (bUshr (w32 ((bAnd (w32 ((w32 ((bAnd (w32 (x0 - (bAnd (bUshr x0 1) 1431655765))) 858993459) + (bAnd (bUshr (w32 (x0 - (bAnd (bUshr x0 1) 1431655765))) 2) 858993459))) + (bUshr (w32 ((bAnd (w32 (x0 - (bAnd (bUshr x0 1) 1431655765))) 858993459) + (bAnd (bUshr (w32 (x0 - (bAnd (bUshr x0 1) 1431655765))) 2) 858993459))) 4))) 252645135) + (bUshr (bAnd (w32 ((w32 ((bAnd (w32 (x0 - (bAnd (bUshr x0 1) 1431655765))) 858993459) + (bAnd (bUshr (w32 (x0 - (bAnd (bUshr x0 1) 1431655765))) 2) 858993459))) + (bUshr (w32 ((bAnd (w32 (x0 - (bAnd (bUshr x0 1) 1431655765))) 858993459) + (bAnd (bUshr (w32 (x0 - (bAnd (bUshr x0 1) 1431655765))) 2) 858993459))) 4))) 252645135) 8))) 16))) 63), μ) := (At_eq cr2 d 265 0 _ _ _).trans rfl
set_option maxRecDepth 20000 in
theorem B266_0 (d : Nat) (x0 x1 : Int) (μ : amM) : At cr2 d 266 0 [] [x0, x1] μ = (if x0 < x1 then At cr2 d 266 1 [] [0, x1] μ else At cr2 d 266 2 [x0] [0, 0] μ) := (At_eq cr2 d 266 0 _ _ _).trans rfl
set_option maxRecDepth 20000 in
theorem B266_1 (d : Nat) (x1 : Int) (μ : amM) : At cr2 d 266 1 [] [0, x1] μ = At cr2 d 266 2 [x1] [0, 0] μ := (At_eq cr2 d 266 1 _ _ _).trans rfl
set_option maxRecDepth 20000 in
theorem B266_2 (d : Nat) (s0 : Int) (μ : amM) : At cr2 d 266 2 [s0] [0, 0] μ = some (s0, μ) := (At_eq cr2 d 266 2 _ _ _).trans rfl
set_option maxRecDepth 20000 in
theorem B267_0 (d : Nat) (x0 x1 : Int) (μ : amM) : At cr2 d 267 0 [] [x0, x1] μ = (if x1 < x0 then At cr2 d 267 1 [] [0, x1] μ else At cr2 d 267 2 [x0] [0, 0] μ) := (At_eq cr2 d 267 0 _ _ _).trans rfl
set_option maxRecDepth 20000 in
theorem B267_1 (d : Nat) (x1 : Int) (μ : amM) : At cr2 d 267 1 [] [0, x1] μ = At cr2 d 267 2 [x1] [0, 0] μ := (At_eq cr2 d 267 1 _ _ _).trans rfl
set_option maxRecDepth 20000 in
theorem B267_2 (d : Nat) (s0 : Int) (μ : amM) : At cr2 d 267 2 [s0] [0, 0] μ = some (s0, μ) := (At_eq cr2 d 267 2 _ _ _).trans rfl
set_option maxRecDepth 20000 in
theorem B268_1 (d : Nat) (x3 : Int) (μ : amM) : At cr2 d 268 1 [] [302, 0, 71, x3] μ = (if (w32 ((μ 302 0) - 6)) < x3 then At cr2 d 268 45 [] [0, 0, 0, 0] μ else amAld μ 302 x3 (fun v1 => (if (bAnd v1 63) = 0 then At cr2 d 268 2 [] [302, 0, 71, x3] μ else if (bAnd v1 63) = 1 then At cr2 d 268 3 [] [302, 0, 71, x3] μ else if (bAnd v1 63) = 2 then At cr2 d 268 4 [] [302, 0, 71, x3] μ else if (bAnd v1 63) = 3 then At cr2 d 268 5 [] [302, 0, 71, x3] μ else if (bAnd v1 63) = 4 then At cr2 d 268 6 [] [302, 0, 71, x3] μ else if (bAnd v1 63) = 5 then At cr2 d 268 7 [] [302, 0, 71, x3] μ else if (bAnd v1 63) = 6 then At cr2 d 268 8 [] [302, 0, 71, x3] μ else if (bAnd v1 63) = 7 then At cr2 d 268 9 [] [302, 0, 71, x3] μ else if (bAnd v1 63) = 8 then At cr2 d 268 10 [] [302, 0, 71, x3] μ else if (bAnd v1 63) = 9 then At cr2 d 268 11 [] [302, 0, 71, x3] μ else if (bAnd v1 63) = 10 then At cr2 d 268 12 [] [302, 0, 71, x3] μ else if (bAnd v1 63) = 11 then At cr2 d 268 13 [] [302, 0, 71, x3] μ else if (bAnd v1 63) = 12 then At cr2 d 268 14 [] [302, 0, 71, x3] μ else if (bAnd v1 63) = 13 then At cr2 d 268 15 [] [302, 0, 71, x3] μ else if (bAnd v1 63) = 14 then At cr2 d 268 16 [] [302, 0, 71, x3] μ else if (bAnd v1 63) = 15 then At cr2 d 268 17 [] [302, 0, 71, x3] μ else if (bAnd v1 63) = 16 then At cr2 d 268 18 [] [302, 0, 71, x3] μ else if (bAnd v1 63) = 17 then At cr2 d 268 19 [] [302, 0, 71, x3] μ else if (bAnd v1 63) = 18 then At cr2 d 268 20 [] [302, 0, 71, x3] μ else if (bAnd v1 63) = 19 then At cr2 d 268 21 [] [302, 0, 71, x3] μ else if (bAnd v1 63) = 20 then At cr2 d 268 22 [] [302, 0, 71, x3] μ else if (bAnd v1 63) = 21 then At cr2 d 268 23 [] [302, 0, 71, x3] μ else if (bAnd v1 63) = 22 then At cr2 d 268 24 [] [302, 0, 71, x3] μ else if (bAnd v1 63) = 23 then At cr2 d 268 25 [] [302, 0, 71, x3] μ else if (bAnd v1 63) = 24 then At cr2 d 268 26 [] [302, 0, 71, x3] μ else if (bAnd v1 63) = 25 then At cr2 d 268 27 [] [302, 0, 71, x3] μ else if (bAnd v1 63) = 26 then At cr2 d 268 28 [] [302, 0, 71, x3] μ else if (bAnd v1 63) = 27 then At cr2 d 268 29 [] [302, 0, 71, x3] μ else if (bAnd v1 63) = 28 then At cr2 d 268 30 [] [302, 0, 71, x3] μ else if (bAnd v1 63) = 29 then At cr2 d 268 31 [] [302, 0, 71, x3] μ else if (bAnd v1 63) = 30 then At cr2 d 268 32 [] [302, 0, 71, x3] μ else if (bAnd v1 63) = 31 then At cr2 d 268 33 [] [302, 0, 71, x3] μ else if (bAnd v1 63) = 32 then At cr2 d 268 34 [] [302, 0, 71, x3] μ else if (bAnd v1 63) = 33 then At cr2 d 268 35 [] [302, 0, 71, x3] μ else if (bAnd v1 63) = 34 then At cr2 d 268 36 [] [302, 0, 71, x3] μ else if (bAnd v1 63) = 35 then At cr2 d 268 37 [] [302, 0, 71, x3] μ else if (bAnd v1 63) = 36 then At cr2 d 268 38 [] [302, 0, 71, x3] μ else if (bAnd v1 63) = 37 then At cr2 d 268 39 [] [302, 0, 71, x3] μ else if (bAnd v1 63) = 38 then At cr2 d 268 40 [] [302, 0, 71, x3] μ else if (bAnd v1 63) = 39 then At cr2 d 268 41 [] [302, 0, 71, x3] μ else if (bAnd v1 63) = 40 then At cr2 d 268 42 [] [302, 0, 71, x3] μ else if (bAnd v1 63) = 41 then At cr2 d 268 43 [] [302, 0, 71, x3] μ else At cr2 d 268 44 [] [302, 0, 71, x3] μ))) := (At_eq cr2 d 268 1 _ _ _).trans rfl
set_option maxRecDepth 20000 in
theorem B268_2 (d : Nat) (x3 : Int) (μ : amM) : At cr2 d 268 2 [] [302, 0, 71, x3] μ = amAld μ 302 (w32 (x3 + 1)) (fun v1 => amAld μ 302 (w32 (x3 + 2)) (fun v2 => amAld μ 302 (w32 (x3 + 3)) (fun v3 => bnd (RD cr2 d 99 [0, v1, v2, v3] μ) (fun v4 μ1 => amAld μ1 302 (w32 (x3 + 1)) (fun v5 => amAld μ1 302 (w32 (x3 + 2)) (fun v6 => amAld μ1 302 (w32 (x3 + 3)) (fun v7 => bnd (RD cr2 d 187 [71, v5, v6, v7] μ1) (fun v8 μ2 => (if v4 = v8 then At cr2 d 268 44 [] [302, 0, 71, x3] μ2 else some (0, μ2)))))))))) := (At_eq cr2 d 268 2 _ _ _).trans rfl
set_option maxRecDepth 20000 in
theorem B268_3 (d : Nat) (x3 : Int) (μ : amM) : At cr2 d 268 3 [] [302, 0, 71, x3] μ = amAld μ 302 (w32 (x3 + 1)) (fun v1 => amAld μ 302 (w32 (x3 + 2)) (fun v2 => bnd (RD cr2 d 100 [0, v1, v2] μ) (fun v3 μ1 => amAld μ1 302 (w32 (x3 + 1)) (fun v4 => amAld μ1 302 (w32 (x3 + 2)) (fun v5 => bnd (RD cr2 d 188 [71, v4, v5] μ1) (fun v6 μ2 => (if v3 = v6 then At cr2 d 268 44 [] [302, 0, 71, x3] μ2 else some (0, μ2)))))))) := (At_eq cr2 d 268 3 _ _ _).trans rfl
set_option maxRecDepth 20000 in
theorem B268_4 (d : Nat) (x3 : Int) (μ : amM) : At cr2 d 268 4 [] [302, 0, 71, x3] μ = amAld μ 302 (w32 (x3 + 1)) (fun v1 => amAld μ 302 (w32 (x3 + 2)) (fun v2 => amAld μ 302 (w32 (x3 + 3)) (fun v3 => bnd (RD cr2 d 101 [0, v1, v2, v3] μ) (fun v4 μ1 => amAld μ1 302 (w32 (x3 + 1)) (fun v5 => amAld μ1 302 (w32 (x3 + 2)) (fun v6 => amAld μ1 302 (w32 (x3 + 3)) (fun v7 => bnd (RD cr2 d 190 [71, v5, v6, v7] μ1) (fun v8 μ2 => (if v4 = v8 then At cr2 d 268 44 [] [302, 0, 71, x3] μ2 else some (0, μ2)))))))))) := (At_eq cr2 d 268 4 _ _ _).trans rfl
set_option maxRecDepth 20000 in
theorem B268_5 (d : Nat) (x3 : Int) (μ : amM) : At cr2 d 268 5 [] [302, 0, 71, x3] μ = amAld μ 302 (w32 (x3 + 1)) (fun v1 => bnd (RD cr2 d 102 [0, v1] μ) (fun v2 μ1 => amAld μ1 302 (w32 (x3 + 1)) (fun v3 => bnd (RD cr2 d 192 [71, v3] μ1) (fun v4 μ2 => (if v2 = v4 then At cr2 d 268 44 [] [302, 0, 71, x3] μ2 else some (0, μ2)))))) := (At_eq cr2 d 268 5 _ _ _).trans rfl
set_option maxRecDepth 20000 in
theorem B268_6 (d : Nat) (x3 : Int) (μ : amM) : At cr2 d 268 6 [] [302, 0, 71, x3] μ = amAld μ 302 (w32 (x3 + 1)) (fun v1 => amAld μ 302 (w32 (x3 + 2)) (fun v2 => bnd (RD cr2 d 103 [0, v1, v2] μ) (fun v3 μ1 => amAld μ1 302 (w32 (x3 + 1)) (fun v4 => amAld μ1 302 (w32 (x3 + 2)) (fun v5 => bnd (RD cr2 d 193 [71, v4, v5] μ1) (fun v6 μ2 => (if v3 = v6 then At cr2 d 268 44 [] [302, 0, 71, x3] μ2 else some (0, μ2)))))))) := (At_eq cr2 d 268 6 _ _ _).trans rfl
set_option maxRecDepth 20000 in
theorem B268_7 (d : Nat) (x3 : Int) (μ : amM) : At cr2 d 268 7 [] [302, 0, 71, x3] μ = amAld μ 302 (w32 (x3 + 1)) (fun v1 => amAld μ 302 (w32 (x3 + 2)) (fun v2 => bnd (RD cr2 d 104 [0, v1, v2] μ) (fun v3 μ1 => amAld μ1 302 (w32 (x3 + 1)) (fun v4 => amAld μ1 302 (w32 (x3 + 2)) (fun v5 => bnd (RD cr2 d 194 [71, v4, v5] μ1) (fun v6 μ2 => (if v3 = v6 then At cr2 d 268 44 [] [302, 0, 71, x3] μ2 else some (0, μ2)))))))) := (At_eq cr2 d 268 7 _ _ _).trans rfl
set_option maxRecDepth 20000 in
theorem B268_8 (d : Nat) (x3 : Int) (μ : amM) : At cr2 d 268 8 [] [302, 0, 71, x3] μ = amAld μ 302 (w32 (x3 + 1)) (fun v1 => amAld μ 302 (w32 (x3 + 2)) (fun v2 => bnd (RD cr2 d 105 [0, v1, v2] μ) (fun v3 μ1 => amAld μ1 302 (w32 (x3 + 1)) (fun v4 => amAld μ1 302 (w32 (x3 + 2)) (fun v5 => bnd (RD cr2 d 196 [71, v4, v5] μ1) (fun v6 μ2 => (if v3 = v6 then At cr2 d 268 44 [] [302, 0, 71, x3] μ2 else some (0, μ2)))))))) := (At_eq cr2 d 268 8 _ _ _).trans rfl
set_option maxRecDepth 20000 in
theorem B268_9 (d : Nat) (x3 : Int) (μ : amM) : At cr2 d 268 9 [] [302, 0, 71, x3] μ = amAld μ 302 (w32 (x3 + 1)) (fun v1 => amAld μ 302 (w32 (x3 + 2)) (fun v2 => amAld μ 302 (w32 (x3 + 3)) (fun v3 => bnd (RD cr2 d 106 [0, v1, v2, v3] μ) (fun v4 μ1 => amAld μ1 302 (w32 (x3 + 1)) (fun v5 => amAld μ1 302 (w32 (x3 + 2)) (fun v6 => amAld μ1 302 (w32 (x3 + 3)) (fun v7 => bnd (RD cr2 d 199 [71, v5, v6, v7] μ1) (fun v8 μ2 => (if v4 = v8 then At cr2 d 268 44 [] [302, 0, 71, x3] μ2 else some (0, μ2)))))))))) := (At_eq cr2 d 268 9 _ _ _).trans rfl
set_option maxRecDepth 20000 in
theorem B268_10 (d : Nat) (x3 : Int) (μ : amM) : At cr2 d 268 10 [] [302, 0, 71, x3] μ = amAld μ 302 (w32 (x3 + 1)) (fun v1 => amAld μ 302 (w32 (x3 + 2)) (fun v2 => bnd (RD cr2 d 107 [0, v1, v2] μ) (fun v3 μ1 => amAld μ1 302 (w32 (x3 + 1)) (fun v4 => amAld μ1 302 (w32 (x3 + 2)) (fun v5 => bnd (RD cr2 d 200 [71, v4, v5] μ1) (fun v6 μ2 => (if v3 = v6 then At cr2 d 268 44 [] [302, 0, 71, x3] μ2 else some (0, μ2)))))))) := (At_eq cr2 d 268 10 _ _ _).trans rfl
set_option maxRecDepth 20000 in
theorem B268_11 (d : Nat) (x3 : Int) (μ : amM) : At cr2 d 268 11 [] [302, 0, 71, x3] μ = amAld μ 302 (w32 (x3 + 1)) (fun v1 => amAld μ 302 (w32 (x3 + 2)) (fun v2 => bnd (RD cr2 d 108 [0, v1, v2] μ) (fun v3 μ1 => amAld μ1 302 (w32 (x3 + 1)) (fun v4 => amAld μ1 302 (w32 (x3 + 2)) (fun v5 => bnd (RD cr2 d 204 [71, v4, v5] μ1) (fun v6 μ2 => (if v3 = v6 then At cr2 d 268 44 [] [302, 0, 71, x3] μ2 else some (0, μ2)))))))) := (At_eq cr2 d 268 11 _ _ _).trans rfl
set_option maxRecDepth 20000 in
theorem B268_12 (d : Nat) (x3 : Int) (μ : amM) : At cr2 d 268 12 [] [302, 0, 71, x3] μ = amAld μ 302 (w32 (x3 + 1)) (fun v1 => bnd (RD cr2 d 109 [0, v1] μ) (fun v2 μ1 => amAld μ1 302 (w32 (x3 + 1)) (fun v3 => bnd (RD cr2 d 205 [71, v3] μ1) (fun v4 μ2 => (if v2 = v4 then At cr2 d 268 44 [] [302, 0, 71, x3] μ2 else some (0, μ2)))))) := (At_eq cr2 d 268 12 _ _ _).trans rfl
set_option maxRecDepth 20000 in
theorem B268_13 (d : Nat) (x3 : Int) (μ : amM) : At cr2 d 268 13 [] [302, 0, 71, x3] μ = amAld μ 302 (w32 (x3 + 1)) (fun v1 => amAld μ 302 (w32 (x3 + 2)) (fun v2 => amAld μ 302 (w32 (x3 + 3)) (fun v3 => bnd (RD cr2 d 110 [0, (lOr (lShl v1 32) (lAnd v2 4294967295)), v3] μ) (fun v4 μ1 => amAld μ1 302 (w32 (x3 + 1)) (fun v5 => amAld μ1 302 (w32 (x3 + 2)) (fun v6 => amAld μ1 302 (w32 (x3 + 3)) (fun v7 => bnd (RD cr2 d 170 [71, (lOr (lShl v5 32) (lAnd v6 4294967295)), v7] μ1) (fun v8 μ2 => (if v4 = v8 then At cr2 d 268 44 [] [302, 0, 71, x3] μ2 else some (0, μ2)))))))))) := (At_eq cr2 d 268 13 _ _ _).trans rfl
set_option maxRecDepth 20000 in
theorem B268_14 (d : Nat) (x3 : Int) (μ : amM) : At cr2 d 268 14 [] [302, 0, 71, x3] μ = amAld μ 302 (w32 (x3 + 1)) (fun v1 => bnd (RD cr2 d 111 [0, v1] μ) (fun v2 μ1 => amAld μ1 302 (w32 (x3 + 1)) (fun v3 => bnd (RD cr2 d 171 [71, v3] μ1) (fun v4 μ2 => (if v2 = v4 then At cr2 d 268 44 [] [302, 0, 71, x3] μ2 else some (0, μ2)))))) := (At_eq cr2 d 268 14 _ _ _).trans rfl
set_option maxRecDepth 20000 in
theorem B268_15 (d : Nat) (x3 : Int) (μ : amM) : At cr2 d 268 15 [] [302, 0, 71, x3] μ = amAld μ 302 (w32 (x3 + 1)) (fun v1 => amAld μ 302 (w32 (x3 + 2)) (fun v2 => amAld μ 302 (w32 (x3 + 3)) (fun v3 => amAld μ 302 (w32 (x3 + 4)) (fun v4 => amAld μ 302 (w32 (x3 + 5)) (fun v5 => bnd (RD cr2 d 112 [0, v1, v2, v3, v4, v5] μ) (fun v6 μ1 => amAld μ1 302 (w32 (x3 + 1)) (fun v7 => amAld μ1 302 (w32 (x3 + 2)) (fun v8 => amAld μ1 302 (w32 (x3 + 3)) (fun v9 => amAld μ1 302 (w32 (x3 + 4)) (fun v10 => amAld μ1 302 (w32 (x3 + 5)) (fun v11 => bnd (RD cr2 d 173 [71, v7, v8, v9, v10, v11] μ1) (fun v12 μ2 => (if v6 = v12 then At cr2 d 268 44 [] [302, 0, 71, x3] μ2 else some (0, μ2)))))))))))))) := (At_eq cr2 d 268 15 _ _ _).trans rfl
set_option maxRecDepth 20000 in
theorem B268_16 (d : Nat) (x3 : Int) (μ : amM) : At cr2 d 268 16 [] [302, 0, 71, x3] μ = amAld μ 302 (w32 (x3 + 1)) (fun v1 => amAld μ 302 (w32 (x3 + 2)) (fun v2 => amAld μ 302 (w32 (x3 + 3)) (fun v3 => amAld μ 302 (w32 (x3 + 4)) (fun v4 => bnd (RD cr2 d 113 [0, v1, v2, v3, v4] μ) (fun v5 μ1 => amAld μ1 302 (w32 (x3 + 1)) (fun v6 => amAld μ1 302 (w32 (x3 + 2)) (fun v7 => amAld μ1 302 (w32 (x3 + 3)) (fun v8 => amAld μ1 302 (w32 (x3 + 4)) (fun v9 => bnd (RD cr2 d 210 [71, v6, v7, v8, v9] μ1) (fun v10 μ2 => (if v5 = v10 then At cr2 d 268 44 [] [302, 0, 71, x3] μ2 else some (0, μ2)))))))))))) := (At_eq cr2 d 268 16 _ _ _).trans rfl
set_option maxRecDepth 20000 in
theorem B268_17 (d : Nat) (x3 : Int) (μ : amM) : At cr2 d 268 17 [] [302, 0, 71, x3] μ = amAld μ 302 (w32 (x3 + 1)) (fun v1 => amAld μ 302 (w32 (x3 + 2)) (fun v2 => amAld μ 302 (w32 (x3 + 3)) (fun v3 => bnd (RD cr2 d 114 [0, v1, v2, v3] μ) (fun v4 μ1 => amAld μ1 302 (w32 (x3 + 1)) (fun v5 => amAld μ1 302 (w32 (x3 + 2)) (fun v6 => amAld μ1 302 (w32 (x3 + 3)) (fun v7 => bnd (RD cr2 d 217 [71, v5, v6, v7] μ1) (fun v8 μ2 => (if v4 = v8 then At cr2 d 268 44 [] [302, 0, 71, x3] μ2 else some (0, μ2)))))))))) := (At_eq cr2 d 268 17 _ _ _).trans rfl
set_option maxRecDepth 20000 in
theorem B268_18 (d : Nat) (x3 : Int) (μ : amM) : At cr2 d 268 18 [] [302, 0, 71, x3] μ = bnd (RD cr2 d 115 [0] μ) (fun v1 μ1 => bnd (RD cr2 d 211 [71] μ1) (fun v2 μ2 => (if v1 = v2 then At cr2 d 268 44 [] [302, 0, 71, x3] μ2 else some (0, μ2)))) := (At_eq cr2 d 268 18 _ _ _).trans rfl
set_option maxRecDepth 20000 in
theorem B268_19 (d : Nat) (x3 : Int) (μ : amM) : At cr2 d 268 19 [] [302, 0, 71, x3] μ = amAld μ 302 (w32 (x3 + 1)) (fun v1 => bnd (RD cr2 d 116 [0, v1] μ) (fun v2 μ1 => amAld μ1 302 (w32 (x3 + 1)) (fun v3 => bnd (RD cr2 d 221 [71, v3] μ1) (fun v4 μ2 => (if (if v2 < v4 then (-1) else if v2 = v4 then 0 else 1) = 0 then At cr2 d 268 44 [] [302, 0, 71, x3] μ2 else some (0, μ2)))))) := (At_eq cr2 d 268 19 _ _ _).trans rfl
set_option maxRecDepth 20000 in
theorem B268_20 (d : Nat) (x3 : Int) (μ : amM) : At cr2 d 268 20 [] [302, 0, 71, x3] μ = amAld μ 302 (w32 (x3 + 1)) (fun v1 => bnd (RD cr2 d 117 [0, v1] μ) (fun v2 μ1 => amAld μ1 302 (w32 (x3 + 1)) (fun v3 => bnd (RD cr2 d 222 [71, v3] μ1) (fun v4 μ2 => (if (if v2 < v4 then (-1) else if v2 = v4 then 0 else 1) = 0 then At cr2 d 268 44 [] [302, 0, 71, x3] μ2 else some (0, μ2)))))) := (At_eq cr2 d 268 20 _ _ _).trans rfl
set_option maxRecDepth 20000 in
theorem B268_21 (d : Nat) (x3 : Int) (μ : amM) : At cr2 d 268 21 [] [302, 0, 71, x3] μ = bnd (RD cr2 d 118 [0] μ) (fun v1 μ1 => bnd (RD cr2 d 226 [71] μ1) (fun v2 μ2 => (if (if v1 < v2 then (-1) else if v1 = v2 then 0 else 1) = 0 then At cr2 d 268 44 [] [302, 0, 71, x3] μ2 else some (0, μ2)))) := (At_eq cr2 d 268 21 _ _ _).trans rfl
set_option maxRecDepth 20000 in
theorem B268_22 (d : Nat) (x3 : Int) (μ : amM) : At cr2 d 268 22 [] [302, 0, 71, x3] μ = amAld μ 302 (w32 (x3 + 1)) (fun v1 => bnd (RD cr2 d 119 [0, v1] μ) (fun v2 μ1 => amAld μ1 302 (w32 (x3 + 1)) (fun v3 => bnd (RD cr2 d 253 [71, v3] μ1) (fun v4 μ2 => (if v2 = v4 then At cr2 d 268 44 [] [302, 0, 71, x3] μ2 else some (0, μ2)))))) := (At_eq cr2 d 268 22 _ _ _).trans rfl
set_option maxRecDepth 20000 in
theorem B268_23 (d : Nat) (x3 : Int) (μ : amM) : At cr2 d 268 23 [] [302, 0, 71, x3] μ = amAld μ 302 (w32 (x3 + 1)) (fun v1 => amAld μ 302 (w32 (x3 + 2)) (fun v2 => bnd (RD cr2 d 120 [0, v1, v2] μ) (fun v3 μ1 => amAld μ1 302 (w32 (x3 + 1)) (fun v4 => amAld μ1 302 (w32 (x3 + 2)) (fun v5 => bnd (RD cr2 d 231 [71, v4, v5] μ1) (fun v6 μ2 => (if v3 = v6 then At cr2 d 268 44 [] [302, 0, 71, x3] μ2 else some (0, μ2)))))))) := (At_eq cr2 d 268 23 _ _ _).trans rfl
set_option maxRecDepth 20000 in
theorem B268_24 (d : Nat) (x3 : Int) (μ : amM) : At cr2 d 268 24 [] [302, 0, 71, x3] μ = amAld μ 302 (w32 (x3 + 1)) (fun v1 => amAld μ 302 (w32 (x3 + 2)) (fun v2 => bnd (RD cr2 d 121 [0, v1, v2] μ) (fun v3 μ1 => amAld μ1 302 (w32 (x3 + 1)) (fun v4 => amAld μ1 302 (w32 (x3 + 2)) (fun v5 => bnd (RD cr2 d 233 [71, v4, v5] μ1) (fun v6 μ2 => (if v3 = v6 then At cr2 d 268 44 [] [302, 0, 71, x3] μ2 else some (0, μ2)))))))) := (At_eq cr2 d 268 24 _ _ _).trans rfl
set_option maxRecDepth 20000 in
theorem B268_25 (d : Nat) (x3 : Int) (μ : amM) : At cr2 d 268 25 [] [302, 0, 71, x3] μ = bnd (RD cr2 d 122 [0] μ) (fun v1 μ1 => bnd (RD cr2 d 234 [71] μ1) (fun v2 μ2 => (if v1 = v2 then At cr2 d 268 44 [] [302, 0, 71, x3] μ2 else some (0, μ2)))) := (At_eq cr2 d 268 25 _ _ _).trans rfl
set_option maxRecDepth 20000 in
theorem B268_26 (d : Nat) (x3 : Int) (μ : amM) : At cr2 d 268 26 [] [302, 0, 71, x3] μ = bnd (RD cr2 d 123 [0] μ) (fun v1 μ1 => bnd (RD cr2 d 235 [71] μ1) (fun v2 μ2 => (if v1 = v2 then At cr2 d 268 44 [] [302, 0, 71, x3] μ2 else some (0, μ2)))) := (At_eq cr2 d 268 26 _ _ _).trans rfl
set_option maxRecDepth 20000 in
theorem B268_27 (d : Nat) (x3 : Int) (μ : amM) : At cr2 d 268 27 [] [302, 0, 71, x3] μ = bnd (RD cr2 d 124 [0] μ) (fun v1 μ1 => bnd (RD cr2 d 236 [71] μ1) (fun v2 μ2 => (if v1 = v2 then At cr2 d 268 44 [] [302, 0, 71, x3] μ2 else some (0, μ2)))) := (At_eq cr2 d 268 27 _ _ _).trans rfl
set_option maxRecDepth 20000 in
theorem B268_28 (d : Nat) (x3 : Int) (μ : amM) : At cr2 d 268 28 [] [302, 0, 71, x3] μ = amAld μ 302 (w32 (x3 + 1)) (fun v1 => bnd (RD cr2 d 125 [0, v1] μ) (fun v2 μ1 => amAld μ1 302 (w32 (x3 + 1)) (fun v3 => bnd (RD cr2 d 237 [71, v3] μ1) (fun v4 μ2 => (if v2 = v4 then At cr2 d 268 44 [] [302, 0, 71, x3] μ2 else some (0, μ2)))))) := (At_eq cr2 d 268 28 _ _ _).trans rfl
set_option maxRecDepth 20000 in
theorem B268_29 (d : Nat) (x3 : Int) (μ : amM) : At cr2 d 268 29 [] [302, 0, 71, x3] μ = amAld μ 302 (w32 (x3 + 1)) (fun v1 => bnd (RD cr2 d 126 [0, v1] μ) (fun v2 μ1 => amAld μ1 302 (w32 (x3 + 1)) (fun v3 => bnd (RD cr2 d 239 [71, v3] μ1) (fun v4 μ2 => (if v2 = v4 then At cr2 d 268 44 [] [302, 0, 71, x3] μ2 else some (0, μ2)))))) := (At_eq cr2 d 268 29 _ _ _).trans rfl
set_option maxRecDepth 20000 in
theorem B268_30 (d : Nat) (x3 : Int) (μ : amM) : At cr2 d 268 30 [] [302, 0, 71, x3] μ = amAld μ 302 (w32 (x3 + 1)) (fun v1 => bnd (RD cr2 d 127 [0, v1] μ) (fun v2 μ1 => amAld μ1 302 (w32 (x3 + 1)) (fun v3 => bnd (RD cr2 d 240 [71, v3] μ1) (fun v4 μ2 => (if v2 = v4 then At cr2 d 268 44 [] [302, 0, 71, x3] μ2 else some (0, μ2)))))) := (At_eq cr2 d 268 30 _ _ _).trans rfl
set_option maxRecDepth 20000 in
theorem B268_31 (d : Nat) (x3 : Int) (μ : amM) : At cr2 d 268 31 [] [302, 0, 71, x3] μ = amAld μ 302 (w32 (x3 + 1)) (fun v1 => amAld μ 302 (w32 (x3 + 2)) (fun v2 => amAld μ 302 (w32 (x3 + 3)) (fun v3 => bnd (RD cr2 d 128 [0, v1, v2, v3] μ) (fun v4 μ1 => amAld μ1 302 (w32 (x3 + 1)) (fun v5 => amAld μ1 302 (w32 (x3 + 2)) (fun v6 => amAld μ1 302 (w32 (x3 + 3)) (fun v7 => bnd (RD cr2 d 247 [71, v5, v6, v7] μ1) (fun v8 μ2 => (if v4 = v8 then At cr2 d 268 44 [] [302, 0, 71, x3] μ2 else some (0, μ2)))))))))) := (At_eq cr2 d 268 31 _ _ _).trans rfl
set_option maxRecDepth 20000 in
theorem B268_32 (d : Nat) (x3 : Int) (μ : amM) : At cr2 d 268 32 [] [302, 0, 71, x3] μ = amAld μ 302 (w32 (x3 + 1)) (fun v1 => bnd (RD cr2 d 129 [0, v1] μ) (fun v2 μ1 => amAld μ1 302 (w32 (x3 + 1)) (fun v3 => bnd (RD cr2 d 248 [71, v3] μ1) (fun v4 μ2 => (if v2 = v4 then At cr2 d 268 44 [] [302, 0, 71, x3] μ2 else some (0, μ2)))))) := (At_eq cr2 d 268 32 _ _ _).trans rfl
set_option maxRecDepth 20000 in
theorem B268_33 (d : Nat) (x3 : Int) (μ : amM) : At cr2 d 268 33 [] [302, 0, 71, x3] μ = amAld μ 302 (w32 (x3 + 1)) (fun v1 => amAld μ 302 (w32 (x3 + 2)) (fun v2 => amAld μ 302 (w32 (x3 + 3)) (fun v3 => bnd (RD cr2 d 130 [0, v1, v2, v3] μ) (fun v4 μ1 => amAld μ1 302 (w32 (x3 + 1)) (fun v5 => amAld μ1 302 (w32 (x3 + 2)) (fun v6 => amAld μ1 302 (w32 (x3 + 3)) (fun v7 => bnd (RD cr2 d 250 [71, v5, v6, v7] μ1) (fun v8 μ2 => (if v4 = v8 then At cr2 d 268 44 [] [302, 0, 71, x3] μ2 else some (0, μ2)))))))))) := (At_eq cr2 d 268 33 _ _ _).trans rfl
set_option maxRecDepth 20000 in
theorem B268_34 (d : Nat) (x3 : Int) (μ : amM) : At cr2 d 268 34 [] [302, 0, 71, x3] μ = amAld μ 302 (w32 (x3 + 1)) (fun v1 => amAld μ 302 (w32 (x3 + 2)) (fun v2 => amAld μ 302 (w32 (x3 + 3)) (fun v3 => bnd (RD cr2 d 131 [0, v1, v2, v3] μ) (fun v4 μ1 => amAld μ1 302 (w32 (x3 + 1)) (fun v5 => amAld μ1 302 (w32 (x3 + 2)) (fun v6 => amAld μ1 302 (w32 (x3 + 3)) (fun v7 => bnd (RD cr2 d 251 [71, v5, v6, v7] μ1) (fun v8 μ2 => (if v4 = v8 then At cr2 d 268 44 [] [302, 0, 71, x3] μ2 else some (0, μ2)))))))))) := (At_eq cr2 d 268 34 _ _ _).trans rfl
set_option maxRecDepth 20000 in
theorem B268_35 (d : Nat) (x3 : Int) (μ : amM) : At cr2 d 268 35 [] [302, 0, 71, x3] μ = amAld μ 302 (w32 (x3 + 1)) (fun v1 => amAld μ 302 (w32 (x3 + 2)) (fun v2 => amAld μ 302 (w32 (x3 + 3)) (fun v3 => amAld μ 302 (w32 (x3 + 4)) (fun v4 => amAld μ 302 (w32 (x3 + 5)) (fun v5 => bnd (RD cr2 d 132 [0, v1, v2, v3, v4, v5] μ) (fun v6 μ1 => amAld μ1 302 (w32 (x3 + 1)) (fun v7 => amAld μ1 302 (w32 (x3 + 2)) (fun v8 => amAld μ1 302 (w32 (x3 + 3)) (fun v9 => amAld μ1 302 (w32 (x3 + 4)) (fun v10 => amAld μ1 302 (w32 (x3 + 5)) (fun v11 => bnd (RD cr2 d 252 [71, v7, v8, v9, v10, v11] μ1) (fun v12 μ2 => (if v6 = v12 then At cr2 d 268 44 [] [302, 0, 71, x3] μ2 else some (0, μ2)))))))))))))) := (At_eq cr2 d 268 35 _ _ _).trans rfl
set_option maxRecDepth 20000 in
theorem B268_36 (d : Nat) (x3 : Int) (μ : amM) : At cr2 d 268 36 [] [302, 0, 71, x3] μ = amAld μ 302 (w32 (x3 + 1)) (fun v1 => bnd (RD cr2 d 133 [0, v1] μ) (fun v2 μ1 => amAld μ1 302 (w32 (x3 + 1)) (fun v3 => bnd (RD cr2 d 256 [71, v3] μ1) (fun v4 μ2 => (if v2 = v4 then At cr2 d 268 44 [] [302, 0, 71, x3] μ2 else some (0, μ2)))))) := (At_eq cr2 d 268 36 _ _ _).trans rfl
set_option maxRecDepth 20000 in
theorem B268_37 (d : Nat) (x3 : Int) (μ : amM) : At cr2 d 268 37 [] [302, 0, 71, x3] μ = amAld μ 302 (w32 (x3 + 1)) (fun v1 => bnd (RD cr2 d 134 [0, v1] μ) (fun v2 μ1 => amAld μ1 302 (w32 (x3 + 1)) (fun v3 => bnd (RD cr2 d 258 [71, v3] μ1) (fun v4 μ2 => (if v2 = v4 then At cr2 d 268 44 [] [302, 0, 71, x3] μ2 else some (0, μ2)))))) := (At_eq cr2 d 268 37 _ _ _).trans rfl
set_option maxRecDepth 20000 in
theorem B268_38 (d : Nat) (x3 : Int) (μ : amM) : At cr2 d 268 38 [] [302, 0, 71, x3] μ = bnd (RD cr2 d 135 [0] μ) (fun v1 μ1 => bnd (RD cr2 d 259 [71] μ1) (fun v2 μ2 => (if v1 = v2 then At cr2 d 268 44 [] [302, 0, 71, x3] μ2 else some (0, μ2)))) := (At_eq cr2 d 268 38 _ _ _).trans rfl
set_option maxRecDepth 20000 in
theorem B268_39 (d : Nat) (x3 : Int) (μ : amM) : At cr2 d 268 39 [] [302, 0, 71, x3] μ = bnd (RD cr2 d 136 [0] μ) (fun v1 μ1 => bnd (RD cr2 d 260 [71] μ1) (fun v2 μ2 => (if v1 = v2 then At cr2 d 268 44 [] [302, 0, 71, x3] μ2 else some (0, μ2)))) := (At_eq cr2 d 268 39 _ _ _).trans rfl
set_option maxRecDepth 20000 in
theorem B268_40 (d : Nat) (x3 : Int) (μ : amM) : At cr2 d 268 40 [] [302, 0, 71, x3] μ = amAld μ 302 (w32 (x3 + 1)) (fun v1 => bnd (RD cr2 d 137 [0, v1] μ) (fun v2 μ1 => amAld μ1 302 (w32 (x3 + 1)) (fun v3 => bnd (RD cr2 d 261 [71, v3] μ1) (fun v4 μ2 => (if v2 = v4 then At cr2 d 268 44 [] [302, 0, 71, x3] μ2 else some (0, μ2)))))) := (At_eq cr2 d 268 40 _ _ _).trans rfl
set_option maxRecDepth 20000 in
theorem B268_41 (d : Nat) (x3 : Int) (μ : amM) : At cr2 d 268 41 [] [302, 0, 71, x3] μ = bnd (RD cr2 d 138 [0] μ) (fun v1 μ1 => bnd (RD cr2 d 262 [71] μ1) (fun v2 μ2 => (if v1 = v2 then At cr2 d 268 44 [] [302, 0, 71, x3] μ2 else some (0, μ2)))) := (At_eq cr2 d 268 41 _ _ _).trans rfl
set_option maxRecDepth 20000 in
theorem B268_42 (d : Nat) (x3 : Int) (μ : amM) : At cr2 d 268 42 [] [302, 0, 71, x3] μ = amAld μ 302 (w32 (x3 + 1)) (fun v1 => bnd (RD cr2 d 139 [0, v1] μ) (fun v2 μ1 => amAld μ1 302 (w32 (x3 + 1)) (fun v3 => bnd (RD cr2 d 263 [71, v3] μ1) (fun v4 μ2 => (if v2 = v4 then At cr2 d 268 44 [] [302, 0, 71, x3] μ2 else some (0, μ2)))))) := (At_eq cr2 d 268 42 _ _ _).trans rfl
set_option maxRecDepth 20000 in
theorem B268_43 (d : Nat) (x3 : Int) (μ : amM) : At cr2 d 268 43 [] [302, 0, 71, x3] μ = amAld μ 302 (w32 (x3 + 1)) (fun v1 => bnd (RD cr2 d 140 [0, v1] μ) (fun v2 μ1 => amAld μ1 302 (w32 (x3 + 1)) (fun v3 => bnd (RD cr2 d 264 [71, v3] μ1) (fun v4 μ2 => (if v2 = v4 then At cr2 d 268 44 [] [302, 0, 71, x3] μ2 else some (0, μ2)))))) := (At_eq cr2 d 268 43 _ _ _).trans rfl
set_option maxRecDepth 20000 in
theorem B268_44 (d : Nat) (x3 : Int) (μ : amM) : At cr2 d 268 44 [] [302, 0, 71, x3] μ = At cr2 d 268 1 [] [302, 0, 71, (w32 (x3 + 6))] μ := (At_eq cr2 d 268 44 _ _ _).trans rfl
set_option maxRecDepth 20000 in
theorem B268_45 (d : Nat) (μ : amM) : At cr2 d 268 45 [] [0, 0, 0, 0] μ = some (1, μ) := (At_eq cr2 d 268 45 _ _ _).trans rfl
end
section
/-! ===== whole numbers for the machine's ints ===== -/
def R32 (x : Int) : Prop := -2147483648 ≤ x ∧ x < 2147483648
def R64 (x : Int) : Prop := -9223372036854775808 ≤ x ∧ x < 9223372036854775808
theorem w32_id {x : Int} (h : R32 x) : w32 x = x := by
  obtain ⟨h1, h2⟩ := h
  exact Int.bmod_eq_of_le (by simpa using h1) (by simpa using h2)
theorem w64_id {x : Int} (h : R64 x) : w64 x = x := by
  obtain ⟨h1, h2⟩ := h
  exact Int.bmod_eq_of_le (by simpa using h1) (by simpa using h2)
theorem w32_R (x : Int) : R32 (w32 x) := by
  have h1 := Int.le_bmod (x := x) (m := 4294967296) (by decide)
  have h2 := Int.bmod_lt (x := x) (m := 4294967296) (by decide)
  unfold R32 w32
  omega
theorem w64_R (x : Int) : R64 (w64 x) := by
  have h1 := Int.le_bmod (x := x) (m := 18446744073709551616) (by decide)
  have h2 := Int.bmod_lt (x := x) (m := 18446744073709551616) (by decide)
  unfold R64 w64
  omega
theorem i32_R (x : Int32) : R32 x.toInt := ⟨by simpa using x.le_toInt, by simpa using x.toInt_lt⟩
theorem i64_R (x : Int64) : R64 x.toInt := ⟨by simpa using x.le_toInt, by simpa using x.toInt_lt⟩
theorem t32 {x : Int} (h : R32 x) : (Int32.ofInt x).toInt = x := Int32.toInt_ofInt_of_le (by simpa using h.1) (by simpa using h.2)
theorem t64 {x : Int} (h : R64 x) : (Int64.ofInt x).toInt = x := Int64.toInt_ofInt_of_le (by simpa using h.1) (by simpa using h.2)
theorem t32w (x : Int) : (Int32.ofInt x).toInt = w32 x := Int32.toInt_ofInt
theorem t64w (x : Int) : (Int64.ofInt x).toInt = w64 x := Int64.toInt_ofInt
theorem o32 (x : Int) : Int32.ofInt (w32 x) = Int32.ofInt x := Int32.toInt_inj.mp (by rw [t32 (w32_R x), t32w])
theorem o64 (x : Int) : Int64.ofInt (w64 x) = Int64.ofInt x := Int64.toInt_inj.mp (by rw [t64 (w64_R x), t64w])
theorem n_add (a b : Int) : Int32.ofInt a + Int32.ofInt b = Int32.ofInt (w32 (a + b)) := by rw [o32, Int32.ofInt_add]
theorem n_sub (a b : Int) : Int32.ofInt a - Int32.ofInt b = Int32.ofInt (w32 (a - b)) := by rw [o32, Int32.ofInt_sub]
theorem n_mul (a b : Int) : Int32.ofInt a * Int32.ofInt b = Int32.ofInt (w32 (a * b)) := by rw [o32, Int32.ofInt_mul]
theorem n_neg (a : Int) : -Int32.ofInt a = Int32.ofInt (w32 (-a)) := by rw [o32, Int32.ofInt_neg]
theorem n_div {a b : Int} (ha : R32 a) (hb : R32 b) : Int32.ofInt a / Int32.ofInt b = Int32.ofInt (w32 (a.tdiv b)) := Int32.toInt_inj.mp (by rw [Int32.toInt_div, t32 ha, t32 hb, t32 (w32_R _)]; rfl)
theorem n_rem {a b : Int} (ha : R32 a) (hb : R32 b) : Int32.ofInt a - Int32.ofInt a / Int32.ofInt b * Int32.ofInt b = Int32.ofInt (a.tmod b) := by
  have h := rem_toInt (Int32.ofInt a) (Int32.ofInt b)
  rw [t32 ha, t32 hb] at h
  rw [← h, Int32.ofInt_toInt]
theorem n_remR {a b : Int} (ha : R32 a) (hb : R32 b) : R32 (a.tmod b) := by
  have h := rem_toInt (Int32.ofInt a) (Int32.ofInt b)
  rw [t32 ha, t32 hb] at h
  rw [← h]
  exact i32_R _
theorem n_and (a b : Int) : Int32.ofInt a &&& Int32.ofInt b = Int32.ofInt (bAnd a b) := (Int32.ofInt_toInt _).symm
theorem n_or (a b : Int) : Int32.ofInt a ||| Int32.ofInt b = Int32.ofInt (bOr a b) := (Int32.ofInt_toInt _).symm
theorem n_xor (a b : Int) : Int32.ofInt a ^^^ Int32.ofInt b = Int32.ofInt (bXor a b) := (Int32.ofInt_toInt _).symm
theorem n_shl (a b : Int) : Int32.ofInt a <<< (Int32.ofInt b &&& 31) = Int32.ofInt (bShl a b) := (Int32.ofInt_toInt _).symm
theorem n_shr (a b : Int) : Int32.ofInt a >>> (Int32.ofInt b &&& 31) = Int32.ofInt (bShr a b) := (Int32.ofInt_toInt _).symm
theorem n_ushr (a b : Int) : ((Int32.ofInt a).toUInt32 >>> ((Int32.ofInt b).toUInt32 &&& Int32.toUInt32 31)).toInt32 = Int32.ofInt (bUshr a b) := (Int32.ofInt_toInt _).symm
theorem m_add (a b : Int) : Int64.ofInt a + Int64.ofInt b = Int64.ofInt (w64 (a + b)) := by rw [o64, Int64.ofInt_add]
theorem m_mul (a b : Int) : Int64.ofInt a * Int64.ofInt b = Int64.ofInt (w64 (a * b)) := by rw [o64, Int64.ofInt_mul]
theorem m_and (a b : Int) : Int64.ofInt a &&& Int64.ofInt b = Int64.ofInt (lAnd a b) := (Int64.ofInt_toInt _).symm
theorem m_or (a b : Int) : Int64.ofInt a ||| Int64.ofInt b = Int64.ofInt (lOr a b) := (Int64.ofInt_toInt _).symm
theorem m_shl (a b : Int) : Int64.ofInt a <<< ((Int32.ofInt b).toInt64 &&& 63) = Int64.ofInt (lShl a b) := (Int64.ofInt_toInt _).symm
theorem m_shr (a b : Int) : Int64.ofInt a >>> ((Int32.ofInt b).toInt64 &&& 63) = Int64.ofInt (lShr a b) := (Int64.ofInt_toInt _).symm
theorem m_ushr (a b : Int) : ((Int64.ofInt a).toUInt64 >>> ((Int32.ofInt b).toInt64.toUInt64 &&& Int64.toUInt64 63)).toInt64 = Int64.ofInt (lUshr a b) := (Int64.ofInt_toInt _).symm
theorem n_i2l {a : Int} (ha : R32 a) : (Int32.ofInt a).toInt64 = Int64.ofInt a := Int64.toInt_inj.mp (by rw [Int32.toInt_toInt64, t32 ha, t64 ⟨by have := ha.1; omega, by have := ha.2; omega⟩])
theorem n_l2i {a : Int} (ha : R64 a) : (Int64.ofInt a).toInt32 = Int32.ofInt (w32 a) := Int32.toInt_inj.mp (by rw [Int64.toInt_toInt32, t64 ha, t32 (w32_R _)]; rfl)
theorem n_i2bR (a : Int) : R32 (a.bmod 256) := by
  have h1 := Int.le_bmod (x := a) (m := 256) (by decide)
  have h2 := Int.bmod_lt (x := a) (m := 256) (by decide)
  unfold R32; omega
theorem n_i2sR (a : Int) : R32 (a.bmod 65536) := by
  have h1 := Int.le_bmod (x := a) (m := 65536) (by decide)
  have h2 := Int.bmod_lt (x := a) (m := 65536) (by decide)
  unfold R32; omega
theorem n_i2b {a : Int} (ha : R32 a) : (Int32.ofInt a).toInt8.toInt32 = Int32.ofInt (a.bmod 256) := Int32.toInt_inj.mp (by
  rw [Int8.toInt_toInt32, Int32.toInt_toInt8, t32 ha, t32 (n_i2bR a)]; try rfl)
theorem n_i2s {a : Int} (ha : R32 a) : (Int32.ofInt a).toInt16.toInt32 = Int32.ofInt (a.bmod 65536) := Int32.toInt_inj.mp (by
  rw [Int16.toInt_toInt32, Int32.toInt_toInt16, t32 ha, t32 (n_i2sR a)]; try rfl)
theorem n_cmp {a b : Int} (ha : R64 a) (hb : R64 b) : lg_cmp (Int64.ofInt a) (Int64.ofInt b) = Int32.ofInt (if a < b then -1 else if a = b then 0 else 1) := by
  have e1 : Int64.ofInt b < Int64.ofInt a ↔ b < a := by rw [Int64.lt_iff_toInt_lt, t64 ha, t64 hb]
  have e2 : Int64.ofInt a = Int64.ofInt b ↔ a = b := ⟨fun h => by rw [← t64 ha, ← t64 hb, h], fun h => by rw [h]⟩
  unfold lg_cmp
  by_cases h : a < b
  · have h1 : ¬ b < a := by omega
    have h2 : ¬ a = b := by omega
    simp [e1, e2, h, h1, h2]; try rfl
  · by_cases h3 : a = b
    · subst h3; simp; try rfl
    · have h1 : b < a := by omega
      simp [e1, h1, h, h3]; try rfl
theorem n_lt {a b : Int} (ha : R32 a) (hb : R32 b) : Int32.ofInt a < Int32.ofInt b ↔ a < b := by rw [Int32.lt_iff_toInt_lt, t32 ha, t32 hb]
theorem n_le {a b : Int} (ha : R32 a) (hb : R32 b) : Int32.ofInt a ≤ Int32.ofInt b ↔ a ≤ b := by rw [Int32.le_iff_toInt_le, t32 ha, t32 hb]
theorem n_eq {a b : Int} (ha : R32 a) (hb : R32 b) : Int32.ofInt a = Int32.ofInt b ↔ a = b := ⟨fun h => by rw [← t32 ha, ← t32 hb, h], fun h => by rw [h]⟩
theorem R32_0 : R32 0 := ⟨by decide, by decide⟩
theorem n_clamp {a : Int} (ha : R32 a) : (Int32.ofInt a).toNatClampNeg = a.toNat := by
  show (Int32.ofInt a).toInt.toNat = _
  rw [t32 ha]
theorem n_in {i : Int} {n : Nat} (hi : R32 i) (h : 0 ≤ i ∧ i < (n : Int)) : vp_in (Int32.ofInt i) n := by
  rw [vp_in_iff, t32 hi]
  exact h
end
section
/-! ===== names, fields, words of the tables by their places ===== -/
def amF0 : u_T := fun k => match k with
  | 0 => ("AlikeTown", "state", "LAlikeTown$State;", true)
  | 1 => ("AlikeTown", "kept", "LAlikeTown$State;", true)
  | 2 => ("AlikeTown", "reader", "LAlikeTown$Reader;", true)
  | 3 => ("AlikeTown", "mender", "LAlikeTown$Mender;", true)
  | 4 => ("AlikeTown", "stepper", "LAlikeTown$Stepper;", true)
  | 5 => ("AlikeTown", "filler", "LAlikeTown$Filler;", true)
  | 6 => ("AlikeTown", "ways", "LAlikeTown$Ways;", true)
  | 7 => ("AlikeTown", "voices", "LAlikeTown$Voices;", true)
  | 8 => ("AlikeTown", "sheets", "[LAlikeTown$Sheet;", true)
  | 9 => ("AlikeTown", "refusals", "[I", true)
  | _ => ("AlikeTown", "images", "I", false)
def amTy0 : Nat → FieldType := fun k => match k with
  | 0 => .object "AlikeTown$State"
  | 1 => .object "AlikeTown$State"
  | 2 => .object "AlikeTown$Reader"
  | 3 => .object "AlikeTown$Mender"
  | 4 => .object "AlikeTown$Stepper"
  | 5 => .object "AlikeTown$Filler"
  | 6 => .object "AlikeTown$Ways"
  | 7 => .object "AlikeTown$Voices"
  | 8 => .array (.object "AlikeTown$Sheet")
  | 9 => .array .int
  | _ => .int
def amF1 : u_T := fun k => match k with
  | 0 => ("AlikeTown$State", "town", "LAlikeTown$Town;", true)
  | 1 => ("AlikeTown$State", "texts", "[LAlikeTown$Text;", true)
  | 2 => ("AlikeTown$State", "tape", "[I", true)
  | 3 => ("AlikeTown$State", "waiting", "[I", true)
  | 4 => ("AlikeTown$State", "bytes", "I", false)
  | 5 => ("AlikeTown$State", "waits", "I", false)
  | 6 => ("AlikeTown$State", "year", "I", false)
  | 7 => ("AlikeTown$State", "spent", "I", false)
  | _ => ("AlikeTown$State", "z", "I", false)
def amTy1 : Nat → FieldType := fun k => match k with
  | 0 => .object "AlikeTown$Town"
  | 1 => .array (.object "AlikeTown$Text")
  | 2 => .array .int
  | 3 => .array .int
  | 4 => .int
  | 5 => .int
  | 6 => .int
  | 7 => .int
  | _ => .int
def amF2 : u_T := fun k => match k with
  | 0 => ("AlikeTown$Town", "kinds", "[I", true)
  | 1 => ("AlikeTown$Town", "ms", "[I", true)
  | 2 => ("AlikeTown$Town", "codes", "[I", true)
  | 3 => ("AlikeTown$Town", "sides", "[I", true)
  | 4 => ("AlikeTown$Town", "sideCounts", "[I", true)
  | 5 => ("AlikeTown$Town", "pairs", "[I", true)
  | 6 => ("AlikeTown$Town", "calm", "[I", true)
  | 7 => ("AlikeTown$Town", "rows", "I", false)
  | 8 => ("AlikeTown$Town", "columns", "I", false)
  | 9 => ("AlikeTown$Town", "shape", "I", false)
  | 10 => ("AlikeTown$Town", "lots", "I", false)
  | 11 => ("AlikeTown$Town", "least", "I", false)
  | _ => ("AlikeTown$Town", "most", "I", false)
def amTy2 : Nat → FieldType := fun k => match k with
  | 0 => .array .int
  | 1 => .array .int
  | 2 => .array .int
  | 3 => .array .int
  | 4 => .array .int
  | 5 => .array .int
  | 6 => .array .int
  | 7 => .int
  | 8 => .int
  | 9 => .int
  | 10 => .int
  | 11 => .int
  | _ => .int
def amF3 : u_T := fun k => match k with
  | 0 => ("AlikeTown$Text", "parts", "[I", true)
  | 1 => ("AlikeTown$Text", "stack", "[I", true)
  | _ => ("AlikeTown$Text", "size", "I", false)
def amTy3 : Nat → FieldType := fun k => match k with
  | 0 => .array .int
  | 1 => .array .int
  | _ => .int
def amF4 : u_T := fun k => match k with
  | 0 => ("AlikeTown$Reader", "draft", "LAlikeTown$Text;", true)
  | 1 => ("AlikeTown$Reader", "tape", "[I", false)
  | 2 => ("AlikeTown$Reader", "bytes", "I", false)
  | 3 => ("AlikeTown$Reader", "at", "I", false)
  | _ => ("AlikeTown$Reader", "use", "I", false)
def amTy4 : Nat → FieldType := fun k => match k with
  | 0 => .object "AlikeTown$Text"
  | 1 => .array .int
  | 2 => .int
  | 3 => .int
  | _ => .int
def amF5 : u_T := fun k => match k with
  | 0 => ("AlikeTown$Mender", "wrong", "[[I", true)
  | 1 => ("AlikeTown$Mender", "sizes", "[I", true)
  | 2 => ("AlikeTown$Mender", "locks", "[I", true)
  | 3 => ("AlikeTown$Mender", "state", "LAlikeTown$State;", false)
  | 4 => ("AlikeTown$Mender", "town", "LAlikeTown$Town;", false)
  | _ => ("AlikeTown$Mender", "cost", "I", false)
def amTy5 : Nat → FieldType := fun k => match k with
  | 0 => .array (.array .int)
  | 1 => .array .int
  | 2 => .array .int
  | 3 => .object "AlikeTown$State"
  | 4 => .object "AlikeTown$Town"
  | _ => .int
def amF6 : u_T := fun k => match k with
  | 0 => ("AlikeTown$Stepper", "near", "[I", true)
  | 1 => ("AlikeTown$Stepper", "town", "LAlikeTown$Town;", false)
  | 2 => ("AlikeTown$Stepper", "lot", "I", false)
  | 3 => ("AlikeTown$Stepper", "mark", "I", false)
  | _ => ("AlikeTown$Stepper", "sort", "I", false)
def amTy6 : Nat → FieldType := fun k => match k with
  | 0 => .array .int
  | 1 => .object "AlikeTown$Town"
  | 2 => .int
  | 3 => .int
  | _ => .int
def amF7 : u_T := fun k => match k with
  | 0 => ("AlikeTown$Filler", "lots", "[I", true)
  | 1 => ("AlikeTown$Filler", "nexts", "[I", true)
  | _ => ("AlikeTown$Filler", "size", "I", false)
def amTy7 : Nat → FieldType := fun k => match k with
  | 0 => .array .int
  | 1 => .array .int
  | _ => .int
def amF8 : u_T := fun k => match k with
  | 0 => ("AlikeTown$Ways", "codes", "[I", true)
  | 1 => ("AlikeTown$Ways", "ways", "[J", false)
  | _ => ("AlikeTown$Ways", "nexts", "[J", false)
def amTy8 : Nat → FieldType := fun k => match k with
  | 0 => .array .int
  | 1 => .array .long
  | _ => .array .long
def amF9 : u_T := fun k => match k with
  | 0 => ("AlikeTown$Voices", "bodies", "[I", true)
  | 1 => ("AlikeTown$Voices", "size", "I", false)
  | 2 => ("AlikeTown$Voices", "kind", "I", false)
  | 3 => ("AlikeTown$Voices", "n", "I", false)
  | _ => ("AlikeTown$Voices", "m", "I", false)
def amTy9 : Nat → FieldType := fun k => match k with
  | 0 => .array .int
  | 1 => .int
  | 2 => .int
  | 3 => .int
  | _ => .int
def amF10 : u_T := fun k => match k with
  | 0 => ("AlikeTown$Sheet", "numbers", "[I", true)
  | 1 => ("AlikeTown$Sheet", "bits", "I", false)
  | _ => ("AlikeTown$Sheet", "size", "I", false)
def amTy10 : Nat → FieldType := fun k => match k with
  | 0 => .array .int
  | 1 => .int
  | _ => .int
def amF11 : u_T := fun k => match k with
  | 0 => ("AlikeTownModel", "d", "[I", true)
  | 1 => ("AlikeTownModel", "kept", "[I", true)
  | 2 => ("AlikeTownModel", "images", "I", false)
  | 3 => ("AlikeTownModel", "found", "[I", true)
  | 4 => ("AlikeTownModel", "base", "I", false)
  | 5 => ("AlikeTownModel", "at", "I", false)
  | 6 => ("AlikeTownModel", "size", "I", false)
  | 7 => ("AlikeTownModel", "fault", "I", false)
  | 8 => ("AlikeTownModel", "opened", "I", false)
  | 9 => ("AlikeTownModel", "isWorth", "Z", false)
  | 10 => ("AlikeTownModel", "names", "[I", true)
  | 11 => ("AlikeTownModel", "low", "[I", true)
  | 12 => ("AlikeTownModel", "high", "[I", true)
  | 13 => ("AlikeTownModel", "pairs", "I", false)
  | 14 => ("AlikeTownModel", "wrongMany", "I", false)
  | 15 => ("AlikeTownModel", "wrongFirst", "I", false)
  | 16 => ("AlikeTownModel", "pairAt", "[I", true)
  | 17 => ("AlikeTownModel", "optionAt", "[I", true)
  | 18 => ("AlikeTownModel", "lotAt", "[I", true)
  | 19 => ("AlikeTownModel", "markAt", "[I", true)
  | 20 => ("AlikeTownModel", "wasAt", "[I", true)
  | 21 => ("AlikeTownModel", "barred", "I", false)
  | 22 => ("AlikeTownModel", "fewest", "I", false)
  | 23 => ("AlikeTownModel", "cheapest", "I", false)
  | 24 => ("AlikeTownModel", "near", "[I", true)
  | 25 => ("AlikeTownModel", "nearMany", "I", false)
  | 26 => ("AlikeTownModel", "waysTo", "[J", true)
  | 27 => ("AlikeTownModel", "waysThen", "[J", true)
  | 28 => ("AlikeTownModel", "goes", "[Z", true)
  | 29 => ("AlikeTownModel", "marksKept", "[I", true)
  | 30 => ("AlikeTownModel", "filled", "[I", true)
  | 31 => ("AlikeTownModel", "looked", "[I", true)
  | 32 => ("AlikeTownModel", "traced", "[I", true)
  | 33 => ("AlikeTownModel", "traceMany", "I", false)
  | 34 => ("AlikeTownModel", "who", "I", false)
  | 35 => ("AlikeTownModel", "bitsOf", "[I", true)
  | 36 => ("AlikeTownModel", "sizeOf", "[I", true)
  | 37 => ("AlikeTownModel", "number", "[I", true)
  | _ => ("AlikeTownModel", "lifted", "[I", true)
def amTy11 : Nat → FieldType := fun k => match k with
  | 0 => .array .int
  | 1 => .array .int
  | 2 => .int
  | 3 => .array .int
  | 4 => .int
  | 5 => .int
  | 6 => .int
  | 7 => .int
  | 8 => .int
  | 9 => .boolean
  | 10 => .array .int
  | 11 => .array .int
  | 12 => .array .int
  | 13 => .int
  | 14 => .int
  | 15 => .int
  | 16 => .array .int
  | 17 => .array .int
  | 18 => .array .int
  | 19 => .array .int
  | 20 => .array .int
  | 21 => .int
  | 22 => .int
  | 23 => .int
  | 24 => .array .int
  | 25 => .int
  | 26 => .array .long
  | 27 => .array .long
  | 28 => .array .boolean
  | 29 => .array .int
  | 30 => .array .int
  | 31 => .array .int
  | 32 => .array .int
  | 33 => .int
  | 34 => .int
  | 35 => .array .int
  | 36 => .array .int
  | 37 => .array .int
  | _ => .array .int
abbrev amCl : List vw_C := [("AlikeTown", amF0, 11), ("AlikeTown$State", amF1, 9), ("AlikeTown$Town", amF2, 13), ("AlikeTown$Text", amF3, 3), ("AlikeTown$Reader", amF4, 5), ("AlikeTown$Mender", amF5, 6), ("AlikeTown$Stepper", amF6, 5), ("AlikeTown$Filler", amF7, 3), ("AlikeTown$Ways", amF8, 3), ("AlikeTown$Voices", amF9, 5), ("AlikeTown$Sheet", amF10, 3), ("AlikeTownModel", amF11, 39)]
def amTyOf (ci : Nat) : Nat → FieldType := match ci with
  | 0 => amTy0
  | 1 => amTy1
  | 2 => amTy2
  | 3 => amTy3
  | 4 => amTy4
  | 5 => amTy5
  | 6 => amTy6
  | 7 => amTy7
  | 8 => amTy8
  | 9 => amTy9
  | 10 => amTy10
  | _ => amTy11
def amNmL : List String := ["AlikeTown", "AlikeTown$State", "AlikeTown$Town", "AlikeTown$Text", "AlikeTown$Reader", "AlikeTown$Mender", "AlikeTown$Stepper", "AlikeTown$Filler", "AlikeTown$Ways", "AlikeTown$Voices", "AlikeTown$Sheet", "AlikeTownModel", "AlikeTown$Marks", "java/lang/Integer", "java/lang/Math", "AlikeTownLaw"]
def amNm (i : Nat) : String := amNmL.getD i ""
def amYL : List (Nat × String × String) := [(7, "<init>", "()V"), (7, "whyNotFilled", "(LAlikeTown$Town;)I"), (7, "listEmpty", "(LAlikeTown$Town;)V"), (7, "startAt", "(I)V"), (7, "stepBack", "(LAlikeTown$Town;I)I"), (7, "clearAll", "(LAlikeTown$Town;)V"), (12, "codeOf", "(I)I"), (12, "sortAt", "(II)I"), (12, "withSort", "(III)I"), (12, "numberOf", "(I)I"), (12, "blanksOf", "(I)I"), (12, "alikeOf", "(II)I"), (5, "<init>", "()V"), (5, "fewestFor", "(LAlikeTown$State;III)I"), (5, "fewestOf", "(LAlikeTown$State;)I"), (5, "begin", "(LAlikeTown$State;)V"), (5, "fewestMore", "(I)I"), (5, "cheapest", "(II)I"), (5, "cheapestBy", "(IIII)I"), (5, "listBehind", "(II)V"), (5, "needed", "(I)I"), (5, "sameMarks", "(II)I"), (5, "lesser", "(II)I"), (4, "<init>", "()V"), (4, "faultOf", "([III)I"), (4, "here", "()I"), (4, "readLevel", "(II)Z"), (4, "isSign", "(II)Z"), (4, "readAtom", "(I)Z"), (4, "readNot", "(I)Z"), (4, "readInner", "(I)Z"), (4, "readNumber", "()V"), (4, "isDigit", "(I)Z"), (4, "nameOf", "(I)I"), (10, "<init>", "()V"), (10, "isMissing", "()Z"), (10, "begin", "(II)V"), (10, "set", "(II)V"), (10, "has", "(II)Z"), (1, "<init>", "()V"), (1, "take", "(LAlikeTown$State;)V"), (1, "draw", "()I"), (1, "costText", "(II)I"), (1, "worthText", "(IIII)I"), (1, "costOf", "(II)I"), (1, "worthOf", "(I)I"), (1, "gainBy", "(III)I"), (1, "change", "(III)V"), (1, "live", "(I)I"), (6, "<init>", "()V"), (6, "leastFor", "(LAlikeTown$Town;III)I"), (6, "isReached", "(I)Z"), (6, "isReachedBy", "(IIII)Z"), (3, "<init>", "()V"), (3, "isMissing", "()Z"), (3, "clear", "()V"), (3, "add", "(I)V"), (3, "take", "(LAlikeTown$Text;)V"), (3, "value", "(IIII)I"), (3, "named", "(IIIII)I"), (3, "worked", "(III)I"), (2, "<init>", "()V"), (2, "lay", "(III)V"), (2, "joinOnwards", "(II)V"), (2, "join", "(II)V"), (2, "addSide", "(II)V"), (2, "take", "(LAlikeTown$Town;)V"), (2, "place", "(IIII)V"), (2, "houses", "()I"), (2, "isTold", "(II)Z"), (2, "isBound", "(I)Z"), (2, "canChange", "(III)Z"), (2, "doGo", "(II)Z"), (2, "isWrong", "(II)Z"), (2, "mayStand", "(II)Z"), (2, "howManyMay", "(I)I"), (2, "standerAt", "(II)I"), (2, "howManyGo", "()I"), (2, "goerAt", "(II)I"), (2, "listWrong", "()I"), (2, "howManyWrongAt", "(I)I"), (2, "isLawfulBehind", "(IIII)Z"), (2, "blow", "(II)I"), (2, "wrongBehind", "(II)I"), (9, "<init>", "()V"), (9, "isUnder", "(II)Z"), (9, "ofHouse", "(LAlikeTown$Town;III)I"), (9, "ownerOf", "(II)I"), (9, "note", "(I)V"), (9, "said", "(IIII)I"), (8, "<init>", "()V"), (8, "ofRings", "(LAlikeTown$Town;I)J"), (8, "ofBefore", "(LAlikeTown$Town;)J"), (8, "firstHouse", "(LAlikeTown$Town;)I"), (8, "isOpen", "(LAlikeTown$Town;I)Z"), (8, "choices", "(LAlikeTown$Town;I)I"), (8, "carry", "(LAlikeTown$Town;II)V"), (8, "waysTo", "(LAlikeTown$Town;IIZ)J"), (0, "<init>", "()V"), (0, "town", "(III)I"), (0, "rule", "(II)I"), (0, "build", "(III)I"), (0, "pull", "(I)I"), (0, "ofLot", "(II)I"), (0, "become", "(II)I"), (0, "as", "(II)I"), (0, "paint", "(III)I"), (0, "alike", "(II)I"), (0, "may", "(II)I"), (0, "wrong", "(I)I"), (0, "feed", "(JI)I"), (0, "text", "(I)I"), (0, "law", "(IIIII)I"), (0, "wish", "(IIII)I"), (0, "steps", "(III)I"), (0, "right", "()I"), (0, "rows", "(I)J"), (0, "rings", "(I)J"), (0, "before", "()J"), (0, "drawn", "(I)I"), (0, "storm", "(II)I"), (0, "harm", "(II)I"), (0, "worst", "()I"), (0, "fill", "()I"), (0, "worth", "()I"), (0, "pays", "(I)I"), (0, "years", "(I)I"), (0, "seed", "(I)I"), (0, "voice", "(III)I"), (0, "trace", "(I)I"), (0, "sheet", "(III)I"), (0, "put", "(III)I"), (0, "move", "(IIIII)I"), (0, "builds", "(I)I"), (0, "judge", "(I)I"), (0, "image", "()I"), (0, "restore", "()I"), (0, "tell", "(I)I"), (0, "check", "()I"), (0, "count", "(I)I"), (0, "told", "(I)I"), (0, "refuse", "(I)I"), (0, "isWithin", "(III)Z"), (0, "isLot", "(I)Z"), (0, "isEmpty", "(I)Z"), (0, "isMarkAndSort", "(II)Z"), (0, "isKindAndM", "(I)Z"), (0, "isSheet", "(I)Z"), (0, "whyNotBuilt", "(III)I"), (11, "<init>", "()V"), (11, "finds", "(I)I"), (11, "in", "(JJJ)Z"), (11, "held", "(III)I"), (11, "lots", "()I"), (11, "isLot", "(I)Z"), (11, "isEmpty", "(I)Z"), (11, "kindOf", "(I)I"), (11, "markOf", "(II)I"), (11, "sets", "(III)V"), (11, "here", "()I"), (11, "wrong", "()I"), (11, "takes", "(I)Z"), (11, "nameOf", "(I)I"), (11, "either", "()I"), (11, "both", "()I"), (11, "compared", "()I"), (11, "sum", "()I"), (11, "product", "()I"), (11, "unit", "()I"), (11, "worked", "(III)I"), (11, "feed", "(JI)I"), (11, "text", "(I)I"), (11, "textGives", "(IIIII)I"), (11, "law", "(IIIII)I"), (11, "addPair", "(II)V"), (11, "findPairs", "()V"), (11, "alikeOf", "(II)I"), (11, "isBound", "(I)Z"), (11, "isPairWrong", "(I)Z"), (11, "isRight", "(I)Z"), (11, "findWrong", "()V"), (11, "isAllRight", "()Z"), (11, "stands", "(III)V"), (11, "empties", "(I)V"), (11, "houses", "()I"), (11, "costOf", "(II)I"), (11, "worthOf", "(I)I"), (11, "town", "(III)I"), (11, "rule", "(II)I"), (11, "raises", "(III)Z"), (11, "build", "(III)I"), (11, "numberOf", "(I)I"), (11, "pull", "(I)I"), (11, "ofLot", "(II)I"), (11, "become", "(II)I"), (11, "above", "(I)I"), (11, "as", "(II)I"), (11, "isSort", "(II)Z"), (11, "spends", "(I)V"), (11, "paint", "(III)I"), (11, "alike", "(II)I"), (11, "fits", "(II)Z"), (11, "alikeTo", "(II)I"), (11, "howManyMay", "(I)I"), (11, "may", "(II)I"), (11, "wrong", "(I)I"), (11, "isChanged", "(III)Z"), (11, "costBy", "(I)I"), (11, "findFewest", "(I)Z"), (11, "findWish", "(III)Z"), (11, "wish", "(IIII)I"), (11, "right", "()I"), (11, "findNear", "(I)V"), (11, "canChange", "(III)Z"), (11, "lastStep", "(III)Z"), (11, "stepsBy", "(IIII)Z"), (11, "twoSteps", "(III)Z"), (11, "steps", "(III)I"), (11, "alikeBy", "(II)I"), (11, "findGoes", "()V"), (11, "goesOn", "()V"), (11, "rows", "(I)J"), (11, "rings", "(I)J"), (11, "isPairBy", "(IIII)Z"), (11, "isOption", "(II)Z"), (11, "waysFrom", "(I)J"), (11, "before", "()J"), (11, "draw", "()I"), (11, "keepMarks", "()V"), (11, "putMarksBack", "()V"), (11, "takes", "(II)I"), (11, "storm", "(II)I"), (11, "harmOf", "(II)I"), (11, "harm", "(II)I"), (11, "worst", "()I"), (11, "fill", "()I"), (11, "worth", "()I"), (11, "pays", "(I)I"), (11, "year", "()Z"), (11, "years", "(I)I"), (11, "seed", "(I)I"), (11, "ran", "(I)V"), (11, "own", "()I"), (11, "standsBy", "(II)I"), (11, "paintsBy", "(II)I"), (11, "turnsBy", "(II)I"), (11, "tellsBy", "(II)I"), (11, "voice", "(III)I"), (11, "trace", "(I)I"), (11, "isSheet", "(I)Z"), (11, "sheet", "(III)I"), (11, "put", "(III)I"), (11, "move", "(IIIII)I"), (11, "drawn", "(I)I"), (11, "drawnOf", "(I)I"), (11, "goingWith", "(II)I"), (11, "builds", "(I)I"), (11, "isTold", "(II)Z"), (11, "judge", "(I)I"), (11, "image", "()I"), (11, "restore", "()I"), (11, "tell", "(I)I"), (11, "check", "()I"), (11, "count", "(I)I"), (11, "told", "(I)I"), (13, "bitCount", "(I)I"), (14, "max", "(II)I"), (14, "min", "(II)I"), (15, "law", "([I)Z")]
def amYt (m : Nat) : Nat × String × String := amYL.getD m (0, "", "")
def amY (m : Nat) : MethodName := ⟨amNm (amYt m).1, (amYt m).2.1, (amYt m).2.2⟩
def amRet (m : Nat) : Option FieldType := match (mt m).1 with
  | 0 => some .int
  | 1 => some .long
  | 4 => some .boolean
  | _ => none
def amMax (m : Nat) : Nat := (mt m).2.2.2
/-- a method's words: its code, its class, static or not, selects (9999: private), then the class made, private -/
def amWL : List (Nat × Nat × Nat × Nat × Nat × Nat) := [(260, 8, 259, 0, 0, 0), (809, 8, 807, 808, 0, 0), (813, 8, 812, 9999, 257, 811), (817, 8, 816, 9999, 257, 815), (822, 8, 821, 9999, 257, 820), (826, 8, 825, 9999, 257, 824), (281, 10, 280, 0, 0, 0), (446, 10, 445, 0, 0, 0), (516, 10, 515, 0, 0, 0), (443, 10, 442, 0, 0, 0), (921, 10, 920, 0, 0, 0), (422, 10, 421, 0, 0, 0), (210, 6, 209, 0, 0, 0), (629, 6, 627, 628, 0, 0), (708, 6, 706, 707, 0, 0), (633, 6, 632, 9999, 207, 631), (638, 6, 637, 9999, 207, 636), (644, 6, 643, 9999, 207, 642), (658, 6, 657, 9999, 207, 656), (663, 6, 662, 9999, 207, 661), (648, 6, 647, 9999, 207, 646), (653, 6, 652, 0, 0, 0), (667, 6, 666, 0, 0, 0), (185, 5, 184, 0, 0, 0), (566, 5, 564, 565, 0, 0), (582, 5, 581, 9999, 182, 580), (574, 5, 573, 9999, 182, 572), (608, 5, 607, 0, 0, 0), (578, 5, 577, 9999, 182, 576), (601, 5, 600, 9999, 182, 599), (605, 5, 604, 9999, 182, 603), (589, 5, 588, 9999, 182, 587), (585, 5, 584, 0, 0, 0), (597, 5, 596, 9999, 182, 595), (322, 12, 321, 0, 0, 0), (765, 12, 763, 764, 0, 0), (893, 12, 891, 892, 0, 0), (778, 12, 776, 777, 0, 0), (905, 12, 903, 904, 0, 0), (29, 2, 28, 0, 0, 0), (931, 2, 929, 930, 0, 0), (769, 2, 767, 768, 0, 0), (459, 2, 457, 458, 0, 0), (488, 2, 486, 487, 0, 0), (455, 2, 453, 454, 0, 0), (483, 2, 481, 482, 0, 0), (842, 2, 840, 841, 0, 0), (520, 2, 518, 519, 0, 0), (851, 2, 849, 850, 0, 0), (238, 7, 237, 0, 0, 0), (678, 7, 676, 677, 0, 0), (685, 7, 684, 9999, 235, 683), (699, 7, 698, 9999, 235, 697), (131, 4, 130, 0, 0, 0), (463, 4, 461, 462, 0, 0), (570, 4, 568, 569, 0, 0), (593, 4, 591, 592, 0, 0), (612, 4, 610, 611, 0, 0), (467, 4, 465, 466, 0, 0), (470, 4, 469, 0, 0, 0), (473, 4, 472, 0, 0, 0), (35, 3, 34, 0, 0, 0), (40, 3, 38, 39, 0, 0), (44, 3, 43, 9999, 32, 42), (48, 3, 47, 9999, 32, 46), (52, 3, 51, 9999, 32, 50), (935, 3, 933, 934, 0, 0), (432, 3, 430, 431, 0, 0), (436, 3, 434, 435, 0, 0), (918, 3, 916, 917, 0, 0), (415, 3, 413, 414, 0, 0), (512, 3, 510, 511, 0, 0), (419, 3, 417, 418, 0, 0), (554, 3, 552, 553, 0, 0), (411, 3, 409, 410, 0, 0), (536, 3, 534, 535, 0, 0), (542, 3, 540, 541, 0, 0), (717, 3, 715, 716, 0, 0), (774, 3, 772, 773, 0, 0), (550, 3, 548, 549, 0, 0), (694, 3, 692, 693, 0, 0), (689, 3, 687, 688, 0, 0), (786, 3, 784, 785, 0, 0), (794, 3, 792, 793, 0, 0), (297, 11, 296, 0, 0, 0), (499, 11, 498, 0, 0, 0), (867, 11, 865, 866, 0, 0), (874, 11, 873, 0, 0, 0), (881, 11, 880, 9999, 294, 879), (871, 11, 870, 9999, 294, 869), (277, 9, 276, 0, 0, 0), (725, 9, 723, 724, 0, 0), (750, 9, 748, 749, 0, 0), (753, 9, 752, 0, 0, 0), (732, 9, 731, 0, 0, 0), (736, 9, 735, 0, 0, 0), (729, 9, 728, 9999, 274, 727), (740, 9, 739, 9999, 274, 738), (21, 1, 20, 0, 0, 0), (374, 1, 372, 373, 0, 0), (387, 1, 385, 386, 0, 0), (391, 1, 389, 390, 0, 0), (440, 1, 438, 439, 0, 0), (450, 1, 448, 449, 0, 0), (492, 1, 490, 491, 0, 0), (496, 1, 494, 495, 0, 0), (505, 1, 503, 504, 0, 0), (527, 1, 525, 526, 0, 0), (532, 1, 530, 531, 0, 0), (546, 1, 544, 545, 0, 0), (558, 1, 556, 557, 0, 0), (562, 1, 560, 561, 0, 0), (619, 1, 617, 618, 0, 0), (625, 1, 623, 624, 0, 0), (674, 1, 672, 673, 0, 0), (704, 1, 702, 703, 0, 0), (712, 1, 710, 711, 0, 0), (721, 1, 719, 720, 0, 0), (746, 1, 744, 745, 0, 0), (758, 1, 756, 757, 0, 0), (782, 1, 780, 781, 0, 0), (790, 1, 788, 789, 0, 0), (801, 1, 799, 800, 0, 0), (805, 1, 803, 804, 0, 0), (833, 1, 831, 832, 0, 0), (837, 1, 835, 836, 0, 0), (847, 1, 845, 846, 0, 0), (859, 1, 857, 858, 0, 0), (863, 1, 861, 862, 0, 0), (885, 1, 883, 884, 0, 0), (889, 1, 887, 888, 0, 0), (897, 1, 895, 896, 0, 0), (901, 1, 899, 900, 0, 0), (910, 1, 908, 909, 0, 0), (914, 1, 912, 913, 0, 0), (927, 1, 925, 926, 0, 0), (941, 1, 939, 940, 0, 0), (945, 1, 943, 944, 0, 0), (949, 1, 947, 948, 0, 0), (953, 1, 951, 952, 0, 0), (957, 1, 955, 956, 0, 0), (381, 1, 380, 9999, 18, 379), (377, 1, 376, 0, 0, 0), (399, 1, 398, 9999, 18, 397), (406, 1, 405, 9999, 18, 404), (508, 1, 507, 0, 0, 0), (402, 1, 401, 0, 0, 0), (761, 1, 760, 0, 0, 0), (395, 1, 394, 9999, 18, 393), (962, 13, 961, 0, 0, 0), (1094, 13, 1093, 9999, 959, 1092), (1090, 13, 1089, 0, 0, 0), (1157, 13, 1156, 0, 0, 0), (1174, 13, 1173, 9999, 959, 1172), (1187, 13, 1186, 9999, 959, 1185), (1193, 13, 1192, 9999, 959, 1191), (1225, 13, 1224, 9999, 959, 1223), (1233, 13, 1232, 9999, 959, 1231), (1170, 13, 1169, 9999, 959, 1168), (1132, 13, 1131, 9999, 959, 1130), (1136, 13, 1135, 9999, 959, 1134), (1140, 13, 1139, 9999, 959, 1138), (1144, 13, 1143, 9999, 959, 1142), (1108, 13, 1107, 9999, 959, 1106), (1112, 13, 1111, 9999, 959, 1110), (1116, 13, 1115, 9999, 959, 1114), (1120, 13, 1119, 9999, 959, 1118), (1124, 13, 1123, 9999, 959, 1122), (1128, 13, 1127, 9999, 959, 1126), (1104, 13, 1103, 9999, 959, 1102), (1086, 13, 1084, 1085, 0, 0), (1100, 13, 1098, 1099, 0, 0), (1154, 13, 1153, 9999, 959, 1152), (1150, 13, 1148, 1149, 0, 0), (1209, 13, 1208, 9999, 959, 1207), (1205, 13, 1204, 9999, 959, 1203), (1229, 13, 1228, 9999, 959, 1227), (1221, 13, 1220, 9999, 959, 1219), (1217, 13, 1216, 9999, 959, 1215), (1213, 13, 1212, 9999, 959, 1211), (1311, 13, 1310, 9999, 959, 1309), (1343, 13, 1342, 9999, 959, 1341), (1201, 13, 1200, 9999, 959, 1199), (1166, 13, 1165, 9999, 959, 1164), (1237, 13, 1236, 9999, 959, 1235), (1254, 13, 1253, 9999, 959, 1252), (1258, 13, 1257, 9999, 959, 1256), (1161, 13, 1159, 1160, 0, 0), (1178, 13, 1176, 1177, 0, 0), (1197, 13, 1196, 9999, 959, 1195), (1183, 13, 1181, 1182, 0, 0), (1245, 13, 1244, 9999, 959, 1243), (1241, 13, 1239, 1240, 0, 0), (1249, 13, 1247, 1248, 0, 0), (1262, 13, 1260, 1261, 0, 0), (1270, 13, 1269, 0, 0, 0), (1266, 13, 1264, 1265, 0, 0), (1277, 13, 1276, 0, 0, 0), (1282, 13, 1281, 9999, 959, 1280), (1274, 13, 1272, 1273, 0, 0), (1287, 13, 1285, 1286, 0, 0), (1299, 13, 1298, 9999, 959, 1297), (1303, 13, 1302, 9999, 959, 1301), (1295, 13, 1294, 9999, 959, 1293), (1291, 13, 1289, 1290, 0, 0), (1307, 13, 1305, 1306, 0, 0), (1331, 13, 1330, 9999, 959, 1329), (1327, 13, 1326, 9999, 959, 1325), (1323, 13, 1322, 9999, 959, 1321), (1319, 13, 1318, 9999, 959, 1317), (1315, 13, 1313, 1314, 0, 0), (1335, 13, 1333, 1334, 0, 0), (1347, 13, 1346, 9999, 959, 1345), (1359, 13, 1358, 9999, 959, 1357), (1355, 13, 1354, 9999, 959, 1353), (1351, 13, 1350, 9999, 959, 1349), (1363, 13, 1362, 9999, 959, 1361), (1339, 13, 1337, 1338, 0, 0), (1375, 13, 1374, 0, 0, 0), (1372, 13, 1371, 9999, 959, 1370), (1379, 13, 1378, 9999, 959, 1377), (1367, 13, 1365, 1366, 0, 0), (1383, 13, 1381, 1382, 0, 0), (1399, 13, 1398, 9999, 959, 1397), (1391, 13, 1390, 9999, 959, 1389), (1395, 13, 1394, 9999, 959, 1393), (1387, 13, 1385, 1386, 0, 0), (1452, 13, 1451, 9999, 959, 1450), (1419, 13, 1418, 9999, 959, 1417), (1423, 13, 1422, 9999, 959, 1421), (1407, 13, 1406, 9999, 959, 1405), (1403, 13, 1401, 1402, 0, 0), (1415, 13, 1414, 9999, 959, 1413), (1411, 13, 1409, 1410, 0, 0), (1427, 13, 1425, 1426, 0, 0), (1431, 13, 1429, 1430, 0, 0), (1435, 13, 1433, 1434, 0, 0), (1439, 13, 1437, 1438, 0, 0), (1448, 13, 1447, 9999, 959, 1446), (1443, 13, 1441, 1442, 0, 0), (1457, 13, 1455, 1456, 0, 0), (1473, 13, 1472, 9999, 959, 1471), (1465, 13, 1464, 9999, 959, 1463), (1469, 13, 1468, 9999, 959, 1467), (1477, 13, 1476, 9999, 959, 1475), (1481, 13, 1480, 9999, 959, 1479), (1485, 13, 1484, 9999, 959, 1483), (1461, 13, 1459, 1460, 0, 0), (1489, 13, 1487, 1488, 0, 0), (1496, 13, 1495, 0, 0, 0), (1493, 13, 1491, 1492, 0, 0), (1500, 13, 1498, 1499, 0, 0), (1504, 13, 1502, 1503, 0, 0), (1508, 13, 1506, 1507, 0, 0), (1512, 13, 1511, 9999, 959, 1510), (1516, 13, 1515, 9999, 959, 1514), (1520, 13, 1518, 1519, 0, 0), (1528, 13, 1527, 9999, 959, 1526), (1524, 13, 1522, 1523, 0, 0), (1532, 13, 1530, 1531, 0, 0), (1536, 13, 1534, 1535, 0, 0), (1540, 13, 1538, 1539, 0, 0), (1544, 13, 1542, 1543, 0, 0), (1548, 13, 1546, 1547, 0, 0), (1552, 13, 1550, 1551, 0, 0), (425, 14, 424, 0, 0, 0), (479, 15, 478, 0, 0, 0), (476, 15, 475, 0, 0, 0), (0, 0, 0, 0, 0, 0)]
def amWm (m : Nat) : Nat × Nat × Nat × Nat × Nat × Nat := amWL.getD m (0, 0, 0, 0, 0, 0)
def amWd (i : Nat) : Option Jvm.Cond := match i / 240 with
  | 0 => tables_1_1[i % 240]?
  | 1 => tables_1_2[i % 240]?
  | 2 => tables_1_3[i % 240]?
  | 3 => tables_1_4[i % 240]?
  | 4 => tables_1_5[i % 240]?
  | 5 => tables_1_6[i % 240]?
  | 6 => tables_1_7[i % 240]?
  | _ => none
theorem amWd_in {i : Nat} {w : Jvm.Cond} (h : amWd i = some w) : w ∈ tables_1 := by
  unfold amWd at h
  unfold tables_1
  simp only [List.mem_append]
  split at h
  · exact Or.inl (List.mem_of_getElem? h)
  · exact Or.inr (Or.inl (List.mem_of_getElem? h))
  · exact Or.inr (Or.inr (Or.inl (List.mem_of_getElem? h)))
  · exact Or.inr (Or.inr (Or.inr (Or.inl (List.mem_of_getElem? h))))
  · exact Or.inr (Or.inr (Or.inr (Or.inr (Or.inl (List.mem_of_getElem? h)))))
  · exact Or.inr (Or.inr (Or.inr (Or.inr (Or.inr (Or.inl (List.mem_of_getElem? h))))))
  · exact Or.inr (Or.inr (Or.inr (Or.inr (Or.inr (Or.inr (List.mem_of_getElem? h))))))
  · cases h
def amCb (w : Option Jvm.Cond) : ByteArray := match w with
  | some (.code _ b _ _) => b
  | _ => ⟨#[]⟩
/-- the code of a method, as the tables have it -/
def amBy (m : Nat) : ByteArray := if m = 268 then code else amCb (amWd (amWm m).1)
def amCw (w : Option Jvm.Cond) (y : MethodName) (l : Nat) (r : Option FieldType) : Bool := match w with
  | some (.code y' _ l' r') => decide (y' = y ∧ l' = l ∧ r' = r)
  | _ => false
def amNF (ci : Nat) : Nat := match amCl[ci]? with
  | some r => r.2.2
  | none => 0
/-- fields in use: whose pool, entry, class, slot, word -/
def amFL : List (Nat × Nat × Nat × Nat × Nat) := [(7, 9, 7, 0, 262), (7, 15, 7, 1, 263), (7, 23, 7, 2, 264), (7, 54, 2, 10, 89), (7, 56, 2, 0, 55), (5, 11, 5, 0, 214), (5, 16, 5, 1, 215), (5, 20, 5, 2, 216), (5, 27, 5, 4, 218), (5, 31, 2, 2, 64), (5, 54, 5, 5, 219), (5, 63, 5, 3, 217), (5, 67, 1, 0, 145), (5, 72, 2, 5, 76), (5, 95, 2, 11, 94), (5, 109, 2, 4, 74), (5, 112, 2, 3, 71), (5, 122, 2, 12, 97), (4, 12, 4, 0, 189), (4, 18, 4, 1, 191), (4, 22, 4, 2, 192), (4, 26, 4, 4, 194), (4, 29, 4, 3, 193), (10, 9, 10, 0, 324), (10, 15, 10, 1, 326), (10, 19, 10, 2, 328), (1, 12, 1, 0, 143), (1, 20, 1, 1, 146), (1, 24, 1, 2, 148), (1, 28, 1, 3, 150), (1, 31, 1, 8, 160), (1, 49, 1, 4, 152), (1, 52, 1, 5, 154), (1, 55, 1, 6, 156), (1, 58, 1, 7, 158), (1, 79, 2, 1, 61), (1, 82, 2, 0, 58), (1, 96, 2, 2, 68), (1, 118, 2, 10, 91), (6, 9, 6, 0, 240), (6, 15, 6, 1, 241), (6, 19, 6, 2, 242), (6, 23, 6, 3, 243), (6, 26, 6, 4, 244), (6, 29, 2, 2, 65), (6, 44, 2, 3, 70), (6, 47, 2, 4, 73), (3, 9, 3, 0, 133), (3, 15, 3, 1, 134), (3, 18, 3, 2, 135), (2, 9, 2, 0, 53), (2, 15, 2, 1, 59), (2, 18, 2, 2, 63), (2, 21, 2, 3, 69), (2, 24, 2, 4, 72), (2, 27, 2, 5, 75), (2, 30, 2, 6, 78), (2, 33, 2, 11, 92), (2, 37, 2, 12, 95), (2, 44, 2, 7, 79), (2, 47, 2, 8, 81), (2, 50, 2, 9, 84), (2, 53, 2, 10, 87), (9, 11, 9, 0, 299), (9, 15, 9, 0, 500), (9, 18, 2, 0, 54), (9, 23, 9, 2, 303), (9, 27, 9, 3, 304), (9, 30, 2, 1, 60), (9, 33, 9, 4, 305), (9, 36, 9, 1, 301), (9, 43, 9, 1, 875), (8, 9, 8, 0, 282), (8, 15, 8, 1, 283), (8, 19, 8, 2, 284), (8, 34, 2, 9, 85), (8, 40, 2, 8, 82), (8, 47, 2, 10, 90), (8, 58, 2, 0, 56), (8, 69, 2, 2, 67), (0, 10, 0, 0, 337), (0, 16, 0, 1, 338), (0, 22, 0, 2, 339), (0, 29, 0, 3, 340), (0, 36, 0, 4, 341), (0, 43, 0, 5, 342), (0, 50, 0, 6, 343), (0, 57, 0, 7, 344), (0, 63, 0, 8, 345), (0, 67, 0, 9, 346), (0, 80, 1, 0, 144), (0, 90, 2, 10, 88), (0, 94, 2, 12, 96), (0, 97, 2, 11, 93), (0, 124, 2, 0, 57), (0, 127, 2, 2, 66), (0, 133, 2, 1, 62), (0, 168, 1, 7, 159), (0, 183, 2, 5, 77), (0, 186, 1, 4, 153), (0, 189, 1, 2, 149), (0, 196, 1, 1, 147), (0, 200, 4, 0, 190), (0, 221, 5, 5, 220), (0, 241, 2, 7, 80), (0, 255, 10, 2, 329), (0, 278, 7, 2, 265), (0, 286, 1, 6, 157), (0, 292, 1, 8, 161), (0, 298, 9, 1, 302), (0, 299, 9, 0, 300), (0, 305, 10, 1, 327), (0, 311, 10, 0, 325), (0, 331, 0, 10, 347), (0, 334, 1, 5, 155), (0, 337, 1, 3, 151), (0, 340, 2, 8, 83), (0, 343, 2, 9, 86), (11, 7, 11, 0, 964), (11, 13, 11, 1, 965), (11, 16, 11, 3, 967), (11, 19, 11, 10, 974), (11, 22, 11, 11, 975), (11, 25, 11, 12, 976), (11, 28, 11, 16, 980), (11, 31, 11, 17, 981), (11, 34, 11, 18, 982), (11, 37, 11, 19, 983), (11, 40, 11, 20, 984), (11, 43, 11, 24, 988), (11, 46, 11, 26, 990), (11, 50, 11, 27, 991), (11, 53, 11, 28, 992), (11, 57, 11, 29, 993), (11, 60, 11, 30, 994), (11, 63, 11, 31, 995), (11, 66, 11, 32, 996), (11, 69, 11, 35, 999), (11, 72, 11, 36, 1000), (11, 75, 11, 37, 1001), (11, 78, 11, 38, 1002), (11, 90, 11, 5, 969), (11, 94, 11, 6, 970), (11, 97, 11, 7, 971), (11, 100, 11, 4, 968), (11, 106, 11, 9, 973), (11, 129, 11, 8, 972), (11, 164, 11, 13, 977), (11, 190, 11, 14, 978), (11, 193, 11, 15, 979), (11, 269, 11, 21, 985), (11, 278, 11, 22, 986), (11, 281, 11, 23, 987), (11, 290, 11, 25, 989), (11, 354, 11, 33, 997), (11, 357, 11, 34, 998), (11, 390, 11, 2, 966)]
/-- calls: whose pool, entry, method, by a nest mate, word -/
def amCS : List (Nat × Nat × Nat × Nat × Nat) := [(7, 3, 9999, 0, 261), (7, 18, 2, 0, 810), (7, 27, 4, 0, 819), (7, 31, 5, 0, 823), (7, 34, 6, 0, 827), (7, 40, 74, 0, 828), (7, 46, 67, 0, 829), (7, 50, 3, 0, 814), (12, 9, 7, 0, 444), (12, 15, 265, 0, 423), (5, 3, 9999, 0, 211), (5, 23, 15, 0, 630), (5, 36, 7, 0, 634), (5, 42, 16, 0, 635), (5, 46, 71, 0, 670), (5, 50, 8, 0, 659), (5, 58, 44, 0, 669), (5, 68, 79, 0, 639), (5, 75, 9999, 0, 640), (5, 81, 17, 0, 641), (5, 84, 20, 0, 645), (5, 87, 21, 0, 651), (5, 90, 265, 0, 654), (5, 98, 18, 0, 655), (5, 102, 22, 0, 665), (5, 105, 19, 0, 660), (5, 115, 73, 0, 664), (5, 119, 11, 0, 649), (5, 125, 266, 0, 650), (5, 130, 267, 0, 668), (4, 3, 9999, 0, 186), (4, 11, 53, 1, 188), (4, 32, 55, 0, 567), (4, 35, 26, 0, 571), (4, 39, 28, 0, 575), (4, 43, 25, 0, 579), (4, 47, 27, 0, 606), (4, 50, 56, 0, 590), (4, 54, 32, 0, 583), (4, 57, 31, 0, 586), (4, 60, 33, 0, 594), (4, 64, 29, 0, 598), (4, 67, 30, 0, 602), (10, 3, 9999, 0, 323), (1, 3, 9999, 0, 30), (1, 11, 61, 0, 33), (1, 35, 53, 1, 129), (1, 36, 66, 0, 932), (1, 40, 57, 0, 936), (1, 43, 9999, 0, 937), (1, 62, 54, 0, 460), (1, 66, 58, 0, 464), (1, 70, 267, 0, 474), (1, 76, 266, 0, 477), (1, 85, 42, 0, 456), (1, 88, 7, 0, 484), (1, 93, 43, 0, 485), (1, 99, 8, 0, 523), (1, 103, 45, 0, 843), (1, 107, 44, 0, 522), (1, 111, 79, 0, 852), (1, 115, 41, 0, 853), (1, 121, 81, 0, 854), (1, 125, 47, 0, 855), (6, 3, 9999, 0, 239), (6, 34, 7, 0, 679), (6, 40, 71, 0, 680), (6, 50, 9999, 0, 681), (6, 56, 51, 0, 682), (6, 60, 81, 0, 686), (6, 64, 52, 0, 696), (6, 67, 8, 0, 700), (3, 3, 9999, 0, 132), (3, 22, 9999, 0, 613), (3, 28, 59, 0, 468), (3, 32, 60, 0, 471), (2, 3, 9999, 0, 36), (2, 40, 62, 0, 37), (2, 56, 63, 0, 41), (2, 60, 64, 0, 45), (2, 63, 65, 0, 49), (2, 66, 9999, 0, 795), (2, 72, 10, 0, 919), (2, 78, 9, 0, 922), (2, 81, 7, 0, 513), (2, 85, 11, 0, 420), (2, 88, 70, 0, 412), (2, 92, 72, 0, 416), (2, 96, 6, 0, 537), (2, 99, 74, 0, 538), (2, 102, 73, 0, 551), (2, 105, 71, 0, 690), (2, 109, 80, 0, 691), (2, 112, 8, 0, 695), (2, 116, 82, 0, 796), (2, 119, 79, 0, 797), (9, 3, 9999, 0, 298), (9, 39, 89, 0, 868), (9, 46, 266, 0, 877), (9, 52, 87, 0, 872), (9, 55, 88, 0, 878), (8, 3, 9999, 0, 278), (8, 22, 6, 0, 279), (8, 28, 96, 0, 726), (8, 43, 93, 0, 751), (8, 50, 91, 0, 754), (8, 54, 95, 0, 734), (8, 61, 94, 0, 730), (8, 65, 70, 0, 733), (8, 70, 97, 0, 737), (8, 74, 72, 0, 741), (0, 1, 9999, 0, 22), (0, 9, 39, 0, 27), (0, 21, 23, 1, 183), (0, 28, 12, 1, 208), (0, 35, 49, 1, 236), (0, 42, 0, 1, 258), (0, 49, 90, 0, 275), (0, 56, 84, 1, 295), (0, 71, 34, 1, 320), (0, 72, 142, 0, 375), (0, 76, 141, 0, 378), (0, 84, 62, 0, 383), (0, 100, 148, 0, 392), (0, 104, 6, 0, 407), (0, 109, 67, 0, 429), (0, 113, 68, 0, 433), (0, 117, 143, 0, 396), (0, 121, 144, 0, 403), (0, 130, 9, 0, 441), (0, 136, 7, 0, 451), (0, 140, 44, 0, 452), (0, 143, 45, 0, 480), (0, 146, 146, 0, 400), (0, 149, 85, 0, 497), (0, 153, 145, 0, 506), (0, 156, 71, 0, 509), (0, 159, 8, 0, 514), (0, 162, 74, 0, 408), (0, 165, 47, 0, 517), (0, 171, 11, 0, 528), (0, 174, 75, 0, 533), (0, 177, 76, 0, 539), (0, 180, 79, 0, 547), (0, 192, 24, 0, 563), (0, 204, 57, 0, 609), (0, 210, 42, 0, 620), (0, 213, 43, 0, 621), (0, 217, 13, 0, 626), (0, 224, 50, 0, 675), (0, 228, 14, 0, 705), (0, 234, 77, 0, 714), (0, 237, 91, 0, 722), (0, 244, 92, 0, 747), (0, 248, 147, 0, 759), (0, 251, 35, 0, 762), (0, 258, 41, 0, 766), (0, 261, 78, 0, 771), (0, 264, 37, 0, 775), (0, 268, 82, 0, 783), (0, 271, 83, 0, 791), (0, 274, 1, 0, 806), (0, 279, 81, 0, 838), (0, 283, 46, 0, 839), (0, 289, 48, 0, 848), (0, 295, 86, 0, 864), (0, 302, 36, 0, 890), (0, 308, 38, 0, 902), (0, 314, 9999, 0, 906), (0, 320, 69, 0, 915), (0, 323, 267, 0, 923), (0, 328, 40, 0, 928), (11, 1, 9999, 0, 963), (11, 82, 153, 0, 1171), (11, 86, 151, 0, 1088), (11, 103, 159, 0, 1129), (11, 110, 164, 0, 1109), (11, 113, 161, 0, 1137), (11, 117, 165, 0, 1113), (11, 120, 166, 0, 1117), (11, 123, 167, 0, 1121), (11, 126, 168, 0, 1125), (11, 132, 160, 0, 1133), (11, 135, 163, 0, 1105), (11, 138, 162, 0, 1141), (11, 148, 150, 0, 1091), (11, 153, 169, 0, 1101), (11, 157, 152, 0, 1155), (11, 160, 172, 0, 1151), (11, 167, 174, 0, 1206), (11, 171, 157, 0, 1230), (11, 175, 155, 0, 1190), (11, 178, 156, 0, 1222), (11, 181, 177, 0, 1218), (11, 184, 176, 0, 1226), (11, 187, 178, 0, 1214), (11, 196, 180, 0, 1308), (11, 199, 158, 0, 1167), (11, 205, 183, 0, 1163), (11, 211, 182, 0, 1198), (11, 214, 175, 0, 1202), (11, 217, 179, 0, 1210), (11, 220, 154, 0, 1184), (11, 227, 189, 0, 1194), (11, 231, 184, 0, 1234), (11, 234, 191, 0, 1242), (11, 239, 185, 0, 1251), (11, 242, 186, 0, 1255), (11, 247, 195, 0, 1268), (11, 253, 197, 0, 1275), (11, 257, 198, 0, 1279), (11, 260, 202, 0, 1300), (11, 263, 201, 0, 1296), (11, 266, 203, 0, 1292), (11, 272, 206, 0, 1328), (11, 275, 207, 0, 1324), (11, 284, 208, 0, 1320), (11, 287, 209, 0, 1316), (11, 293, 213, 0, 1356), (11, 296, 214, 0, 1352), (11, 299, 216, 0, 1360), (11, 302, 181, 0, 1340), (11, 306, 212, 0, 1344), (11, 309, 215, 0, 1348), (11, 313, 218, 0, 1373), (11, 318, 219, 0, 1369), (11, 321, 220, 0, 1376), (11, 324, 224, 0, 1388), (11, 327, 223, 0, 1396), (11, 330, 225, 0, 1392), (11, 335, 230, 0, 1404), (11, 337, 228, 0, 1416), (11, 340, 229, 0, 1420), (11, 343, 232, 0, 1412), (11, 346, 227, 0, 1449), (11, 351, 238, 0, 1445), (11, 360, 241, 0, 1470), (11, 363, 243, 0, 1466), (11, 366, 242, 0, 1462), (11, 369, 244, 0, 1474), (11, 372, 245, 0, 1478), (11, 375, 246, 0, 1482), (11, 378, 249, 0, 1494), (11, 381, 254, 0, 1509), (11, 384, 255, 0, 1513), (11, 387, 257, 0, 1525), (15, 9, 98, 0, 19), (15, 12, 149, 0, 960), (15, 13, 99, 0, 371), (15, 17, 187, 0, 1158), (15, 18, 100, 0, 384), (15, 22, 188, 0, 1175), (15, 23, 101, 0, 388), (15, 26, 190, 0, 1180), (15, 27, 102, 0, 437), (15, 31, 192, 0, 1238), (15, 32, 103, 0, 447), (15, 35, 193, 0, 1246), (15, 36, 104, 0, 489), (15, 39, 194, 0, 1259), (15, 40, 105, 0, 493), (15, 43, 196, 0, 1263), (15, 44, 106, 0, 502), (15, 47, 199, 0, 1271), (15, 48, 107, 0, 524), (15, 51, 200, 0, 1284), (15, 52, 108, 0, 529), (15, 55, 204, 0, 1288), (15, 56, 109, 0, 543), (15, 59, 205, 0, 1304), (15, 62, 110, 0, 555), (15, 66, 170, 0, 1083), (15, 67, 111, 0, 559), (15, 70, 171, 0, 1097), (15, 71, 112, 0, 616), (15, 75, 173, 0, 1147), (15, 76, 113, 0, 622), (15, 80, 210, 0, 1312), (15, 81, 114, 0, 671), (15, 84, 217, 0, 1336), (15, 85, 115, 0, 701), (15, 89, 211, 0, 1332), (15, 90, 116, 0, 709), (15, 94, 221, 0, 1364), (15, 95, 117, 0, 718), (15, 98, 222, 0, 1380), (15, 99, 118, 0, 743), (15, 103, 226, 0, 1384), (15, 104, 119, 0, 755), (15, 107, 253, 0, 1505), (15, 108, 120, 0, 779), (15, 111, 231, 0, 1400), (15, 112, 121, 0, 787), (15, 115, 233, 0, 1408), (15, 116, 122, 0, 798), (15, 119, 234, 0, 1424), (15, 120, 123, 0, 802), (15, 123, 235, 0, 1428), (15, 124, 124, 0, 830), (15, 127, 236, 0, 1432), (15, 128, 125, 0, 834), (15, 131, 237, 0, 1436), (15, 132, 126, 0, 844), (15, 135, 239, 0, 1440), (15, 136, 127, 0, 856), (15, 139, 240, 0, 1454), (15, 140, 128, 0, 860), (15, 143, 247, 0, 1458), (15, 144, 129, 0, 882), (15, 147, 248, 0, 1486), (15, 148, 130, 0, 886), (15, 151, 250, 0, 1490), (15, 152, 131, 0, 894), (15, 155, 251, 0, 1497), (15, 156, 132, 0, 898), (15, 159, 252, 0, 1501), (15, 160, 133, 0, 907), (15, 163, 256, 0, 1517), (15, 164, 134, 0, 911), (15, 167, 258, 0, 1521), (15, 168, 135, 0, 924), (15, 171, 259, 0, 1529), (15, 172, 136, 0, 938), (15, 175, 260, 0, 1533), (15, 176, 137, 0, 942), (15, 179, 261, 0, 1537), (15, 180, 138, 0, 946), (15, 183, 262, 0, 1541), (15, 184, 139, 0, 950), (15, 187, 263, 0, 1545), (15, 188, 140, 0, 954), (15, 191, 264, 0, 1549)]
def amCO : List (Nat × Nat × Int × Nat × Nat) := [(7, 22, 1000000, 0, 818), (1, 61, 1103515245, 0, 770), (1, 110, 999999, 0, 521), (8, 32, 81, 1, 742), (0, 232, 81, 1, 713), (0, 346, (-1000000000), 0, 382), (11, 81, (-1000000000), 0, 1095), (11, 142, 48, 1, 1145), (11, 144, 57, 1, 1146), (11, 146, 8, 1, 1087), (11, 151, 255, 1, 1096), (11, 203, 2, 1, 1162), (11, 209, 4, 1, 1179), (11, 223, 69, 1, 1188), (11, 225, 80, 1, 1189), (11, 237, 11, 1, 1250), (11, 245, 6, 1, 1267), (11, 250, 3, 1, 1278), (11, 252, 999999, 0, 1283), (11, 316, 9, 1, 1368), (11, 334, 1103515245, 0, 1453), (11, 349, 200, 1, 1444), (11, 393, 5, 1, 1553), (13, 265, 1431655765, 0, 426), (13, 266, 858993459, 0, 427), (13, 267, 252645135, 0, 428), (15, 60, 4294967295, 1, 1554)]
def amCN : List (Nat × Nat × String × Nat) := [(5, 9, "[[I", 212), (4, 9, "AlikeTown$Text", 187), (1, 9, "AlikeTown$Town", 31), (1, 18, "AlikeTown$Text", 126), (0, 7, "AlikeTown$State", 25), (0, 19, "AlikeTown$Reader", 181), (0, 26, "AlikeTown$Mender", 206), (0, 33, "AlikeTown$Stepper", 234), (0, 40, "AlikeTown$Filler", 256), (0, 47, "AlikeTown$Ways", 273), (0, 54, "AlikeTown$Voices", 293), (0, 61, "AlikeTown$Sheet", 317), (15, 7, "AlikeTown", 17), (15, 10, "AlikeTownModel", 958)]
def amT (ci : Nat) : u_T := match amCl[ci]? with
  | some r => r.2.1
  | none => fun _ => ("", "", "", false)
/-- which field of the words is static -/
def amFok (e : Nat × Nat × Nat × Nat × Nat) : Bool :=
  if e.2.2.2.2 = 0 then false
  else if amNm e.1 = "AlikeTown$Voices" ∧ e.2.2.1 = 9 ∧ amWd e.2.2.2.2 = some (.fieldLink "AlikeTown$Voices" e.2.1 "AlikeTown$Voices" (if e.2.2.2.1 = 0 then "ABOVE" else "OWN") "[I") then true
  else decide (amWd e.2.2.2.2 = some (.fieldLink (amNm e.1) e.2.1 (amT e.2.2.1 e.2.2.2.1).1 (amT e.2.2.1 e.2.2.2.1).2.1 (amT e.2.2.1 e.2.2.2.1).2.2.1))
set_option maxRecDepth 100000 in
theorem amFL_ok : amFL.all amFok = true := by decide +kernel
def amCok (e : Nat × Nat × Nat × Nat × Nat) : Bool :=
  if e.2.2.1 = 9999 then decide (amWd e.2.2.2.2 = some (.methodLink (amNm e.1) e.2.1 Lib.objectInit) ∨ amWd e.2.2.2.2 = some (.methodLink (amNm e.1) e.2.1 arraycopyName))
  else if e.2.2.2.1 = 0 then decide (amWd e.2.2.2.2 = some (.methodLink (amNm e.1) e.2.1 (amY e.2.2.1)))
  else decide (amWd e.2.2.2.2 = some (.methodLinkNest (amNm e.1) e.2.1 (amY e.2.2.1) "AlikeTown"))
set_option maxRecDepth 100000 in
theorem amCS_ok : amCS.all amCok = true := by decide +kernel
def amOok (e : Nat × Nat × Int × Nat × Nat) : Bool :=
  if e.2.2.2.1 = 0 then decide (amWd e.2.2.2.2 = some (.constant (amNm e.1) e.2.1 (Int32.ofInt e.2.2.1)) ∧ -2147483648 ≤ e.2.2.1 ∧ e.2.2.1 < 2147483648)
  else decide (amWd e.2.2.2.2 = some (.constantLong (amNm e.1) e.2.1 (Int64.ofInt e.2.2.1)) ∧ -9223372036854775808 ≤ e.2.2.1 ∧ e.2.2.1 < 9223372036854775808)
set_option maxRecDepth 100000 in
theorem amCO_ok : amCO.all amOok = true := by decide +kernel
def amNok (e : Nat × Nat × String × Nat) : Bool := decide (amWd e.2.2.2 = some (.classLink (amNm e.1) e.2.1 e.2.2.1))
set_option maxRecDepth 100000 in
theorem amCN_ok : amCN.all amNok = true := by decide +kernel
/-- what a method's words must say -/
def amMok (m : Nat) : Bool :=
  amCw (amWd (amWm m).1) (amY m) (amMax m) (amRet m) && decide (amWd (amWm m).2.1 = some (.initialized (amY m).cls)) &&
  (if (mt m).2.1 = 99 then decide (amWd (amWm m).2.2.1 = some (.static (amY m))) else decide (amWd (amWm m).2.2.1 = some (.instanceMethod (amY m)))) &&
  (if (mt m).2.1 = 99 ∨ (amY m).name = "<init>" then true else
    (if (amWm m).2.2.2.1 = 9999 then decide (amWd (amWm m).2.2.2.2.1 = some (.instantiable (amY m).cls (amNF (mt m).2.1))) && decide (amWd (amWm m).2.2.2.2.2 = some (.privateMethod (amY m))) else decide (amWd (amWm m).2.2.2.1 = some (.selects (amY m).cls (amY m) (amY m))))) &&
  decide (m < 266 → plainName (amY m).cls = true) && decide ((amY m).cls ≠ "java/lang/invoke/MethodHandle") && decide ((amY m).cls ≠ "java/lang/invoke/VarHandle") &&
  decide ((parseMethodDescriptor (amY m).desc).map (fun d => d.parameters.length) = some (if (mt m).2.1 = 99 then (mt m).2.2.1.length else (mt m).2.2.1.length - 1)) &&
  decide ((mt m).2.1 = 99 ∨ (amCl[(mt m).2.1]?).map (fun r => r.1) = some (amY m).cls) && decide (amMax m ≤ 12) && decide ((lg_sl ((mt m).2.2.1.map (fun t => if t = 1 then Value.long 0 else .int 0))).length ≤ amMax m)
set_option maxRecDepth 100000 in
theorem amMok_0 : ((List.range 10).all (fun k => amMok (0 + k))) = true := by decide +kernel
set_option maxRecDepth 100000 in
theorem amMok_1 : ((List.range 10).all (fun k => amMok (10 + k))) = true := by decide +kernel
set_option maxRecDepth 100000 in
theorem amMok_2 : ((List.range 10).all (fun k => amMok (20 + k))) = true := by decide +kernel
set_option maxRecDepth 100000 in
theorem amMok_3 : ((List.range 10).all (fun k => amMok (30 + k))) = true := by decide +kernel
set_option maxRecDepth 100000 in
theorem amMok_4 : ((List.range 10).all (fun k => amMok (40 + k))) = true := by decide +kernel
set_option maxRecDepth 100000 in
theorem amMok_5 : ((List.range 10).all (fun k => amMok (50 + k))) = true := by decide +kernel
set_option maxRecDepth 100000 in
theorem amMok_6 : ((List.range 10).all (fun k => amMok (60 + k))) = true := by decide +kernel
set_option maxRecDepth 100000 in
theorem amMok_7 : ((List.range 10).all (fun k => amMok (70 + k))) = true := by decide +kernel
set_option maxRecDepth 100000 in
theorem amMok_8 : ((List.range 10).all (fun k => amMok (80 + k))) = true := by decide +kernel
set_option maxRecDepth 100000 in
theorem amMok_9 : ((List.range 10).all (fun k => amMok (90 + k))) = true := by decide +kernel
set_option maxRecDepth 100000 in
theorem amMok_10 : ((List.range 10).all (fun k => amMok (100 + k))) = true := by decide +kernel
set_option maxRecDepth 100000 in
theorem amMok_11 : ((List.range 10).all (fun k => amMok (110 + k))) = true := by decide +kernel
set_option maxRecDepth 100000 in
theorem amMok_12 : ((List.range 10).all (fun k => amMok (120 + k))) = true := by decide +kernel
set_option maxRecDepth 100000 in
theorem amMok_13 : ((List.range 10).all (fun k => amMok (130 + k))) = true := by decide +kernel
set_option maxRecDepth 100000 in
theorem amMok_14 : ((List.range 10).all (fun k => amMok (140 + k))) = true := by decide +kernel
set_option maxRecDepth 100000 in
theorem amMok_15 : ((List.range 10).all (fun k => amMok (150 + k))) = true := by decide +kernel
set_option maxRecDepth 100000 in
theorem amMok_16 : ((List.range 10).all (fun k => amMok (160 + k))) = true := by decide +kernel
set_option maxRecDepth 100000 in
theorem amMok_17 : ((List.range 10).all (fun k => amMok (170 + k))) = true := by decide +kernel
set_option maxRecDepth 100000 in
theorem amMok_18 : ((List.range 10).all (fun k => amMok (180 + k))) = true := by decide +kernel
set_option maxRecDepth 100000 in
theorem amMok_19 : ((List.range 10).all (fun k => amMok (190 + k))) = true := by decide +kernel
set_option maxRecDepth 100000 in
theorem amMok_20 : ((List.range 10).all (fun k => amMok (200 + k))) = true := by decide +kernel
set_option maxRecDepth 100000 in
theorem amMok_21 : ((List.range 10).all (fun k => amMok (210 + k))) = true := by decide +kernel
set_option maxRecDepth 100000 in
theorem amMok_22 : ((List.range 10).all (fun k => amMok (220 + k))) = true := by decide +kernel
set_option maxRecDepth 100000 in
theorem amMok_23 : ((List.range 10).all (fun k => amMok (230 + k))) = true := by decide +kernel
set_option maxRecDepth 100000 in
theorem amMok_24 : ((List.range 10).all (fun k => amMok (240 + k))) = true := by decide +kernel
set_option maxRecDepth 100000 in
theorem amMok_25 : ((List.range 10).all (fun k => amMok (250 + k))) = true := by decide +kernel
set_option maxRecDepth 100000 in
theorem amMok_26 : ((List.range 8).all (fun k => amMok (260 + k))) = true := by decide +kernel
theorem amMok_at {a n : Nat} (h : ((List.range n).all (fun k => amMok (a + k))) = true) {m : Nat} (h1 : a ≤ m) (h2 : m < a + n) : amMok m = true := by
  have h3 := List.all_eq_true.mp h (m - a) (List.mem_range.mpr (by omega))
  rw [show a + (m - a) = m by omega] at h3
  exact h3
theorem amMok_of {m : Nat} (h : m < 268) : amMok m = true := by
  by_cases h0 : m < 10
  · exact amMok_at amMok_0 (by omega) (by omega)
  by_cases h1 : m < 20
  · exact amMok_at amMok_1 (by omega) (by omega)
  by_cases h2 : m < 30
  · exact amMok_at amMok_2 (by omega) (by omega)
  by_cases h3 : m < 40
  · exact amMok_at amMok_3 (by omega) (by omega)
  by_cases h4 : m < 50
  · exact amMok_at amMok_4 (by omega) (by omega)
  by_cases h5 : m < 60
  · exact amMok_at amMok_5 (by omega) (by omega)
  by_cases h6 : m < 70
  · exact amMok_at amMok_6 (by omega) (by omega)
  by_cases h7 : m < 80
  · exact amMok_at amMok_7 (by omega) (by omega)
  by_cases h8 : m < 90
  · exact amMok_at amMok_8 (by omega) (by omega)
  by_cases h9 : m < 100
  · exact amMok_at amMok_9 (by omega) (by omega)
  by_cases h10 : m < 110
  · exact amMok_at amMok_10 (by omega) (by omega)
  by_cases h11 : m < 120
  · exact amMok_at amMok_11 (by omega) (by omega)
  by_cases h12 : m < 130
  · exact amMok_at amMok_12 (by omega) (by omega)
  by_cases h13 : m < 140
  · exact amMok_at amMok_13 (by omega) (by omega)
  by_cases h14 : m < 150
  · exact amMok_at amMok_14 (by omega) (by omega)
  by_cases h15 : m < 160
  · exact amMok_at amMok_15 (by omega) (by omega)
  by_cases h16 : m < 170
  · exact amMok_at amMok_16 (by omega) (by omega)
  by_cases h17 : m < 180
  · exact amMok_at amMok_17 (by omega) (by omega)
  by_cases h18 : m < 190
  · exact amMok_at amMok_18 (by omega) (by omega)
  by_cases h19 : m < 200
  · exact amMok_at amMok_19 (by omega) (by omega)
  by_cases h20 : m < 210
  · exact amMok_at amMok_20 (by omega) (by omega)
  by_cases h21 : m < 220
  · exact amMok_at amMok_21 (by omega) (by omega)
  by_cases h22 : m < 230
  · exact amMok_at amMok_22 (by omega) (by omega)
  by_cases h23 : m < 240
  · exact amMok_at amMok_23 (by omega) (by omega)
  by_cases h24 : m < 250
  · exact amMok_at amMok_24 (by omega) (by omega)
  by_cases h25 : m < 260
  · exact amMok_at amMok_25 (by omega) (by omega)
  exact amMok_at amMok_26 (by omega) (by omega)
end
section
/-! ===== THE WORLD: what of the heap stands for the abstract cells ===== -/
abbrev amG : Type := Nat × Nat × Nat × Nat
def amAd (G : amG) (k : Nat) : Nat := if k = 300 then G.2.1 else if k = 301 then G.2.2.1 else if k = 302 then G.2.2.2 else G.1 + k
def amVal (G : amG) (t : Nat) (x : Int) : Value := match t with
  | 1 => .long (Int64.ofInt x)
  | 2 => if x < 0 then .null else .ref (amAd G x.toNat)
  | _ => .int (Int32.ofInt x)
/-- a value that may stand on the stack: a reference is one to a cell that is there -/
def amOk (n t : Nat) (x : Int) : Prop := match t with
  | 1 => R64 x
  | 2 => 0 ≤ x ∧ (x < (n : Int) ∨ x = 300 ∨ x = 301 ∨ x = 302)
  | _ => R32 x
/-- what may stand in a slot: nothing, too -/
def amOkF (n t : Nat) (x : Int) : Prop := (t = 2 ∧ x = -1) ∨ amOk n t x
/-- the kind of a slot -/
def amSl (k j : Nat) : Nat := if (amShp k).1 < 20 then amFt (amShp k).1 j else if (amShp k).1 = 21 then 1 else if (amShp k).1 < 23 then 0 else 2
def amArr (G : amG) (t : Nat) (f : Nat → Int) : (Nat → Int32) ⊕ (Nat → Int64) ⊕ (Nat → UInt32) ⊕ (Nat → UInt64) ⊕ (Nat → Option Nat) :=
  if t = 21 then .inr (.inl (fun j => Int64.ofInt (f j))) else if t < 23 then .inl (fun j => Int32.ofInt (f j)) else .inr (.inr (.inr (.inr (fun j => if f j < 0 then none else some (amAd G (f j).toNat)))))
def amCellE (E : Nat → ClassId) (G : amG) (f : Nat → Int) (k : Nat) : va_E :=
  if (amShp k).1 < 20 then .inr ((amShp k).1, (List.range (amShp k).2).map (fun j => amVal G (amFt (amShp k).1 j) (f j)))
  else .inl (E (amShp k).1, (amShp k).2, amArr G (amShp k).1 f)
def amWs (E : Nat → ClassId) (G : amG) (n : Nat) (C : Nat → Nat → Int) : va_W := (List.range n).map (fun k => (G.1 + k, amCellE E G (C k) k))
theorem amWs_get {E : Nat → ClassId} {G : amG} {n k : Nat} {C : Nat → Nat → Int} (h : k < n) : (amWs E G n C)[k]? = some (G.1 + k, amCellE E G (C k) k) := by
  unfold amWs
  rw [List.getElem?_map, List.getElem?_range h]
  rfl
theorem amWs_lt {E : Nat → ClassId} {G : amG} {n k : Nat} {C : Nat → Nat → Int} {q : Nat × va_E} (h : (amWs E G n C)[k]? = some q) : k < n ∧ q = (G.1 + k, amCellE E G (C k) k) := by
  have hk : k < n := by
    have := (List.getElem?_eq_some_iff.mp h).1
    simpa [amWs] using this
  rw [amWs_get hk] at h
  exact ⟨hk, (Option.some.inj h).symm⟩
theorem amWs_D {E : Nat → ClassId} {G : amG} {n : Nat} {C : Nat → Nat → Int} : va_D (fun q => G.1 ≤ q) (amWs E G n C) := by
  refine ⟨fun i j p q hi hj h => ?_, fun k q hk => ?_⟩
  · obtain ⟨-, rfl⟩ := amWs_lt hi
    obtain ⟨-, rfl⟩ := amWs_lt hj
    have : G.1 + i = G.1 + j := h
    omega
  · obtain ⟨-, rfl⟩ := amWs_lt hk
    exact Nat.le_add_right _ _
theorem amWs_congr {E : Nat → ClassId} {G : amG} {n : Nat} {C C' : Nat → Nat → Int} (h : ∀ k, k < n → C k = C' k) : amWs E G n C = amWs E G n C' := by
  unfold amWs
  apply List.map_congr_left
  intro k hk
  rw [h k (List.mem_range.mp hk)]
theorem amWs_set {E : Nat → ClassId} {G : amG} {n k : Nat} {C C' : Nat → Nat → Int} (h : ∀ j, j < n → j ≠ k → C' j = C j) : (amWs E G n C).set k (G.1 + k, amCellE E G (C' k) k) = amWs E G n C' := by
  apply List.ext_getElem?
  intro j
  by_cases hj : j < n
  · rw [amWs_get hj]
    by_cases e : j = k
    · subst e
      rw [List.getElem?_set_self (by simpa [amWs] using hj)]
    · rw [List.getElem?_set_ne (Ne.symm e), amWs_get hj, h j hj e]
  · rw [List.getElem?_eq_none (by simp [amWs]; omega), List.getElem?_eq_none (by simp [amWs]; omega)]
theorem amWs_push {E : Nat → ClassId} {G : amG} {n : Nat} {C C' : Nat → Nat → Int} (h : ∀ j, j < n → C' j = C j) : amWs E G n C ++ [(G.1 + n, amCellE E G (C' n) n)] = amWs E G (n + 1) C' := by
  unfold amWs
  rw [List.range_succ, List.map_append]
  congr 1
  apply List.map_congr_left
  intro k hk
  rw [h k (List.mem_range.mp hk)]
/-- the heap holds the cells -/
def amH (D : va_G) (E : Nat → ClassId) (G : amG) (cr : amC) (n : Nat) (μ : amM) (H : Heap) : Prop :=
  va_P D amCl (amWs E G n (amCt cr μ)) H ∧ (∀ k, k < n → ∀ j, j < (amShp k).2 → amOkF n (amSl k j) (amCt cr μ k j)) ∧ μ 999 0 = (n : Int) ∧ n ≤ 95
theorem amH.cnt {D : va_G} {E : Nat → ClassId} {G : amG} {cr : amC} {n : Nat} {μ : amM} {H : Heap} (h : amH D E G cr n μ H) : amCnt μ = n := by
  unfold amCnt
  rw [h.2.2.1]
  rfl
/-- the script -/
def amX (L : Nat) (xs : Nat → Int32) (μ : amM) : Prop := μ 302 0 = (L : Int) ∧ ∀ j, j < L → μ 302 (j + 1) = (xs j).toInt
/-- the tables' words that every caller can use -/
def amTbl : List Jvm.Cond := tables_1.filter goodWord
theorem amTbl_in {i : Nat} {w : Jvm.Cond} (h : amWd i = some w) (hg : goodWord w = true) : w ∈ amTbl := List.mem_filter.mpr ⟨amWd_in h, hg⟩
theorem amTbl_good {ws : List Jvm.Cond} (h : ∀ w ∈ ws, w ∈ amTbl) : GoodIn amTbl ws := fun w hw => ⟨h w hw, good_of_word (List.mem_filter.mp (h w hw)).2⟩
def amTys (E : Nat → ClassId) : List (ClassId × FieldType) := [(E 20, .int), (E 21, .long), (E 22, .boolean), (E 23, .object "AlikeTown$Text"), (E 24, .object "AlikeTown$Sheet"), (E 25, .array .int)]
/-- the calls of nest mates -/
def amNL : List (String × Nat × MethodName) := [("AlikeTown$State", 35, ⟨"AlikeTown$Text", "<init>", "()V"⟩), ("AlikeTown", 21, ⟨"AlikeTown$Reader", "<init>", "()V"⟩), ("AlikeTown$Reader", 11, ⟨"AlikeTown$Text", "<init>", "()V"⟩), ("AlikeTown", 28, ⟨"AlikeTown$Mender", "<init>", "()V"⟩), ("AlikeTown", 35, ⟨"AlikeTown$Stepper", "<init>", "()V"⟩), ("AlikeTown", 42, ⟨"AlikeTown$Filler", "<init>", "()V"⟩), ("AlikeTown", 56, ⟨"AlikeTown$Voices", "<init>", "()V"⟩), ("AlikeTown", 71, ⟨"AlikeTown$Sheet", "<init>", "()V"⟩)]
/-- what is known of a state's tables and of what stood there before -/
def amK (D : va_G) (E : Nat → ClassId) (G : amG) (L : Nat) (xs : Nat → Int32) (s : State) (H : Heap) : Prop :=
  va_K D amCl (amTys E) s ∧ (∀ q ∈ amNL, va_Nw (.methodLinkNest q.1 q.2.1 q.2.2 "AlikeTown") s) ∧ (va_AO "AlikeTown$Text" s ∧ va_AO "AlikeTown$Sheet" s ∧ (Cond.arrayOver (.array .int)).before #[] s = true) ∧
  (va_Z "AlikeTown$Voices" "ABOVE" "[I" (.ref G.2.1) (fun q => G.1 ≤ q) s H ∧ va_Z "AlikeTown$Voices" "OWN" "[I" (.ref G.2.2.1) (fun q => G.1 ≤ q) s H) ∧
  (va_T .int G.2.1 7 (fun j => .int (Int32.ofInt (amTab 300 j))) (fun q => G.1 ≤ q) s H ∧ va_T .int G.2.2.1 28 (fun j => .int (Int32.ofInt (amTab 301 j))) (fun q => G.1 ≤ q) s H) ∧
  (va_X G.2.2.2 L xs s H ∧ G.2.2.2 < G.1 ∧ L ≤ 3072 ∧ G.1 ≤ H.size)
theorem amOver_moved {s U : State} {ty : FieldType} (hvm : s.vm.Alike U.vm) (h : (Cond.arrayOver ty).before #[] s = true) : (Cond.arrayOver ty).before #[] U = true := by
  have h1 := Cond.arrayOver_setVmC (args := #[]) hvm ty
  rw [h] at h1
  exact h1
theorem amK.moved {D : va_G} {E : Nat → ClassId} {G : amG} {L : Nat} {xs : Nat → Int32} {s U : State} {H H1 : Heap} (h : amK D E G L xs s H) (hW : s.WarmedH U.vm) (hq : ∀ q : Nat, q < G.1 → H1[q]? = H[q]?) (hz : G.1 ≤ H1.size) : amK D E G L xs U H1 := by
  obtain ⟨k1, k2, ⟨k3, k4, k5⟩, ⟨k6, k7⟩, ⟨k8, k9⟩, k10, k11, k12, k13⟩ := h
  have hl : ∀ a : Nat, a < H.size → ¬ G.1 ≤ a → H1[a]? = H[a]? := fun a _ h => hq a (Nat.lt_of_not_le h)
  exact ⟨va_K.moved hW.alike k1, fun q hq => va_Nw.warmM hW (k2 q hq), ⟨va_AO.moved hW.alike k3, va_AO.moved hW.alike k4, amOver_moved hW.alike k5⟩, ⟨(k6.moved hW.alike).kept hl, (k7.moved hW.alike).kept hl⟩, ⟨(k8.moved hW.alike).kept hl, (k9.moved hW.alike).kept hl⟩, (k10.moved hW.alike).kept (hq _ k11), k11, k12, hz⟩
theorem amOk_0 {n t : Nat} {x : Int} (h1 : t ≠ 1) (h2 : t ≠ 2) : amOk n t x ↔ R32 x := by
  unfold amOk
  split
  · exact absurd rfl h1
  · exact absurd rfl h2
  · exact Iff.rfl
theorem amOk.up {n n' t : Nat} {x : Int} (h : amOk n t x) (hn : n ≤ n') : amOk n' t x := by
  by_cases h1 : t = 1
  · subst h1; exact h
  · by_cases h2 : t = 2
    · subst h2
      refine ⟨h.1, ?_⟩
      rcases h.2 with h | h
      · exact Or.inl (by omega)
      · exact Or.inr h
    · rw [amOk_0 h1 h2] at h ⊢
      exact h
theorem amOkF.up {n n' t : Nat} {x : Int} (h : amOkF n t x) (hn : n ≤ n') : amOkF n' t x := h.imp id (fun h => h.up hn)
/-- the stack -/
def amStk (n : Nat) : List Nat → List Int → Prop
  | [], [] => True
  | t :: ts, x :: xs => amOk n t x ∧ amStk n ts xs
  | _, _ => False
def amVs (G : amG) (ts : List Nat) (xs : List Int) : List Value := List.zipWith (amVal G) ts xs
theorem amStk.up {n n' : Nat} (hn : n ≤ n') : ∀ {ts : List Nat} {xs : List Int}, amStk n ts xs → amStk n' ts xs
  | [], [], _ => trivial
  | _ :: _, _ :: _, h => ⟨h.1.up hn, amStk.up hn h.2⟩
  | [], _ :: _, h => h.elim
  | _ :: _, [], h => h.elim
theorem amStk.len {n : Nat} : ∀ {ts : List Nat} {xs : List Int}, amStk n ts xs → ts.length = xs.length
  | [], [], _ => rfl
  | _ :: _, _ :: _, h => congrArg (· + 1) (amStk.len h.2)
  | [], _ :: _, h => h.elim
  | _ :: _, [], h => h.elim
theorem amStk.app {n : Nat} : ∀ {t1 t2 : List Nat} {x1 x2 : List Int}, amStk n t1 x1 → amStk n t2 x2 → amStk n (t1 ++ t2) (x1 ++ x2)
  | [], _, [], _, _, h => h
  | _ :: _, _, _ :: _, _, h1, h => ⟨h1.1, amStk.app h1.2 h⟩
  | [], _, _ :: _, _, h, _ => h.elim
  | _ :: _, _, [], _, h, _ => h.elim
theorem amStk.split {n : Nat} : ∀ {t1 t2 : List Nat} {xs : List Int}, amStk n (t1 ++ t2) xs → amStk n t1 (xs.take t1.length) ∧ amStk n t2 (xs.drop t1.length)
  | [], _, _, h => ⟨trivial, h⟩
  | _ :: _, _, _ :: _, h => ⟨⟨h.1, (amStk.split h.2).1⟩, (amStk.split h.2).2⟩
  | _ :: _, _, [], h => h.elim
theorem amStk.rev {n : Nat} : ∀ {ts : List Nat} {xs : List Int}, amStk n ts xs → amStk n ts.reverse xs.reverse
  | [], [], _ => trivial
  | t :: ts, x :: xs, h => by
    rw [List.reverse_cons, List.reverse_cons]
    exact (amStk.rev h.2).app ⟨h.1, trivial⟩
  | [], _ :: _, h => h.elim
  | _ :: _, [], h => h.elim
theorem amVs_rev (G : amG) : ∀ {ts : List Nat} {xs : List Int}, ts.length = xs.length → amVs G ts.reverse xs.reverse = (amVs G ts xs).reverse := by
  intro ts xs h
  unfold amVs
  rw [List.reverse_zipWith h]
/-- the locals -/
def amLv (G : amG) (tl : List Nat) (lc : List Int) : List (Nat × Value) := (List.range tl.length).filterMap (fun i => if tl.getD i 3 = 3 then none else some (i, amVal G (tl.getD i 3) (lc.getD i 0)))
def amFr (nL : Nat) (G : amG) (n : Nat) (tl : List Nat) (lc : List Int) (sl : Array Slot) : Prop :=
  tl.length = lc.length ∧ tl.length = nL ∧ lv_has sl nL (amLv G tl lc) ∧ ∀ i, tl.getD i 3 ≠ 3 → amOk n (tl.getD i 3) (lc.getD i 0)
theorem amLv_mem {G : amG} {tl : List Nat} {lc : List Int} {q : Nat × Value} : q ∈ amLv G tl lc ↔ ∃ i, tl.getD i 3 ≠ 3 ∧ q = (i, amVal G (tl.getD i 3) (lc.getD i 0)) := by
  unfold amLv
  rw [List.mem_filterMap]
  constructor
  · rintro ⟨i, hi, h⟩
    by_cases e : tl.getD i 3 = 3
    · rw [if_pos e] at h; cases h
    · rw [if_neg e] at h
      exact ⟨i, e, (Option.some.inj h).symm⟩
  · rintro ⟨i, hi, rfl⟩
    refine ⟨i, List.mem_range.mpr ?_, by rw [if_neg hi]⟩
    apply Nat.lt_of_not_le
    intro h
    apply hi
    rw [List.getD_eq_getElem?_getD, List.getElem?_eq_none h]
    rfl
theorem amFr.up {nL n n' : Nat} {G : amG} {tl : List Nat} {lc : List Int} {sl : Array Slot} (h : amFr nL G n tl lc sl) (hn : n ≤ n') : amFr nL G n' tl lc sl := ⟨h.1, h.2.1, h.2.2.1, fun i hi => (h.2.2.2 i hi).up hn⟩
theorem amFr.at {nL n i t : Nat} {G : amG} {tl : List Nat} {lc : List Int} {sl : Array Slot} (h : amFr nL G n tl lc sl) (hi : tl.getD i 3 = t) (ht : t ≠ 3) : sl[i]? = some (.val (amVal G t (lc.getD i 0))) ∧ amOk n t (lc.getD i 0) := by
  subst hi
  exact ⟨h.2.2.1.2.2 _ (amLv_mem.mpr ⟨i, ht, rfl⟩), h.2.2.2 i ht⟩
/-- what a store leaves of the kinds of the locals -/
def amKill (tl : List Nat) (i : Nat) : List Nat := if 0 < i ∧ tl.getD (i - 1) 3 = 1 then tl.set (i - 1) 3 else tl
def amTl1 (tl : List Nat) (i t : Nat) : List Nat := (amKill tl i).set i t
def amTl2 (tl : List Nat) (i : Nat) : List Nat := ((amKill tl i).set i 1).set (i + 1) 3
theorem amKill_len (tl : List Nat) (i : Nat) : (amKill tl i).length = tl.length := by
  unfold amKill
  split <;> simp
theorem getD_set_self {l : List Nat} {i v z : Nat} (h : i < l.length) : (l.set i v).getD i z = v := by
  rw [List.getD_eq_getElem?_getD, List.getElem?_set_self h]; rfl
theorem getD_set_ne {α : Type} {l : List α} {i j : Nat} {v z : α} (h : i ≠ j) : (l.set i v).getD j z = l.getD j z := by
  rw [List.getD_eq_getElem?_getD, List.getElem?_set_ne h, ← List.getD_eq_getElem?_getD]
theorem getD_set_selfI {l : List Int} {i : Nat} {v z : Int} (h : i < l.length) : (l.set i v).getD i z = v := by
  rw [List.getD_eq_getElem?_getD, List.getElem?_set_self h]; rfl
theorem amKill_getD {tl : List Nat} {i j : Nat} (h : (amKill tl i).getD j 3 ≠ 3) : tl.getD j 3 = (amKill tl i).getD j 3 ∧ ¬ (j + 1 = i ∧ tl.getD j 3 = 1) := by
  unfold amKill at h ⊢
  split
  · next h1 =>
    rw [if_pos h1] at h
    by_cases e : i - 1 = j
    · exfalso
      apply h
      subst e
      by_cases hl : i - 1 < tl.length
      · exact getD_set_self hl
      · rw [List.getD_eq_getElem?_getD, List.getElem?_eq_none (by simp; omega)]; rfl
    · rw [getD_set_ne e] at h ⊢
      exact ⟨rfl, fun h2 => by omega⟩
  · next h1 =>
    refine ⟨rfl, fun h2 => h1 ⟨by omega, ?_⟩⟩
    rw [show i - 1 = j by omega]
    exact h2.2
theorem amFr.st1 {nL n i t : Nat} {G : amG} {tl : List Nat} {lc : List Int} {sl sl' : Array Slot} {x : Int} (h : amFr nL G n tl lc sl) (hi : i < nL) (hx : amOk n t x) (ht : t ≠ 3)
    (h' : lv_has sl' nL ((i, amVal G t x) :: (amLv G tl lc).filter (fun q => !(q.1 == i) && !(q.1 + 1 == i && q.2.category == 2)))) : amFr nL G n (amTl1 tl i t) (lc.set i x) sl' := by
  obtain ⟨h1, h2, h3, h4⟩ := h
  have hlen : (amTl1 tl i t).length = tl.length := by simp [amTl1, amKill_len]
  have key : ∀ j, (amTl1 tl i t).getD j 3 ≠ 3 → (j = i ∧ (amTl1 tl i t).getD j 3 = t ∧ (lc.set i x).getD j 0 = x) ∨ (j ≠ i ∧ (amTl1 tl i t).getD j 3 = tl.getD j 3 ∧ (lc.set i x).getD j 0 = lc.getD j 0 ∧ tl.getD j 3 ≠ 3 ∧ ¬ (j + 1 = i ∧ tl.getD j 3 = 1)) := by
    intro j hj
    by_cases e : j = i
    · subst e
      exact Or.inl ⟨rfl, getD_set_self (by rw [amKill_len]; omega), getD_set_selfI (by omega)⟩
    · have e1 : (amTl1 tl i t).getD j 3 = (amKill tl i).getD j 3 := getD_set_ne (Ne.symm e)
      rw [e1] at hj
      obtain ⟨e2, e3⟩ := amKill_getD hj
      exact Or.inr ⟨e, by rw [e1, e2], getD_set_ne (Ne.symm e), by rw [e2]; exact hj, e3⟩
  refine ⟨by rw [hlen, List.length_set]; exact h1, by rw [hlen]; exact h2, ⟨h'.1, h'.2.1, fun q hq => ?_⟩, fun j hj => ?_⟩
  · obtain ⟨j, hj, rfl⟩ := amLv_mem.mp hq
    apply h'.2.2
    rcases key j hj with ⟨rfl, e1, e2⟩ | ⟨e0, e1, e2, e3, e4⟩
    · rw [e1, e2]
      exact List.mem_cons_self
    · rw [e1, e2]
      refine List.mem_cons_of_mem _ (List.mem_filter.mpr ⟨amLv_mem.mpr ⟨j, e3, rfl⟩, ?_⟩)
      simp only [Bool.and_eq_true, Bool.not_eq_true', beq_eq_false_iff_ne, Bool.and_eq_false_iff]
      refine ⟨e0, ?_⟩
      by_cases z : j + 1 = i
      · right
        have z1 : ¬ tl.getD j 3 = 1 := fun z1 => e4 ⟨z, z1⟩
        unfold amVal
        split
        · next z2 => exact absurd z2 z1
        · split <;> simp [Value.category]
        · simp [Value.category]
      · left
        exact z
  · rcases key j hj with ⟨rfl, e1, e2⟩ | ⟨e0, e1, e2, e3, e4⟩
    · rw [e1, e2]; exact hx
    · rw [e1, e2]; exact h4 j e3
theorem amFr.st2 {nL n i : Nat} {G : amG} {tl : List Nat} {lc : List Int} {sl sl' : Array Slot} {x : Int} (h : amFr nL G n tl lc sl) (hi : i + 1 < nL) (hx : R64 x)
    (h' : lv_has sl' nL ((i, Value.long (Int64.ofInt x)) :: (amLv G tl lc).filter (fun q => !(q.1 == i) && (!(q.1 == i + 1) && !(q.1 + 1 == i && q.2.category == 2))))) : amFr nL G n (amTl2 tl i) (lc.set i x) sl' := by
  obtain ⟨h1, h2, h3, h4⟩ := h
  have hlen : (amTl2 tl i).length = tl.length := by simp [amTl2, amKill_len]
  have key : ∀ j, (amTl2 tl i).getD j 3 ≠ 3 → (j = i ∧ (amTl2 tl i).getD j 3 = 1 ∧ (lc.set i x).getD j 0 = x) ∨ (j ≠ i ∧ j ≠ i + 1 ∧ (amTl2 tl i).getD j 3 = tl.getD j 3 ∧ (lc.set i x).getD j 0 = lc.getD j 0 ∧ tl.getD j 3 ≠ 3 ∧ ¬ (j + 1 = i ∧ tl.getD j 3 = 1)) := by
    intro j hj
    by_cases e9 : j = i + 1
    · exfalso
      apply hj
      subst e9
      exact getD_set_self (by simp [amKill_len]; omega)
    · by_cases e : j = i
      · subst e
        exact Or.inl ⟨rfl, by unfold amTl2; rw [getD_set_ne (by omega), getD_set_self (by rw [amKill_len]; omega)], getD_set_selfI (by omega)⟩
      · have e1 : (amTl2 tl i).getD j 3 = (amKill tl i).getD j 3 := by unfold amTl2; rw [getD_set_ne (Ne.symm e9), getD_set_ne (Ne.symm e)]
        rw [e1] at hj
        obtain ⟨e2, e3⟩ := amKill_getD hj
        exact Or.inr ⟨e, e9, by rw [e1, e2], getD_set_ne (Ne.symm e), by rw [e2]; exact hj, e3⟩
  refine ⟨by rw [hlen, List.length_set]; exact h1, by rw [hlen]; exact h2, ⟨h'.1, h'.2.1, fun q hq => ?_⟩, fun j hj => ?_⟩
  · obtain ⟨j, hj, rfl⟩ := amLv_mem.mp hq
    apply h'.2.2
    rcases key j hj with ⟨rfl, e1, e2⟩ | ⟨e0, e9, e1, e2, e3, e4⟩
    · rw [e1, e2]
      exact List.mem_cons_self
    · rw [e1, e2]
      refine List.mem_cons_of_mem _ (List.mem_filter.mpr ⟨amLv_mem.mpr ⟨j, e3, rfl⟩, ?_⟩)
      simp only [Bool.and_eq_true, Bool.not_eq_true', beq_eq_false_iff_ne, Bool.and_eq_false_iff]
      refine ⟨e0, e9, ?_⟩
      by_cases z : j + 1 = i
      · right
        have z1 : ¬ tl.getD j 3 = 1 := fun z1 => e4 ⟨z, z1⟩
        unfold amVal
        split
        · next z2 => exact absurd z2 z1
        · split <;> simp [Value.category]
        · simp [Value.category]
      · left
        exact z
  · rcases key j hj with ⟨rfl, e1, e2⟩ | ⟨e0, e9, e1, e2, e3, e4⟩
    · rw [e1, e2]; exact hx
    · rw [e1, e2]; exact h4 j e3
/-- how many slots the first cells have -/
def amSs (n : Nat) : Nat := ((List.range n).map (fun k => (amShp k).2)).sum
theorem amSs_succ (n : Nat) : amSs (n + 1) = amSs n + (amShp n).2 := by
  unfold amSs
  rw [List.range_succ, List.map_append, List.sum_append]
  simp
theorem amSs_le {a b : Nat} (h : a ≤ b) : amSs a ≤ amSs b := by
  induction b with
  | zero => rw [Nat.le_zero.mp h]; exact Nat.le_refl _
  | succ b ih =>
    rcases Nat.lt_or_ge a (b + 1) with q | q
    · rw [amSs_succ]
      have := ih (by omega)
      omega
    · rw [show a = b + 1 by omega]; exact Nat.le_refl _
/-- fixed references are references, of cells that are none of numbers -/
def amCrOk (cr : amC) : Prop := ∀ k j v, cr k j = some v → amSl k j = 2 ∧ 0 ≤ v
theorem amCt_up {cr : amC} {μ : amM} {k i : Nat} {v : Int} (h : cr k i = none) : amCt cr (up μ k i v) k = fun j => if j = i then v else amCt cr μ k j := by
  funext j
  unfold amCt up
  by_cases e : j = i
  · subst e
    rw [h]
    simp
  · simp [e]
theorem amCt_up_ne {cr : amC} {μ : amM} {k i c : Nat} {v : Int} (h : c ≠ k) : amCt cr (up μ k i v) c = amCt cr μ c := by
  funext j
  unfold amCt up
  simp [h]
theorem amH.put {D : va_G} {E : Nat → ClassId} {G : amG} {cr : amC} {n k i : Nat} {v : Int} {μ : amM} {H H1 : Heap} (h : amH D E G cr n μ H) (hcr : cr k i = none) (h9 : k ≠ 999) (hv : amOkF n (amSl k i) v)
    (hP : va_P D amCl ((amWs E G n (amCt cr μ)).set k (G.1 + k, amCellE E G (amCt cr (up μ k i v) k) k)) H1) : amH D E G cr n (up μ k i v) H1 := by
  obtain ⟨h1, h2, h3, h4⟩ := h
  refine ⟨?_, fun c hc j hj => ?_, ?_, h4⟩
  · rwa [amWs_set (C' := amCt cr (up μ k i v)) (fun j hj e => amCt_up_ne e)] at hP
  · by_cases e : c = k
    · subst e
      rw [amCt_up hcr]
      by_cases e2 : j = i
      · subst e2; simpa using hv
      · simpa [e2] using h2 c hc j hj
    · rw [amCt_up_ne e]; exact h2 c hc j hj
  · unfold up
    rw [if_neg (Ne.symm h9)]; exact h3
theorem amX.put {L : Nat} {xs : Nat → Int32} {μ : amM} {k i : Nat} {v : Int} (h : amX L xs μ) (hk : k ≠ 302) : amX L xs (up μ k i v) := by
  unfold amX up at *
  simp only [if_neg (Ne.symm hk)]
  exact h
theorem tg_shp {x : Int} {t : Nat} (h : amTg x = t) (ht : t < 26) : 0 ≤ x ∧ (amShp x.toNat).1 = t ∧ x.toNat < 95 ∧ x ≠ 300 ∧ x ≠ 301 ∧ x ≠ 302 := by
  cases x with
  | ofNat c =>
    have h1 : amTgN c = t := h
    have e1 : c ≠ 300 := fun e => by subst e; have : amTgN 300 = 27 := rfl; omega
    have e2 : c ≠ 301 := fun e => by subst e; have : amTgN 301 = 27 := rfl; omega
    have e3 : c ≠ 302 := fun e => by subst e; have : amTgN 302 = 26 := rfl; omega
    have h2 : amTgN c = (amShp c).1 := by
      unfold amTgN
      split
      · exact absurd rfl e1
      · exact absurd rfl e2
      · exact absurd rfl e3
      · rfl
    have h3 : c < 95 := by
      apply Nat.lt_of_not_le
      intro hc
      have : amShp c = (99, 0) := by
        unfold amShp
        rw [List.getD_eq_getElem?_getD, List.getElem?_eq_none (by show amShpL.length ≤ c; exact hc)]
        rfl
      rw [h2, this] at h1
      have : (99 : Nat) = t := h1
      omega
    exact ⟨Int.natCast_nonneg c, by rw [← h1, h2]; rfl, h3, by intro e; exact e1 (Int.ofNat.inj e), by intro e; exact e2 (Int.ofNat.inj e), by intro e; exact e3 (Int.ofNat.inj e)⟩
  | negSucc c =>
    have h1 : 99 = t := h
    omega
theorem amAd_lt {G : amG} {k : Nat} (h : k < 95) : amAd G k = G.1 + k := by
  unfold amAd
  rw [if_neg (by omega), if_neg (by omega), if_neg (by omega)]
theorem amOk_lt {n : Nat} {x : Int} (h : amOk n 2 x) (h1 : x ≠ 300) (h2 : x ≠ 301) (h3 : x ≠ 302) : x.toNat < n := by
  obtain ⟨h4, h5⟩ := h
  rcases h5 with h | h | h | h
  · omega
  · exact absurd h h1
  · exact absurd h h2
  · exact absurd h h3
theorem amVal_ref {G : amG} {x : Int} (h : 0 ≤ x) : amVal G 2 x = .ref (amAd G x.toNat) := if_neg (by omega)
theorem amVs_ref {G : amG} {x : Int} {ts : List Nat} {st : List Int} (h : 0 ≤ x) : amVs G (2 :: ts) (x :: st) = .ref (amAd G x.toNat) :: amVs G ts st := congrArg (· :: amVs G ts st) (amVal_ref h)
theorem range_get {α : Type} {N k : Nat} {f : Nat → α} (h : k < N) : ((List.range N).map f)[k]? = some (f k) := by
  rw [List.getElem?_map, List.getElem?_range h]; rfl
theorem range_set {α : Type} {N k : Nat} {f : Nat → α} {v : α} (h : k < N) : ((List.range N).map f).set k v = (List.range N).map (fun j => if j = k then v else f j) := by
  apply List.ext_getElem?
  intro j
  by_cases hj : j < N
  · rw [range_get hj]
    by_cases e : j = k
    · subst e
      rw [List.getElem?_set_self (by simpa using hj)]; simp
    · rw [List.getElem?_set_ne (Ne.symm e), range_get hj]; simp [e]
  · rw [List.getElem?_eq_none (by simp; omega), List.getElem?_eq_none (by simp; omega)]
theorem W_size {p : Program} {l : Launch} {e : Env} {R : Room} {s : State} {m : MethodId} {args : Array Value} {below : List Frame} {meth : Method} {c : Code} {H : Heap} {locs : List Loc} {cells slots : Nat} {Q : State → Prop} {g : JFrame} (h : H.size ≤ s.heap.size + cells → W p l e R s m args below meth c H locs cells slots Q g) : W p l e R s m args below meth c H locs cells slots Q g := by
  intro T hT X
  exact h (by rw [← hT]; exact X.heapSize) T hT X
theorem amH.low {D : va_G} {E : Nat → ClassId} {G : amG} {cr : amC} {n : Nat} {μ : amM} {H : Heap} (h : amH D E G cr n μ H) (hn : n ≠ 0) : G.1 + n ≤ H.size := by
  have h1 := (h.1 (n - 1) _ (amWs_get (by omega))).lt
  have h2 : G.1 + (n - 1) < H.size := h1
  omega
end
section
/-! ===== cells are only added ===== -/
def amMr (μ : amM) (o : amR) : Prop := ∀ r, o = some r → amCnt μ ≤ amCnt r.2
theorem amMr_c {μ : amM} : amMr μ none := fun _ h => by cases h
theorem amMr_s {μ : amM} {x : Int} : amMr μ (some (x, μ)) := fun _ h => by cases h; exact Nat.le_refl _
theorem amMr_ite {μ : amM} {c : Prop} {hc : Decidable c} {a b : amR} (ha : amMr μ a) (hb : amMr μ b) : amMr μ (if c then a else b) := by
  split
  · exact ha
  · exact hb
theorem amMr_bnd {μ : amM} {o : amR} {F : Int → amM → amR} (ho : amMr μ o) (h : ∀ v μ, amMr μ (F v μ)) : amMr μ (bnd o F) := by
  cases o with
  | none => exact amMr_c
  | some r => exact fun r' h' => Nat.le_trans (ho r rfl) (h r.1 r.2 r' h')
theorem amMr_to {μ μ' : amM} {o : amR} (h : amMr μ' o) (he : amCnt μ ≤ amCnt μ') : amMr μ o := fun r hr => Nat.le_trans he (h r hr)
theorem cnt_up {μ : amM} {c i : Nat} {v : Int} (h : c ≠ 999) : amCnt (up μ c i v) = amCnt μ := by
  unfold amCnt up
  rw [if_neg (Ne.symm h)]
theorem cnt_upr {μ : amM} {c : Nat} {f : Nat → Int} (h : c ≠ 999) : amCnt (upr μ c f) = amCnt μ := by
  unfold amCnt upr
  rw [if_neg (Ne.symm h)]
theorem tg_999 {x : Int} {t : Nat} (h : amTg x = t) (ht : t < 90) : x.toNat ≠ 999 := by
  intro e
  cases x with
  | ofNat c =>
    have : c = 999 := e
    subst this
    have h2 : amTg (Int.ofNat 999) = 99 := by decide +kernel
    omega
  | negSucc c =>
    have : (0 : Nat) = 999 := e
    omega
theorem shp_999 {n t : Nat} (h : (amShp n).1 = t) (ht : t < 90) : n ≠ 999 := by
  intro e
  subst e
  have h2 : (amShp 999).1 = 99 := by decide +kernel
  omega
theorem cnt_born {μ : amM} {t : Nat} (h : (amShp (amCnt μ)).1 = t) (ht : t < 90) : amCnt (amBorn μ) = amCnt μ + 1 := by
  have h1 := shp_999 h ht
  show (amBorn μ 999 0).toNat = _
  unfold amBorn
  rw [if_neg (Ne.symm h1), if_pos rfl]
  omega
theorem amMr_Gf {cr : amC} {μ : amM} {ci k : Nat} {x : Int} {f : Int → amR} (h : ∀ v, amMr μ (f v)) : amMr μ (amGf cr μ ci k x f) := amMr_ite (amMr_ite (amMr_ite (h _) amMr_c) (h _)) amMr_c
theorem amMr_Gx {cr : amC} {μ : amM} {ci k : Nat} {x w : Int} {f : Int → amR} (h : ∀ v, amMr μ (f v)) : amMr μ (amGx cr μ ci k x w f) := amMr_ite (amMr_ite (amMr_ite (h _) amMr_c) amMr_c) amMr_c
theorem amMr_Pf {cr : amC} {μ : amM} {ci k : Nat} {x v : Int} {f : amM → amR} (h : ∀ μ, amMr μ (f μ)) : amMr μ (amPf cr μ ci k x v f) := by
  unfold amPf
  split
  · next e => exact amMr_to (h _) (Nat.le_of_eq (cnt_up (tg_999 e.1 e.2.1)).symm)
  · exact amMr_c
theorem amMr_Ald {μ : amM} {x i : Int} {f : Int → amR} (h : ∀ v, amMr μ (f v)) : amMr μ (amAld μ x i f) := amMr_ite (amMr_ite (h _) amMr_c) (amMr_ite (amMr_ite (h _) amMr_c) (amMr_ite (amMr_ite (h _) amMr_c) amMr_c))
theorem amMr_Pld {t : Nat} {μ : amM} {x i : Int} {f : Int → amR} (h : ∀ v, amMr μ (f v)) : amMr μ (amPld t μ x i f) := amMr_ite (amMr_ite (h _) amMr_c) amMr_c
theorem amMr_Pst {t : Nat} (ht : t < 90) {μ : amM} {x i v : Int} {f : amM → amR} (h : ∀ μ, amMr μ (f μ)) : amMr μ (amPst t μ x i v f) := by
  unfold amPst
  split
  · next e =>
    have h1 := amMr_to (h (up μ x.toNat i.toNat v)) (Nat.le_of_eq (cnt_up (tg_999 e ht)).symm)
    exact amMr_ite (amMr_ite (amMr_ite h1 amMr_c) h1) amMr_c
  · exact amMr_c
theorem amMr_Qld {cr : amC} {t : Nat} {μ : amM} {x i : Int} {f : Int → amR} (h : ∀ v, amMr μ (f v)) : amMr μ (amQld cr t μ x i f) := amMr_ite (amMr_ite (amMr_ite (h _) amMr_c) amMr_c) amMr_c
theorem amMr_Qst {cr : amC} {t : Nat} {μ : amM} {x i v : Int} {f : amM → amR} (h : ∀ μ, amMr μ (f μ)) : amMr μ (amQst cr t μ x i v f) := by
  unfold amQst
  split
  · next e => exact amMr_ite (amMr_to (h _) (Nat.le_of_eq (cnt_up (tg_999 e.1 e.2.1)).symm)) amMr_c
  · exact amMr_c
theorem amMr_Cpy {μ : amM} {x i y j n : Int} {f : amM → amR} (h : ∀ μ, amMr μ (f μ)) : amMr μ (amCpy μ x i y j n f) := by
  unfold amCpy
  split
  · next e => exact amMr_ite (amMr_to (h _) (Nat.le_of_eq (cnt_upr (tg_999 e.2 (by omega))).symm)) amMr_c
  · exact amMr_c
theorem amMr_New {μ : amM} {t : Nat} {f : Int → amM → amR} (h : ∀ v μ, amMr μ (f v μ)) : amMr μ (amNew μ t f) := by
  unfold amNew
  split
  · next e => exact amMr_to (h _ _) (by rw [cnt_born e.1 e.2]; omega)
  · exact amMr_c
theorem amMr_Nwa {μ : amM} {t : Nat} {n : Int} {f : Int → amM → amR} (h : ∀ v μ, amMr μ (f v μ)) : amMr μ (amNwa μ t n f) := by
  unfold amNwa
  split
  · next e => exact amMr_to (h _ _) (by rw [cnt_born e.1 e.2.1]; omega)
  · exact amMr_c
theorem amMr_Mul {μ : amM} {n k : Int} {f : Int → amM → amR} (h : ∀ v μ, amMr μ (f v μ)) : amMr μ (amMul μ n k f) := by
  unfold amMul
  split
  · next e =>
    refine amMr_to (h _ _) ?_
    rw [e.1]
    exact (by decide : 42 ≤ 48)
  · exact amMr_c
theorem amMr_Sw {μ : amM} {x : Int} {F : Nat → amR} (h : ∀ b, amMr μ (F b)) (d : Nat) : ∀ l : List (Int × Nat), amMr μ (amSw x l d F)
  | [] => h d
  | (_, b) :: r => amMr_ite (h b) (amMr_Sw h d r)
set_option maxHeartbeats 4000000 in
set_option maxRecDepth 20000 in
theorem amMr_stp {cr : amC} {call : Nat → List Int → amM → amR} {rt : Nat → Nat × Nat} (hc : ∀ m xs μ, amMr μ (call m xs μ)) (i : amI) {k : amJ} (hk : ∀ b st ls μ, amMr μ (k b st ls μ)) {nx : amN} (h : ∀ st ls μ, amMr μ (nx st ls μ)) (st ls : List Int) (μ : amM) : amMr μ (stp cr call rt i k nx st ls μ) := by
  obtain ⟨ins, a, b, w, l⟩ := i
  rcases l with _ | ⟨⟨w0, z0⟩, l⟩ <;> rcases st with _ | ⟨x0, _ | ⟨x1, _ | ⟨x2, _ | ⟨x3, _ | ⟨x4, st⟩⟩⟩⟩⟩ <;> cases ins <;> dsimp only [stp] <;>
    first
    | exact h _ _ _
    | exact amMr_c
    | exact amMr_s
    | exact hk _ _ _ _
    | exact amMr_Sw (fun _ => hk _ _ _ _) _ _
    | exact amMr_Gf (fun _ => h _ _ _)
    | exact amMr_Gx (fun _ => h _ _ _)
    | exact amMr_Pf (fun _ => h _ _ _)
    | exact amMr_Ald (fun _ => h _ _ _)
    | exact amMr_Pld (fun _ => h _ _ _)
    | exact amMr_Pst (by decide) (fun _ => h _ _ _)
    | exact amMr_Qld (fun _ => h _ _ _)
    | exact amMr_Qst (fun _ => h _ _ _)
    | exact amMr_New (fun _ _ => h _ _ _)
    | exact amMr_Nwa (fun _ _ => h _ _ _)
    | exact amMr_Mul (fun _ _ => h _ _ _)
    | exact amMr_ite amMr_c (h _ _ _)
    | exact amMr_ite (h _ _ _) amMr_c
    | exact amMr_ite (amMr_bnd (hc _ _ _) (fun _ _ => h _ _ _)) amMr_c
    | exact amMr_ite (amMr_Cpy (fun _ => h _ _ _)) (amMr_ite (h _ _ _) (amMr_ite (h _ _ _) (amMr_bnd (hc _ _ _) (fun _ _ => h _ _ _))))
    | exact amMr_ite amMr_c (amMr_ite (h _ _ _) (amMr_ite (h _ _ _) (amMr_bnd (hc _ _ _) (fun _ _ => h _ _ _))))
    | exact amMr_ite amMr_c (amMr_ite amMr_c (amMr_ite amMr_c (amMr_bnd (hc _ _ _) (fun _ _ => h _ _ _))))
    | exact amMr_ite amMr_c (amMr_ite (amMr_bnd (hc _ _ _) (fun _ _ => h _ _ _)) amMr_c)
    | exact amMr_ite (amMr_ite (h _ _ _) amMr_c) (amMr_ite (amMr_bnd (hc _ _ _) (fun _ _ => h _ _ _)) amMr_c)
    | exact amMr_ite (amMr_ite amMr_s amMr_c) amMr_s
    | (rename_i c _; cases c <;> first | exact amMr_ite (hk _ _ _ _) (h _ _ _) | exact amMr_ite (h _ _ _) (hk _ _ _ _))
theorem amMr_run {cr : amC} {call : Nat → List Int → amM → amR} {rt : Nat → Nat × Nat} (hc : ∀ m xs μ, amMr μ (call m xs μ)) {k : amJ} (hk : ∀ b st ls μ, amMr μ (k b st ls μ)) : ∀ (cs : List amI) (st ls : List Int) (μ : amM), amMr μ (runB cr call rt k cs st ls μ)
  | [], _, _, _ => amMr_c
  | i :: cs, st, ls, μ => amMr_stp hc i hk (amMr_run hc hk cs) st ls μ
theorem amMr_AtN {cr : amC} {call : Nat → List Int → amM → amR} (hc : ∀ m xs μ, amMr μ (call m xs μ)) (m : Nat) : ∀ (n b : Nat) (st ls : List Int) (μ : amM), amMr μ (AtN cr call m n b st ls μ)
  | 0, _, _, _, _ => amMr_c
  | n + 1, b, st, ls, μ => amMr_run hc (fun b st ls μ => amMr_AtN hc m n b st (nrm (msk m b) ls) μ) _ st ls μ
theorem amMr_RD {cr : amC} : ∀ (d m : Nat) (xs : List Int) (μ : amM), amMr μ (RD cr d m xs μ)
  | 0, _, _, _ => amMr_c
  | d + 1, m, xs, μ => fun r h => by
    obtain ⟨n, hn⟩ := AtL_iff.mp h
    exact amMr_AtN (fun m xs μ => amMr_RD d m xs μ) m n 0 [] (ent m xs) μ r hn
end
section
/-! ===== one instruction after the other: what the abstract machine does, the machine does ===== -/
theorem R32_64 {x : Int} (h : R32 x) : R64 x := ⟨by have := h.1; omega, by have := h.2; omega⟩
def amRm (d n0 n1 : Nat) : Room := { frames := d + 1, cells := n1 - n0, slots := amSs n1 - amSs n0, locals := 40 * (d + 1) }
def amGo (p : Program) (l : Launch) (e : Env) (s : State) (m : MethodId) (args : Array Value) (below : List Frame) (meth : Method) (c : Code) (D : va_G) (E : Nat → ClassId) (G : amG) (cr : amC) (L : Nat) (xs : Nat → Int32) (mi d n0 : Nat) (R : Room) (r : Int × amM) (Qf : State → Prop) (pc : Nat) (ts tl : List Nat) (F : amN) : Prop :=
  ∀ (st lc : List Int) (μ : amM) (n : Nat) (H : Heap) (locs : List Loc) (sl : Array Slot), F st lc μ = some r → amH D E G cr n μ H → amX L xs μ → amStk n ts st → amFr (amMax mi) G n tl lc sl → va_S (fun q => G.1 ≤ q) s.heap H locs → n0 ≤ n →
    W p l e R s m args below meth c H locs (n - n0) (amSs n - amSs n0) Qf (F0 m pc sl (amVs G ts st))
def amCx (p : Program) (s : State) (m : MethodId) (args : Array Value) (meth : Method) (c : Code) (D : va_G) (E : Nat → ClassId) (G : amG) (cr : amC) (L : Nat) (xs : Nat → Int32) (mi d n0 : Nat) (R : Room) (r : Int × amM) : Prop :=
  p.tables.exec = Jvm.exec ∧ c.code = amBy mi ∧ c.maxLocals = amMax mi ∧ s.vm.findClass (amNm (amYt mi).1) = some m.cls ∧ (∀ w ∈ amTbl, w.before args s = true) ∧ amK D E G L xs s s.heap ∧
  (amCnt r.2 - n0 ≤ R.cells ∧ amSs (amCnt r.2) - amSs n0 ≤ R.slots ∧ d + 1 ≤ R.frames ∧ 40 * (d + 1) ≤ R.locals) ∧ meth.locks = false ∧ meth.name = (amY mi).name ∧ amCrOk cr ∧ s.heap.size = G.1 + n0
theorem go_iconst {p : Program} {l : Launch} {e : Env} {s : State} {m : MethodId} {args : Array Value} {below : List Frame} {meth : Method} {c : Code} {D : va_G} {E : Nat → ClassId} {G : amG} {cr : amC} {L : Nat} {xs : Nat → Int32} {mi d n0 : Nat} {R : Room} {r : Int × amM} {Qf : State → Prop} {pc : Nat} {ts tl : List Nat} {call : Nat → List Int → amM → amR} {rt : Nat → Nat × Nat} {k : amJ} {nx : amN} (hC : amCx p s m args meth c D E G cr L xs mi d n0 R r) {n : Int} {a b w : Nat} {z : List (Int × Nat)} (hR32 : R32 n) (hd : decode (amBy mi) pc = .ok (.iconst n, 1)) (h : amGo p l e s m args below meth c D E G cr L xs mi d n0 R r Qf (pc + 1) (0 :: ts) tl nx) : amGo p l e s m args below meth c D E G cr L xs mi d n0 R r Qf pc ts tl (stp cr call rt (.iconst n, a, b, w, z) k nx) := by
  obtain ⟨hx, hb, hml, hown, hts, hK, hR, hlk, hnm, hcr, hsz⟩ := hC
  intro st lc μ n H locs sl hF hH hX hst hfr hS hn
  exact lv_iconst hx hb hd rfl (h (_ :: st) lc μ n H locs sl hF hH hX ⟨hR32, hst⟩ hfr hS hn)
theorem go_bipush {p : Program} {l : Launch} {e : Env} {s : State} {m : MethodId} {args : Array Value} {below : List Frame} {meth : Method} {c : Code} {D : va_G} {E : Nat → ClassId} {G : amG} {cr : amC} {L : Nat} {xs : Nat → Int32} {mi d n0 : Nat} {R : Room} {r : Int × amM} {Qf : State → Prop} {pc : Nat} {ts tl : List Nat} {call : Nat → List Int → amM → amR} {rt : Nat → Nat × Nat} {k : amJ} {nx : amN} (hC : amCx p s m args meth c D E G cr L xs mi d n0 R r) {n : Int} {a b w : Nat} {z : List (Int × Nat)} (hR32 : R32 n) (hv : (Int8.ofInt n).toInt32 = Int32.ofInt n) (hd : decode (amBy mi) pc = .ok (.bipush n, 2)) (h : amGo p l e s m args below meth c D E G cr L xs mi d n0 R r Qf (pc + 2) (0 :: ts) tl nx) : amGo p l e s m args below meth c D E G cr L xs mi d n0 R r Qf pc ts tl (stp cr call rt (.bipush n, a, b, w, z) k nx) := by
  obtain ⟨hx, hb, hml, hown, hts, hK, hR, hlk, hnm, hcr, hsz⟩ := hC
  intro st lc μ n H locs sl hF hH hX hst hfr hS hn
  exact lv_bipush hx hb hd hv (h (_ :: st) lc μ n H locs sl hF hH hX ⟨hR32, hst⟩ hfr hS hn)
theorem go_sipush {p : Program} {l : Launch} {e : Env} {s : State} {m : MethodId} {args : Array Value} {below : List Frame} {meth : Method} {c : Code} {D : va_G} {E : Nat → ClassId} {G : amG} {cr : amC} {L : Nat} {xs : Nat → Int32} {mi d n0 : Nat} {R : Room} {r : Int × amM} {Qf : State → Prop} {pc : Nat} {ts tl : List Nat} {call : Nat → List Int → amM → amR} {rt : Nat → Nat × Nat} {k : amJ} {nx : amN} (hC : amCx p s m args meth c D E G cr L xs mi d n0 R r) {n : Int} {a b w : Nat} {z : List (Int × Nat)} (hR32 : R32 n) (hv : (Int16.ofInt n).toInt32 = Int32.ofInt n) (hd : decode (amBy mi) pc = .ok (.sipush n, 3)) (h : amGo p l e s m args below meth c D E G cr L xs mi d n0 R r Qf (pc + 3) (0 :: ts) tl nx) : amGo p l e s m args below meth c D E G cr L xs mi d n0 R r Qf pc ts tl (stp cr call rt (.sipush n, a, b, w, z) k nx) := by
  obtain ⟨hx, hb, hml, hown, hts, hK, hR, hlk, hnm, hcr, hsz⟩ := hC
  intro st lc μ n H locs sl hF hH hX hst hfr hS hn
  exact lv_sipush hx hb hd hv (h (_ :: st) lc μ n H locs sl hF hH hX ⟨hR32, hst⟩ hfr hS hn)
theorem go_lconst {p : Program} {l : Launch} {e : Env} {s : State} {m : MethodId} {args : Array Value} {below : List Frame} {meth : Method} {c : Code} {D : va_G} {E : Nat → ClassId} {G : amG} {cr : amC} {L : Nat} {xs : Nat → Int32} {mi d n0 : Nat} {R : Room} {r : Int × amM} {Qf : State → Prop} {pc : Nat} {ts tl : List Nat} {call : Nat → List Int → amM → amR} {rt : Nat → Nat × Nat} {k : amJ} {nx : amN} (hC : amCx p s m args meth c D E G cr L xs mi d n0 R r) {n : Fin 2} {a b w : Nat} {z : List (Int × Nat)} (hd : decode (amBy mi) pc = .ok (.lconst n, 1)) (h : amGo p l e s m args below meth c D E G cr L xs mi d n0 R r Qf (pc + 1) (1 :: ts) tl nx) : amGo p l e s m args below meth c D E G cr L xs mi d n0 R r Qf pc ts tl (stp cr call rt (.lconst n, a, b, w, z) k nx) := by
  obtain ⟨hx, hb, hml, hown, hts, hK, hR, hlk, hnm, hcr, hsz⟩ := hC
  intro st lc μ n' H locs sl hF hH hX hst hfr hS hn
  exact lv_lconst hx hb hd (by rfl) (h ((n.val : Int) :: st) lc μ n' H locs sl hF hH hX ⟨(by have := n.isLt; show R64 _; unfold R64; omega), hst⟩ hfr hS hn)
theorem go_iload_n {p : Program} {l : Launch} {e : Env} {s : State} {m : MethodId} {args : Array Value} {below : List Frame} {meth : Method} {c : Code} {D : va_G} {E : Nat → ClassId} {G : amG} {cr : amC} {L : Nat} {xs : Nat → Int32} {mi d n0 : Nat} {R : Room} {r : Int × amM} {Qf : State → Prop} {pc : Nat} {ts tl : List Nat} {call : Nat → List Int → amM → amR} {rt : Nat → Nat × Nat} {k : amJ} {nx : amN} (hC : amCx p s m args meth c D E G cr L xs mi d n0 R r) {i : Fin 4} {a b w : Nat} {z : List (Int × Nat)} (hi : tl.getD (i.val) 3 = 0) (hd : decode (amBy mi) pc = .ok (.iload_n i, 1)) (h : amGo p l e s m args below meth c D E G cr L xs mi d n0 R r Qf (pc + 1) (0 :: ts) tl nx) : amGo p l e s m args below meth c D E G cr L xs mi d n0 R r Qf pc ts tl (stp cr call rt (.iload_n i, a, b, w, z) k nx) := by
  obtain ⟨hx, hb, hml, hown, hts, hK, hR, hlk, hnm, hcr, hsz⟩ := hC
  intro st lc μ n H locs sl hF hH hX hst hfr hS hn
  obtain ⟨h1, h2⟩ := hfr.at hi (by decide)
  exact lv_iload_n hx hb hd rfl h1 (h (_ :: st) lc μ n H locs sl hF hH hX ⟨h2, hst⟩ hfr hS hn)
theorem go_iload {p : Program} {l : Launch} {e : Env} {s : State} {m : MethodId} {args : Array Value} {below : List Frame} {meth : Method} {c : Code} {D : va_G} {E : Nat → ClassId} {G : amG} {cr : amC} {L : Nat} {xs : Nat → Int32} {mi d n0 : Nat} {R : Room} {r : Int × amM} {Qf : State → Prop} {pc : Nat} {ts tl : List Nat} {call : Nat → List Int → amM → amR} {rt : Nat → Nat × Nat} {k : amJ} {nx : amN} (hC : amCx p s m args meth c D E G cr L xs mi d n0 R r) {i : Nat} {a b w : Nat} {z : List (Int × Nat)} (hi : tl.getD (i) 3 = 0) (hd : decode (amBy mi) pc = .ok (.iload i, 2)) (h : amGo p l e s m args below meth c D E G cr L xs mi d n0 R r Qf (pc + 2) (0 :: ts) tl nx) : amGo p l e s m args below meth c D E G cr L xs mi d n0 R r Qf pc ts tl (stp cr call rt (.iload i, a, b, w, z) k nx) := by
  obtain ⟨hx, hb, hml, hown, hts, hK, hR, hlk, hnm, hcr, hsz⟩ := hC
  intro st lc μ n H locs sl hF hH hX hst hfr hS hn
  obtain ⟨h1, h2⟩ := hfr.at hi (by decide)
  exact lv_iload hx hb hd h1 (h (_ :: st) lc μ n H locs sl hF hH hX ⟨h2, hst⟩ hfr hS hn)
theorem go_lload_n {p : Program} {l : Launch} {e : Env} {s : State} {m : MethodId} {args : Array Value} {below : List Frame} {meth : Method} {c : Code} {D : va_G} {E : Nat → ClassId} {G : amG} {cr : amC} {L : Nat} {xs : Nat → Int32} {mi d n0 : Nat} {R : Room} {r : Int × amM} {Qf : State → Prop} {pc : Nat} {ts tl : List Nat} {call : Nat → List Int → amM → amR} {rt : Nat → Nat × Nat} {k : amJ} {nx : amN} (hC : amCx p s m args meth c D E G cr L xs mi d n0 R r) {i : Fin 4} {a b w : Nat} {z : List (Int × Nat)} (hi : tl.getD (i.val) 3 = 1) (hd : decode (amBy mi) pc = .ok (.lload_n i, 1)) (h : amGo p l e s m args below meth c D E G cr L xs mi d n0 R r Qf (pc + 1) (1 :: ts) tl nx) : amGo p l e s m args below meth c D E G cr L xs mi d n0 R r Qf pc ts tl (stp cr call rt (.lload_n i, a, b, w, z) k nx) := by
  obtain ⟨hx, hb, hml, hown, hts, hK, hR, hlk, hnm, hcr, hsz⟩ := hC
  intro st lc μ n H locs sl hF hH hX hst hfr hS hn
  obtain ⟨h1, h2⟩ := hfr.at hi (by decide)
  exact lv_lload_n hx hb hd rfl h1 (h (_ :: st) lc μ n H locs sl hF hH hX ⟨h2, hst⟩ hfr hS hn)
theorem go_lload {p : Program} {l : Launch} {e : Env} {s : State} {m : MethodId} {args : Array Value} {below : List Frame} {meth : Method} {c : Code} {D : va_G} {E : Nat → ClassId} {G : amG} {cr : amC} {L : Nat} {xs : Nat → Int32} {mi d n0 : Nat} {R : Room} {r : Int × amM} {Qf : State → Prop} {pc : Nat} {ts tl : List Nat} {call : Nat → List Int → amM → amR} {rt : Nat → Nat × Nat} {k : amJ} {nx : amN} (hC : amCx p s m args meth c D E G cr L xs mi d n0 R r) {i : Nat} {a b w : Nat} {z : List (Int × Nat)} (hi : tl.getD (i) 3 = 1) (hd : decode (amBy mi) pc = .ok (.lload i, 2)) (h : amGo p l e s m args below meth c D E G cr L xs mi d n0 R r Qf (pc + 2) (1 :: ts) tl nx) : amGo p l e s m args below meth c D E G cr L xs mi d n0 R r Qf pc ts tl (stp cr call rt (.lload i, a, b, w, z) k nx) := by
  obtain ⟨hx, hb, hml, hown, hts, hK, hR, hlk, hnm, hcr, hsz⟩ := hC
  intro st lc μ n H locs sl hF hH hX hst hfr hS hn
  obtain ⟨h1, h2⟩ := hfr.at hi (by decide)
  exact lv_lload hx hb hd h1 (h (_ :: st) lc μ n H locs sl hF hH hX ⟨h2, hst⟩ hfr hS hn)
theorem go_aload_n {p : Program} {l : Launch} {e : Env} {s : State} {m : MethodId} {args : Array Value} {below : List Frame} {meth : Method} {c : Code} {D : va_G} {E : Nat → ClassId} {G : amG} {cr : amC} {L : Nat} {xs : Nat → Int32} {mi d n0 : Nat} {R : Room} {r : Int × amM} {Qf : State → Prop} {pc : Nat} {ts tl : List Nat} {call : Nat → List Int → amM → amR} {rt : Nat → Nat × Nat} {k : amJ} {nx : amN} (hC : amCx p s m args meth c D E G cr L xs mi d n0 R r) {i : Fin 4} {a b w : Nat} {z : List (Int × Nat)} (hi : tl.getD (i.val) 3 = 2) (hd : decode (amBy mi) pc = .ok (.aload_n i, 1)) (h : amGo p l e s m args below meth c D E G cr L xs mi d n0 R r Qf (pc + 1) (2 :: ts) tl nx) : amGo p l e s m args below meth c D E G cr L xs mi d n0 R r Qf pc ts tl (stp cr call rt (.aload_n i, a, b, w, z) k nx) := by
  obtain ⟨hx, hb, hml, hown, hts, hK, hR, hlk, hnm, hcr, hsz⟩ := hC
  intro st lc μ n H locs sl hF hH hX hst hfr hS hn
  obtain ⟨h1, h2⟩ := hfr.at hi (by decide)
  have e : amVal G 2 (lc.getD (i.val) 0) = .ref (amAd G (lc.getD (i.val) 0).toNat) := if_neg (by have := h2.1; omega)
  rw [e] at h1
  have h3 := h (_ :: st) lc μ n H locs sl hF hH hX ⟨h2, hst⟩ hfr hS hn
  have e2 : amVs G (2 :: ts) (lc.getD (i.val) 0 :: st) = .ref (amAd G (lc.getD (i.val) 0).toNat) :: amVs G ts st := congrArg (· :: amVs G ts st) e
  rw [e2] at h3
  exact lv_aload_n hx hb hd rfl h1 h3
theorem go_aload {p : Program} {l : Launch} {e : Env} {s : State} {m : MethodId} {args : Array Value} {below : List Frame} {meth : Method} {c : Code} {D : va_G} {E : Nat → ClassId} {G : amG} {cr : amC} {L : Nat} {xs : Nat → Int32} {mi d n0 : Nat} {R : Room} {r : Int × amM} {Qf : State → Prop} {pc : Nat} {ts tl : List Nat} {call : Nat → List Int → amM → amR} {rt : Nat → Nat × Nat} {k : amJ} {nx : amN} (hC : amCx p s m args meth c D E G cr L xs mi d n0 R r) {i : Nat} {a b w : Nat} {z : List (Int × Nat)} (hi : tl.getD (i) 3 = 2) (hd : decode (amBy mi) pc = .ok (.aload i, 2)) (h : amGo p l e s m args below meth c D E G cr L xs mi d n0 R r Qf (pc + 2) (2 :: ts) tl nx) : amGo p l e s m args below meth c D E G cr L xs mi d n0 R r Qf pc ts tl (stp cr call rt (.aload i, a, b, w, z) k nx) := by
  obtain ⟨hx, hb, hml, hown, hts, hK, hR, hlk, hnm, hcr, hsz⟩ := hC
  intro st lc μ n H locs sl hF hH hX hst hfr hS hn
  obtain ⟨h1, h2⟩ := hfr.at hi (by decide)
  have e : amVal G 2 (lc.getD (i) 0) = .ref (amAd G (lc.getD (i) 0).toNat) := if_neg (by have := h2.1; omega)
  rw [e] at h1
  have h3 := h (_ :: st) lc μ n H locs sl hF hH hX ⟨h2, hst⟩ hfr hS hn
  have e2 : amVs G (2 :: ts) (lc.getD (i) 0 :: st) = .ref (amAd G (lc.getD (i) 0).toNat) :: amVs G ts st := congrArg (· :: amVs G ts st) e
  rw [e2] at h3
  exact lv_aload hx hb hd h1 h3
theorem go_istore_n {p : Program} {l : Launch} {e : Env} {s : State} {m : MethodId} {args : Array Value} {below : List Frame} {meth : Method} {c : Code} {D : va_G} {E : Nat → ClassId} {G : amG} {cr : amC} {L : Nat} {xs : Nat → Int32} {mi d n0 : Nat} {R : Room} {r : Int × amM} {Qf : State → Prop} {pc : Nat} {ts tl : List Nat} {call : Nat → List Int → amM → amR} {rt : Nat → Nat × Nat} {k : amJ} {nx : amN} (hC : amCx p s m args meth c D E G cr L xs mi d n0 R r) {i : Fin 4} {a b w : Nat} {z : List (Int × Nat)} (hi : i.val < amMax mi) (hd : decode (amBy mi) pc = .ok (.istore_n i, 1)) (h : amGo p l e s m args below meth c D E G cr L xs mi d n0 R r Qf (pc + 1) ts (amTl1 tl (i.val) 0) nx) : amGo p l e s m args below meth c D E G cr L xs mi d n0 R r Qf pc (0 :: ts) tl (stp cr call rt (.istore_n i, a, b, w, z) k nx) := by
  obtain ⟨hx, hb, hml, hown, hts, hK, hR, hlk, hnm, hcr, hsz⟩ := hC
  intro st lc μ n H locs sl hF hH hX hst hfr hS hn
  rcases st with _ | ⟨x, st⟩
  · exact hst.elim
  refine lv_istore_n hx hb hd rfl hfr.2.2.1 hi rfl (fun sl' hl' => ?_)
  exact h st (lc.set (i.val) x) μ n H locs sl' hF hH hX hst.2 (hfr.st1 hi hst.1 (by decide) hl') hS hn
theorem go_istore {p : Program} {l : Launch} {e : Env} {s : State} {m : MethodId} {args : Array Value} {below : List Frame} {meth : Method} {c : Code} {D : va_G} {E : Nat → ClassId} {G : amG} {cr : amC} {L : Nat} {xs : Nat → Int32} {mi d n0 : Nat} {R : Room} {r : Int × amM} {Qf : State → Prop} {pc : Nat} {ts tl : List Nat} {call : Nat → List Int → amM → amR} {rt : Nat → Nat × Nat} {k : amJ} {nx : amN} (hC : amCx p s m args meth c D E G cr L xs mi d n0 R r) {i : Nat} {a b w : Nat} {z : List (Int × Nat)} (hi : i < amMax mi) (hd : decode (amBy mi) pc = .ok (.istore i, 2)) (h : amGo p l e s m args below meth c D E G cr L xs mi d n0 R r Qf (pc + 2) ts (amTl1 tl (i) 0) nx) : amGo p l e s m args below meth c D E G cr L xs mi d n0 R r Qf pc (0 :: ts) tl (stp cr call rt (.istore i, a, b, w, z) k nx) := by
  obtain ⟨hx, hb, hml, hown, hts, hK, hR, hlk, hnm, hcr, hsz⟩ := hC
  intro st lc μ n H locs sl hF hH hX hst hfr hS hn
  rcases st with _ | ⟨x, st⟩
  · exact hst.elim
  refine lv_istore hx hb hd hfr.2.2.1 hi rfl (fun sl' hl' => ?_)
  exact h st (lc.set (i) x) μ n H locs sl' hF hH hX hst.2 (hfr.st1 hi hst.1 (by decide) hl') hS hn
theorem go_lstore_n {p : Program} {l : Launch} {e : Env} {s : State} {m : MethodId} {args : Array Value} {below : List Frame} {meth : Method} {c : Code} {D : va_G} {E : Nat → ClassId} {G : amG} {cr : amC} {L : Nat} {xs : Nat → Int32} {mi d n0 : Nat} {R : Room} {r : Int × amM} {Qf : State → Prop} {pc : Nat} {ts tl : List Nat} {call : Nat → List Int → amM → amR} {rt : Nat → Nat × Nat} {k : amJ} {nx : amN} (hC : amCx p s m args meth c D E G cr L xs mi d n0 R r) {i : Fin 4} {a b w : Nat} {z : List (Int × Nat)} (hi : i.val + 1 < amMax mi) (hd : decode (amBy mi) pc = .ok (.lstore_n i, 1)) (h : amGo p l e s m args below meth c D E G cr L xs mi d n0 R r Qf (pc + 1) ts (amTl2 tl (i.val)) nx) : amGo p l e s m args below meth c D E G cr L xs mi d n0 R r Qf pc (1 :: ts) tl (stp cr call rt (.lstore_n i, a, b, w, z) k nx) := by
  obtain ⟨hx, hb, hml, hown, hts, hK, hR, hlk, hnm, hcr, hsz⟩ := hC
  intro st lc μ n H locs sl hF hH hX hst hfr hS hn
  rcases st with _ | ⟨x, st⟩
  · exact hst.elim
  refine lv_lstore_n hx hb hd rfl hfr.2.2.1 hi rfl (fun sl' hl' => ?_)
  exact h st (lc.set (i.val) x) μ n H locs sl' hF hH hX hst.2 (hfr.st2 hi hst.1 hl') hS hn
theorem go_lstore {p : Program} {l : Launch} {e : Env} {s : State} {m : MethodId} {args : Array Value} {below : List Frame} {meth : Method} {c : Code} {D : va_G} {E : Nat → ClassId} {G : amG} {cr : amC} {L : Nat} {xs : Nat → Int32} {mi d n0 : Nat} {R : Room} {r : Int × amM} {Qf : State → Prop} {pc : Nat} {ts tl : List Nat} {call : Nat → List Int → amM → amR} {rt : Nat → Nat × Nat} {k : amJ} {nx : amN} (hC : amCx p s m args meth c D E G cr L xs mi d n0 R r) {i : Nat} {a b w : Nat} {z : List (Int × Nat)} (hi : i + 1 < amMax mi) (hd : decode (amBy mi) pc = .ok (.lstore i, 2)) (h : amGo p l e s m args below meth c D E G cr L xs mi d n0 R r Qf (pc + 2) ts (amTl2 tl (i)) nx) : amGo p l e s m args below meth c D E G cr L xs mi d n0 R r Qf pc (1 :: ts) tl (stp cr call rt (.lstore i, a, b, w, z) k nx) := by
  obtain ⟨hx, hb, hml, hown, hts, hK, hR, hlk, hnm, hcr, hsz⟩ := hC
  intro st lc μ n H locs sl hF hH hX hst hfr hS hn
  rcases st with _ | ⟨x, st⟩
  · exact hst.elim
  refine lv_lstore hx hb hd hfr.2.2.1 hi rfl (fun sl' hl' => ?_)
  exact h st (lc.set (i) x) μ n H locs sl' hF hH hX hst.2 (hfr.st2 hi hst.1 hl') hS hn
theorem go_astore_n {p : Program} {l : Launch} {e : Env} {s : State} {m : MethodId} {args : Array Value} {below : List Frame} {meth : Method} {c : Code} {D : va_G} {E : Nat → ClassId} {G : amG} {cr : amC} {L : Nat} {xs : Nat → Int32} {mi d n0 : Nat} {R : Room} {r : Int × amM} {Qf : State → Prop} {pc : Nat} {ts tl : List Nat} {call : Nat → List Int → amM → amR} {rt : Nat → Nat × Nat} {k : amJ} {nx : amN} (hC : amCx p s m args meth c D E G cr L xs mi d n0 R r) {i : Fin 4} {a b w : Nat} {z : List (Int × Nat)} (hi : i.val < amMax mi) (hd : decode (amBy mi) pc = .ok (.astore_n i, 1)) (h : amGo p l e s m args below meth c D E G cr L xs mi d n0 R r Qf (pc + 1) ts (amTl1 tl (i.val) 2) nx) : amGo p l e s m args below meth c D E G cr L xs mi d n0 R r Qf pc (2 :: ts) tl (stp cr call rt (.astore_n i, a, b, w, z) k nx) := by
  obtain ⟨hx, hb, hml, hown, hts, hK, hR, hlk, hnm, hcr, hsz⟩ := hC
  intro st lc μ n H locs sl hF hH hX hst hfr hS hn
  rcases st with _ | ⟨x, st⟩
  · exact hst.elim
  have e : amVal G 2 x = .ref (amAd G x.toNat) := if_neg (by have := hst.1.1; omega)
  have e2 : amVs G (2 :: ts) (x :: st) = .ref (amAd G x.toNat) :: amVs G ts st := congrArg (· :: amVs G ts st) e
  rw [e2]
  refine lv_astore_n hx hb hd rfl hfr.2.2.1 hi rfl (fun sl' hl' => ?_)
  exact h st (lc.set (i.val) x) μ n H locs sl' hF hH hX hst.2 (hfr.st1 hi hst.1 (by decide) (by rw [e]; exact hl')) hS hn
theorem go_astore {p : Program} {l : Launch} {e : Env} {s : State} {m : MethodId} {args : Array Value} {below : List Frame} {meth : Method} {c : Code} {D : va_G} {E : Nat → ClassId} {G : amG} {cr : amC} {L : Nat} {xs : Nat → Int32} {mi d n0 : Nat} {R : Room} {r : Int × amM} {Qf : State → Prop} {pc : Nat} {ts tl : List Nat} {call : Nat → List Int → amM → amR} {rt : Nat → Nat × Nat} {k : amJ} {nx : amN} (hC : amCx p s m args meth c D E G cr L xs mi d n0 R r) {i : Nat} {a b w : Nat} {z : List (Int × Nat)} (hi : i < amMax mi) (hd : decode (amBy mi) pc = .ok (.astore i, 2)) (h : amGo p l e s m args below meth c D E G cr L xs mi d n0 R r Qf (pc + 2) ts (amTl1 tl (i) 2) nx) : amGo p l e s m args below meth c D E G cr L xs mi d n0 R r Qf pc (2 :: ts) tl (stp cr call rt (.astore i, a, b, w, z) k nx) := by
  obtain ⟨hx, hb, hml, hown, hts, hK, hR, hlk, hnm, hcr, hsz⟩ := hC
  intro st lc μ n H locs sl hF hH hX hst hfr hS hn
  rcases st with _ | ⟨x, st⟩
  · exact hst.elim
  have e : amVal G 2 x = .ref (amAd G x.toNat) := if_neg (by have := hst.1.1; omega)
  have e2 : amVs G (2 :: ts) (x :: st) = .ref (amAd G x.toNat) :: amVs G ts st := congrArg (· :: amVs G ts st) e
  rw [e2]
  refine lv_astore hx hb hd hfr.2.2.1 hi rfl (fun sl' hl' => ?_)
  exact h st (lc.set (i) x) μ n H locs sl' hF hH hX hst.2 (hfr.st1 hi hst.1 (by decide) (by rw [e]; exact hl')) hS hn
theorem go_iinc {p : Program} {l : Launch} {e : Env} {s : State} {m : MethodId} {args : Array Value} {below : List Frame} {meth : Method} {c : Code} {D : va_G} {E : Nat → ClassId} {G : amG} {cr : amC} {L : Nat} {xs : Nat → Int32} {mi d n0 : Nat} {R : Room} {r : Int × amM} {Qf : State → Prop} {pc : Nat} {ts tl : List Nat} {call : Nat → List Int → amM → amR} {rt : Nat → Nat × Nat} {k : amJ} {nx : amN} (hC : amCx p s m args meth c D E G cr L xs mi d n0 R r) {i : Nat} {v : Int} {a b w : Nat} {z : List (Int × Nat)} (hi : tl.getD i 3 = 0) (hl : i < amMax mi) (hd : decode (amBy mi) pc = .ok (.iinc i v, 3)) (h : amGo p l e s m args below meth c D E G cr L xs mi d n0 R r Qf (pc + 3) ts (amTl1 tl i 0) nx) : amGo p l e s m args below meth c D E G cr L xs mi d n0 R r Qf pc ts tl (stp cr call rt (.iinc i v, a, b, w, z) k nx) := by
  obtain ⟨hx, hb, hml, hown, hts, hK, hR, hlk, hnm, hcr, hsz⟩ := hC
  intro st lc μ n H locs sl hF hH hX hst hfr hS hn
  obtain ⟨kk, hkk⟩ : ∃ kk, (amLv G tl lc)[kk]? = some (i, Value.int (Int32.ofInt (lc.getD i 0))) := by
    apply List.getElem?_of_mem
    exact amLv_mem.mpr ⟨i, by rw [hi]; decide, by rw [hi]; rfl⟩
  refine lv_iinc hx hb hd hfr.2.2.1 hkk (n_add _ _) hl rfl (fun sl' hl' => ?_)
  exact h st (lc.set i _) μ n H locs sl' hF hH hX hst (hfr.st1 hl (w32_R _) (by decide) hl') hS hn
theorem go_iadd {p : Program} {l : Launch} {e : Env} {s : State} {m : MethodId} {args : Array Value} {below : List Frame} {meth : Method} {c : Code} {D : va_G} {E : Nat → ClassId} {G : amG} {cr : amC} {L : Nat} {xs : Nat → Int32} {mi d n0 : Nat} {R : Room} {r : Int × amM} {Qf : State → Prop} {pc : Nat} {ts tl : List Nat} {call : Nat → List Int → amM → amR} {rt : Nat → Nat × Nat} {k : amJ} {nx : amN} (hC : amCx p s m args meth c D E G cr L xs mi d n0 R r) {a b w : Nat} {z : List (Int × Nat)} (hd : decode (amBy mi) pc = .ok (.iadd, 1)) (h : amGo p l e s m args below meth c D E G cr L xs mi d n0 R r Qf (pc + 1) (0 :: ts) tl nx) : amGo p l e s m args below meth c D E G cr L xs mi d n0 R r Qf pc (0 :: 0 :: ts) tl (stp cr call rt (.iadd, a, b, w, z) k nx) := by
  obtain ⟨hx, hb, hml, hown, hts, hK, hR, hlk, hnm, hcr, hsz⟩ := hC
  intro st lc μ n H locs sl hF hH hX hst hfr hS hn
  rcases st with _ | ⟨y, _ | ⟨x, st⟩⟩
  · exact hst.elim
  · exact hst.2.elim
  refine lv_iadd hx hb hd ?_
  rw [n_add]
  exact h (w32 (x + y) :: st) lc μ n H locs sl hF hH hX ⟨w32_R _, hst.2.2⟩ hfr hS hn
theorem go_isub {p : Program} {l : Launch} {e : Env} {s : State} {m : MethodId} {args : Array Value} {below : List Frame} {meth : Method} {c : Code} {D : va_G} {E : Nat → ClassId} {G : amG} {cr : amC} {L : Nat} {xs : Nat → Int32} {mi d n0 : Nat} {R : Room} {r : Int × amM} {Qf : State → Prop} {pc : Nat} {ts tl : List Nat} {call : Nat → List Int → amM → amR} {rt : Nat → Nat × Nat} {k : amJ} {nx : amN} (hC : amCx p s m args meth c D E G cr L xs mi d n0 R r) {a b w : Nat} {z : List (Int × Nat)} (hd : decode (amBy mi) pc = .ok (.isub, 1)) (h : amGo p l e s m args below meth c D E G cr L xs mi d n0 R r Qf (pc + 1) (0 :: ts) tl nx) : amGo p l e s m args below meth c D E G cr L xs mi d n0 R r Qf pc (0 :: 0 :: ts) tl (stp cr call rt (.isub, a, b, w, z) k nx) := by
  obtain ⟨hx, hb, hml, hown, hts, hK, hR, hlk, hnm, hcr, hsz⟩ := hC
  intro st lc μ n H locs sl hF hH hX hst hfr hS hn
  rcases st with _ | ⟨y, _ | ⟨x, st⟩⟩
  · exact hst.elim
  · exact hst.2.elim
  refine lv_isub hx hb hd ?_
  rw [n_sub]
  exact h (w32 (x - y) :: st) lc μ n H locs sl hF hH hX ⟨w32_R _, hst.2.2⟩ hfr hS hn
theorem go_imul {p : Program} {l : Launch} {e : Env} {s : State} {m : MethodId} {args : Array Value} {below : List Frame} {meth : Method} {c : Code} {D : va_G} {E : Nat → ClassId} {G : amG} {cr : amC} {L : Nat} {xs : Nat → Int32} {mi d n0 : Nat} {R : Room} {r : Int × amM} {Qf : State → Prop} {pc : Nat} {ts tl : List Nat} {call : Nat → List Int → amM → amR} {rt : Nat → Nat × Nat} {k : amJ} {nx : amN} (hC : amCx p s m args meth c D E G cr L xs mi d n0 R r) {a b w : Nat} {z : List (Int × Nat)} (hd : decode (amBy mi) pc = .ok (.imul, 1)) (h : amGo p l e s m args below meth c D E G cr L xs mi d n0 R r Qf (pc + 1) (0 :: ts) tl nx) : amGo p l e s m args below meth c D E G cr L xs mi d n0 R r Qf pc (0 :: 0 :: ts) tl (stp cr call rt (.imul, a, b, w, z) k nx) := by
  obtain ⟨hx, hb, hml, hown, hts, hK, hR, hlk, hnm, hcr, hsz⟩ := hC
  intro st lc μ n H locs sl hF hH hX hst hfr hS hn
  rcases st with _ | ⟨y, _ | ⟨x, st⟩⟩
  · exact hst.elim
  · exact hst.2.elim
  refine lv_imul hx hb hd ?_
  rw [n_mul]
  exact h (w32 (x * y) :: st) lc μ n H locs sl hF hH hX ⟨w32_R _, hst.2.2⟩ hfr hS hn
theorem go_iand {p : Program} {l : Launch} {e : Env} {s : State} {m : MethodId} {args : Array Value} {below : List Frame} {meth : Method} {c : Code} {D : va_G} {E : Nat → ClassId} {G : amG} {cr : amC} {L : Nat} {xs : Nat → Int32} {mi d n0 : Nat} {R : Room} {r : Int × amM} {Qf : State → Prop} {pc : Nat} {ts tl : List Nat} {call : Nat → List Int → amM → amR} {rt : Nat → Nat × Nat} {k : amJ} {nx : amN} (hC : amCx p s m args meth c D E G cr L xs mi d n0 R r) {a b w : Nat} {z : List (Int × Nat)} (hd : decode (amBy mi) pc = .ok (.iand, 1)) (h : amGo p l e s m args below meth c D E G cr L xs mi d n0 R r Qf (pc + 1) (0 :: ts) tl nx) : amGo p l e s m args below meth c D E G cr L xs mi d n0 R r Qf pc (0 :: 0 :: ts) tl (stp cr call rt (.iand, a, b, w, z) k nx) := by
  obtain ⟨hx, hb, hml, hown, hts, hK, hR, hlk, hnm, hcr, hsz⟩ := hC
  intro st lc μ n H locs sl hF hH hX hst hfr hS hn
  rcases st with _ | ⟨y, _ | ⟨x, st⟩⟩
  · exact hst.elim
  · exact hst.2.elim
  refine lv_iand hx hb hd ?_
  rw [n_and]
  exact h (bAnd x y :: st) lc μ n H locs sl hF hH hX ⟨i32_R _, hst.2.2⟩ hfr hS hn
theorem go_ior {p : Program} {l : Launch} {e : Env} {s : State} {m : MethodId} {args : Array Value} {below : List Frame} {meth : Method} {c : Code} {D : va_G} {E : Nat → ClassId} {G : amG} {cr : amC} {L : Nat} {xs : Nat → Int32} {mi d n0 : Nat} {R : Room} {r : Int × amM} {Qf : State → Prop} {pc : Nat} {ts tl : List Nat} {call : Nat → List Int → amM → amR} {rt : Nat → Nat × Nat} {k : amJ} {nx : amN} (hC : amCx p s m args meth c D E G cr L xs mi d n0 R r) {a b w : Nat} {z : List (Int × Nat)} (hd : decode (amBy mi) pc = .ok (.ior, 1)) (h : amGo p l e s m args below meth c D E G cr L xs mi d n0 R r Qf (pc + 1) (0 :: ts) tl nx) : amGo p l e s m args below meth c D E G cr L xs mi d n0 R r Qf pc (0 :: 0 :: ts) tl (stp cr call rt (.ior, a, b, w, z) k nx) := by
  obtain ⟨hx, hb, hml, hown, hts, hK, hR, hlk, hnm, hcr, hsz⟩ := hC
  intro st lc μ n H locs sl hF hH hX hst hfr hS hn
  rcases st with _ | ⟨y, _ | ⟨x, st⟩⟩
  · exact hst.elim
  · exact hst.2.elim
  refine lv_ior hx hb hd ?_
  rw [n_or]
  exact h (bOr x y :: st) lc μ n H locs sl hF hH hX ⟨i32_R _, hst.2.2⟩ hfr hS hn
theorem go_ixor {p : Program} {l : Launch} {e : Env} {s : State} {m : MethodId} {args : Array Value} {below : List Frame} {meth : Method} {c : Code} {D : va_G} {E : Nat → ClassId} {G : amG} {cr : amC} {L : Nat} {xs : Nat → Int32} {mi d n0 : Nat} {R : Room} {r : Int × amM} {Qf : State → Prop} {pc : Nat} {ts tl : List Nat} {call : Nat → List Int → amM → amR} {rt : Nat → Nat × Nat} {k : amJ} {nx : amN} (hC : amCx p s m args meth c D E G cr L xs mi d n0 R r) {a b w : Nat} {z : List (Int × Nat)} (hd : decode (amBy mi) pc = .ok (.ixor, 1)) (h : amGo p l e s m args below meth c D E G cr L xs mi d n0 R r Qf (pc + 1) (0 :: ts) tl nx) : amGo p l e s m args below meth c D E G cr L xs mi d n0 R r Qf pc (0 :: 0 :: ts) tl (stp cr call rt (.ixor, a, b, w, z) k nx) := by
  obtain ⟨hx, hb, hml, hown, hts, hK, hR, hlk, hnm, hcr, hsz⟩ := hC
  intro st lc μ n H locs sl hF hH hX hst hfr hS hn
  rcases st with _ | ⟨y, _ | ⟨x, st⟩⟩
  · exact hst.elim
  · exact hst.2.elim
  refine lv_ixor hx hb hd ?_
  rw [n_xor]
  exact h (bXor x y :: st) lc μ n H locs sl hF hH hX ⟨i32_R _, hst.2.2⟩ hfr hS hn
theorem go_ishl {p : Program} {l : Launch} {e : Env} {s : State} {m : MethodId} {args : Array Value} {below : List Frame} {meth : Method} {c : Code} {D : va_G} {E : Nat → ClassId} {G : amG} {cr : amC} {L : Nat} {xs : Nat → Int32} {mi d n0 : Nat} {R : Room} {r : Int × amM} {Qf : State → Prop} {pc : Nat} {ts tl : List Nat} {call : Nat → List Int → amM → amR} {rt : Nat → Nat × Nat} {k : amJ} {nx : amN} (hC : amCx p s m args meth c D E G cr L xs mi d n0 R r) {a b w : Nat} {z : List (Int × Nat)} (hd : decode (amBy mi) pc = .ok (.ishl, 1)) (h : amGo p l e s m args below meth c D E G cr L xs mi d n0 R r Qf (pc + 1) (0 :: ts) tl nx) : amGo p l e s m args below meth c D E G cr L xs mi d n0 R r Qf pc (0 :: 0 :: ts) tl (stp cr call rt (.ishl, a, b, w, z) k nx) := by
  obtain ⟨hx, hb, hml, hown, hts, hK, hR, hlk, hnm, hcr, hsz⟩ := hC
  intro st lc μ n H locs sl hF hH hX hst hfr hS hn
  rcases st with _ | ⟨y, _ | ⟨x, st⟩⟩
  · exact hst.elim
  · exact hst.2.elim
  refine lv_ishl hx hb hd ?_
  rw [n_shl]
  exact h (bShl x y :: st) lc μ n H locs sl hF hH hX ⟨i32_R _, hst.2.2⟩ hfr hS hn
theorem go_ishr {p : Program} {l : Launch} {e : Env} {s : State} {m : MethodId} {args : Array Value} {below : List Frame} {meth : Method} {c : Code} {D : va_G} {E : Nat → ClassId} {G : amG} {cr : amC} {L : Nat} {xs : Nat → Int32} {mi d n0 : Nat} {R : Room} {r : Int × amM} {Qf : State → Prop} {pc : Nat} {ts tl : List Nat} {call : Nat → List Int → amM → amR} {rt : Nat → Nat × Nat} {k : amJ} {nx : amN} (hC : amCx p s m args meth c D E G cr L xs mi d n0 R r) {a b w : Nat} {z : List (Int × Nat)} (hd : decode (amBy mi) pc = .ok (.ishr, 1)) (h : amGo p l e s m args below meth c D E G cr L xs mi d n0 R r Qf (pc + 1) (0 :: ts) tl nx) : amGo p l e s m args below meth c D E G cr L xs mi d n0 R r Qf pc (0 :: 0 :: ts) tl (stp cr call rt (.ishr, a, b, w, z) k nx) := by
  obtain ⟨hx, hb, hml, hown, hts, hK, hR, hlk, hnm, hcr, hsz⟩ := hC
  intro st lc μ n H locs sl hF hH hX hst hfr hS hn
  rcases st with _ | ⟨y, _ | ⟨x, st⟩⟩
  · exact hst.elim
  · exact hst.2.elim
  refine lv_ishr hx hb hd ?_
  rw [n_shr]
  exact h (bShr x y :: st) lc μ n H locs sl hF hH hX ⟨i32_R _, hst.2.2⟩ hfr hS hn
theorem go_iushr {p : Program} {l : Launch} {e : Env} {s : State} {m : MethodId} {args : Array Value} {below : List Frame} {meth : Method} {c : Code} {D : va_G} {E : Nat → ClassId} {G : amG} {cr : amC} {L : Nat} {xs : Nat → Int32} {mi d n0 : Nat} {R : Room} {r : Int × amM} {Qf : State → Prop} {pc : Nat} {ts tl : List Nat} {call : Nat → List Int → amM → amR} {rt : Nat → Nat × Nat} {k : amJ} {nx : amN} (hC : amCx p s m args meth c D E G cr L xs mi d n0 R r) {a b w : Nat} {z : List (Int × Nat)} (hd : decode (amBy mi) pc = .ok (.iushr, 1)) (h : amGo p l e s m args below meth c D E G cr L xs mi d n0 R r Qf (pc + 1) (0 :: ts) tl nx) : amGo p l e s m args below meth c D E G cr L xs mi d n0 R r Qf pc (0 :: 0 :: ts) tl (stp cr call rt (.iushr, a, b, w, z) k nx) := by
  obtain ⟨hx, hb, hml, hown, hts, hK, hR, hlk, hnm, hcr, hsz⟩ := hC
  intro st lc μ n H locs sl hF hH hX hst hfr hS hn
  rcases st with _ | ⟨y, _ | ⟨x, st⟩⟩
  · exact hst.elim
  · exact hst.2.elim
  refine lv_iushr hx hb hd (n_ushr _ _) ?_
  exact h (bUshr x y :: st) lc μ n H locs sl hF hH hX ⟨i32_R _, hst.2.2⟩ hfr hS hn
theorem go_idiv {p : Program} {l : Launch} {e : Env} {s : State} {m : MethodId} {args : Array Value} {below : List Frame} {meth : Method} {c : Code} {D : va_G} {E : Nat → ClassId} {G : amG} {cr : amC} {L : Nat} {xs : Nat → Int32} {mi d n0 : Nat} {R : Room} {r : Int × amM} {Qf : State → Prop} {pc : Nat} {ts tl : List Nat} {call : Nat → List Int → amM → amR} {rt : Nat → Nat × Nat} {k : amJ} {nx : amN} (hC : amCx p s m args meth c D E G cr L xs mi d n0 R r) {a b w : Nat} {z : List (Int × Nat)} (hd : decode (amBy mi) pc = .ok (.idiv, 1)) (h : amGo p l e s m args below meth c D E G cr L xs mi d n0 R r Qf (pc + 1) (0 :: ts) tl nx) : amGo p l e s m args below meth c D E G cr L xs mi d n0 R r Qf pc (0 :: 0 :: ts) tl (stp cr call rt (.idiv, a, b, w, z) k nx) := by
  obtain ⟨hx, hb, hml, hown, hts, hK, hR, hlk, hnm, hcr, hsz⟩ := hC
  intro st lc μ n H locs sl hF hH hX hst hfr hS hn
  rcases st with _ | ⟨y, _ | ⟨x, st⟩⟩
  · exact hst.elim
  · exact hst.2.elim
  have hF : (if y = 0 then none else nx (w32 (x.tdiv y) :: st) lc μ) = some r := hF
  by_cases hy : y = 0
  · rw [if_pos hy] at hF; cases hF
  rw [if_neg hy] at hF
  refine lv_idiv hx hb hd (fun q => hy ((n_eq hst.1 R32_0).mp q)) ?_
  rw [n_div hst.2.1 hst.1]
  exact h (w32 (x.tdiv y) :: st) lc μ n H locs sl hF hH hX ⟨w32_R _, hst.2.2⟩ hfr hS hn
theorem go_irem {p : Program} {l : Launch} {e : Env} {s : State} {m : MethodId} {args : Array Value} {below : List Frame} {meth : Method} {c : Code} {D : va_G} {E : Nat → ClassId} {G : amG} {cr : amC} {L : Nat} {xs : Nat → Int32} {mi d n0 : Nat} {R : Room} {r : Int × amM} {Qf : State → Prop} {pc : Nat} {ts tl : List Nat} {call : Nat → List Int → amM → amR} {rt : Nat → Nat × Nat} {k : amJ} {nx : amN} (hC : amCx p s m args meth c D E G cr L xs mi d n0 R r) {a b w : Nat} {z : List (Int × Nat)} (hd : decode (amBy mi) pc = .ok (.irem, 1)) (h : amGo p l e s m args below meth c D E G cr L xs mi d n0 R r Qf (pc + 1) (0 :: ts) tl nx) : amGo p l e s m args below meth c D E G cr L xs mi d n0 R r Qf pc (0 :: 0 :: ts) tl (stp cr call rt (.irem, a, b, w, z) k nx) := by
  obtain ⟨hx, hb, hml, hown, hts, hK, hR, hlk, hnm, hcr, hsz⟩ := hC
  intro st lc μ n H locs sl hF hH hX hst hfr hS hn
  rcases st with _ | ⟨y, _ | ⟨x, st⟩⟩
  · exact hst.elim
  · exact hst.2.elim
  have hF : (if y = 0 then none else nx (x.tmod y :: st) lc μ) = some r := hF
  by_cases hy : y = 0
  · rw [if_pos hy] at hF; cases hF
  rw [if_neg hy] at hF
  refine lv_irem hx hb hd (fun q => hy ((n_eq hst.1 R32_0).mp q)) ?_
  rw [n_rem hst.2.1 hst.1]
  exact h (x.tmod y :: st) lc μ n H locs sl hF hH hX ⟨n_remR hst.2.1 hst.1, hst.2.2⟩ hfr hS hn
theorem go_ladd {p : Program} {l : Launch} {e : Env} {s : State} {m : MethodId} {args : Array Value} {below : List Frame} {meth : Method} {c : Code} {D : va_G} {E : Nat → ClassId} {G : amG} {cr : amC} {L : Nat} {xs : Nat → Int32} {mi d n0 : Nat} {R : Room} {r : Int × amM} {Qf : State → Prop} {pc : Nat} {ts tl : List Nat} {call : Nat → List Int → amM → amR} {rt : Nat → Nat × Nat} {k : amJ} {nx : amN} (hC : amCx p s m args meth c D E G cr L xs mi d n0 R r) {a b w : Nat} {z : List (Int × Nat)} (hd : decode (amBy mi) pc = .ok (.ladd, 1)) (h : amGo p l e s m args below meth c D E G cr L xs mi d n0 R r Qf (pc + 1) (1 :: ts) tl nx) : amGo p l e s m args below meth c D E G cr L xs mi d n0 R r Qf pc (1 :: 1 :: ts) tl (stp cr call rt (.ladd, a, b, w, z) k nx) := by
  obtain ⟨hx, hb, hml, hown, hts, hK, hR, hlk, hnm, hcr, hsz⟩ := hC
  intro st lc μ n H locs sl hF hH hX hst hfr hS hn
  rcases st with _ | ⟨y, _ | ⟨x, st⟩⟩
  · exact hst.elim
  · exact hst.2.elim
  refine lv_ladd hx hb hd ?_
  rw [m_add]
  exact h (w64 (x + y) :: st) lc μ n H locs sl hF hH hX ⟨w64_R _, hst.2.2⟩ hfr hS hn
theorem go_lmul {p : Program} {l : Launch} {e : Env} {s : State} {m : MethodId} {args : Array Value} {below : List Frame} {meth : Method} {c : Code} {D : va_G} {E : Nat → ClassId} {G : amG} {cr : amC} {L : Nat} {xs : Nat → Int32} {mi d n0 : Nat} {R : Room} {r : Int × amM} {Qf : State → Prop} {pc : Nat} {ts tl : List Nat} {call : Nat → List Int → amM → amR} {rt : Nat → Nat × Nat} {k : amJ} {nx : amN} (hC : amCx p s m args meth c D E G cr L xs mi d n0 R r) {a b w : Nat} {z : List (Int × Nat)} (hd : decode (amBy mi) pc = .ok (.lmul, 1)) (h : amGo p l e s m args below meth c D E G cr L xs mi d n0 R r Qf (pc + 1) (1 :: ts) tl nx) : amGo p l e s m args below meth c D E G cr L xs mi d n0 R r Qf pc (1 :: 1 :: ts) tl (stp cr call rt (.lmul, a, b, w, z) k nx) := by
  obtain ⟨hx, hb, hml, hown, hts, hK, hR, hlk, hnm, hcr, hsz⟩ := hC
  intro st lc μ n H locs sl hF hH hX hst hfr hS hn
  rcases st with _ | ⟨y, _ | ⟨x, st⟩⟩
  · exact hst.elim
  · exact hst.2.elim
  refine lv_lmul hx hb hd ?_
  rw [m_mul]
  exact h (w64 (x * y) :: st) lc μ n H locs sl hF hH hX ⟨w64_R _, hst.2.2⟩ hfr hS hn
theorem go_land {p : Program} {l : Launch} {e : Env} {s : State} {m : MethodId} {args : Array Value} {below : List Frame} {meth : Method} {c : Code} {D : va_G} {E : Nat → ClassId} {G : amG} {cr : amC} {L : Nat} {xs : Nat → Int32} {mi d n0 : Nat} {R : Room} {r : Int × amM} {Qf : State → Prop} {pc : Nat} {ts tl : List Nat} {call : Nat → List Int → amM → amR} {rt : Nat → Nat × Nat} {k : amJ} {nx : amN} (hC : amCx p s m args meth c D E G cr L xs mi d n0 R r) {a b w : Nat} {z : List (Int × Nat)} (hd : decode (amBy mi) pc = .ok (.land, 1)) (h : amGo p l e s m args below meth c D E G cr L xs mi d n0 R r Qf (pc + 1) (1 :: ts) tl nx) : amGo p l e s m args below meth c D E G cr L xs mi d n0 R r Qf pc (1 :: 1 :: ts) tl (stp cr call rt (.land, a, b, w, z) k nx) := by
  obtain ⟨hx, hb, hml, hown, hts, hK, hR, hlk, hnm, hcr, hsz⟩ := hC
  intro st lc μ n H locs sl hF hH hX hst hfr hS hn
  rcases st with _ | ⟨y, _ | ⟨x, st⟩⟩
  · exact hst.elim
  · exact hst.2.elim
  refine lv_land hx hb hd ?_
  rw [m_and]
  exact h (lAnd x y :: st) lc μ n H locs sl hF hH hX ⟨i64_R _, hst.2.2⟩ hfr hS hn
theorem go_lor {p : Program} {l : Launch} {e : Env} {s : State} {m : MethodId} {args : Array Value} {below : List Frame} {meth : Method} {c : Code} {D : va_G} {E : Nat → ClassId} {G : amG} {cr : amC} {L : Nat} {xs : Nat → Int32} {mi d n0 : Nat} {R : Room} {r : Int × amM} {Qf : State → Prop} {pc : Nat} {ts tl : List Nat} {call : Nat → List Int → amM → amR} {rt : Nat → Nat × Nat} {k : amJ} {nx : amN} (hC : amCx p s m args meth c D E G cr L xs mi d n0 R r) {a b w : Nat} {z : List (Int × Nat)} (hd : decode (amBy mi) pc = .ok (.lor, 1)) (h : amGo p l e s m args below meth c D E G cr L xs mi d n0 R r Qf (pc + 1) (1 :: ts) tl nx) : amGo p l e s m args below meth c D E G cr L xs mi d n0 R r Qf pc (1 :: 1 :: ts) tl (stp cr call rt (.lor, a, b, w, z) k nx) := by
  obtain ⟨hx, hb, hml, hown, hts, hK, hR, hlk, hnm, hcr, hsz⟩ := hC
  intro st lc μ n H locs sl hF hH hX hst hfr hS hn
  rcases st with _ | ⟨y, _ | ⟨x, st⟩⟩
  · exact hst.elim
  · exact hst.2.elim
  refine lv_lor hx hb hd ?_
  rw [m_or]
  exact h (lOr x y :: st) lc μ n H locs sl hF hH hX ⟨i64_R _, hst.2.2⟩ hfr hS hn
theorem go_lshl {p : Program} {l : Launch} {e : Env} {s : State} {m : MethodId} {args : Array Value} {below : List Frame} {meth : Method} {c : Code} {D : va_G} {E : Nat → ClassId} {G : amG} {cr : amC} {L : Nat} {xs : Nat → Int32} {mi d n0 : Nat} {R : Room} {r : Int × amM} {Qf : State → Prop} {pc : Nat} {ts tl : List Nat} {call : Nat → List Int → amM → amR} {rt : Nat → Nat × Nat} {k : amJ} {nx : amN} (hC : amCx p s m args meth c D E G cr L xs mi d n0 R r) {a b w : Nat} {z : List (Int × Nat)} (hd : decode (amBy mi) pc = .ok (.lshl, 1)) (h : amGo p l e s m args below meth c D E G cr L xs mi d n0 R r Qf (pc + 1) (1 :: ts) tl nx) : amGo p l e s m args below meth c D E G cr L xs mi d n0 R r Qf pc (0 :: 1 :: ts) tl (stp cr call rt (.lshl, a, b, w, z) k nx) := by
  obtain ⟨hx, hb, hml, hown, hts, hK, hR, hlk, hnm, hcr, hsz⟩ := hC
  intro st lc μ n H locs sl hF hH hX hst hfr hS hn
  rcases st with _ | ⟨y, _ | ⟨x, st⟩⟩
  · exact hst.elim
  · exact hst.2.elim
  refine lv_lshl hx hb hd (m_shl _ _) ?_
  exact h (lShl x y :: st) lc μ n H locs sl hF hH hX ⟨i64_R _, hst.2.2⟩ hfr hS hn
theorem go_lshr {p : Program} {l : Launch} {e : Env} {s : State} {m : MethodId} {args : Array Value} {below : List Frame} {meth : Method} {c : Code} {D : va_G} {E : Nat → ClassId} {G : amG} {cr : amC} {L : Nat} {xs : Nat → Int32} {mi d n0 : Nat} {R : Room} {r : Int × amM} {Qf : State → Prop} {pc : Nat} {ts tl : List Nat} {call : Nat → List Int → amM → amR} {rt : Nat → Nat × Nat} {k : amJ} {nx : amN} (hC : amCx p s m args meth c D E G cr L xs mi d n0 R r) {a b w : Nat} {z : List (Int × Nat)} (hd : decode (amBy mi) pc = .ok (.lshr, 1)) (h : amGo p l e s m args below meth c D E G cr L xs mi d n0 R r Qf (pc + 1) (1 :: ts) tl nx) : amGo p l e s m args below meth c D E G cr L xs mi d n0 R r Qf pc (0 :: 1 :: ts) tl (stp cr call rt (.lshr, a, b, w, z) k nx) := by
  obtain ⟨hx, hb, hml, hown, hts, hK, hR, hlk, hnm, hcr, hsz⟩ := hC
  intro st lc μ n H locs sl hF hH hX hst hfr hS hn
  rcases st with _ | ⟨y, _ | ⟨x, st⟩⟩
  · exact hst.elim
  · exact hst.2.elim
  refine lv_lshr hx hb hd (m_shr _ _) ?_
  exact h (lShr x y :: st) lc μ n H locs sl hF hH hX ⟨i64_R _, hst.2.2⟩ hfr hS hn
theorem go_lushr {p : Program} {l : Launch} {e : Env} {s : State} {m : MethodId} {args : Array Value} {below : List Frame} {meth : Method} {c : Code} {D : va_G} {E : Nat → ClassId} {G : amG} {cr : amC} {L : Nat} {xs : Nat → Int32} {mi d n0 : Nat} {R : Room} {r : Int × amM} {Qf : State → Prop} {pc : Nat} {ts tl : List Nat} {call : Nat → List Int → amM → amR} {rt : Nat → Nat × Nat} {k : amJ} {nx : amN} (hC : amCx p s m args meth c D E G cr L xs mi d n0 R r) {a b w : Nat} {z : List (Int × Nat)} (hd : decode (amBy mi) pc = .ok (.lushr, 1)) (h : amGo p l e s m args below meth c D E G cr L xs mi d n0 R r Qf (pc + 1) (1 :: ts) tl nx) : amGo p l e s m args below meth c D E G cr L xs mi d n0 R r Qf pc (0 :: 1 :: ts) tl (stp cr call rt (.lushr, a, b, w, z) k nx) := by
  obtain ⟨hx, hb, hml, hown, hts, hK, hR, hlk, hnm, hcr, hsz⟩ := hC
  intro st lc μ n H locs sl hF hH hX hst hfr hS hn
  rcases st with _ | ⟨y, _ | ⟨x, st⟩⟩
  · exact hst.elim
  · exact hst.2.elim
  refine lv_lushr hx hb hd (m_ushr _ _) ?_
  exact h (lUshr x y :: st) lc μ n H locs sl hF hH hX ⟨i64_R _, hst.2.2⟩ hfr hS hn
theorem go_i2l {p : Program} {l : Launch} {e : Env} {s : State} {m : MethodId} {args : Array Value} {below : List Frame} {meth : Method} {c : Code} {D : va_G} {E : Nat → ClassId} {G : amG} {cr : amC} {L : Nat} {xs : Nat → Int32} {mi d n0 : Nat} {R : Room} {r : Int × amM} {Qf : State → Prop} {pc : Nat} {ts tl : List Nat} {call : Nat → List Int → amM → amR} {rt : Nat → Nat × Nat} {k : amJ} {nx : amN} (hC : amCx p s m args meth c D E G cr L xs mi d n0 R r) {a b w : Nat} {z : List (Int × Nat)} (hd : decode (amBy mi) pc = .ok (.i2l, 1)) (h : amGo p l e s m args below meth c D E G cr L xs mi d n0 R r Qf (pc + 1) (1 :: ts) tl nx) : amGo p l e s m args below meth c D E G cr L xs mi d n0 R r Qf pc (0 :: ts) tl (stp cr call rt (.i2l, a, b, w, z) k nx) := by
  obtain ⟨hx, hb, hml, hown, hts, hK, hR, hlk, hnm, hcr, hsz⟩ := hC
  intro st lc μ n H locs sl hF hH hX hst hfr hS hn
  rcases st with _ | ⟨x, st⟩
  · exact hst.elim
  refine lv_i2l hx hb hd (n_i2l hst.1) ?_
  exact h ((x) :: st) lc μ n H locs sl hF hH hX ⟨R32_64 hst.1, hst.2⟩ hfr hS hn
theorem go_l2i {p : Program} {l : Launch} {e : Env} {s : State} {m : MethodId} {args : Array Value} {below : List Frame} {meth : Method} {c : Code} {D : va_G} {E : Nat → ClassId} {G : amG} {cr : amC} {L : Nat} {xs : Nat → Int32} {mi d n0 : Nat} {R : Room} {r : Int × amM} {Qf : State → Prop} {pc : Nat} {ts tl : List Nat} {call : Nat → List Int → amM → amR} {rt : Nat → Nat × Nat} {k : amJ} {nx : amN} (hC : amCx p s m args meth c D E G cr L xs mi d n0 R r) {a b w : Nat} {z : List (Int × Nat)} (hd : decode (amBy mi) pc = .ok (.l2i, 1)) (h : amGo p l e s m args below meth c D E G cr L xs mi d n0 R r Qf (pc + 1) (0 :: ts) tl nx) : amGo p l e s m args below meth c D E G cr L xs mi d n0 R r Qf pc (1 :: ts) tl (stp cr call rt (.l2i, a, b, w, z) k nx) := by
  obtain ⟨hx, hb, hml, hown, hts, hK, hR, hlk, hnm, hcr, hsz⟩ := hC
  intro st lc μ n H locs sl hF hH hX hst hfr hS hn
  rcases st with _ | ⟨x, st⟩
  · exact hst.elim
  refine lv_l2i hx hb hd (n_l2i hst.1) ?_
  exact h ((w32 x) :: st) lc μ n H locs sl hF hH hX ⟨w32_R _, hst.2⟩ hfr hS hn
theorem go_i2b {p : Program} {l : Launch} {e : Env} {s : State} {m : MethodId} {args : Array Value} {below : List Frame} {meth : Method} {c : Code} {D : va_G} {E : Nat → ClassId} {G : amG} {cr : amC} {L : Nat} {xs : Nat → Int32} {mi d n0 : Nat} {R : Room} {r : Int × amM} {Qf : State → Prop} {pc : Nat} {ts tl : List Nat} {call : Nat → List Int → amM → amR} {rt : Nat → Nat × Nat} {k : amJ} {nx : amN} (hC : amCx p s m args meth c D E G cr L xs mi d n0 R r) {a b w : Nat} {z : List (Int × Nat)} (hd : decode (amBy mi) pc = .ok (.i2b, 1)) (h : amGo p l e s m args below meth c D E G cr L xs mi d n0 R r Qf (pc + 1) (0 :: ts) tl nx) : amGo p l e s m args below meth c D E G cr L xs mi d n0 R r Qf pc (0 :: ts) tl (stp cr call rt (.i2b, a, b, w, z) k nx) := by
  obtain ⟨hx, hb, hml, hown, hts, hK, hR, hlk, hnm, hcr, hsz⟩ := hC
  intro st lc μ n H locs sl hF hH hX hst hfr hS hn
  rcases st with _ | ⟨x, st⟩
  · exact hst.elim
  refine lv_i2b hx hb hd (n_i2b hst.1) ?_
  exact h ((x.bmod 256) :: st) lc μ n H locs sl hF hH hX ⟨n_i2bR _, hst.2⟩ hfr hS hn
theorem go_i2s {p : Program} {l : Launch} {e : Env} {s : State} {m : MethodId} {args : Array Value} {below : List Frame} {meth : Method} {c : Code} {D : va_G} {E : Nat → ClassId} {G : amG} {cr : amC} {L : Nat} {xs : Nat → Int32} {mi d n0 : Nat} {R : Room} {r : Int × amM} {Qf : State → Prop} {pc : Nat} {ts tl : List Nat} {call : Nat → List Int → amM → amR} {rt : Nat → Nat × Nat} {k : amJ} {nx : amN} (hC : amCx p s m args meth c D E G cr L xs mi d n0 R r) {a b w : Nat} {z : List (Int × Nat)} (hd : decode (amBy mi) pc = .ok (.i2s, 1)) (h : amGo p l e s m args below meth c D E G cr L xs mi d n0 R r Qf (pc + 1) (0 :: ts) tl nx) : amGo p l e s m args below meth c D E G cr L xs mi d n0 R r Qf pc (0 :: ts) tl (stp cr call rt (.i2s, a, b, w, z) k nx) := by
  obtain ⟨hx, hb, hml, hown, hts, hK, hR, hlk, hnm, hcr, hsz⟩ := hC
  intro st lc μ n H locs sl hF hH hX hst hfr hS hn
  rcases st with _ | ⟨x, st⟩
  · exact hst.elim
  refine lv_i2s hx hb hd (n_i2s hst.1) ?_
  exact h ((x.bmod 65536) :: st) lc μ n H locs sl hF hH hX ⟨n_i2sR _, hst.2⟩ hfr hS hn
theorem go_ineg {p : Program} {l : Launch} {e : Env} {s : State} {m : MethodId} {args : Array Value} {below : List Frame} {meth : Method} {c : Code} {D : va_G} {E : Nat → ClassId} {G : amG} {cr : amC} {L : Nat} {xs : Nat → Int32} {mi d n0 : Nat} {R : Room} {r : Int × amM} {Qf : State → Prop} {pc : Nat} {ts tl : List Nat} {call : Nat → List Int → amM → amR} {rt : Nat → Nat × Nat} {k : amJ} {nx : amN} (hC : amCx p s m args meth c D E G cr L xs mi d n0 R r) {a b w : Nat} {z : List (Int × Nat)} (hd : decode (amBy mi) pc = .ok (.ineg, 1)) (h : amGo p l e s m args below meth c D E G cr L xs mi d n0 R r Qf (pc + 1) (0 :: ts) tl nx) : amGo p l e s m args below meth c D E G cr L xs mi d n0 R r Qf pc (0 :: ts) tl (stp cr call rt (.ineg, a, b, w, z) k nx) := by
  obtain ⟨hx, hb, hml, hown, hts, hK, hR, hlk, hnm, hcr, hsz⟩ := hC
  intro st lc μ n H locs sl hF hH hX hst hfr hS hn
  rcases st with _ | ⟨x, st⟩
  · exact hst.elim
  refine lv_ineg hx hb hd ?_
  rw [n_neg]
  exact h (w32 (-x) :: st) lc μ n H locs sl hF hH hX ⟨w32_R _, hst.2⟩ hfr hS hn
theorem go_lcmp {p : Program} {l : Launch} {e : Env} {s : State} {m : MethodId} {args : Array Value} {below : List Frame} {meth : Method} {c : Code} {D : va_G} {E : Nat → ClassId} {G : amG} {cr : amC} {L : Nat} {xs : Nat → Int32} {mi d n0 : Nat} {R : Room} {r : Int × amM} {Qf : State → Prop} {pc : Nat} {ts tl : List Nat} {call : Nat → List Int → amM → amR} {rt : Nat → Nat × Nat} {k : amJ} {nx : amN} (hC : amCx p s m args meth c D E G cr L xs mi d n0 R r) {a b w : Nat} {z : List (Int × Nat)} (hd : decode (amBy mi) pc = .ok (.lcmp, 1)) (h : amGo p l e s m args below meth c D E G cr L xs mi d n0 R r Qf (pc + 1) (0 :: ts) tl nx) : amGo p l e s m args below meth c D E G cr L xs mi d n0 R r Qf pc (1 :: 1 :: ts) tl (stp cr call rt (.lcmp, a, b, w, z) k nx) := by
  obtain ⟨hx, hb, hml, hown, hts, hK, hR, hlk, hnm, hcr, hsz⟩ := hC
  intro st lc μ n H locs sl hF hH hX hst hfr hS hn
  rcases st with _ | ⟨y, _ | ⟨x, st⟩⟩
  · exact hst.elim
  · exact hst.2.elim
  refine W.lcmp hx hb hd ?_
  rw [n_cmp hst.2.1 hst.1]
  exact h ((if x < y then -1 else if x = y then 0 else 1) :: st) lc μ n H locs sl hF hH hX ⟨by unfold amOk R32; split <;> (try split) <;> omega, hst.2.2⟩ hfr hS hn
theorem amVal_cat {G : amG} {t : Nat} (x : Int) (h : t ≠ 1) : (amVal G t x).category = 1 := by
  unfold amVal
  split
  · exact absurd rfl h
  · split <;> rfl
  · rfl
theorem go_dup {p : Program} {l : Launch} {e : Env} {s : State} {m : MethodId} {args : Array Value} {below : List Frame} {meth : Method} {c : Code} {D : va_G} {E : Nat → ClassId} {G : amG} {cr : amC} {L : Nat} {xs : Nat → Int32} {mi d n0 : Nat} {R : Room} {r : Int × amM} {Qf : State → Prop} {pc : Nat} {ts tl : List Nat} {call : Nat → List Int → amM → amR} {rt : Nat → Nat × Nat} {k : amJ} {nx : amN} (hC : amCx p s m args meth c D E G cr L xs mi d n0 R r) {t a b w : Nat} {z : List (Int × Nat)} (ht : t ≠ 1) (hd : decode (amBy mi) pc = .ok (.dup, 1)) (h : amGo p l e s m args below meth c D E G cr L xs mi d n0 R r Qf (pc + 1) (t :: t :: ts) tl nx) : amGo p l e s m args below meth c D E G cr L xs mi d n0 R r Qf pc (t :: ts) tl (stp cr call rt (.dup, a, b, w, z) k nx) := by
  obtain ⟨hx, hb, hml, hown, hts, hK, hR, hlk, hnm, hcr, hsz⟩ := hC
  intro st lc μ n H locs sl hF hH hX hst hfr hS hn
  rcases st with _ | ⟨x, st⟩
  · exact hst.elim
  exact lv_dup hx hb hd (amVal_cat x ht) (h (x :: x :: st) lc μ n H locs sl hF hH hX ⟨hst.1, hst.1, hst.2⟩ hfr hS hn)
theorem go_dup2 {p : Program} {l : Launch} {e : Env} {s : State} {m : MethodId} {args : Array Value} {below : List Frame} {meth : Method} {c : Code} {D : va_G} {E : Nat → ClassId} {G : amG} {cr : amC} {L : Nat} {xs : Nat → Int32} {mi d n0 : Nat} {R : Room} {r : Int × amM} {Qf : State → Prop} {pc : Nat} {ts tl : List Nat} {call : Nat → List Int → amM → amR} {rt : Nat → Nat × Nat} {k : amJ} {nx : amN} (hC : amCx p s m args meth c D E G cr L xs mi d n0 R r) {t t2 a b w : Nat} {z : List (Int × Nat)} (ht : t ≠ 1) (ht2 : t2 ≠ 1) (hd : decode (amBy mi) pc = .ok (.dup2, 1)) (h : amGo p l e s m args below meth c D E G cr L xs mi d n0 R r Qf (pc + 1) (t :: t2 :: t :: t2 :: ts) tl nx) : amGo p l e s m args below meth c D E G cr L xs mi d n0 R r Qf pc (t :: t2 :: ts) tl (stp cr call rt (.dup2, a, b, w, z) k nx) := by
  obtain ⟨hx, hb, hml, hown, hts, hK, hR, hlk, hnm, hcr, hsz⟩ := hC
  intro st lc μ n H locs sl hF hH hX hst hfr hS hn
  rcases st with _ | ⟨y, _ | ⟨x, st⟩⟩
  · exact hst.elim
  · exact hst.2.elim
  exact lv_dup2_11 hx hb hd (amVal_cat y ht) (amVal_cat x ht2) (h (y :: x :: y :: x :: st) lc μ n H locs sl hF hH hX ⟨hst.1, hst.2.1, hst.1, hst.2.1, hst.2.2⟩ hfr hS hn)
theorem go_pop {p : Program} {l : Launch} {e : Env} {s : State} {m : MethodId} {args : Array Value} {below : List Frame} {meth : Method} {c : Code} {D : va_G} {E : Nat → ClassId} {G : amG} {cr : amC} {L : Nat} {xs : Nat → Int32} {mi d n0 : Nat} {R : Room} {r : Int × amM} {Qf : State → Prop} {pc : Nat} {ts tl : List Nat} {call : Nat → List Int → amM → amR} {rt : Nat → Nat × Nat} {k : amJ} {nx : amN} (hC : amCx p s m args meth c D E G cr L xs mi d n0 R r) {t a b w : Nat} {z : List (Int × Nat)} (ht : t ≠ 1) (hd : decode (amBy mi) pc = .ok (.pop, 1)) (h : amGo p l e s m args below meth c D E G cr L xs mi d n0 R r Qf (pc + 1) ts tl nx) : amGo p l e s m args below meth c D E G cr L xs mi d n0 R r Qf pc (t :: ts) tl (stp cr call rt (.pop, a, b, w, z) k nx) := by
  obtain ⟨hx, hb, hml, hown, hts, hK, hR, hlk, hnm, hcr, hsz⟩ := hC
  intro st lc μ n H locs sl hF hH hX hst hfr hS hn
  rcases st with _ | ⟨x, st⟩
  · exact hst.elim
  exact lv_pop hx hb hd (amVal_cat x ht) (h st lc μ n H locs sl hF hH hX hst.2 hfr hS hn)
theorem go_ldc {p : Program} {l : Launch} {e : Env} {s : State} {m : MethodId} {args : Array Value} {below : List Frame} {meth : Method} {c : Code} {D : va_G} {E : Nat → ClassId} {G : amG} {cr : amC} {L : Nat} {xs : Nat → Int32} {mi d n0 : Nat} {R : Room} {r : Int × amM} {Qf : State → Prop} {pc : Nat} {ts tl : List Nat} {call : Nat → List Int → amM → amR} {rt : Nat → Nat × Nat} {k : amJ} {nx : amN} (hC : amCx p s m args meth c D E G cr L xs mi d n0 R r) {i : Nat} {v : Int} {a b w : Nat} {z : List (Int × Nat)} (hv : (z.headD (0, 0)).1 = v) (hR32 : R32 v) (hw : Cond.constant (amNm (amYt mi).1) i (Int32.ofInt v) ∈ amTbl) (hd : decode (amBy mi) pc = .ok (.ldc i, 2)) (h : amGo p l e s m args below meth c D E G cr L xs mi d n0 R r Qf (pc + 2) (0 :: ts) tl nx) : amGo p l e s m args below meth c D E G cr L xs mi d n0 R r Qf pc ts tl (stp cr call rt (.ldc i, a, b, w, z) k nx) := by
  obtain ⟨hx, hb, hml, hown, hts, hK, hR, hlk, hnm, hcr, hsz⟩ := hC
  intro st lc μ n H locs sl hF hH hX hst hfr hS hn
  subst hv
  exact lv_ldc hx hb hown (hts _ hw) hd (h (_ :: st) lc μ n H locs sl hF hH hX ⟨hR32, hst⟩ hfr hS hn)
theorem go_ldc_w {p : Program} {l : Launch} {e : Env} {s : State} {m : MethodId} {args : Array Value} {below : List Frame} {meth : Method} {c : Code} {D : va_G} {E : Nat → ClassId} {G : amG} {cr : amC} {L : Nat} {xs : Nat → Int32} {mi d n0 : Nat} {R : Room} {r : Int × amM} {Qf : State → Prop} {pc : Nat} {ts tl : List Nat} {call : Nat → List Int → amM → amR} {rt : Nat → Nat × Nat} {k : amJ} {nx : amN} (hC : amCx p s m args meth c D E G cr L xs mi d n0 R r) {i : Nat} {v : Int} {a b w : Nat} {z : List (Int × Nat)} (hv : (z.headD (0, 0)).1 = v) (hR32 : R32 v) (hw : Cond.constant (amNm (amYt mi).1) i (Int32.ofInt v) ∈ amTbl) (hd : decode (amBy mi) pc = .ok (.ldc_w i, 3)) (h : amGo p l e s m args below meth c D E G cr L xs mi d n0 R r Qf (pc + 3) (0 :: ts) tl nx) : amGo p l e s m args below meth c D E G cr L xs mi d n0 R r Qf pc ts tl (stp cr call rt (.ldc_w i, a, b, w, z) k nx) := by
  obtain ⟨hx, hb, hml, hown, hts, hK, hR, hlk, hnm, hcr, hsz⟩ := hC
  intro st lc μ n H locs sl hF hH hX hst hfr hS hn
  subst hv
  exact lv_ldcw hx hb hown (hts _ hw) hd (h (_ :: st) lc μ n H locs sl hF hH hX ⟨hR32, hst⟩ hfr hS hn)
theorem go_ldc2_w {p : Program} {l : Launch} {e : Env} {s : State} {m : MethodId} {args : Array Value} {below : List Frame} {meth : Method} {c : Code} {D : va_G} {E : Nat → ClassId} {G : amG} {cr : amC} {L : Nat} {xs : Nat → Int32} {mi d n0 : Nat} {R : Room} {r : Int × amM} {Qf : State → Prop} {pc : Nat} {ts tl : List Nat} {call : Nat → List Int → amM → amR} {rt : Nat → Nat × Nat} {k : amJ} {nx : amN} (hC : amCx p s m args meth c D E G cr L xs mi d n0 R r) {i : Nat} {v : Int} {a b w : Nat} {z : List (Int × Nat)} (hv : (z.headD (0, 0)).1 = v) (hR64 : R64 v) (hw : Cond.constantLong (amNm (amYt mi).1) i (Int64.ofInt v) ∈ amTbl) (hd : decode (amBy mi) pc = .ok (.ldc2_w i, 3)) (h : amGo p l e s m args below meth c D E G cr L xs mi d n0 R r Qf (pc + 3) (1 :: ts) tl nx) : amGo p l e s m args below meth c D E G cr L xs mi d n0 R r Qf pc ts tl (stp cr call rt (.ldc2_w i, a, b, w, z) k nx) := by
  obtain ⟨hx, hb, hml, hown, hts, hK, hR, hlk, hnm, hcr, hsz⟩ := hC
  intro st lc μ n H locs sl hF hH hX hst hfr hS hn
  subst hv
  exact lv_ldc2 hx hb hown (hts _ hw) hd (h (_ :: st) lc μ n H locs sl hF hH hX ⟨hR64, hst⟩ hfr hS hn)
end
section
/-! ===== fields, rows of numbers, branches ===== -/
theorem if_some {c : Prop} {hc : Decidable c} {a : amR} {r : Int × amM} (h : (if c then a else none) = some r) : c ∧ a = some r := by
  by_cases hq : c
  · rw [if_pos hq] at h; exact ⟨hq, h⟩
  · rw [if_neg hq] at h; cases h
theorem some_if {c : Prop} {hc : Decidable c} {a : amR} {r : Int × amM} (h : (if c then none else a) = some r) : ¬ c ∧ a = some r := by
  by_cases hq : c
  · rw [if_pos hq] at h; cases h
  · rw [if_neg hq] at h; exact ⟨hq, h⟩
theorem amCellE_obj {E : Nat → ClassId} {G : amG} {f : Nat → Int} {k ci : Nat} (h : (amShp k).1 = ci) (h2 : ci < 20) : amCellE E G f k = .inr (ci, (List.range (amShp k).2).map (fun j => amVal G (amFt ci j) (f j))) := by
  unfold amCellE
  rw [h, if_pos h2]
theorem amCellE_arr {E : Nat → ClassId} {G : amG} {f : Nat → Int} {k t : Nat} (h : (amShp k).1 = t) (h2 : ¬ t < 20) : amCellE E G f k = .inl (E t, (amShp k).2, amArr G t f) := by
  unfold amCellE
  rw [h, if_neg h2]
theorem amSl_obj {k ci j : Nat} (h : (amShp k).1 = ci) (h2 : ci < 20) : amSl k j = amFt ci j := by
  unfold amSl
  rw [h, if_pos h2]
theorem amSl_arr {k t j : Nat} (h : (amShp k).1 = t) (h2 : ¬ t < 20) : amSl k j = if t = 21 then 1 else if t < 23 then 0 else 2 := by
  unfold amSl
  rw [h, if_neg h2]
theorem amOk_ft {n t t' : Nat} {x : Int} (h : amOk n t x) (ht : t = t' ∨ (t = 4 ∧ t' = 0)) : amOk n t' x := by
  rcases ht with rfl | ⟨rfl, rfl⟩
  · exact h
  · exact h
theorem amVal_ft {G : amG} {t t' : Nat} {x : Int} (ht : t = t' ∨ (t = 4 ∧ t' = 0)) : amVal G t x = amVal G t' x := by
  rcases ht with rfl | ⟨rfl, rfl⟩
  · rfl
  · rfl
theorem shp_no {t : Nat} (h : t = 26 ∨ t = 27) (cc : Nat) : (amShp cc).1 ≠ t := by
  by_cases hc : cc < 95
  · have hq := List.all_eq_true.mp (show ((List.range 95).all (fun k => decide ((amShp k).1 ≠ 26 ∧ (amShp k).1 ≠ 27))) = true by decide +kernel) cc (List.mem_range.mpr hc)
    have hq2 := of_decide_eq_true hq
    rcases h with rfl | rfl
    · exact hq2.1
    · exact hq2.2
  · have e : amShp cc = (99, 0) := by
      unfold amShp
      rw [List.getD_eq_getElem?_getD, List.getElem?_eq_none (by show amShpL.length ≤ cc; exact Nat.le_of_not_lt hc)]
      rfl
    rw [e]
    rcases h with rfl | rfl <;> decide
theorem tg_big {x : Int} {t : Nat} (h : amTg x = t) (ht : t = 26 ∨ t = 27) (hx : 0 ≤ x) : (t = 26 ∧ x = 302) ∨ (t = 27 ∧ (x = 300 ∨ x = 301)) := by
  cases x with
  | ofNat cc =>
    have q : amTgN cc = t := h
    by_cases e1 : cc = 300
    · subst e1; exact Or.inr ⟨q.symm.trans rfl, Or.inl rfl⟩
    · by_cases e2 : cc = 301
      · subst e2; exact Or.inr ⟨q.symm.trans rfl, Or.inr rfl⟩
      · by_cases e3 : cc = 302
        · subst e3; exact Or.inl ⟨q.symm.trans rfl, rfl⟩
        · exfalso
          have h3 : amTgN cc = (amShp cc).1 := by
            unfold amTgN
            split
            · exact absurd rfl e1
            · exact absurd rfl e2
            · exact absurd rfl e3
            · rfl
          exact shp_no ht cc (h3.symm.trans q)
  | negSucc cc => exact absurd hx (by omega)
theorem amArr_i {G : amG} {t : Nat} (f : Nat → Int) (h1 : t ≠ 21) (h2 : t < 23) : amArr G t f = .inl (fun j => Int32.ofInt (f j)) := by
  unfold amArr
  rw [if_neg h1, if_pos h2]
theorem amArr_l {G : amG} (f : Nat → Int) : amArr G 21 f = .inr (.inl (fun j => Int64.ofInt (f j))) := if_pos rfl
/-- fields and their cells have as many slots as their class says -/
def amShpOk : Bool := (List.range 95).all (fun k => decide ((amShp k).1 < 20 → (amCl[(amShp k).1]?).map (fun q => q.2.2) = some (amShp k).2))
theorem amShp_ok : amShpOk = true := by decide +kernel
theorem amShp_N {k ci N : Nat} {C : String} {T : u_T} (h : (amShp k).1 = ci) (h2 : ci < 20) (hk : k < 95) (hc : amCl[ci]? = some (C, T, N)) : (amShp k).2 = N := by
  have h3 := List.all_eq_true.mp amShp_ok k (List.mem_range.mpr hk)
  simp only [decide_eq_true_eq] at h3
  rw [h] at h3
  have h4 := h3 h2
  rw [hc] at h4
  exact (Option.some.inj h4).symm
theorem amCr_arr {cr : amC} (h : amCrOk cr) {k t j : Nat} (h1 : (amShp k).1 = t) (h2 : ¬ t < 20) (h3 : t < 23) : cr k j = none := by
  cases hv : cr k j with
  | none => rfl
  | some v =>
    have h4 := (h k j v hv).1
    rw [amSl_arr h1 h2] at h4
    split at h4
    · omega
    · first | omega | (rw [if_pos h3] at h4; omega)
theorem amCt_arr {cr : amC} (h : amCrOk cr) {k t : Nat} (μ : amM) (h1 : (amShp k).1 = t) (h2 : ¬ t < 20) (h3 : t < 23) : amCt cr μ k = μ k := by
  funext j
  unfold amCt
  rw [amCr_arr h h1 h2 h3]
theorem go_getfield {p : Program} {l : Launch} {e : Env} {s : State} {m : MethodId} {args : Array Value} {below : List Frame} {meth : Method} {c : Code} {D : va_G} {E : Nat → ClassId} {G : amG} {cr : amC} {L : Nat} {xs : Nat → Int32} {mi d n0 : Nat} {R : Room} {r : Int × amM} {Qf : State → Prop} {pc : Nat} {ts tl : List Nat} {call : Nat → List Int → amM → amR} {rt : Nat → Nat × Nat} {k : amJ} {nx : amN} (hC : amCx p s m args meth c D E G cr L xs mi d n0 R r) {i ci kf t a w N : Nat} {C : String} {Tb : u_T} {z : List (Int × Nat)} (hc : amCl[ci]? = some (C, Tb, N)) (hci : ci < 20) (hk : kf < N) (hin : ∀ w ∈ u_ws C Tb N, w ∈ amTbl) (hw : Cond.fieldLink (amNm (amYt mi).1) i (Tb kf).1 (Tb kf).2.1 (Tb kf).2.2.1 ∈ amTbl) (ht : amFt ci kf = t ∨ (amFt ci kf = 4 ∧ t = 0)) (hd : decode (amBy mi) pc = .ok (.getfield i, 3)) (h : amGo p l e s m args below meth c D E G cr L xs mi d n0 R r Qf (pc + 3) (t :: ts) tl nx) : amGo p l e s m args below meth c D E G cr L xs mi d n0 R r Qf pc (2 :: ts) tl (stp cr call rt (.getfield i, ci, kf, w, z) k nx) := by
  obtain ⟨hx, hb, hml, hown, hts, hK, hR, hlk, hnm, hcr, hsz⟩ := hC
  intro st lc μ n H locs sl hF hH hX hst hfr hS hn
  rcases st with _ | ⟨x, st⟩
  · exact hst.elim
  have hF1 : ∃ v, amTg x = ci ∧ v = amCt cr μ x.toNat kf ∧ (amFt ci kf = 2 → 0 ≤ v) ∧ nx (v :: st) lc μ = some r := by
    rcases z with _ | ⟨⟨w0, z0⟩, z⟩
    · have hF : amGf cr μ ci kf x (fun v => nx (v :: st) lc μ) = some r := hF
      obtain ⟨h1, h2⟩ := if_some hF
      by_cases e : amFt ci kf = 2
      · rw [if_pos e] at h2
        obtain ⟨h3, h4⟩ := if_some h2
        exact ⟨_, h1, rfl, fun _ => h3, h4⟩
      · rw [if_neg e] at h2
        exact ⟨_, h1, rfl, fun q => absurd q e, h2⟩
    · have hF : amGx cr μ ci kf x w0 (fun v => nx (v :: st) lc μ) = some r := hF
      obtain ⟨h1, h2⟩ := if_some hF
      obtain ⟨h3, h4⟩ := if_some h2
      obtain ⟨h5, h6⟩ := if_some h4
      exact ⟨_, h1, h3.symm, fun _ => h5, h6⟩
  obtain ⟨v, h1, hv, h2, h3⟩ := hF1
  obtain ⟨g1, g2, g3, g4, g5, g6⟩ := tg_shp h1 (by omega)
  have hlt := amOk_lt hst.1 g4 g5 g6
  have hN := amShp_N g2 hci g3 hc
  have he := amWs_get (E := E) (G := G) (C := amCt cr μ) hlt
  rw [amCellE_obj g2 hci, hN] at he
  rw [amVs_ref g1, amAd_lt g3]
  refine va_get hx hb hts hin hown hK.1 hH.1 x.toNat he hc kf hk (hts _ hw) (fun _ q => q) (range_get hk) hd ?_
  have hok := hH.2.1 x.toNat hlt kf (by omega)
  rw [amSl_obj g2 hci] at hok
  rw [← hv] at hok ⊢
  rw [amVal_ft ht]
  refine h (v :: st) lc μ n H locs sl h3 hH hX ⟨amOk_ft ?_ ht, hst.2⟩ hfr hS hn
  rcases hok with ⟨q1, q2⟩ | q
  · have := h2 q1
    omega
  · exact q
/-- a value of a field's type -/
def amTyOk (t : Nat) (ty : FieldType) : Prop := (t = 0 ∧ ty = .int) ∨ (t = 4 ∧ ty = .boolean) ∨ (t = 2 ∧ ((∃ q, ty = .object q) ∨ ∃ u, ty = .array u))
theorem amTy_nf {G : amG} {t : Nat} {ty : FieldType} {x : Int} (h : amTyOk t ty) (h2 : t = 2 → 0 ≤ x) (h4 : t = 4 → x = 0 ∨ x = 1) : narrow ty (amVal G t x) = amVal G t x ∧ fits ty (amVal G t x) = true := by
  rcases h with ⟨rfl, rfl⟩ | ⟨rfl, rfl⟩ | ⟨rfl, h⟩
  · exact ⟨rfl, rfl⟩
  · rcases h4 rfl with rfl | rfl
    · exact ⟨(by decide +kernel : narrow .boolean (Value.int (Int32.ofInt 0)) = Value.int (Int32.ofInt 0)), rfl⟩
    · exact ⟨(by decide +kernel : narrow .boolean (Value.int (Int32.ofInt 1)) = Value.int (Int32.ofInt 1)), rfl⟩
  · rw [amVal_ref (h2 rfl)]
    rcases h with ⟨q, rfl⟩ | ⟨q, rfl⟩
    · exact ⟨rfl, rfl⟩
    · exact ⟨rfl, rfl⟩
theorem go_putfield {p : Program} {l : Launch} {e : Env} {s : State} {m : MethodId} {args : Array Value} {below : List Frame} {meth : Method} {c : Code} {D : va_G} {E : Nat → ClassId} {G : amG} {cr : amC} {L : Nat} {xs : Nat → Int32} {mi d n0 : Nat} {R : Room} {r : Int × amM} {Qf : State → Prop} {pc : Nat} {ts tl : List Nat} {call : Nat → List Int → amM → amR} {rt : Nat → Nat × Nat} {k : amJ} {nx : amN} (hC : amCx p s m args meth c D E G cr L xs mi d n0 R r) {i ci kf t w N : Nat} {C : String} {Tb : u_T} {ty : FieldType} {ty0 : Nat → FieldType} {z : List (Int × Nat)} (hc : amCl[ci]? = some (C, Tb, N)) (hci : ci < 20) (hk : kf < N) (hin : ∀ w ∈ u_ws C Tb N, w ∈ amTbl) (hty0 : ∀ k, k < N → parseFieldDescriptor (Tb k).2.2.1 = some (ty0 k)) (hnn : ∀ a, a < N → ∀ b, b < N → a ≠ b → (Tb a).2.1 ≠ (Tb b).2.1) (hw : Cond.fieldLink (amNm (amYt mi).1) i (Tb kf).1 (Tb kf).2.1 (Tb kf).2.2.1 ∈ amTbl) (hfin : (Tb kf).2.2.2 = false) (hpd : parseFieldDescriptor (Tb kf).2.2.1 = some ty) (hty : amTyOk (amFt ci kf) ty) (ht : amFt ci kf = t ∨ (amFt ci kf = 4 ∧ t = 0)) (hd : decode (amBy mi) pc = .ok (.putfield i, 3)) (h : amGo p l e s m args below meth c D E G cr L xs mi d n0 R r Qf (pc + 3) ts tl nx) : amGo p l e s m args below meth c D E G cr L xs mi d n0 R r Qf pc (t :: 2 :: ts) tl (stp cr call rt (.putfield i, ci, kf, w, z) k nx) := by
  obtain ⟨hx, hb, hml, hown, hts, hK, hR, hlk, hnm, hcr, hsz⟩ := hC
  intro st lc μ n H locs sl hF hH hX hst hfr hS hn
  rcases st with _ | ⟨v, _ | ⟨x, st⟩⟩
  · exact hst.elim
  · exact hst.2.elim
  have hF : amPf cr μ ci kf x v (fun μ => nx st lc μ) = some r := hF
  obtain ⟨⟨h1, -, h2, h4⟩, h3⟩ := if_some hF
  obtain ⟨g1, g2, g3, g4, g5, g6⟩ := tg_shp h1 (by omega)
  have hlt := amOk_lt hst.2.1 g4 g5 g6
  have hN := amShp_N g2 hci g3 hc
  have he := amWs_get (E := E) (G := G) (C := amCt cr μ) hlt
  rw [amCellE_obj g2 hci, hN] at he
  have hvo : amOk n (amFt ci kf) v := by
    rcases ht with e | ⟨e1, e2⟩
    · rw [e]; exact hst.1
    · rw [e1]; rw [e2] at hst; exact hst.1
  have h20 : amFt ci kf = 2 → 0 ≤ v := fun e => by rw [e] at hvo; exact hvo.1
  have hnf := amTy_nf (G := G) hty h20 h4
  have e1 : amVs G (t :: 2 :: ts) (v :: x :: st) = amVal G (amFt ci kf) v :: .ref (G.1 + x.toNat) :: amVs G ts st := by
    rw [amVal_ft ht, ← amAd_lt (G := G) g3, ← amVal_ref g1]; rfl
  rw [e1]
  refine va_put hx hb hts hin ty0 hty0 hnn hown hK.1 hH.1 amWs_D hS x.toNat he hc kf hk (hts _ hw) (fun _ q => q) hfin hpd hnf.1 hnf.2 (by simpa using hk) hd (fun H1 locs1 hP1 _ hS1 => ?_)
  rw [range_set hk] at hP1
  refine h st lc (up μ x.toNat kf v) n H1 locs1 sl h3 (hH.put h2 (by omega) (Or.inr (by rw [amSl_obj g2 hci]; exact hvo)) ?_) (hX.put (by omega)) hst.2.2 hfr hS1 hn
  rw [amCellE_obj g2 hci, hN, amCt_up h2]
  have e2 : (fun j => amVal G (amFt ci j) (if j = kf then v else amCt cr μ x.toNat j)) = (fun j => if j = kf then amVal G (amFt ci kf) v else amVal G (amFt ci j) (amCt cr μ x.toNat j)) := by
    funext j
    by_cases e : j = kf
    · subst e; simp
    · simp [e]
  rw [e2]
  exact hP1
theorem go_putfieldF {p : Program} {l : Launch} {e : Env} {s : State} {m : MethodId} {args : Array Value} {below : List Frame} {meth : Method} {c : Code} {D : va_G} {E : Nat → ClassId} {G : amG} {cr : amC} {L : Nat} {xs : Nat → Int32} {mi d n0 : Nat} {R : Room} {r : Int × amM} {Qf : State → Prop} {pc : Nat} {ts tl : List Nat} {call : Nat → List Int → amM → amR} {rt : Nat → Nat × Nat} {k : amJ} {nx : amN} (hC : amCx p s m args meth c D E G cr L xs mi d n0 R r) {i ci kf t w N : Nat} {C : String} {Tb : u_T} {ty : FieldType} {ty0 : Nat → FieldType} {z : List (Int × Nat)} (hc : amCl[ci]? = some (C, Tb, N)) (hci : ci < 20) (hk : kf < N) (hin : ∀ w ∈ u_ws C Tb N, w ∈ amTbl) (hty0 : ∀ k, k < N → parseFieldDescriptor (Tb k).2.2.1 = some (ty0 k)) (hnn : ∀ a, a < N → ∀ b, b < N → a ≠ b → (Tb a).2.1 ≠ (Tb b).2.1) (hw : Cond.fieldLink (amNm (amYt mi).1) i (Tb kf).1 (Tb kf).2.1 (Tb kf).2.2.1 ∈ amTbl) (hfin : (Tb kf).2.2.2 = true) (hmn : (amY mi).name = "<init>") (hdecl : (Tb kf).1 = amNm (amYt mi).1) (hpd : parseFieldDescriptor (Tb kf).2.2.1 = some ty) (hty : amTyOk (amFt ci kf) ty) (ht : amFt ci kf = t ∨ (amFt ci kf = 4 ∧ t = 0)) (hd : decode (amBy mi) pc = .ok (.putfield i, 3)) (h : amGo p l e s m args below meth c D E G cr L xs mi d n0 R r Qf (pc + 3) ts tl nx) : amGo p l e s m args below meth c D E G cr L xs mi d n0 R r Qf pc (t :: 2 :: ts) tl (stp cr call rt (.putfield i, ci, kf, w, z) k nx) := by
  obtain ⟨hx, hb, hml, hown, hts, hK, hR, hlk, hnm, hcr, hsz⟩ := hC
  intro st lc μ n H locs sl hF hH hX hst hfr hS hn
  rcases st with _ | ⟨v, _ | ⟨x, st⟩⟩
  · exact hst.elim
  · exact hst.2.elim
  have hF : amPf cr μ ci kf x v (fun μ => nx st lc μ) = some r := hF
  obtain ⟨⟨h1, -, h2, h4⟩, h3⟩ := if_some hF
  obtain ⟨g1, g2, g3, g4, g5, g6⟩ := tg_shp h1 (by omega)
  have hlt := amOk_lt hst.2.1 g4 g5 g6
  have hN := amShp_N g2 hci g3 hc
  have he := amWs_get (E := E) (G := G) (C := amCt cr μ) hlt
  rw [amCellE_obj g2 hci, hN] at he
  have hvo : amOk n (amFt ci kf) v := by
    rcases ht with e | ⟨e1, e2⟩
    · rw [e]; exact hst.1
    · rw [e1]; rw [e2] at hst; exact hst.1
  have h20 : amFt ci kf = 2 → 0 ≤ v := fun e => by rw [e] at hvo; exact hvo.1
  have hnf := amTy_nf (G := G) hty h20 h4
  have e1 : amVs G (t :: 2 :: ts) (v :: x :: st) = amVal G (amFt ci kf) v :: .ref (G.1 + x.toNat) :: amVs G ts st := by
    rw [amVal_ft ht, ← amAd_lt (G := G) g3, ← amVal_ref g1]; rfl
  rw [e1]
  refine va_putF hx hb hts hin ty0 hty0 hnn hown hK.1 hH.1 amWs_D hS x.toNat he hc kf hk (hts _ hw) (fun _ q => q) hfin (hnm.trans hmn) hdecl hpd hnf.1 hnf.2 (by simpa using hk) hd (fun H1 locs1 hP1 _ hS1 => ?_)
  rw [range_set hk] at hP1
  refine h st lc (up μ x.toNat kf v) n H1 locs1 sl h3 (hH.put h2 (by omega) (Or.inr (by rw [amSl_obj g2 hci]; exact hvo)) ?_) (hX.put (by omega)) hst.2.2 hfr hS1 hn
  rw [amCellE_obj g2 hci, hN, amCt_up h2]
  have e2 : (fun j => amVal G (amFt ci j) (if j = kf then v else amCt cr μ x.toNat j)) = (fun j => if j = kf then amVal G (amFt ci kf) v else amVal G (amFt ci j) (amCt cr μ x.toNat j)) := by
    funext j
    by_cases e : j = kf
    · subst e; simp
    · simp [e]
  rw [e2]
  exact hP1
theorem go_getstatic0 {p : Program} {l : Launch} {e : Env} {s : State} {m : MethodId} {args : Array Value} {below : List Frame} {meth : Method} {c : Code} {D : va_G} {E : Nat → ClassId} {G : amG} {cr : amC} {L : Nat} {xs : Nat → Int32} {mi d n0 : Nat} {R : Room} {r : Int × amM} {Qf : State → Prop} {pc : Nat} {ts tl : List Nat} {call : Nat → List Int → amM → amR} {rt : Nat → Nat × Nat} {k : amJ} {nx : amN} (hC : amCx p s m args meth c D E G cr L xs mi d n0 R r) {i b w : Nat} {z : List (Int × Nat)} (hw : Cond.fieldLink (amNm (amYt mi).1) i "AlikeTown$Voices" "ABOVE" "[I" ∈ amTbl) (hd : decode (amBy mi) pc = .ok (.getstatic i, 3)) (h : amGo p l e s m args below meth c D E G cr L xs mi d n0 R r Qf (pc + 3) (2 :: ts) tl nx) : amGo p l e s m args below meth c D E G cr L xs mi d n0 R r Qf pc ts tl (stp cr call rt (.getstatic i, 300, b, w, z) k nx) := by
  obtain ⟨hx, hb, hml, hown, hts, hK, hR, hlk, hnm, hcr, hsz⟩ := hC
  intro st lc μ n H locs sl hF hH hX hst hfr hS hn
  have h1 := h (300 :: st) lc μ n H locs sl hF hH hX ⟨⟨by decide, by simp⟩, hst⟩ hfr hS hn
  exact va_gets hx hb hK.2.2.2.1.1 hS hown (hts _ hw) (fun _ q => q) hd h1
theorem go_getstatic1 {p : Program} {l : Launch} {e : Env} {s : State} {m : MethodId} {args : Array Value} {below : List Frame} {meth : Method} {c : Code} {D : va_G} {E : Nat → ClassId} {G : amG} {cr : amC} {L : Nat} {xs : Nat → Int32} {mi d n0 : Nat} {R : Room} {r : Int × amM} {Qf : State → Prop} {pc : Nat} {ts tl : List Nat} {call : Nat → List Int → amM → amR} {rt : Nat → Nat × Nat} {k : amJ} {nx : amN} (hC : amCx p s m args meth c D E G cr L xs mi d n0 R r) {i b w : Nat} {z : List (Int × Nat)} (hw : Cond.fieldLink (amNm (amYt mi).1) i "AlikeTown$Voices" "OWN" "[I" ∈ amTbl) (hd : decode (amBy mi) pc = .ok (.getstatic i, 3)) (h : amGo p l e s m args below meth c D E G cr L xs mi d n0 R r Qf (pc + 3) (2 :: ts) tl nx) : amGo p l e s m args below meth c D E G cr L xs mi d n0 R r Qf pc ts tl (stp cr call rt (.getstatic i, 301, b, w, z) k nx) := by
  obtain ⟨hx, hb, hml, hown, hts, hK, hR, hlk, hnm, hcr, hsz⟩ := hC
  intro st lc μ n H locs sl hF hH hX hst hfr hS hn
  have h1 := h (301 :: st) lc μ n H locs sl hF hH hX ⟨⟨by decide, by simp⟩, hst⟩ hfr hS hn
  exact va_gets hx hb hK.2.2.2.1.2 hS hown (hts _ hw) (fun _ q => q) hd h1
theorem go_iaload {p : Program} {l : Launch} {e : Env} {s : State} {m : MethodId} {args : Array Value} {below : List Frame} {meth : Method} {c : Code} {D : va_G} {E : Nat → ClassId} {G : amG} {cr : amC} {L : Nat} {xs : Nat → Int32} {mi d n0 : Nat} {R : Room} {r : Int × amM} {Qf : State → Prop} {pc : Nat} {ts tl : List Nat} {call : Nat → List Int → amM → amR} {rt : Nat → Nat × Nat} {k : amJ} {nx : amN} (hC : amCx p s m args meth c D E G cr L xs mi d n0 R r) {a b w : Nat} {z : List (Int × Nat)} (hd : decode (amBy mi) pc = .ok (.iaload, 1)) (h : amGo p l e s m args below meth c D E G cr L xs mi d n0 R r Qf (pc + 1) (0 :: ts) tl nx) : amGo p l e s m args below meth c D E G cr L xs mi d n0 R r Qf pc (0 :: 2 :: ts) tl (stp cr call rt (.iaload, a, b, w, z) k nx) := by
  obtain ⟨hx, hb, hml, hown, hts, hK, hR, hlk, hnm, hcr, hsz⟩ := hC
  intro st lc μ n H locs sl hF hH hX hst hfr hS hn
  rcases st with _ | ⟨y, _ | ⟨x, st⟩⟩
  · exact hst.elim
  · exact hst.2.elim
  have hF : amAld μ x y (fun v => nx (v :: st) lc μ) = some r := hF
  unfold amAld at hF
  have e1 : amVs G (0 :: 2 :: ts) (y :: x :: st) = .int (Int32.ofInt y) :: .ref (amAd G x.toNat) :: amVs G ts st := by
    rw [← amVal_ref hst.2.1.1]; rfl
  rw [e1]
  by_cases h20 : amTg x = 20
  · rw [if_pos h20] at hF
    obtain ⟨h1, h2⟩ := if_some hF
    obtain ⟨g1, g2, g3, g4, g5, g6⟩ := tg_shp h20 (by omega)
    have hlt := amOk_lt hst.2.1 g4 g5 g6
    have he := amWs_get (E := E) (G := G) (C := amCt cr μ) hlt
    rw [amCellE_arr g2 (by omega), amCt_arr hcr μ g2 (by omega) (by omega)] at he
    have hl : amLn x = ((amShp x.toNat).2 : Int) := by
      cases x with
      | ofNat cc =>
        show ((amLnN cc : Nat) : Int) = _
        unfold amLnN
        split
        · exact absurd rfl g4
        · exact absurd rfl g5
        · rfl
      | negSucc cc => exact absurd g1 (by omega)
    rw [hl] at h1
    rw [amAd_lt g3]
    have hok := hH.2.1 x.toNat hlt y.toNat (by omega)
    rw [amSl_arr g2 (by omega), amCt_arr hcr μ g2 (by omega) (by omega)] at hok
    have hok2 : R32 (μ x.toNat y.toNat) := by
      rcases hok with q | q
      · exact absurd q.1 (by decide)
      · exact q
    refine va_iald hx hb hK.1 hH.1 x.toNat 0 he rfl (n_in hst.1 h1) hd ?_
    rw [n_clamp hst.1]
    exact h (_ :: st) lc μ n H locs sl h2 hH hX ⟨hok2, hst.2.2⟩ hfr hS hn
  · rw [if_neg h20] at hF
    by_cases h27 : amTg x = 27
    · rw [if_pos h27] at hF
      obtain ⟨h1, h2⟩ := if_some hF
      have hx2 : x = 300 ∨ x = 301 := by
        rcases tg_big h27 (Or.inr rfl) hst.2.1.1 with q | q
        · exact absurd q.1 (by decide)
        · exact q.2
      have tab : ∀ j, R32 (amTab 300 j) ∧ R32 (amTab 301 j) := by
        intro j
        by_cases hj : j < 28
        · have hq := List.all_eq_true.mp (show ((List.range 28).all (fun j => decide ((-2147483648 ≤ amTab 300 j ∧ amTab 300 j < 2147483648) ∧ (-2147483648 ≤ amTab 301 j ∧ amTab 301 j < 2147483648)))) = true by decide +kernel) j (List.mem_range.mpr hj)
          have hq2 := of_decide_eq_true hq
          exact hq2
        · have e1 : amTab 300 j = 0 := by
            show amT0.getD j 0 = 0
            rw [List.getD_eq_getElem?_getD, List.getElem?_eq_none (by show 7 ≤ j; omega)]; rfl
          have e2 : amTab 301 j = 0 := by
            show amT1.getD j 0 = 0
            rw [List.getD_eq_getElem?_getD, List.getElem?_eq_none (by show 28 ≤ j; omega)]; rfl
          rw [e1, e2]; exact ⟨R32_0, R32_0⟩
      rcases hx2 with rfl | rfl
      · refine va_ti hx hb hK.2.2.2.2.1.1 hS (n_in hst.1 h1) rfl hd ?_
        rw [n_clamp hst.1]
        exact h (_ :: st) lc μ n H locs sl h2 hH hX ⟨(tab _).1, hst.2.2⟩ hfr hS hn
      · refine va_ti hx hb hK.2.2.2.2.1.2 hS (n_in hst.1 h1) rfl hd ?_
        rw [n_clamp hst.1]
        exact h (_ :: st) lc μ n H locs sl h2 hH hX ⟨(tab _).2, hst.2.2⟩ hfr hS hn
    · rw [if_neg h27] at hF
      obtain ⟨h26, hF⟩ := if_some hF
      obtain ⟨h1, h2⟩ := if_some hF
      have hx2 : x = 302 := by
        rcases tg_big h26 (Or.inl rfl) hst.2.1.1 with q | q
        · exact q.2
        · exact absurd q.1 (by decide)
      subst hx2
      rw [hX.1] at h1
      have hj : y.toNat < L := by omega
      rw [hX.2 _ hj] at h2
      refine va_sld hx hb hK.2.2.2.2.2.1 (by have := hK.2.2.2.2.2; omega) (by have := hK.2.2.2.2.2.2.1; show ¬ G.1 ≤ G.2.2.2; omega) hS (n_in hst.1 h1) hd ?_
      rw [n_clamp hst.1]
      have h5 := h (_ :: st) lc μ n H locs sl h2 hH hX ⟨i32_R _, hst.2.2⟩ hfr hS hn
      have e2 : amVs G (0 :: ts) ((xs y.toNat).toInt :: st) = .int (xs y.toNat) :: amVs G ts st := by
        show Value.int (Int32.ofInt (xs y.toNat).toInt) :: _ = _
        rw [Int32.ofInt_toInt]; rfl
      rw [e2] at h5
      exact h5
theorem amLn_arr {x : Int} (g1 : 0 ≤ x) (g4 : x ≠ 300) (g5 : x ≠ 301) : amLn x = ((amShp x.toNat).2 : Int) := by
  cases x with
  | ofNat cc =>
    show ((amLnN cc : Nat) : Int) = _
    unfold amLnN
    split
    · exact absurd rfl g4
    · exact absurd rfl g5
    · rfl
  | negSucc cc => exact absurd g1 (by omega)
theorem go_laload {p : Program} {l : Launch} {e : Env} {s : State} {m : MethodId} {args : Array Value} {below : List Frame} {meth : Method} {c : Code} {D : va_G} {E : Nat → ClassId} {G : amG} {cr : amC} {L : Nat} {xs : Nat → Int32} {mi d n0 : Nat} {R : Room} {r : Int × amM} {Qf : State → Prop} {pc : Nat} {ts tl : List Nat} {call : Nat → List Int → amM → amR} {rt : Nat → Nat × Nat} {k : amJ} {nx : amN} (hC : amCx p s m args meth c D E G cr L xs mi d n0 R r) {a b w : Nat} {z : List (Int × Nat)} (hd : decode (amBy mi) pc = .ok (.laload, 1)) (h : amGo p l e s m args below meth c D E G cr L xs mi d n0 R r Qf (pc + 1) (1 :: ts) tl nx) : amGo p l e s m args below meth c D E G cr L xs mi d n0 R r Qf pc (0 :: 2 :: ts) tl (stp cr call rt (.laload, a, b, w, z) k nx) := by
  obtain ⟨hx, hb, hml, hown, hts, hK, hR, hlk, hnm, hcr, hsz⟩ := hC
  intro st lc μ n H locs sl hF hH hX hst hfr hS hn
  rcases st with _ | ⟨y, _ | ⟨x, st⟩⟩
  · exact hst.elim
  · exact hst.2.elim
  have hF : amPld 21 μ x y (fun v => nx (v :: st) lc μ) = some r := hF
  obtain ⟨h20, hF⟩ := if_some hF
  obtain ⟨h1, h2⟩ := if_some hF
  have e1 : amVs G (0 :: 2 :: ts) (y :: x :: st) = .int (Int32.ofInt y) :: .ref (amAd G x.toNat) :: amVs G ts st := by
    rw [← amVal_ref hst.2.1.1]; rfl
  rw [e1]
  obtain ⟨g1, g2, g3, g4, g5, g6⟩ := tg_shp h20 (by omega)
  have hlt := amOk_lt hst.2.1 g4 g5 g6
  have he := amWs_get (E := E) (G := G) (C := amCt cr μ) hlt
  rw [amCellE_arr g2 (by omega), amCt_arr hcr μ g2 (by omega) (by omega)] at he
  rw [amLn_arr g1 g4 g5] at h1
  rw [amAd_lt g3]
  have hok := hH.2.1 x.toNat hlt y.toNat (by omega)
  rw [amSl_arr g2 (by omega), amCt_arr hcr μ g2 (by omega) (by omega)] at hok
  have hok2 : R64 (μ x.toNat y.toNat) := by
    rcases hok with q | q
    · exact absurd q.1 (by decide)
    · exact q
  refine va_lald hx hb hK.1 hH.1 x.toNat 1 he rfl (n_in hst.1 h1) hd ?_
  rw [n_clamp hst.1]
  exact h (_ :: st) lc μ n H locs sl h2 hH hX ⟨hok2, hst.2.2⟩ hfr hS hn
theorem go_baload {p : Program} {l : Launch} {e : Env} {s : State} {m : MethodId} {args : Array Value} {below : List Frame} {meth : Method} {c : Code} {D : va_G} {E : Nat → ClassId} {G : amG} {cr : amC} {L : Nat} {xs : Nat → Int32} {mi d n0 : Nat} {R : Room} {r : Int × amM} {Qf : State → Prop} {pc : Nat} {ts tl : List Nat} {call : Nat → List Int → amM → amR} {rt : Nat → Nat × Nat} {k : amJ} {nx : amN} (hC : amCx p s m args meth c D E G cr L xs mi d n0 R r) {a b w : Nat} {z : List (Int × Nat)} (hd : decode (amBy mi) pc = .ok (.baload, 1)) (h : amGo p l e s m args below meth c D E G cr L xs mi d n0 R r Qf (pc + 1) (0 :: ts) tl nx) : amGo p l e s m args below meth c D E G cr L xs mi d n0 R r Qf pc (0 :: 2 :: ts) tl (stp cr call rt (.baload, a, b, w, z) k nx) := by
  obtain ⟨hx, hb, hml, hown, hts, hK, hR, hlk, hnm, hcr, hsz⟩ := hC
  intro st lc μ n H locs sl hF hH hX hst hfr hS hn
  rcases st with _ | ⟨y, _ | ⟨x, st⟩⟩
  · exact hst.elim
  · exact hst.2.elim
  have hF : amPld 22 μ x y (fun v => nx (v :: st) lc μ) = some r := hF
  obtain ⟨h20, hF⟩ := if_some hF
  obtain ⟨h1, h2⟩ := if_some hF
  have e1 : amVs G (0 :: 2 :: ts) (y :: x :: st) = .int (Int32.ofInt y) :: .ref (amAd G x.toNat) :: amVs G ts st := by
    rw [← amVal_ref hst.2.1.1]; rfl
  rw [e1]
  obtain ⟨g1, g2, g3, g4, g5, g6⟩ := tg_shp h20 (by omega)
  have hlt := amOk_lt hst.2.1 g4 g5 g6
  have he := amWs_get (E := E) (G := G) (C := amCt cr μ) hlt
  rw [amCellE_arr g2 (by omega), amCt_arr hcr μ g2 (by omega) (by omega)] at he
  rw [amLn_arr g1 g4 g5] at h1
  rw [amAd_lt g3]
  have hok := hH.2.1 x.toNat hlt y.toNat (by omega)
  rw [amSl_arr g2 (by omega), amCt_arr hcr μ g2 (by omega) (by omega)] at hok
  have hok2 : R32 (μ x.toNat y.toNat) := by
    rcases hok with q | q
    · exact absurd q.1 (by decide)
    · exact q
  refine va_zald hx hb hK.1 hH.1 x.toNat 2 he rfl (n_in hst.1 h1) hd ?_
  rw [n_clamp hst.1]
  exact h (_ :: st) lc μ n H locs sl h2 hH hX ⟨hok2, hst.2.2⟩ hfr hS hn
theorem go_iastore {p : Program} {l : Launch} {e : Env} {s : State} {m : MethodId} {args : Array Value} {below : List Frame} {meth : Method} {c : Code} {D : va_G} {E : Nat → ClassId} {G : amG} {cr : amC} {L : Nat} {xs : Nat → Int32} {mi d n0 : Nat} {R : Room} {r : Int × amM} {Qf : State → Prop} {pc : Nat} {ts tl : List Nat} {call : Nat → List Int → amM → amR} {rt : Nat → Nat × Nat} {k : amJ} {nx : amN} (hC : amCx p s m args meth c D E G cr L xs mi d n0 R r) {a b w : Nat} {z : List (Int × Nat)} (hd : decode (amBy mi) pc = .ok (.iastore, 1)) (h : amGo p l e s m args below meth c D E G cr L xs mi d n0 R r Qf (pc + 1) ts tl nx) : amGo p l e s m args below meth c D E G cr L xs mi d n0 R r Qf pc (0 :: 0 :: 2 :: ts) tl (stp cr call rt (.iastore, a, b, w, z) k nx) := by
  obtain ⟨hx, hb, hml, hown, hts, hK, hR, hlk, hnm, hcr, hsz⟩ := hC
  intro st lc μ n H locs sl hF hH hX hst hfr hS hn
  rcases st with _ | ⟨v, _ | ⟨y, _ | ⟨x, st⟩⟩⟩
  · exact hst.elim
  · exact hst.2.elim
  · exact hst.2.2.elim
  have hF : amPst 20 μ x y v (fun μ => nx st lc μ) = some r := hF
  obtain ⟨h20, hF⟩ := if_some hF
  obtain ⟨h1, h2⟩ := if_some hF
  rw [if_neg (by decide)] at h2
  obtain ⟨g1, g2, g3, g4, g5, g6⟩ := tg_shp h20 (by omega)
  have hlt := amOk_lt hst.2.2.1 g4 g5 g6
  have he := amWs_get (E := E) (G := G) (C := amCt cr μ) hlt
  rw [amCellE_arr g2 (by omega), amCt_arr hcr μ g2 (by omega) (by omega)] at he
  rw [amLn_arr g1 g4 g5] at h1
  have e1 : amVs G (0 :: 0 :: 2 :: ts) (v :: y :: x :: st) = .int (Int32.ofInt v) :: .int (Int32.ofInt y) :: .ref (G.1 + x.toNat) :: amVs G ts st := by
    rw [← amAd_lt (G := G) g3, ← amVal_ref hst.2.2.1.1]; rfl
  rw [e1]
  refine va_iast hx hb hK.1 hH.1 amWs_D hS x.toNat 0 he rfl (n_in hst.2.1 h1) hd (fun H1 locs1 hP1 _ hS1 => ?_)
  rw [n_clamp hst.2.1] at hP1
  have hcn : cr x.toNat y.toNat = none := amCr_arr hcr g2 (by omega) (by omega)
  refine h st lc (up μ x.toNat y.toNat v) n H1 locs1 sl h2 (hH.put hcn (by omega) (Or.inr (by rw [amSl_arr g2 (by omega)]; exact hst.1)) ?_) (hX.put (by omega)) hst.2.2.2 hfr hS1 hn
  rw [amCellE_arr g2 (by omega), amCt_up hcn, amCt_arr hcr μ g2 (by omega) (by omega)]
  have e2 : amArr G 20 (fun j => if j = y.toNat then v else μ x.toNat j) = .inl ((upd (fun j => Int32.ofInt (μ x.toNat j)) y.toNat ((Int32.ofInt v)))) := by
    rw [amArr_i _ (by decide) (by decide)]
    refine congrArg Sum.inl (funext fun j => ?_)
    by_cases e : j = y.toNat
    · subst e; simp [upd]
    · simp [upd, e]
  rw [e2]
  exact hP1
theorem go_lastore {p : Program} {l : Launch} {e : Env} {s : State} {m : MethodId} {args : Array Value} {below : List Frame} {meth : Method} {c : Code} {D : va_G} {E : Nat → ClassId} {G : amG} {cr : amC} {L : Nat} {xs : Nat → Int32} {mi d n0 : Nat} {R : Room} {r : Int × amM} {Qf : State → Prop} {pc : Nat} {ts tl : List Nat} {call : Nat → List Int → amM → amR} {rt : Nat → Nat × Nat} {k : amJ} {nx : amN} (hC : amCx p s m args meth c D E G cr L xs mi d n0 R r) {a b w : Nat} {z : List (Int × Nat)} (hd : decode (amBy mi) pc = .ok (.lastore, 1)) (h : amGo p l e s m args below meth c D E G cr L xs mi d n0 R r Qf (pc + 1) ts tl nx) : amGo p l e s m args below meth c D E G cr L xs mi d n0 R r Qf pc (1 :: 0 :: 2 :: ts) tl (stp cr call rt (.lastore, a, b, w, z) k nx) := by
  obtain ⟨hx, hb, hml, hown, hts, hK, hR, hlk, hnm, hcr, hsz⟩ := hC
  intro st lc μ n H locs sl hF hH hX hst hfr hS hn
  rcases st with _ | ⟨v, _ | ⟨y, _ | ⟨x, st⟩⟩⟩
  · exact hst.elim
  · exact hst.2.elim
  · exact hst.2.2.elim
  have hF : amPst 21 μ x y v (fun μ => nx st lc μ) = some r := hF
  obtain ⟨h20, hF⟩ := if_some hF
  obtain ⟨h1, h2⟩ := if_some hF
  rw [if_neg (by decide)] at h2
  obtain ⟨g1, g2, g3, g4, g5, g6⟩ := tg_shp h20 (by omega)
  have hlt := amOk_lt hst.2.2.1 g4 g5 g6
  have he := amWs_get (E := E) (G := G) (C := amCt cr μ) hlt
  rw [amCellE_arr g2 (by omega), amCt_arr hcr μ g2 (by omega) (by omega)] at he
  rw [amLn_arr g1 g4 g5] at h1
  have e1 : amVs G (1 :: 0 :: 2 :: ts) (v :: y :: x :: st) = .long (Int64.ofInt v) :: .int (Int32.ofInt y) :: .ref (G.1 + x.toNat) :: amVs G ts st := by
    rw [← amAd_lt (G := G) g3, ← amVal_ref hst.2.2.1.1]; rfl
  rw [e1]
  refine va_last hx hb hK.1 hH.1 amWs_D hS x.toNat 1 he rfl (n_in hst.2.1 h1) hd (fun H1 locs1 hP1 _ hS1 => ?_)
  rw [n_clamp hst.2.1] at hP1
  have hcn : cr x.toNat y.toNat = none := amCr_arr hcr g2 (by omega) (by omega)
  refine h st lc (up μ x.toNat y.toNat v) n H1 locs1 sl h2 (hH.put hcn (by omega) (Or.inr (by rw [amSl_arr g2 (by omega)]; exact hst.1)) ?_) (hX.put (by omega)) hst.2.2.2 hfr hS1 hn
  rw [amCellE_arr g2 (by omega), amCt_up hcn, amCt_arr hcr μ g2 (by omega) (by omega)]
  have e2 : amArr G 21 (fun j => if j = y.toNat then v else μ x.toNat j) = .inr (.inl ((vp_updL (fun j => Int64.ofInt (μ x.toNat j)) y.toNat ((Int64.ofInt v))))) := by
    rw [amArr_l]
    refine congrArg (fun q => Sum.inr (Sum.inl q)) (funext fun j => ?_)
    by_cases e : j = y.toNat
    · subst e; simp [vp_updL]
    · simp [vp_updL, e]
  rw [e2]
  exact hP1
theorem go_bastore {p : Program} {l : Launch} {e : Env} {s : State} {m : MethodId} {args : Array Value} {below : List Frame} {meth : Method} {c : Code} {D : va_G} {E : Nat → ClassId} {G : amG} {cr : amC} {L : Nat} {xs : Nat → Int32} {mi d n0 : Nat} {R : Room} {r : Int × amM} {Qf : State → Prop} {pc : Nat} {ts tl : List Nat} {call : Nat → List Int → amM → amR} {rt : Nat → Nat × Nat} {k : amJ} {nx : amN} (hC : amCx p s m args meth c D E G cr L xs mi d n0 R r) {a b w : Nat} {z : List (Int × Nat)} (hd : decode (amBy mi) pc = .ok (.bastore, 1)) (h : amGo p l e s m args below meth c D E G cr L xs mi d n0 R r Qf (pc + 1) ts tl nx) : amGo p l e s m args below meth c D E G cr L xs mi d n0 R r Qf pc (0 :: 0 :: 2 :: ts) tl (stp cr call rt (.bastore, a, b, w, z) k nx) := by
  obtain ⟨hx, hb, hml, hown, hts, hK, hR, hlk, hnm, hcr, hsz⟩ := hC
  intro st lc μ n H locs sl hF hH hX hst hfr hS hn
  rcases st with _ | ⟨v, _ | ⟨y, _ | ⟨x, st⟩⟩⟩
  · exact hst.elim
  · exact hst.2.elim
  · exact hst.2.2.elim
  have hF : amPst 22 μ x y v (fun μ => nx st lc μ) = some r := hF
  obtain ⟨h20, hF⟩ := if_some hF
  obtain ⟨h1, h2⟩ := if_some hF
  rw [if_pos rfl] at h2
  obtain ⟨hv01, h2⟩ := if_some h2
  obtain ⟨g1, g2, g3, g4, g5, g6⟩ := tg_shp h20 (by omega)
  have hlt := amOk_lt hst.2.2.1 g4 g5 g6
  have he := amWs_get (E := E) (G := G) (C := amCt cr μ) hlt
  rw [amCellE_arr g2 (by omega), amCt_arr hcr μ g2 (by omega) (by omega)] at he
  rw [amLn_arr g1 g4 g5] at h1
  have e1 : amVs G (0 :: 0 :: 2 :: ts) (v :: y :: x :: st) = .int (Int32.ofInt v) :: .int (Int32.ofInt y) :: .ref (G.1 + x.toNat) :: amVs G ts st := by
    rw [← amAd_lt (G := G) g3, ← amVal_ref hst.2.2.1.1]; rfl
  rw [e1]
  refine va_zast hx hb hK.1 hH.1 amWs_D hS x.toNat 2 he rfl (n_in hst.2.1 h1) hd (fun H1 locs1 hP1 _ hS1 => ?_)
  rw [n_clamp hst.2.1] at hP1
  have hcn : cr x.toNat y.toNat = none := amCr_arr hcr g2 (by omega) (by omega)
  refine h st lc (up μ x.toNat y.toNat v) n H1 locs1 sl h2 (hH.put hcn (by omega) (Or.inr (by rw [amSl_arr g2 (by omega)]; exact hst.1)) ?_) (hX.put (by omega)) hst.2.2.2 hfr hS1 hn
  rw [amCellE_arr g2 (by omega), amCt_up hcn, amCt_arr hcr μ g2 (by omega) (by omega)]
  have e2 : amArr G 22 (fun j => if j = y.toNat then v else μ x.toNat j) = .inl ((upd (fun j => Int32.ofInt (μ x.toNat j)) y.toNat (vp_nar .boolean (Int32.ofInt v)))) := by
    rw [amArr_i _ (by decide) (by decide)]
    refine congrArg Sum.inl (funext fun j => ?_)
    have hnz : vp_nar .boolean (Int32.ofInt v) = Int32.ofInt v := by
      rcases hv01 with rfl | rfl
      · decide +kernel
      · decide +kernel
    by_cases e : j = y.toNat
    · subst e; simp [upd, hnz]
    · simp [upd, e]
  rw [e2]
  exact hP1
theorem go_arraylength {p : Program} {l : Launch} {e : Env} {s : State} {m : MethodId} {args : Array Value} {below : List Frame} {meth : Method} {c : Code} {D : va_G} {E : Nat → ClassId} {G : amG} {cr : amC} {L : Nat} {xs : Nat → Int32} {mi d n0 : Nat} {R : Room} {r : Int × amM} {Qf : State → Prop} {pc : Nat} {ts tl : List Nat} {call : Nat → List Int → amM → amR} {rt : Nat → Nat × Nat} {k : amJ} {nx : amN} (hC : amCx p s m args meth c D E G cr L xs mi d n0 R r) {a b w : Nat} {z : List (Int × Nat)} (hd : decode (amBy mi) pc = .ok (.arraylength, 1)) (h : amGo p l e s m args below meth c D E G cr L xs mi d n0 R r Qf (pc + 1) (0 :: ts) tl nx) : amGo p l e s m args below meth c D E G cr L xs mi d n0 R r Qf pc (2 :: ts) tl (stp cr call rt (.arraylength, a, b, w, z) k nx) := by
  obtain ⟨hx, hb, hml, hown, hts, hK, hR, hlk, hnm, hcr, hsz⟩ := hC
  intro st lc μ n H locs sl hF hH hX hst hfr hS hn
  rcases st with _ | ⟨x, st⟩
  · exact hst.elim
  have hF : (if amTg x = 26 then nx (μ 302 0 :: st) lc μ else none) = some r := hF
  obtain ⟨h26, h2⟩ := if_some hF
  have hx2 : x = 302 := by
    rcases tg_big h26 (Or.inl rfl) hst.1.1 with q | q
    · exact q.2
    · exact absurd q.1 (by decide)
  subst hx2
  rw [hX.1] at h2
  have hL := hK.2.2.2.2.2
  have e9 : amVs G (2 :: ts) (302 :: st) = .ref G.2.2.2 :: amVs G ts st := rfl
  rw [e9]
  refine va_slen hx hb hL.1 (by omega) (by have := hL.2.1; show ¬ G.1 ≤ G.2.2.2; omega) hS hd ?_
  have h5 := h ((L : Int) :: st) lc μ n H locs sl h2 hH hX ⟨⟨by omega, by omega⟩, hst.2⟩ hfr hS hn
  exact h5
end
section
/-! ===== jumps, references in rows, calls, new cells, ends ===== -/
theorem amVs_cat (G : amG) : ∀ {n N : Nat} {ts : List Nat} {st : List Int}, amStk n ts st → (ts.map (fun t => if t = 1 then 2 else 1)).sum ≤ N → ((amVs G ts st).map fun v => v.category).sum ≤ N := by
  intro n N ts st h hN
  have e : ∀ {ts : List Nat} {st : List Int}, amStk n ts st → (amVs G ts st).map (fun v => v.category) = ts.map (fun t => if t = 1 then 2 else 1) := by
    intro ts
    induction ts with
    | nil => intro st h; cases st with
      | nil => rfl
      | cons _ _ => exact h.elim
    | cons t ts ih => intro st h; cases st with
      | nil => exact h.elim
      | cons x st =>
        show (amVal G t x).category :: (amVs G ts st).map (fun v => v.category) = _
        rw [ih h.2]
        by_cases q : t = 1
        · subst q; rfl
        · rw [amVal_cat x q]
          simp [q]
  rw [e h]
  exact hN
theorem go_goto {p : Program} {l : Launch} {e : Env} {s : State} {m : MethodId} {args : Array Value} {below : List Frame} {meth : Method} {c : Code} {D : va_G} {E : Nat → ClassId} {G : amG} {cr : amC} {L : Nat} {xs : Nat → Int32} {mi d n0 : Nat} {R : Room} {r : Int × amM} {Qf : State → Prop} {pc : Nat} {ts tl : List Nat} {call : Nat → List Int → amM → amR} {rt : Nat → Nat × Nat} {k : amJ} {nx : amN} (hC : amCx p s m args meth c D E G cr L xs mi d n0 R r) {a b w : Nat} {z : List (Int × Nat)} {off : Int} {tgt : Nat} (hd : decode (amBy mi) pc = .ok (.goto off, 3)) (ht : (pc : Int) + off = (tgt : Int)) (hj : amGo p l e s m args below meth c D E G cr L xs mi d n0 R r Qf tgt ts tl (fun st ls μ => k a st ls μ)) : amGo p l e s m args below meth c D E G cr L xs mi d n0 R r Qf pc ts tl (stp cr call rt (.goto off, a, b, w, z) k nx) := by
  obtain ⟨hx, hb, hml, hown, hts, hK, hR, hlk, hnm, hcr, hsz⟩ := hC
  intro st lc μ n H locs sl hF hH hX hst hfr hS hn
  exact lv_goto hx hb hd ht (hj st lc μ n H locs sl hF hH hX hst hfr hS hn)
theorem go_ifCond {p : Program} {l : Launch} {e : Env} {s : State} {m : MethodId} {args : Array Value} {below : List Frame} {meth : Method} {c : Code} {D : va_G} {E : Nat → ClassId} {G : amG} {cr : amC} {L : Nat} {xs : Nat → Int32} {mi d n0 : Nat} {R : Room} {r : Int × amM} {Qf : State → Prop} {pc : Nat} {ts tl : List Nat} {call : Nat → List Int → amM → amR} {rt : Nat → Nat × Nat} {k : amJ} {nx : amN} (hC : amCx p s m args meth c D E G cr L xs mi d n0 R r) {a b w : Nat} {z : List (Int × Nat)} {cd : ClassFile.Cond} {off : Int} {tgt : Nat} (hd : decode (amBy mi) pc = .ok (.ifCond cd off, 3)) (ht : (pc : Int) + off = (tgt : Int)) (hj : amGo p l e s m args below meth c D E G cr L xs mi d n0 R r Qf tgt ts tl (fun st ls μ => k a st ls μ)) (h : amGo p l e s m args below meth c D E G cr L xs mi d n0 R r Qf (pc + 3) ts tl nx) : amGo p l e s m args below meth c D E G cr L xs mi d n0 R r Qf pc (0 :: ts) tl (stp cr call rt (.ifCond cd off, a, b, w, z) k nx) := by
  obtain ⟨hx, hb, hml, hown, hts, hK, hR, hlk, hnm, hcr, hsz⟩ := hC
  intro st lc μ n H locs sl hF hH hX hst hfr hS hn
  rcases st with _ | ⟨x, st⟩
  · exact hst.elim
  have J := fun hF => hj st lc μ n H locs sl hF hH hX hst.2 hfr hS hn
  have N := fun hF => h st lc μ n H locs sl hF hH hX hst.2 hfr hS hn
  have q0 := n_eq hst.1 R32_0
  have q1 := n_lt hst.1 R32_0
  have q2 := n_lt R32_0 hst.1
  have q3 := n_le hst.1 R32_0
  have q4 := n_le R32_0 hst.1
  cases cd
  · have hF : (if x = 0 then k a st lc μ else nx st lc μ) = some r := hF
    by_cases e : x = 0
    · rw [if_pos e] at hF
      exact lv_if_eq hx hb hd ht (fun _ => J hF) (fun g => absurd (q0.mpr e) g)
    · rw [if_neg e] at hF
      exact lv_if_eq hx hb hd ht (fun g => absurd (q0.mp g) e) (fun _ => N hF)
  · have hF : (if x = 0 then nx st lc μ else k a st lc μ) = some r := hF
    by_cases e : x = 0
    · rw [if_pos e] at hF
      exact lv_if_ne hx hb hd ht (fun g => absurd (q0.mpr e) g) (fun _ => N hF)
    · rw [if_neg e] at hF
      exact lv_if_ne hx hb hd ht (fun _ => J hF) (fun g => absurd (q0.mp g) e)
  · have hF : (if x < 0 then k a st lc μ else nx st lc μ) = some r := hF
    by_cases e : x < 0
    · rw [if_pos e] at hF
      exact lv_if_lt hx hb hd ht (fun _ => J hF) (fun g => absurd (q1.mpr e) g)
    · rw [if_neg e] at hF
      exact lv_if_lt hx hb hd ht (fun g => absurd (q1.mp g) e) (fun _ => N hF)
  · have hF : (if x < 0 then nx st lc μ else k a st lc μ) = some r := hF
    by_cases e : x < 0
    · rw [if_pos e] at hF
      exact lv_if_ge hx hb hd ht (fun g => absurd (q4.mp g) (by omega)) (fun _ => N hF)
    · rw [if_neg e] at hF
      exact lv_if_ge hx hb hd ht (fun _ => J hF) (fun g => absurd (q4.mpr (by omega)) g)
  · have hF : (if 0 < x then k a st lc μ else nx st lc μ) = some r := hF
    by_cases e : 0 < x
    · rw [if_pos e] at hF
      exact lv_if_gt hx hb hd ht (fun _ => J hF) (fun g => absurd (q2.mpr e) g)
    · rw [if_neg e] at hF
      exact lv_if_gt hx hb hd ht (fun g => absurd (q2.mp g) e) (fun _ => N hF)
  · have hF : (if 0 < x then nx st lc μ else k a st lc μ) = some r := hF
    by_cases e : 0 < x
    · rw [if_pos e] at hF
      exact lv_if_le hx hb hd ht (fun g => absurd (q3.mp g) (by omega)) (fun _ => N hF)
    · rw [if_neg e] at hF
      exact lv_if_le hx hb hd ht (fun _ => J hF) (fun g => absurd (q3.mpr (by omega)) g)
theorem go_if_icmp {p : Program} {l : Launch} {e : Env} {s : State} {m : MethodId} {args : Array Value} {below : List Frame} {meth : Method} {c : Code} {D : va_G} {E : Nat → ClassId} {G : amG} {cr : amC} {L : Nat} {xs : Nat → Int32} {mi d n0 : Nat} {R : Room} {r : Int × amM} {Qf : State → Prop} {pc : Nat} {ts tl : List Nat} {call : Nat → List Int → amM → amR} {rt : Nat → Nat × Nat} {k : amJ} {nx : amN} (hC : amCx p s m args meth c D E G cr L xs mi d n0 R r) {a b w : Nat} {z : List (Int × Nat)} {cd : ClassFile.Cond} {off : Int} {tgt : Nat} (hd : decode (amBy mi) pc = .ok (.if_icmp cd off, 3)) (ht : (pc : Int) + off = (tgt : Int)) (hj : amGo p l e s m args below meth c D E G cr L xs mi d n0 R r Qf tgt ts tl (fun st ls μ => k a st ls μ)) (h : amGo p l e s m args below meth c D E G cr L xs mi d n0 R r Qf (pc + 3) ts tl nx) : amGo p l e s m args below meth c D E G cr L xs mi d n0 R r Qf pc (0 :: 0 :: ts) tl (stp cr call rt (.if_icmp cd off, a, b, w, z) k nx) := by
  obtain ⟨hx, hb, hml, hown, hts, hK, hR, hlk, hnm, hcr, hsz⟩ := hC
  intro st lc μ n H locs sl hF hH hX hst hfr hS hn
  rcases st with _ | ⟨y, _ | ⟨x, st⟩⟩
  · exact hst.elim
  · exact hst.2.elim
  have J := fun hF => hj st lc μ n H locs sl hF hH hX hst.2.2 hfr hS hn
  have N := fun hF => h st lc μ n H locs sl hF hH hX hst.2.2 hfr hS hn
  have q0 := n_eq hst.2.1 hst.1
  have q1 := n_lt hst.2.1 hst.1
  have q2 := n_lt hst.1 hst.2.1
  have q3 := n_le hst.2.1 hst.1
  have q4 := n_le hst.1 hst.2.1
  cases cd
  · have hF : (if x = y then k a st lc μ else nx st lc μ) = some r := hF
    by_cases e : x = y
    · rw [if_pos e] at hF
      exact lv_icmp_eq hx hb hd ht (fun _ => J hF) (fun g => absurd (q0.mpr e) g)
    · rw [if_neg e] at hF
      exact lv_icmp_eq hx hb hd ht (fun g => absurd (q0.mp g) e) (fun _ => N hF)
  · have hF : (if x = y then nx st lc μ else k a st lc μ) = some r := hF
    by_cases e : x = y
    · rw [if_pos e] at hF
      exact lv_icmp_ne hx hb hd ht (fun g => absurd (q0.mpr e) g) (fun _ => N hF)
    · rw [if_neg e] at hF
      exact lv_icmp_ne hx hb hd ht (fun _ => J hF) (fun g => absurd (q0.mp g) e)
  · have hF : (if x < y then k a st lc μ else nx st lc μ) = some r := hF
    by_cases e : x < y
    · rw [if_pos e] at hF
      exact lv_icmp_lt hx hb hd ht (fun _ => J hF) (fun g => absurd (q1.mpr e) g)
    · rw [if_neg e] at hF
      exact lv_icmp_lt hx hb hd ht (fun g => absurd (q1.mp g) e) (fun _ => N hF)
  · have hF : (if x < y then nx st lc μ else k a st lc μ) = some r := hF
    by_cases e : x < y
    · rw [if_pos e] at hF
      exact lv_icmp_ge hx hb hd ht (fun g => absurd (q4.mp g) (by omega)) (fun _ => N hF)
    · rw [if_neg e] at hF
      exact lv_icmp_ge hx hb hd ht (fun _ => J hF) (fun g => absurd (q4.mpr (by omega)) g)
  · have hF : (if y < x then k a st lc μ else nx st lc μ) = some r := hF
    by_cases e : y < x
    · rw [if_pos e] at hF
      exact lv_icmp_gt hx hb hd ht (fun _ => J hF) (fun g => absurd (q2.mpr e) g)
    · rw [if_neg e] at hF
      exact lv_icmp_gt hx hb hd ht (fun g => absurd (q2.mp g) e) (fun _ => N hF)
  · have hF : (if y < x then nx st lc μ else k a st lc μ) = some r := hF
    by_cases e : y < x
    · rw [if_pos e] at hF
      exact lv_icmp_le hx hb hd ht (fun g => absurd (q3.mp g) (by omega)) (fun _ => N hF)
    · rw [if_neg e] at hF
      exact lv_icmp_le hx hb hd ht (fun _ => J hF) (fun g => absurd (q3.mpr (by omega)) g)
theorem go_fall {p : Program} {l : Launch} {e : Env} {s : State} {m : MethodId} {args : Array Value} {below : List Frame} {meth : Method} {c : Code} {D : va_G} {E : Nat → ClassId} {G : amG} {cr : amC} {L : Nat} {xs : Nat → Int32} {mi d n0 : Nat} {R : Room} {r : Int × amM} {Qf : State → Prop} {pc : Nat} {ts tl : List Nat} {call : Nat → List Int → amM → amR} {rt : Nat → Nat × Nat} {k : amJ} {nx : amN} (hC : amCx p s m args meth c D E G cr L xs mi d n0 R r) {a b w : Nat} {z : List (Int × Nat)} (hj : amGo p l e s m args below meth c D E G cr L xs mi d n0 R r Qf pc ts tl (fun st ls μ => k a st ls μ)) : amGo p l e s m args below meth c D E G cr L xs mi d n0 R r Qf pc ts tl (stp cr call rt (.nop, a, b, w, z) k nx) := by
  exact fun st lc μ n H locs sl hF => hj st lc μ n H locs sl hF
theorem amSw_look {x : Int} {d : Nat} : ∀ (l : List (Int × Nat)), ∃ b, (∀ F, amSw x l d F = F b) ∧ ((∃ q, l.find? (fun q => q.1 == x) = some q ∧ b = q.2) ∨ (l.find? (fun q => q.1 == x) = none ∧ b = d))
  | [] => ⟨d, fun _ => rfl, Or.inr ⟨rfl, rfl⟩⟩
  | (k, b) :: r => by
    by_cases e : x = k
    · exact ⟨b, fun F => if_pos e, Or.inl ⟨(k, b), by rw [List.find?_cons_of_pos (by simp [e])], rfl⟩⟩
    · obtain ⟨b', h1, h2⟩ := amSw_look (x := x) (d := d) r
      refine ⟨b', fun F => (if_neg e).trans (h1 F), ?_⟩
      rw [List.find?_cons_of_neg (by simp; exact fun q => e q.symm)]
      exact h2
theorem go_tableswitch {p : Program} {l : Launch} {e : Env} {s : State} {m : MethodId} {args : Array Value} {below : List Frame} {meth : Method} {c : Code} {D : va_G} {E : Nat → ClassId} {G : amG} {cr : amC} {L : Nat} {xs : Nat → Int32} {mi d n0 : Nat} {R : Room} {r : Int × amM} {Qf : State → Prop} {pc : Nat} {ts tl : List Nat} {call : Nat → List Int → amM → amR} {rt : Nat → Nat × Nat} {k : amJ} {nx : amN} (hC : amCx p s m args meth c D E G cr L xs mi d n0 R r) {a b w : Nat} {z : List (Int × Nat)} {dflt lo hi : Int} {offs : Array Int} {len : Nat} (hd : decode (amBy mi) pc = .ok (.tableswitch dflt lo hi offs, len)) (hz : ∀ x : Int, R32 x → (((x < lo ∨ hi < x) ∧ z.find? (fun q => q.1 == x) = none) ∨ (¬ x < lo ∧ ¬ hi < x ∧ ∃ q off tgt, z.find? (fun q => q.1 == x) = some q ∧ offs[(x - lo).toNat]? = some off ∧ (pc : Int) + off = ((tgt : Nat) : Int) ∧ amGo p l e s m args below meth c D E G cr L xs mi d n0 R r Qf tgt ts tl (fun st ls μ => k q.2 st ls μ)))) {tgt : Nat} (ht : (pc : Int) + dflt = (tgt : Int)) (hj : amGo p l e s m args below meth c D E G cr L xs mi d n0 R r Qf tgt ts tl (fun st ls μ => k a st ls μ)) : amGo p l e s m args below meth c D E G cr L xs mi d n0 R r Qf pc (0 :: ts) tl (stp cr call rt (.tableswitch dflt lo hi offs, a, b, w, z) k nx) := by
  obtain ⟨hx, hb, hml, hown, hts, hK, hR, hlk, hnm, hcr, hsz⟩ := hC
  intro st lc μ n H locs sl hF hH hX hst hfr hS hn
  rcases st with _ | ⟨x, st⟩
  · exact hst.elim
  have hG : amSw x z a (fun b => k b st lc μ) = some r := hF
  obtain ⟨b', h1, h2⟩ := amSw_look (x := x) (d := a) z
  rw [h1] at hG
  have hv : (Int32.ofInt x).toInt = x := t32 hst.1
  rcases hz x hst.1 with ⟨g1, g2⟩ | ⟨g1, g2, q, off, tgt2, g3, g4, g5, g6⟩
  · have hb' : b' = a := by
      rcases h2 with ⟨q, e, -⟩ | ⟨-, e⟩
      · rw [g2] at e; cases e
      · exact e
    subst hb'
    exact lv_tableOut hx hb hd (by rw [hv]; exact g1) ht (hj st lc μ n H locs sl hG hH hX hst.2 hfr hS hn)
  · have hb' : b' = q.2 := by
      rcases h2 with ⟨q', e, e2⟩ | ⟨e, -⟩
      · rw [g3] at e; cases e; exact e2
      · rw [g3] at e; cases e
    subst hb'
    exact lv_tableIn hx hb hd (by rw [hv]; exact g1) (by rw [hv]; exact g2) (by rw [hv]; exact g4) g5 (g6 st lc μ n H locs sl hG hH hX hst.2 hfr hS hn)
theorem go_lookupswitch {p : Program} {l : Launch} {e : Env} {s : State} {m : MethodId} {args : Array Value} {below : List Frame} {meth : Method} {c : Code} {D : va_G} {E : Nat → ClassId} {G : amG} {cr : amC} {L : Nat} {xs : Nat → Int32} {mi d n0 : Nat} {R : Room} {r : Int × amM} {Qf : State → Prop} {pc : Nat} {ts tl : List Nat} {call : Nat → List Int → amM → amR} {rt : Nat → Nat × Nat} {k : amJ} {nx : amN} (hC : amCx p s m args meth c D E G cr L xs mi d n0 R r) {a b w : Nat} {z : List (Int × Nat)} {dflt : Int} {ps : Array (Int × Int)} {len : Nat} (hd : decode (amBy mi) pc = .ok (.lookupswitch dflt ps, len)) (hp : (ps.toList.zip (ps.toList.drop 1)).all (fun (a, next) => a.1 < next.1) = true) (hz : ∀ x : Int, R32 x → (z.find? (fun q => q.1 == x) = none ∧ Op.lookupswitch.offset ps.toList dflt x = dflt) ∨ (∃ q off tgt, z.find? (fun q => q.1 == x) = some q ∧ Op.lookupswitch.offset ps.toList dflt x = off ∧ (pc : Int) + off = ((tgt : Nat) : Int) ∧ amGo p l e s m args below meth c D E G cr L xs mi d n0 R r Qf tgt ts tl (fun st ls μ => k q.2 st ls μ))) {tgt : Nat} (ht : (pc : Int) + dflt = (tgt : Int)) (hj : amGo p l e s m args below meth c D E G cr L xs mi d n0 R r Qf tgt ts tl (fun st ls μ => k a st ls μ)) : amGo p l e s m args below meth c D E G cr L xs mi d n0 R r Qf pc (0 :: ts) tl (stp cr call rt (.lookupswitch dflt ps, a, b, w, z) k nx) := by
  obtain ⟨hx, hb, hml, hown, hts, hK, hR, hlk, hnm, hcr, hsz⟩ := hC
  intro st lc μ n H locs sl hF hH hX hst hfr hS hn
  rcases st with _ | ⟨x, st⟩
  · exact hst.elim
  have hG : amSw x z a (fun b => k b st lc μ) = some r := hF
  obtain ⟨b', h1, h2⟩ := amSw_look (x := x) (d := a) z
  rw [h1] at hG
  have hv : (Int32.ofInt x).toInt = x := t32 hst.1
  rcases hz x hst.1 with ⟨g1, g2⟩ | ⟨q, off, tgt2, g3, g4, g5, g6⟩
  · have hb' : b' = a := by
      rcases h2 with ⟨q, e, -⟩ | ⟨-, e⟩
      · rw [g1] at e; cases e
      · exact e
    subst hb'
    exact lv_lookup hx hb hd hp (by rw [hv]; exact g2) ht (hj st lc μ n H locs sl hG hH hX hst.2 hfr hS hn)
  · have hb' : b' = q.2 := by
      rcases h2 with ⟨q', e, e2⟩ | ⟨e, -⟩
      · rw [g3] at e; cases e; exact e2
      · rw [g3] at e; cases e
    subst hb'
    exact lv_lookup hx hb hd hp (by rw [hv]; exact g4) g5 (g6 st lc μ n H locs sl hG hH hX hst.2 hfr hS hn)
theorem amArr_q {G : amG} {t : Nat} (f : Nat → Int) (h1 : ¬ t < 23) : amArr G t f = .inr (.inr (.inr (.inr (fun j => if f j < 0 then none else some (amAd G (f j).toNat))))) := by
  unfold amArr
  rw [if_neg (by omega), if_neg h1]
theorem va_rf_ref {G : amG} {v : Int} (h : 0 ≤ v) : va_rf (if v < 0 then none else some (amAd G v.toNat)) = .ref (amAd G v.toNat) := by
  rw [if_neg (by omega)]; rfl
theorem go_aaload {p : Program} {l : Launch} {e : Env} {s : State} {m : MethodId} {args : Array Value} {below : List Frame} {meth : Method} {c : Code} {D : va_G} {E : Nat → ClassId} {G : amG} {cr : amC} {L : Nat} {xs : Nat → Int32} {mi d n0 : Nat} {R : Room} {r : Int × amM} {Qf : State → Prop} {pc : Nat} {ts tl : List Nat} {call : Nat → List Int → amM → amR} {rt : Nat → Nat × Nat} {k : amJ} {nx : amN} (hC : amCx p s m args meth c D E G cr L xs mi d n0 R r) {t b w : Nat} {z : List (Int × Nat)} (htt : t = 23 ∨ t = 24 ∨ t = 25) (hd : decode (amBy mi) pc = .ok (.aaload, 1)) (h : amGo p l e s m args below meth c D E G cr L xs mi d n0 R r Qf (pc + 1) (2 :: ts) tl nx) : amGo p l e s m args below meth c D E G cr L xs mi d n0 R r Qf pc (0 :: 2 :: ts) tl (stp cr call rt (.aaload, t, b, w, z) k nx) := by
  obtain ⟨hx, hb, hml, hown, hts, hK, hR, hlk, hnm, hcr, hsz⟩ := hC
  intro st lc μ n H locs sl hF hH hX hst hfr hS hn
  rcases st with _ | ⟨y, _ | ⟨x, st⟩⟩
  · exact hst.elim
  · exact hst.2.elim
  have hF : amQld cr t μ x y (fun v => nx (v :: st) lc μ) = some r := hF
  obtain ⟨h20, hF⟩ := if_some hF
  obtain ⟨h1, hF⟩ := if_some hF
  obtain ⟨h0, h2⟩ := if_some hF
  have e1 : amVs G (0 :: 2 :: ts) (y :: x :: st) = .int (Int32.ofInt y) :: .ref (amAd G x.toNat) :: amVs G ts st := by
    rw [← amVal_ref hst.2.1.1]; rfl
  rw [e1]
  obtain ⟨g1, g2, g3, g4, g5, g6⟩ := tg_shp h20 (by omega)
  have hlt := amOk_lt hst.2.1 g4 g5 g6
  have he := amWs_get (E := E) (G := G) (C := amCt cr μ) hlt
  rw [amCellE_arr g2 (by omega), amArr_q _ (by omega)] at he
  rw [amLn_arr g1 g4 g5] at h1
  rw [amAd_lt g3]
  have hok := hH.2.1 x.toNat hlt y.toNat (by omega)
  rw [amSl_arr g2 (by omega), if_neg (by omega), if_neg (by omega)] at hok
  have hok2 : amOk n 2 (amCt cr μ x.toNat y.toNat) := by
    rcases hok with q | q
    · omega
    · exact q
  have h5 := h (_ :: st) lc μ n H locs sl h2 hH hX ⟨hok2, hst.2.2⟩ hfr hS hn
  rw [amVs_ref h0, ← va_rf_ref h0] at h5
  have hcl := n_clamp hst.1
  rcases htt with rfl | rfl | rfl
  · refine va_aldq hx hb hK.1 hH.1 x.toNat 3 he rfl (n_in hst.1 h1) hd ?_
    rw [hcl]; exact h5
  · refine va_aldq hx hb hK.1 hH.1 x.toNat 4 he rfl (n_in hst.1 h1) hd ?_
    rw [hcl]; exact h5
  · have hin := n_in hst.1 h1
    refine W.aald (ty := .array .int) hx hb (hH.1 x.toNat _ he) ((hK.1.2 5 _ rfl).1 _ (fun j => va_rf (if amCt cr μ x.toNat j < 0 then none else some (amAd G (amCt cr μ x.toNat j).toNat)))) rfl (fun q => by cases q) (by show ¬ (_ ∨ (arrV _ _ _).slots.size ≤ _); rw [arrV_size]; exact hin) (by show (arrV _ _ _).slots[_]? = _; rw [arrV_read _ _ (show (Int32.ofInt y).toNatClampNeg < (amShp x.toNat).2 by rw [hcl]; omega)]) rfl rfl hd ?_
    rw [hcl]; exact h5
theorem go_aastore {p : Program} {l : Launch} {e : Env} {s : State} {m : MethodId} {args : Array Value} {below : List Frame} {meth : Method} {c : Code} {D : va_G} {E : Nat → ClassId} {G : amG} {cr : amC} {L : Nat} {xs : Nat → Int32} {mi d n0 : Nat} {R : Room} {r : Int × amM} {Qf : State → Prop} {pc : Nat} {ts tl : List Nat} {call : Nat → List Int → amM → amR} {rt : Nat → Nat × Nat} {k : amJ} {nx : amN} (hC : amCx p s m args meth c D E G cr L xs mi d n0 R r) {t b w ci N : Nat} {C : String} {Tb : u_T} {z : List (Int × Nat)} (htt : (t = 23 ∧ C = "AlikeTown$Text") ∨ (t = 24 ∧ C = "AlikeTown$Sheet")) (hci : amQt t = ci) (hci2 : ci < 20) (hc : amCl[ci]? = some (C, Tb, N)) (hd : decode (amBy mi) pc = .ok (.aastore, 1)) (h : amGo p l e s m args below meth c D E G cr L xs mi d n0 R r Qf (pc + 1) ts tl nx) : amGo p l e s m args below meth c D E G cr L xs mi d n0 R r Qf pc (2 :: 0 :: 2 :: ts) tl (stp cr call rt (.aastore, t, b, w, z) k nx) := by
  obtain ⟨hx, hb, hml, hown, hts, hK, hR, hlk, hnm, hcr, hsz⟩ := hC
  intro st lc μ n H locs sl hF hH hX hst hfr hS hn
  rcases st with _ | ⟨v, _ | ⟨y, _ | ⟨x, st⟩⟩⟩
  · exact hst.elim
  · exact hst.2.elim
  · exact hst.2.2.elim
  have hF : amQst cr t μ x y v (fun μ => nx st lc μ) = some r := hF
  obtain ⟨⟨h20, -, hvt, hcn⟩, hF⟩ := if_some hF
  obtain ⟨h1, h2⟩ := if_some hF
  obtain ⟨g1, g2, g3, g4, g5, g6⟩ := tg_shp h20 (by omega)
  have hlt := amOk_lt hst.2.2.1 g4 g5 g6
  have he := amWs_get (E := E) (G := G) (C := amCt cr μ) hlt
  rw [amCellE_arr g2 (by omega), amArr_q _ (by omega)] at he
  rw [hci] at hvt
  obtain ⟨f1, f2, f3, f4, f5, f6⟩ := tg_shp hvt (by omega)
  have flt := amOk_lt hst.1 f4 f5 f6
  have fe := amWs_get (E := E) (G := G) (C := amCt cr μ) flt
  rw [amCellE_obj f2 hci2] at fe
  rw [amLn_arr g1 g4 g5] at h1
  have e1 : amVs G (2 :: 0 :: 2 :: ts) (v :: y :: x :: st) = .ref (G.1 + v.toNat) :: .int (Int32.ofInt y) :: .ref (G.1 + x.toNat) :: amVs G ts st := by
    rw [← amAd_lt (G := G) g3, ← amVal_ref hst.2.2.1.1, ← amAd_lt (G := G) f3, ← amVal_ref hst.1.1]; rfl
  rw [e1]
  have fin : ∀ (H1 : Heap) (locs1 : List Loc), va_P D amCl ((amWs E G n (amCt cr μ)).set x.toNat (G.1 + x.toNat, .inl (E t, (amShp x.toNat).2, .inr (.inr (.inr (.inr (va_up (fun j => if amCt cr μ x.toNat j < 0 then none else some (amAd G (amCt cr μ x.toNat j).toNat)) (Int32.ofInt y).toNatClampNeg (some (G.1 + v.toNat))))))))) H1 → va_S (fun q => G.1 ≤ q) s.heap H1 locs1 → W p l e R s m args below meth c H1 locs1 (n - n0) (amSs n - amSs n0) Qf (F0 m (pc + 1) sl (amVs G ts st)) := by
    intro H1 locs1 hP1 hS1
    rw [n_clamp hst.2.1] at hP1
    refine h st lc (up μ x.toNat y.toNat v) n H1 locs1 sl h2 (hH.put hcn (by omega) (Or.inr (by rw [amSl_arr g2 (by omega), if_neg (by omega), if_neg (by omega)]; exact hst.1)) ?_) (hX.put (by omega)) hst.2.2.2 hfr hS1 hn
    rw [amCellE_arr g2 (by omega), amArr_q _ (by omega), amCt_up hcn]
    have e2 : (fun j => if (if j = y.toNat then v else amCt cr μ x.toNat j) < 0 then none else some (amAd G (if j = y.toNat then v else amCt cr μ x.toNat j).toNat)) = va_up (fun j => if amCt cr μ x.toNat j < 0 then none else some (amAd G (amCt cr μ x.toNat j).toNat)) y.toNat (some (G.1 + v.toNat)) := by
      funext j
      unfold va_up
      by_cases e : j = y.toNat
      · subst e
        simp [show ¬ v < 0 by omega, amAd_lt (G := G) f3]
      · simp [e]
    rw [e2]
    exact hP1
  rcases htt with ⟨rfl, rfl⟩ | ⟨rfl, rfl⟩
  · exact va_astq hx hb hK.1 hH.1 amWs_D hS x.toNat 3 v.toNat ci he rfl fe hc (n_in hst.2.1 h1) hd (fun H1 locs1 hP1 _ hS1 => fin H1 locs1 hP1 hS1)
  · exact va_astq hx hb hK.1 hH.1 amWs_D hS x.toNat 4 v.toNat ci he rfl fe hc (n_in hst.2.1 h1) hd (fun H1 locs1 hP1 _ hS1 => fin H1 locs1 hP1 hS1)
theorem go_max {p : Program} {l : Launch} {e : Env} {s : State} {m : MethodId} {args : Array Value} {below : List Frame} {meth : Method} {c : Code} {D : va_G} {E : Nat → ClassId} {G : amG} {cr : amC} {L : Nat} {xs : Nat → Int32} {mi d n0 : Nat} {R : Room} {r : Int × amM} {Qf : State → Prop} {pc : Nat} {ts tl : List Nat} {call : Nat → List Int → amM → amR} {rt : Nat → Nat × Nat} {k : amJ} {nx : amN} (hC : amCx p s m args meth c D E G cr L xs mi d n0 R r) {i b w : Nat} {z : List (Int × Nat)} (hw1 : Cond.methodLink (amNm (amYt mi).1) i Lib.Math.max.name ∈ amTbl) (hw2 : Cond.static Lib.Math.max.name ∈ amTbl) (hw3 : Cond.initialized "java/lang/Math" ∈ amTbl) (hw4 : Cond.code Lib.Math.max.name Lib.Math.max.code 2 (some .int) ∈ amTbl) (hcat : (ts.map (fun t => if t = 1 then 2 else 1)).sum ≤ 8) (hmono : ∀ st ls μ, amMr μ (nx st ls μ)) (hd : decode (amBy mi) pc = .ok (.invokestatic i, 3)) (h : amGo p l e s m args below meth c D E G cr L xs mi d n0 R r Qf (pc + 3) (0 :: ts) tl nx) : amGo p l e s m args below meth c D E G cr L xs mi d n0 R r Qf pc (0 :: 0 :: ts) tl (stp cr call rt (.invokestatic i, 9998, b, w, z) k nx) := by
  obtain ⟨hx, hb, hml, hown, hts, hK, hR, hlk, hnm, hcr, hsz⟩ := hC
  intro st lc μ n H locs sl hF hH hX hst hfr hS hn
  rcases st with _ | ⟨y, _ | ⟨x, st⟩⟩
  · exact hst.elim
  · exact hst.2.elim
  have hF : nx (jmax x y :: st) lc μ = some r := hF
  have hle := hmono _ _ _ r hF
  have hc0 := hH.cnt
  have hss : amSs n ≤ amSs (amCnt r.2) := amSs_le (by omega)
  have hs2 := amSs_le hn
  have h5 := h (jmax x y :: st) lc μ n H locs sl hF hH hX ⟨by unfold jmax; split <;> first | exact hst.1 | exact hst.2.1, hst.2.2⟩ hfr hS hn
  refine va_mmax hx hb (hml.trans hfr.2.2.1.1.symm) hown (hts _ hw1) (hts _ hw2) (hts _ hw3) (hts _ hw4) (by omega) (by have := amVs_cat G hst.2.2 hcat; unfold amVs at this; omega) (by omega) (by omega) hd ?_
  have e : (if Int32.ofInt x < Int32.ofInt y then Int32.ofInt y else Int32.ofInt x) = Int32.ofInt (jmax x y) := by
    unfold jmax
    by_cases q : x < y
    · rw [if_pos q, if_pos ((n_lt hst.2.1 hst.1).mpr q)]
    · rw [if_neg q, if_neg (fun g => q ((n_lt hst.2.1 hst.1).mp g))]
  rw [e]
  exact h5
theorem go_min {p : Program} {l : Launch} {e : Env} {s : State} {m : MethodId} {args : Array Value} {below : List Frame} {meth : Method} {c : Code} {D : va_G} {E : Nat → ClassId} {G : amG} {cr : amC} {L : Nat} {xs : Nat → Int32} {mi d n0 : Nat} {R : Room} {r : Int × amM} {Qf : State → Prop} {pc : Nat} {ts tl : List Nat} {call : Nat → List Int → amM → amR} {rt : Nat → Nat × Nat} {k : amJ} {nx : amN} (hC : amCx p s m args meth c D E G cr L xs mi d n0 R r) {i b w : Nat} {z : List (Int × Nat)} (hw1 : Cond.methodLink (amNm (amYt mi).1) i Lib.Math.min.name ∈ amTbl) (hw2 : Cond.static Lib.Math.min.name ∈ amTbl) (hw3 : Cond.initialized "java/lang/Math" ∈ amTbl) (hw4 : Cond.code Lib.Math.min.name Lib.Math.min.code 2 (some .int) ∈ amTbl) (hcat : (ts.map (fun t => if t = 1 then 2 else 1)).sum ≤ 8) (hmono : ∀ st ls μ, amMr μ (nx st ls μ)) (hd : decode (amBy mi) pc = .ok (.invokestatic i, 3)) (h : amGo p l e s m args below meth c D E G cr L xs mi d n0 R r Qf (pc + 3) (0 :: ts) tl nx) : amGo p l e s m args below meth c D E G cr L xs mi d n0 R r Qf pc (0 :: 0 :: ts) tl (stp cr call rt (.invokestatic i, 9997, b, w, z) k nx) := by
  obtain ⟨hx, hb, hml, hown, hts, hK, hR, hlk, hnm, hcr, hsz⟩ := hC
  intro st lc μ n H locs sl hF hH hX hst hfr hS hn
  rcases st with _ | ⟨y, _ | ⟨x, st⟩⟩
  · exact hst.elim
  · exact hst.2.elim
  have hF : nx (jmin x y :: st) lc μ = some r := hF
  have hle := hmono _ _ _ r hF
  have hc0 := hH.cnt
  have hss : amSs n ≤ amSs (amCnt r.2) := amSs_le (by omega)
  have hs2 := amSs_le hn
  have h5 := h (jmin x y :: st) lc μ n H locs sl hF hH hX ⟨by unfold jmin; split <;> first | exact hst.1 | exact hst.2.1, hst.2.2⟩ hfr hS hn
  refine va_mmin hx hb (hml.trans hfr.2.2.1.1.symm) hown (hts _ hw1) (hts _ hw2) (hts _ hw3) (hts _ hw4) (by omega) (by have := amVs_cat G hst.2.2 hcat; unfold amVs at this; omega) (by omega) (by omega) hd ?_
  have e : (if Int32.ofInt y < Int32.ofInt x then Int32.ofInt y else Int32.ofInt x) = Int32.ofInt (jmin x y) := by
    unfold jmin
    by_cases q : y < x
    · rw [if_pos q, if_pos ((n_lt hst.1 hst.2.1).mpr q)]
    · rw [if_neg q, if_neg (fun g => q ((n_lt hst.1 hst.2.1).mp g))]
  rw [e]
  exact h5
theorem go_objInit {p : Program} {l : Launch} {e : Env} {s : State} {m : MethodId} {args : Array Value} {below : List Frame} {meth : Method} {c : Code} {D : va_G} {E : Nat → ClassId} {G : amG} {cr : amC} {L : Nat} {xs : Nat → Int32} {mi d n0 : Nat} {R : Room} {r : Int × amM} {Qf : State → Prop} {pc : Nat} {ts tl : List Nat} {call : Nat → List Int → amM → amR} {rt : Nat → Nat × Nat} {k : amJ} {nx : amN} (hC : amCx p s m args meth c D E G cr L xs mi d n0 R r) {i b w : Nat} {z : List (Int × Nat)} (hw1 : Cond.methodLink (amNm (amYt mi).1) i Lib.objectInit ∈ amTbl) (hw2 : Cond.instanceMethod Lib.objectInit ∈ amTbl) (hw3 : Cond.code Lib.objectInit ⟨#[0xb1]⟩ 1 none ∈ amTbl) (hcat : (ts.map (fun t => if t = 1 then 2 else 1)).sum ≤ 8) (hd : decode (amBy mi) pc = .ok (.invokespecial i, 3)) (h : amGo p l e s m args below meth c D E G cr L xs mi d n0 R r Qf (pc + 3) ts tl nx) : amGo p l e s m args below meth c D E G cr L xs mi d n0 R r Qf pc (2 :: ts) tl (stp cr call rt (.invokespecial i, 9999, b, w, z) k nx) := by
  obtain ⟨hx, hb, hml, hown, hts, hK, hR, hlk, hnm, hcr, hsz⟩ := hC
  intro st lc μ n H locs sl hF hH hX hst hfr hS hn
  rcases st with _ | ⟨x, st⟩
  · exact hst.elim
  have hF : (if 0 ≤ x then nx st lc μ else none) = some r := hF
  obtain ⟨h0, hF⟩ := if_some hF
  rw [amVs_ref h0]
  have h5 := h st lc μ n H locs sl hF hH hX hst.2 hfr hS hn
  refine W.objInit hx hb hown (hts _ hw1) (hts _ hw2) (hts _ hw3) rfl (hfr.2.2.1.1.trans hml.symm) rfl hd (by omega) ?_ h5
  have h6 := amVs_cat G hst.2 hcat
  show 2 * 0 + _ + 12 ≤ _
  omega
theorem go_copy {p : Program} {l : Launch} {e : Env} {s : State} {m : MethodId} {args : Array Value} {below : List Frame} {meth : Method} {c : Code} {D : va_G} {E : Nat → ClassId} {G : amG} {cr : amC} {L : Nat} {xs : Nat → Int32} {mi d n0 : Nat} {R : Room} {r : Int × amM} {Qf : State → Prop} {pc : Nat} {ts tl : List Nat} {call : Nat → List Int → amM → amR} {rt : Nat → Nat × Nat} {k : amJ} {nx : amN} (hC : amCx p s m args meth c D E G cr L xs mi d n0 R r) {i b w : Nat} {z : List (Int × Nat)} (hw1 : Cond.methodLink (amNm (amYt mi).1) i arraycopyName ∈ amTbl) (hw2 : Cond.native arraycopyName ∈ amTbl) (hw3 : Cond.static arraycopyName ∈ amTbl) (hw4 : Cond.initialized "java/lang/System" ∈ amTbl) (hcat : (ts.map (fun t => if t = 1 then 2 else 1)).sum ≤ 8) (hd : decode (amBy mi) pc = .ok (.invokestatic i, 3)) (h : amGo p l e s m args below meth c D E G cr L xs mi d n0 R r Qf (pc + 3) ts tl nx) : amGo p l e s m args below meth c D E G cr L xs mi d n0 R r Qf pc (0 :: 0 :: 2 :: 0 :: 2 :: ts) tl (stp cr call rt (.invokestatic i, 9999, b, w, z) k nx) := by
  obtain ⟨hx, hb, hml, hown, hts, hK, hR, hlk, hnm, hcr, hsz⟩ := hC
  intro st lc μ n H locs sl hF hH hX hst hfr hS hn
  rcases st with _ | ⟨nn, _ | ⟨j, _ | ⟨y, _ | ⟨i0, _ | ⟨x, st⟩⟩⟩⟩⟩
  · exact hst.elim
  · exact hst.2.elim
  · exact hst.2.2.elim
  · exact hst.2.2.2.elim
  · exact hst.2.2.2.2.elim
  have hF : amCpy μ x i0 y j nn (fun μ => nx st lc μ) = some r := hF
  obtain ⟨⟨hx20, hy20⟩, hF⟩ := if_some hF
  obtain ⟨⟨b1, b2, b3, b4, b5⟩, h2⟩ := if_some hF
  obtain ⟨hn1, hj1, hy1, hi1, hx1, hst⟩ := hst
  obtain ⟨g1, g2, g3, g4, g5, g6⟩ := tg_shp hx20 (by omega)
  have hlt := amOk_lt hx1 g4 g5 g6
  have he := amWs_get (E := E) (G := G) (C := amCt cr μ) hlt
  rw [amCellE_arr g2 (by omega), amCt_arr hcr μ g2 (by omega) (by omega), amArr_i _ (by decide) (by decide)] at he
  obtain ⟨f1, f2, f3, f4, f5, f6⟩ := tg_shp hy20 (by omega)
  have flt := amOk_lt hy1 f4 f5 f6
  have fe := amWs_get (E := E) (G := G) (C := amCt cr μ) flt
  rw [amCellE_arr f2 (by omega), amCt_arr hcr μ f2 (by omega) (by omega), amArr_i _ (by decide) (by decide)] at fe
  rw [amLn_arr g1 g4 g5] at b4
  rw [amLn_arr f1 f4 f5] at b5
  have e1 : amVs G (0 :: 0 :: 2 :: 0 :: 2 :: ts) (nn :: j :: y :: i0 :: x :: st) = .int (Int32.ofInt nn) :: .int (Int32.ofInt j) :: .ref (G.1 + y.toNat) :: .int (Int32.ofInt i0) :: .ref (G.1 + x.toNat) :: amVs G ts st := by
    rw [← amAd_lt (G := G) g3, ← amVal_ref hx1.1, ← amAd_lt (G := G) f3, ← amVal_ref hy1.1]; rfl
  rw [e1]
  have c1 := n_clamp hn1
  have c2 := n_clamp hj1
  have c3 := n_clamp hi1
  have nl : ∀ {a : Int}, R32 a → 0 ≤ a → ¬ Int32.ofInt a < 0 := fun ha h0 q => by
    have := (n_lt ha R32_0).mp q
    omega
  refine va_copyi hx hb (hml.trans hfr.2.2.1.1.symm) hown (hts _ hw1) (hts _ hw2) (hts _ hw3) (hts _ hw4) hK.1 hH.1 amWs_D hS x.toNat y.toNat 0 0 he fe rfl rfl rfl (nl hi1 b1) (nl hj1 b2) (nl hn1 b3) (by rw [c1, c3]; omega) (by rw [c1, c2]; omega) (fun _ _ => rfl) (by omega) (by have := amVs_cat G hst hcat; show _ + (7 + 11) ≤ _; omega) hd (fun H1 locs1 hP1 _ hS1 => ?_)
  rw [c1, c2, c3] at hP1
  have hrow : amCt cr (upr μ y.toNat (fun k => if j.toNat ≤ k ∧ k < j.toNat + nn.toNat then μ x.toNat (i0.toNat + (k - j.toNat)) else μ y.toNat k)) y.toNat = fun k => if j.toNat ≤ k ∧ k < j.toNat + nn.toNat then μ x.toNat (i0.toNat + (k - j.toNat)) else μ y.toNat k := by
    rw [amCt_arr hcr _ f2 (by omega) (by omega)]
    unfold upr
    rw [if_pos rfl]
  have hoth : ∀ c, c ≠ y.toNat → amCt cr (upr μ y.toNat (fun k => if j.toNat ≤ k ∧ k < j.toNat + nn.toNat then μ x.toNat (i0.toNat + (k - j.toNat)) else μ y.toNat k)) c = amCt cr μ c := by
    intro c hc
    funext q
    unfold amCt upr
    rw [if_neg hc]
  refine h st lc _ n H1 locs1 sl h2 ⟨?_, fun c hc q hq => ?_, ?_, hH.2.2.2⟩ ?_ hst hfr hS1 hn
  · rw [← amWs_set (C := amCt cr μ) (k := y.toNat) (fun c _ e => hoth c e), amCellE_arr f2 (by omega), hrow, amArr_i _ (by decide) (by decide)]
    have e2 : (fun k => Int32.ofInt (if j.toNat ≤ k ∧ k < j.toNat + nn.toNat then μ x.toNat (i0.toNat + (k - j.toNat)) else μ y.toNat k)) = va_cpy (fun j => Int32.ofInt (μ x.toNat j)) (fun j => Int32.ofInt (μ y.toNat j)) i0.toNat j.toNat nn.toNat := by
      funext q
      unfold va_cpy
      split <;> rfl
    rw [e2]
    exact hP1
  · by_cases ec : c = y.toNat
    · subst ec
      rw [hrow]
      have r1 := hH.2.1 y.toNat flt q hq
      rw [amCt_arr hcr μ f2 (by omega) (by omega)] at r1
      by_cases eq : j.toNat ≤ q ∧ q < j.toNat + nn.toNat
      · simp only [eq, and_self, if_true]
        have r2 := hH.2.1 x.toNat hlt (i0.toNat + (q - j.toNat)) (by omega)
        rw [amCt_arr hcr μ g2 (by omega) (by omega)] at r2
        rw [amSl_arr g2 (by omega)] at r2
        rw [amSl_arr f2 (by omega)]
        exact r2
      · simp only [eq, if_false]
        exact r1
    · rw [hoth c ec]
      exact hH.2.1 c hc q hq
  · unfold upr
    rw [if_neg (by omega)]
    exact hH.2.2.1
  · unfold amX upr
    rw [if_neg (by omega)]
    exact hX
end
section
/-! ===== calls, new cells ===== -/
/-- a method's words -/
def amWsm (mi : Nat) : List Jvm.Cond := .code (amY mi) (amBy mi) (amMax mi) (amRet mi) :: amTbl
def amPt (mi : Nat) : List Nat := (mt mi).2.2.1
def amPc (D : va_G) (E : Nat → ClassId) (G : amG) (cr : amC) (L : Nat) (xs : Nat → Int32) (mi n : Nat) (ys : List Int) (μ : amM) : Array Value → State → Prop := va_Pc (amVs G (amPt mi) ys) (fun U => U.heap.size = G.1 + n ∧ amH D E G cr n μ U.heap ∧ amX L xs μ ∧ amK D E G L xs U U.heap)
def amQ (D : va_G) (E : Nat → ClassId) (G : amG) (cr : amC) (L : Nat) (xs : Nat → Int32) (t : Nat) (r : Int × amM) : Array Value → State → Outcome → State → Prop := match t with
  | 1 => va_Ql (S := Unit) (fun v _ => v = Int64.ofInt r.1 ∧ R64 r.1) (fun _ t => amH D E G cr (amCnt r.2) r.2 t.heap ∧ amX L xs r.2) (fun q => G.1 ≤ q)
  | 3 => va_Qv (S := Unit) (fun _ => True) (fun _ t => amH D E G cr (amCnt r.2) r.2 t.heap ∧ amX L xs r.2) (fun q => G.1 ≤ q)
  | _ => va_Qi (S := Unit) (fun v _ => v = Int32.ofInt r.1 ∧ R32 r.1) (fun _ t => amH D E G cr (amCnt r.2) r.2 t.heap ∧ amX L xs r.2) (fun q => G.1 ≤ q)
/-- what is proved of a method: where the abstract one answers, it answers so -/
def amMet (l : Launch) (cr : amC) (call : Nat → List Int → amM → amR) (d mi : Nat) : Prop := ∀ (D : va_G) (E : Nat → ClassId) (G : amG) (L : Nat) (xs : Nat → Int32) (n : Nat) (ys : List Int) (μ : amM) (r : Int × amM), call mi ys μ = some r → amStk n (amPt mi) ys → amCnt μ = n →
  Met l (amY mi) (amWsm mi) (amRm d n (amCnt r.2)) (amPc D E G cr L xs mi n ys μ) (amQ D E G cr L xs (mt mi).1 r) (amCnt r.2 - n) (amSs (amCnt r.2) - amSs n) (fun q => G.1 ≤ q)
theorem amPc_blind {D : va_G} {E : Nat → ClassId} {G : amG} {cr : amC} {L : Nat} {xs : Nat → Int32} {mi n : Nat} {ys : List Int} {μ : amM} : FrameBlind (amPc D E G cr L xs mi n ys μ) := by
  intro a U g mk q
  obtain ⟨q1, q2, q3, q4, q5⟩ := q
  exact ⟨q1, q2, q3, q4, q5.moved (U := U.calling g mk a) (State.WarmedH.refl U) (fun _ _ => rfl) (by rw [show (U.calling g mk a).heap = U.heap from rfl, q2]; omega)⟩
/-- what the checked words of a method say -/
theorem amM_words {mi : Nat} (h : amMok mi = true) : Cond.code (amY mi) (amBy mi) (amMax mi) (amRet mi) ∈ tables_1 ∧ Cond.initialized (amY mi).cls ∈ tables_1 ∧
    ((mt mi).2.1 = 99 → Cond.static (amY mi) ∈ tables_1) ∧ ((mt mi).2.1 ≠ 99 → Cond.instanceMethod (amY mi) ∈ tables_1) := by
  sorry
end
