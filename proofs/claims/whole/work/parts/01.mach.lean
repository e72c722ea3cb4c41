/-! ===== THE ABSTRACT MACHINE: cells by number, whole numbers for all values (a reference is a cell's number, -1: null) ===== -/
abbrev amM : Type := Nat → Nat → Int
abbrev amR : Type := Option (Int × amM)
abbrev amI : Type := Instr × Nat × Nat × Nat × List (Int × Nat)
abbrev amJ : Type := Nat → List Int → List Int → amM → amR
abbrev amN : Type := List Int → List Int → amM → amR
/-- one slot of one cell -/
def up (μ : amM) (c i : Nat) (v : Int) : amM := fun c' => if c' = c then (fun i' => if i' = i then v else μ c i') else μ c'
/-- a whole cell -/
def upr (μ : amM) (c : Nat) (f : Nat → Int) : amM := fun c' => if c' = c then f else μ c'
def w32 (x : Int) : Int := x.bmod 4294967296
def w64 (x : Int) : Int := x.bmod 18446744073709551616
def bAnd (a b : Int) : Int := (Int32.ofInt a &&& Int32.ofInt b).toInt
def bOr (a b : Int) : Int := (Int32.ofInt a ||| Int32.ofInt b).toInt
def bXor (a b : Int) : Int := (Int32.ofInt a ^^^ Int32.ofInt b).toInt
def bShl (a b : Int) : Int := (Int32.ofInt a <<< (Int32.ofInt b &&& 31)).toInt
def bShr (a b : Int) : Int := (Int32.ofInt a >>> (Int32.ofInt b &&& 31)).toInt
def bUshr (a b : Int) : Int := ((Int32.ofInt a).toUInt32 >>> ((Int32.ofInt b).toUInt32 &&& Int32.toUInt32 31)).toInt32.toInt
def lAnd (a b : Int) : Int := (Int64.ofInt a &&& Int64.ofInt b).toInt
def lOr (a b : Int) : Int := (Int64.ofInt a ||| Int64.ofInt b).toInt
def lShl (a b : Int) : Int := (Int64.ofInt a <<< ((Int32.ofInt b).toInt64 &&& 63)).toInt
def lShr (a b : Int) : Int := (Int64.ofInt a >>> ((Int32.ofInt b).toInt64 &&& 63)).toInt
def lUshr (a b : Int) : Int := ((Int64.ofInt a).toUInt64 >>> ((Int32.ofInt b).toInt64.toUInt64 &&& Int64.toUInt64 63)).toInt64.toInt
def jmax (x y : Int) : Int := if x < y then y else x
def jmin (x y : Int) : Int := if y < x then y else x
/-- the cells: what each is (a class by its place; 20 int[], 21 long[], 22 boolean[], 23 Text[], 24 Sheet[], 25 int[][]) and how long -/
def amShpL : List (Nat × Nat) := [(0, 11), (1, 9), (2, 13), (20, 64), (20, 64), (20, 64), (20, 256), (20, 64), (20, 128), (20, 64), (23, 2), (20, 50), (20, 20), (3, 3), (20, 50), (20, 51), (3, 3), (20, 50), (20, 51), (1, 9), (2, 13), (20, 64), (20, 64), (20, 64), (20, 256), (20, 64), (20, 128), (20, 64), (23, 2), (20, 50), (20, 20), (3, 3), (20, 50), (20, 51), (3, 3), (20, 50), (20, 51), (4, 5), (3, 3), (20, 50), (20, 51), (5, 6), (25, 5), (20, 128), (20, 128), (20, 128), (20, 128), (20, 128), (20, 5), (20, 64), (6, 5), (20, 5), (7, 3), (20, 64), (20, 64), (8, 3), (20, 81), (21, 81), (21, 81), (9, 5), (20, 40), (24, 4), (20, 6), (10, 3), (20, 64), (10, 3), (20, 64), (10, 3), (20, 64), (10, 3), (20, 64), (11, 39), (20, 576), (20, 576), (20, 6), (20, 4), (20, 128), (20, 128), (20, 6), (20, 6), (20, 6), (20, 6), (20, 6), (20, 5), (21, 82), (21, 82), (22, 6561), (20, 256), (20, 64), (20, 64), (20, 40), (20, 4), (20, 4), (20, 256), (20, 64)]
def amShp (c : Nat) : Nat × Nat := amShpL.getD c (99, 0)
/-- the tag of a reference: 26 the script (302), 27 a table (300, 301) -/
def amTgN (c : Nat) : Nat := match c with
  | 300 => 27
  | 301 => 27
  | 302 => 26
  | c => (amShp c).1
def amTg (x : Int) : Nat := match x with
  | .ofNat c => amTgN c
  | .negSucc _ => 99
def amLnN (c : Nat) : Nat := match c with
  | 300 => 7
  | 301 => 28
  | c => (amShp c).2
def amLn (x : Int) : Int := match x with
  | .ofNat c => (amLnN c : Int)
  | .negSucc _ => 0
def amT0 : List Int := [-1, 0, 0, 0, 1, 2, 3]
def amT1 : List Int := [10, 11, 12, 13, 0, 20, 0, 0, 30, 0, 0, 0, 0, 0, 40, 0, 0, 50, 0, 0, 0, 0, 0, 60, 0, 0, 70, 71]
def amTab (c i : Nat) : Int := if c = 300 then amT0.getD i 0 else amT1.getD i 0
/-- fields: by class and slot: 0 int, 2 a reference, 4 boolean -/
def amFtL : List (List Nat) := [[2, 2, 2, 2, 2, 2, 2, 2, 2, 2, 0], [2, 2, 2, 2, 0, 0, 0, 0, 0], [2, 2, 2, 2, 2, 2, 2, 0, 0, 0, 0, 0, 0], [2, 2, 0], [2, 2, 0, 0, 0], [2, 2, 2, 2, 2, 0], [2, 2, 0, 0, 0], [2, 2, 0], [2, 2, 2], [2, 0, 0, 0, 0], [2, 0, 0], [2, 2, 0, 2, 0, 0, 0, 0, 0, 4, 2, 2, 2, 0, 0, 0, 2, 2, 2, 2, 2, 0, 0, 0, 2, 0, 2, 2, 2, 2, 2, 2, 2, 0, 0, 2, 2, 2, 2]]
def amFt (ci k : Nat) : Nat := (amFtL.getD ci []).getD k 9
abbrev amC : Type := Nat → Nat → Option Int
/-- what a slot holds: the fixed references first -/
def amCt (cr : amC) (μ : amM) (c k : Nat) : Int := match cr c k with
  | some v => v
  | none => μ c k
def bnd (o : amR) (f : Int → amM → amR) : amR := match o with
  | none => none
  | some r => f r.1 r.2
def amGf (cr : amC) (μ : amM) (ci k : Nat) (x : Int) (f : Int → amR) : amR :=
  if amTg x = ci then (if amFt ci k = 2 then (if 0 ≤ amCt cr μ x.toNat k then f (amCt cr μ x.toNat k) else none) else f (amCt cr μ x.toNat k)) else none
/-- a field that holds one thing or nothing -/
def amGx (cr : amC) (μ : amM) (ci k : Nat) (x w : Int) (f : Int → amR) : amR :=
  if amTg x = ci then (if amCt cr μ x.toNat k = w then (if 0 ≤ w then f w else none) else none) else none
def amPf (cr : amC) (μ : amM) (ci k : Nat) (x v : Int) (f : amM → amR) : amR :=
  if amTg x = ci ∧ ci < 90 ∧ cr x.toNat k = none ∧ (amFt ci k = 4 → v = 0 ∨ v = 1) then f (up μ x.toNat k v) else none
def amAld (μ : amM) (x i : Int) (f : Int → amR) : amR :=
  if amTg x = 20 then (if 0 ≤ i ∧ i < amLn x then f (μ x.toNat i.toNat) else none)
  else if amTg x = 27 then (if 0 ≤ i ∧ i < amLn x then f (amTab x.toNat i.toNat) else none)
  else if amTg x = 26 then (if 0 ≤ i ∧ i < μ 302 0 then f (μ 302 (i.toNat + 1)) else none)
  else none
def amPld (t : Nat) (μ : amM) (x i : Int) (f : Int → amR) : amR :=
  if amTg x = t then (if 0 ≤ i ∧ i < amLn x then f (μ x.toNat i.toNat) else none) else none
def amPst (t : Nat) (μ : amM) (x i v : Int) (f : amM → amR) : amR :=
  if amTg x = t then (if 0 ≤ i ∧ i < amLn x then (if t = 22 then (if v = 0 ∨ v = 1 then f (up μ x.toNat i.toNat v) else none) else f (up μ x.toNat i.toNat v)) else none) else none
def amQld (cr : amC) (t : Nat) (μ : amM) (x i : Int) (f : Int → amR) : amR :=
  if amTg x = t then (if 0 ≤ i ∧ i < amLn x then (if 0 ≤ amCt cr μ x.toNat i.toNat then f (amCt cr μ x.toNat i.toNat) else none) else none) else none
/-- a reference that is put into a row of them: the tag of what it must be -/
def amQt (t : Nat) : Nat := match t with
  | 23 => 3
  | 24 => 10
  | _ => 98
def amQst (cr : amC) (t : Nat) (μ : amM) (x i v : Int) (f : amM → amR) : amR :=
  if amTg x = t ∧ t < 90 ∧ amTg v = amQt t ∧ cr x.toNat i.toNat = none then (if 0 ≤ i ∧ i < amLn x then f (up μ x.toNat i.toNat v) else none) else none
def amCpy (μ : amM) (x i y j n : Int) (f : amM → amR) : amR :=
  if amTg x = 20 ∧ amTg y = 20 then
    (if 0 ≤ i ∧ 0 ≤ j ∧ 0 ≤ n ∧ i + n ≤ amLn x ∧ j + n ≤ amLn y then
      f (upr μ y.toNat (fun k => if j.toNat ≤ k ∧ k < j.toNat + n.toNat then μ x.toNat (i.toNat + (k - j.toNat)) else μ y.toNat k)) else none)
  else none
def amCnt (μ : amM) : Nat := (μ 999 0).toNat
/-- what a new cell holds -/
def amDf (t k : Nat) : Int := if t < 20 then (if amFt t k = 2 then -1 else 0) else (if 23 ≤ t then -1 else 0)
def amBorn (μ : amM) : amM := fun c => if c = amCnt μ then (fun k => amDf (amShp (amCnt μ)).1 k) else if c = 999 then (fun _ => (amCnt μ : Int) + 1) else μ c
def amNew (μ : amM) (t : Nat) (f : Int → amM → amR) : amR :=
  if (amShp (amCnt μ)).1 = t ∧ t < 90 then f (amCnt μ : Int) (amBorn μ) else none
def amNwa (μ : amM) (t : Nat) (n : Int) (f : Int → amM → amR) : amR :=
  if (amShp (amCnt μ)).1 = t ∧ t < 90 ∧ ((amShp (amCnt μ)).2 : Int) = n then f (amCnt μ : Int) (amBorn μ) else none
/-- int[5][128], the one of its kind -/
def amMul (μ : amM) (n k : Int) (f : Int → amM → amR) : amR :=
  if amCnt μ = 42 ∧ n = 5 ∧ k = 128 then
    f 42 (fun c => if c = 42 then (fun j => if j < 5 then (42 + 1 + j : Nat) else -1) else if 42 < c ∧ c ≤ 42 + 5 then (fun _ => 0) else if c = 999 then (fun _ => (42 + 6 : Nat)) else μ c)
  else none
def amSw (x : Int) (l : List (Int × Nat)) (d : Nat) (f : Nat → amR) : amR := match l with
  | [] => f d
  | (k, b) :: r => if x = k then f b else amSw x r d f
/-- one instruction: k goes on at a block, nx behind it -/
def stp (cr : amC) (call : Nat → List Int → amM → amR) (rt : Nat → Nat × Nat) (i : amI) (k : amJ) (nx : amN) (st ls : List Int) (μ : amM) : amR :=
  match i.1 with
  | .iconst n => nx (n :: st) ls μ
  | .bipush n => nx (n :: st) ls μ
  | .sipush n => nx (n :: st) ls μ
  | .lconst n => nx ((n.val : Int) :: st) ls μ
  | .ldc _ => nx ((i.2.2.2.2.headD (0, 0)).1 :: st) ls μ
  | .ldc_w _ => nx ((i.2.2.2.2.headD (0, 0)).1 :: st) ls μ
  | .ldc2_w _ => nx ((i.2.2.2.2.headD (0, 0)).1 :: st) ls μ
  | .iload_n n => nx (ls.getD n.val 0 :: st) ls μ
  | .iload n => nx (ls.getD n 0 :: st) ls μ
  | .lload_n n => nx (ls.getD n.val 0 :: st) ls μ
  | .lload n => nx (ls.getD n 0 :: st) ls μ
  | .aload_n n => nx (ls.getD n.val 0 :: st) ls μ
  | .aload n => nx (ls.getD n 0 :: st) ls μ
  | .istore_n n => match st with | x :: st => nx st (ls.set n.val x) μ | _ => none
  | .istore n => match st with | x :: st => nx st (ls.set n x) μ | _ => none
  | .lstore_n n => match st with | x :: st => nx st (ls.set n.val x) μ | _ => none
  | .lstore n => match st with | x :: st => nx st (ls.set n x) μ | _ => none
  | .astore_n n => match st with | x :: st => nx st (ls.set n.val x) μ | _ => none
  | .astore n => match st with | x :: st => nx st (ls.set n x) μ | _ => none
  | .iinc n c => nx st (ls.set n (w32 (ls.getD n 0 + c))) μ
  | .iadd => match st with | y :: x :: st => nx (w32 (x + y) :: st) ls μ | _ => none
  | .isub => match st with | y :: x :: st => nx (w32 (x - y) :: st) ls μ | _ => none
  | .imul => match st with | y :: x :: st => nx (w32 (x * y) :: st) ls μ | _ => none
  | .idiv => match st with | y :: x :: st => if y = 0 then none else nx (w32 (x.tdiv y) :: st) ls μ | _ => none
  | .irem => match st with | y :: x :: st => if y = 0 then none else nx (x.tmod y :: st) ls μ | _ => none
  | .iand => match st with | y :: x :: st => nx (bAnd x y :: st) ls μ | _ => none
  | .ior => match st with | y :: x :: st => nx (bOr x y :: st) ls μ | _ => none
  | .ixor => match st with | y :: x :: st => nx (bXor x y :: st) ls μ | _ => none
  | .ishl => match st with | y :: x :: st => nx (bShl x y :: st) ls μ | _ => none
  | .ishr => match st with | y :: x :: st => nx (bShr x y :: st) ls μ | _ => none
  | .iushr => match st with | y :: x :: st => nx (bUshr x y :: st) ls μ | _ => none
  | .ladd => match st with | y :: x :: st => nx (w64 (x + y) :: st) ls μ | _ => none
  | .lmul => match st with | y :: x :: st => nx (w64 (x * y) :: st) ls μ | _ => none
  | .land => match st with | y :: x :: st => nx (lAnd x y :: st) ls μ | _ => none
  | .lor => match st with | y :: x :: st => nx (lOr x y :: st) ls μ | _ => none
  | .lshl => match st with | y :: x :: st => nx (lShl x y :: st) ls μ | _ => none
  | .lshr => match st with | y :: x :: st => nx (lShr x y :: st) ls μ | _ => none
  | .lushr => match st with | y :: x :: st => nx (lUshr x y :: st) ls μ | _ => none
  | .ineg => match st with | x :: st => nx (w32 (-x) :: st) ls μ | _ => none
  | .i2l => match st with | x :: st => nx (x :: st) ls μ | _ => none
  | .l2i => match st with | x :: st => nx (w32 x :: st) ls μ | _ => none
  | .i2b => match st with | x :: st => nx (x.bmod 256 :: st) ls μ | _ => none
  | .i2s => match st with | x :: st => nx (x.bmod 65536 :: st) ls μ | _ => none
  | .lcmp => match st with | y :: x :: st => nx ((if x < y then -1 else if x = y then 0 else 1) :: st) ls μ | _ => none
  | .dup => match st with | x :: st => nx (x :: x :: st) ls μ | _ => none
  | .dup2 => match st with | y :: x :: st => nx (y :: x :: y :: x :: st) ls μ | _ => none
  | .pop => match st with | _ :: st => nx st ls μ | _ => none
  | .getfield _ => match st with
    | x :: st => (match i.2.2.2.2 with
      | [] => amGf cr μ i.2.1 i.2.2.1 x (fun v => nx (v :: st) ls μ)
      | (w, _) :: _ => amGx cr μ i.2.1 i.2.2.1 x w (fun v => nx (v :: st) ls μ))
    | _ => none
  | .putfield _ => match st with | v :: x :: st => amPf cr μ i.2.1 i.2.2.1 x v (fun μ => nx st ls μ) | _ => none
  | .getstatic _ => nx ((i.2.1 : Int) :: st) ls μ
  | .iaload => match st with | j :: x :: st => amAld μ x j (fun v => nx (v :: st) ls μ) | _ => none
  | .laload => match st with | j :: x :: st => amPld 21 μ x j (fun v => nx (v :: st) ls μ) | _ => none
  | .baload => match st with | j :: x :: st => amPld 22 μ x j (fun v => nx (v :: st) ls μ) | _ => none
  | .aaload => match st with | j :: x :: st => amQld cr i.2.1 μ x j (fun v => nx (v :: st) ls μ) | _ => none
  | .iastore => match st with | v :: j :: x :: st => amPst 20 μ x j v (fun μ => nx st ls μ) | _ => none
  | .lastore => match st with | v :: j :: x :: st => amPst 21 μ x j v (fun μ => nx st ls μ) | _ => none
  | .bastore => match st with | v :: j :: x :: st => amPst 22 μ x j v (fun μ => nx st ls μ) | _ => none
  | .aastore => match st with | v :: j :: x :: st => amQst cr i.2.1 μ x j v (fun μ => nx st ls μ) | _ => none
  | .arraylength => match st with | x :: st => if amTg x = 26 then nx (μ 302 0 :: st) ls μ else none | _ => none
  | .ifCond c _ => match st with
    | x :: st => (match c with
      | .eq => if x = 0 then k i.2.1 st ls μ else nx st ls μ
      | .ne => if x = 0 then nx st ls μ else k i.2.1 st ls μ
      | .lt => if x < 0 then k i.2.1 st ls μ else nx st ls μ
      | .ge => if x < 0 then nx st ls μ else k i.2.1 st ls μ
      | .gt => if 0 < x then k i.2.1 st ls μ else nx st ls μ
      | .le => if 0 < x then nx st ls μ else k i.2.1 st ls μ)
    | _ => none
  | .if_icmp c _ => match st with
    | y :: x :: st => (match c with
      | .eq => if x = y then k i.2.1 st ls μ else nx st ls μ
      | .ne => if x = y then nx st ls μ else k i.2.1 st ls μ
      | .lt => if x < y then k i.2.1 st ls μ else nx st ls μ
      | .ge => if x < y then nx st ls μ else k i.2.1 st ls μ
      | .gt => if y < x then k i.2.1 st ls μ else nx st ls μ
      | .le => if y < x then nx st ls μ else k i.2.1 st ls μ)
    | _ => none
  | .goto _ => k i.2.1 st ls μ
  | .nop => k i.2.1 st ls μ
  | .tableswitch _ _ _ _ => match st with | x :: st => amSw x i.2.2.2.2 i.2.1 (fun b => k b st ls μ) | _ => none
  | .lookupswitch _ _ => match st with | x :: st => amSw x i.2.2.2.2 i.2.1 (fun b => k b st ls μ) | _ => none
  | .invokevirtual _ => if amTg ((st.take i.2.2.1).getLastD (-1)) = (rt i.2.1).2 then bnd (call i.2.1 (st.take i.2.2.1).reverse μ) (fun v μ => nx (if (rt i.2.1).1 = 3 then st.drop i.2.2.1 else v :: st.drop i.2.2.1) ls μ) else none
  | .invokestatic _ =>
    if i.2.1 = 9999 then (match st with | n :: j :: y :: i0 :: x :: st => amCpy μ x i0 y j n (fun μ => nx st ls μ) | _ => none)
    else if i.2.1 = 9998 then (match st with | y :: x :: st => nx (jmax x y :: st) ls μ | _ => none)
    else if i.2.1 = 9997 then (match st with | y :: x :: st => nx (jmin x y :: st) ls μ | _ => none)
    else bnd (call i.2.1 (st.take i.2.2.1).reverse μ) (fun v μ => nx (if (rt i.2.1).1 = 3 then st.drop i.2.2.1 else v :: st.drop i.2.2.1) ls μ)
  | .invokespecial _ =>
    if i.2.1 = 9999 then (match st with | x :: st => if 0 ≤ x then nx st ls μ else none | _ => none)
    else if amTg ((st.take i.2.2.1).getLastD (-1)) = (rt i.2.1).2 then bnd (call i.2.1 (st.take i.2.2.1).reverse μ) (fun _ μ => nx (st.drop i.2.2.1) ls μ) else none
  | .new _ => amNew μ i.2.1 (fun x μ => nx (x :: st) ls μ)
  | .newarray _ => match st with | n :: st => amNwa μ i.2.1 n (fun x μ => nx (x :: st) ls μ) | _ => none
  | .anewarray _ => match st with | n :: st => amNwa μ i.2.1 n (fun x μ => nx (x :: st) ls μ) | _ => none
  | .multianewarray _ _ => match st with | k2 :: n :: st => amMul μ n k2 (fun x μ => nx (x :: st) ls μ) | _ => none
  | .ireturn => match st with | [x] => if i.2.1 = 4 then (if x = 0 ∨ x = 1 then some (x, μ) else none) else some (x, μ) | _ => none
  | .lreturn => match st with | [x] => some (x, μ) | _ => none
  | .return_ => match st with | [] => some (0, μ) | _ => none
  | _ => none
noncomputable def runB (cr : amC) (call : Nat → List Int → amM → amR) (rt : Nat → Nat × Nat) (k : amJ) : List amI → amN := List.rec (fun _ _ _ => none) (fun i _ nx => stp cr call rt i k nx)
def nrm (m : List Bool) (l : List Int) : List Int := List.zipWith (fun b x => bif b then x else 0) m l
/-- short words for what the blocks do -/
def rd (c n : Nat) (μ : amM) (i : Int) (f : Int → amR) : amR := if 0 ≤ i ∧ i < (n : Int) then f (μ c i.toNat) else none
def wr (c n : Nat) (μ : amM) (i v : Int) (f : amM → amR) : amR := if 0 ≤ i ∧ i < (n : Int) then f (up μ c i.toNat v) else none
def wf (c k : Nat) (μ : amM) (v : Int) (f : amM → amR) : amR := f (up μ c k v)
def rb (x : Int) (μ : amM) : amR := if x = 0 ∨ x = 1 then some (x, μ) else none
def cr0 : amC := fun _ _ => none
def cr2L : List (List (Option Int)) := [[some 1, some 19, some 37, some 41, some 50, some 52, some 55, some 59, some 61, some 62], [some 2, some 10, some 11, some 12], [some 3, some 4, some 5, some 6, some 7, some 8, some 9], [], [], [], [], [], [], [], [some 13, some 16], [], [], [some 14, some 15], [], [], [some 17, some 18], [], [], [some 20, some 28, some 29, some 30], [some 21, some 22, some 23, some 24, some 25, some 26, some 27], [], [], [], [], [], [], [], [some 31, some 34], [], [], [some 32, some 33], [], [], [some 35, some 36], [], [], [some 38], [some 39, some 40], [], [], [some 42, some 48, some 49], [some 43, some 44, some 45, some 46, some 47], [], [], [], [], [], [], [], [some 51], [], [some 53, some 54], [], [], [some 56], [], [], [], [some 60], [], [some 63, some 65, some 67, some 69], [], [some 64], [], [some 66], [], [some 68], [], [some 70], [], [some 72, some 73, none, some 74, none, none, none, none, none, none, some 75, some 76, some 77, none, none, none, some 78, some 79, some 80, some 81, some 82, none, none, none, some 83, none, some 84, some 85, some 86, some 87, some 88, some 89, some 90, none, none, some 91, some 92, some 93, some 94], [], [], [], [], [], [], [], [], [], [], [], [], [], [], [], [], [], [], [], [], [], [], []]
def cr2 : amC := fun c k => (cr2L.getD c []).getD k none
