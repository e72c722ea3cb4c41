/-! ===== the check of a block, and what it gives ===== -/
def amLen : Instr → Nat
  | .bipush _ | .iload _ | .lload _ | .aload _ | .istore _ | .lstore _ | .astore _ | .ldc _ | .newarray _ => 2
  | .sipush _ | .iinc _ _ | .ldc_w _ | .ldc2_w _ | .getfield _ | .putfield _ | .getstatic _ | .ifCond _ _ | .if_icmp _ _ | .goto _ | .invokevirtual _ | .invokestatic _ | .invokespecial _ | .new _ | .anewarray _ => 3
  | .multianewarray _ _ => 4
  | _ => 1
def amOwn (mi : Nat) : Nat := (amYt mi).1
def amCompat (tl tl' : List Nat) : Bool := tl.length == tl'.length && (List.range tl.length).all (fun i => tl'.getD i 3 == 3 || tl'.getD i 3 == tl.getD i 3)
def amJmp (mi b : Nat) (tgt : Int) (ts tl : List Nat) : Bool := decide (((blk mi b).1 : Int) = tgt) && decide ((blk mi b).2.1 = ts) && amCompat tl (blk mi b).2.2.1
def amCat (ts : List Nat) : Bool := decide ((ts.map (fun t => if t = 1 then 2 else 1)).sum ≤ 8)
def amFtt (ci k : Nat) : Nat := if amFt ci k = 4 then 0 else amFt ci k
def amFld (mi i ci kf w : Nat) : Bool := decide ((amFL.getD w (0, 0, 0, 0, 0)).1 = amOwn mi ∧ (amFL.getD w (0, 0, 0, 0, 0)).2.1 = i ∧ (amFL.getD w (0, 0, 0, 0, 0)).2.2.1 = ci ∧ (amFL.getD w (0, 0, 0, 0, 0)).2.2.2.1 = kf ∧ w < amFL.length ∧ ci < 12 ∧ kf < amNF ci ∧ (amFt ci kf = 0 ∨ amFt ci kf = 2 ∨ amFt ci kf = 4) ∧ ¬ (amNm (amOwn mi) = "AlikeTown$Voices" ∧ ci = 9 ∧ amWd (amFL.getD w (0, 0, 0, 0, 0)).2.2.2.2 = some (.fieldLink "AlikeTown$Voices" i "AlikeTown$Voices" (if kf = 0 then "ABOVE" else "OWN") "[I")))
def amStf (mi i w q : Nat) : Bool := decide ((amFL.getD w (0, 0, 0, 0, 0)).2.1 = i ∧ w < amFL.length ∧ amNm (amOwn mi) = "AlikeTown$Voices" ∧ amWd (amFL.getD w (0, 0, 0, 0, 0)).2.2.2.2 = some (.fieldLink "AlikeTown$Voices" i "AlikeTown$Voices" (if q = 0 then "ABOVE" else "OWN") "[I"))
def amCst (mi i w kd : Nat) (v : Int) : Bool := decide ((amCO.getD w (0, 0, 0, 0, 0)).1 = amOwn mi ∧ (amCO.getD w (0, 0, 0, 0, 0)).2.1 = i ∧ (amCO.getD w (0, 0, 0, 0, 0)).2.2.1 = v ∧ (amCO.getD w (0, 0, 0, 0, 0)).2.2.2.1 = kd ∧ w < amCO.length)
def amCll (mi i w a kd : Nat) : Bool := decide ((amCS.getD w (0, 0, 0, 0, 0)).1 = amOwn mi ∧ (amCS.getD w (0, 0, 0, 0, 0)).2.1 = i ∧ (amCS.getD w (0, 0, 0, 0, 0)).2.2.1 = a ∧ (amCS.getD w (0, 0, 0, 0, 0)).2.2.2.1 = kd ∧ w < amCS.length)
def amClk (mi i w : Nat) (C : String) : Bool := decide ((amCN.getD w (0, 0, "", 0)).1 = amOwn mi ∧ (amCN.getD w (0, 0, "", 0)).2.1 = i ∧ (amCN.getD w (0, 0, "", 0)).2.2.1 = C ∧ w < amCN.length)
def amPre (l ts : List Nat) : Option (List Nat) := if ts.take l.length = l then some (ts.drop l.length) else none
/-- the kinds behind an instruction -/
def amEff (mi pc : Nat) (i : amI) (ts tl : List Nat) : Option (List Nat × List Nat) :=
  match i.1 with
  | .iconst n => if -2147483648 ≤ n ∧ n < 2147483648 then some (0 :: ts, tl) else none
  | .bipush n => if (-2147483648 ≤ n ∧ n < 2147483648) ∧ (Int8.ofInt n).toInt32 = Int32.ofInt n then some (0 :: ts, tl) else none
  | .sipush n => if (-2147483648 ≤ n ∧ n < 2147483648) ∧ (Int16.ofInt n).toInt32 = Int32.ofInt n then some (0 :: ts, tl) else none
  | .lconst _ => some (1 :: ts, tl)
  | .ldc j => if amCst mi j i.2.2.2.1 0 (i.2.2.2.2.headD (0, 0)).1 = true then some (0 :: ts, tl) else none
  | .ldc_w j => if amCst mi j i.2.2.2.1 0 (i.2.2.2.2.headD (0, 0)).1 = true then some (0 :: ts, tl) else none
  | .ldc2_w j => if amCst mi j i.2.2.2.1 1 (i.2.2.2.2.headD (0, 0)).1 = true then some (1 :: ts, tl) else none
  | .iload_n n => if tl.getD n.val 3 = 0 then some (0 :: ts, tl) else none
  | .iload n => if tl.getD n 3 = 0 then some (0 :: ts, tl) else none
  | .lload_n n => if tl.getD n.val 3 = 1 then some (1 :: ts, tl) else none
  | .lload n => if tl.getD n 3 = 1 then some (1 :: ts, tl) else none
  | .aload_n n => if tl.getD n.val 3 = 2 then some (2 :: ts, tl) else none
  | .aload n => if tl.getD n 3 = 2 then some (2 :: ts, tl) else none
  | .istore_n n => match ts with | 0 :: ts => if n.val < amMax mi then some (ts, amTl1 tl n.val 0) else none | _ => none
  | .istore n => match ts with | 0 :: ts => if n < amMax mi then some (ts, amTl1 tl n 0) else none | _ => none
  | .astore_n n => match ts with | 2 :: ts => if n.val < amMax mi then some (ts, amTl1 tl n.val 2) else none | _ => none
  | .astore n => match ts with | 2 :: ts => if n < amMax mi then some (ts, amTl1 tl n 2) else none | _ => none
  | .lstore_n n => match ts with | 1 :: ts => if n.val + 1 < amMax mi then some (ts, amTl2 tl n.val) else none | _ => none
  | .lstore n => match ts with | 1 :: ts => if n + 1 < amMax mi then some (ts, amTl2 tl n) else none | _ => none
  | .iinc n _ => if tl.getD n 3 = 0 ∧ n < amMax mi then some (ts, amTl1 tl n 0) else none
  | .iadd => match ts with | 0 :: 0 :: ts => some (0 :: ts, tl) | _ => none
  | .isub => match ts with | 0 :: 0 :: ts => some (0 :: ts, tl) | _ => none
  | .imul => match ts with | 0 :: 0 :: ts => some (0 :: ts, tl) | _ => none
  | .idiv => match ts with | 0 :: 0 :: ts => some (0 :: ts, tl) | _ => none
  | .irem => match ts with | 0 :: 0 :: ts => some (0 :: ts, tl) | _ => none
  | .iand => match ts with | 0 :: 0 :: ts => some (0 :: ts, tl) | _ => none
  | .ior => match ts with | 0 :: 0 :: ts => some (0 :: ts, tl) | _ => none
  | .ixor => match ts with | 0 :: 0 :: ts => some (0 :: ts, tl) | _ => none
  | .ishl => match ts with | 0 :: 0 :: ts => some (0 :: ts, tl) | _ => none
  | .ishr => match ts with | 0 :: 0 :: ts => some (0 :: ts, tl) | _ => none
  | .iushr => match ts with | 0 :: 0 :: ts => some (0 :: ts, tl) | _ => none
  | .ladd => match ts with | 1 :: 1 :: ts => some (1 :: ts, tl) | _ => none
  | .lmul => match ts with | 1 :: 1 :: ts => some (1 :: ts, tl) | _ => none
  | .land => match ts with | 1 :: 1 :: ts => some (1 :: ts, tl) | _ => none
  | .lor => match ts with | 1 :: 1 :: ts => some (1 :: ts, tl) | _ => none
  | .lshl => match ts with | 0 :: 1 :: ts => some (1 :: ts, tl) | _ => none
  | .lshr => match ts with | 0 :: 1 :: ts => some (1 :: ts, tl) | _ => none
  | .lushr => match ts with | 0 :: 1 :: ts => some (1 :: ts, tl) | _ => none
  | .ineg => match ts with | 0 :: ts => some (0 :: ts, tl) | _ => none
  | .i2l => match ts with | 0 :: ts => some (1 :: ts, tl) | _ => none
  | .l2i => match ts with | 1 :: ts => some (0 :: ts, tl) | _ => none
  | .i2b => match ts with | 0 :: ts => some (0 :: ts, tl) | _ => none
  | .i2s => match ts with | 0 :: ts => some (0 :: ts, tl) | _ => none
  | .lcmp => match ts with | 1 :: 1 :: ts => some (0 :: ts, tl) | _ => none
  | .dup => match ts with | t :: ts => if t ≠ 1 then some (t :: t :: ts, tl) else none | _ => none
  | .dup2 => match ts with | t :: t2 :: ts => if t ≠ 1 ∧ t2 ≠ 1 then some (t :: t2 :: t :: t2 :: ts, tl) else none | _ => none
  | .pop => match ts with | t :: ts => if t ≠ 1 then some (ts, tl) else none | _ => none
  | .getfield j => match ts with | 2 :: ts => if amFld mi j i.2.1 i.2.2.1 i.2.2.2.1 = true then some (amFtt i.2.1 i.2.2.1 :: ts, tl) else none | _ => none
  | .putfield j => match ts with | t :: 2 :: ts => if amFld mi j i.2.1 i.2.2.1 i.2.2.2.1 = true ∧ t = amFtt i.2.1 i.2.2.1 ∧ ((amT i.2.1 i.2.2.1).2.2.2 = true → (amY mi).name = "<init>" ∧ (amT i.2.1 i.2.2.1).1 = amNm (amOwn mi)) then some (ts, tl) else none | _ => none
  | .getstatic j => if (i.2.1 = 300 ∧ amStf mi j i.2.2.2.1 0 = true) ∨ (i.2.1 = 301 ∧ amStf mi j i.2.2.2.1 1 = true) then some (2 :: ts, tl) else none
  | .iaload => match ts with | 0 :: 2 :: ts => some (0 :: ts, tl) | _ => none
  | .laload => match ts with | 0 :: 2 :: ts => some (1 :: ts, tl) | _ => none
  | .baload => match ts with | 0 :: 2 :: ts => some (0 :: ts, tl) | _ => none
  | .aaload => match ts with | 0 :: 2 :: ts => if i.2.1 = 23 ∨ i.2.1 = 24 ∨ i.2.1 = 25 then some (2 :: ts, tl) else none | _ => none
  | .iastore => match ts with | 0 :: 0 :: 2 :: ts => some (ts, tl) | _ => none
  | .lastore => match ts with | 1 :: 0 :: 2 :: ts => some (ts, tl) | _ => none
  | .bastore => match ts with | 0 :: 0 :: 2 :: ts => some (ts, tl) | _ => none
  | .aastore => match ts with | 2 :: 0 :: 2 :: ts => if i.2.1 = 23 ∨ i.2.1 = 24 then some (ts, tl) else none | _ => none
  | .arraylength => match ts with | 2 :: ts => some (0 :: ts, tl) | _ => none
  | .ifCond _ off => match ts with | 0 :: ts => if amJmp mi i.2.1 (pc + off) ts tl = true then some (ts, tl) else none | _ => none
  | .if_icmp _ off => match ts with | 0 :: 0 :: ts => if amJmp mi i.2.1 (pc + off) ts tl = true then some (ts, tl) else none | _ => none
  | .invokevirtual j => (amPre (amPt i.2.1).reverse ts).bind (fun ts => if i.2.2.1 = (amPt i.2.1).length ∧ i.2.1 < 265 ∧ (mt i.2.1).2.1 < 20 ∧ (amY i.2.1).name ≠ "<init>" ∧ (amPt i.2.1).headD 9 = 2 ∧ amCll mi j i.2.2.2.1 i.2.1 0 = true ∧ amCat ts = true then some (amPush i.2.1 ts, tl) else none)
  | .invokestatic j =>
    if i.2.1 = 9999 then (match ts with | 0 :: 0 :: 2 :: 0 :: 2 :: ts => if amCll mi j i.2.2.2.1 9999 0 = true ∧ amWd (amCS.getD i.2.2.2.1 (0, 0, 0, 0, 0)).2.2.2.2 = some (.methodLink (amNm (amOwn mi)) j arraycopyName) ∧ amCat ts = true then some (ts, tl) else none | _ => none)
    else if i.2.1 = 9998 then (match ts with | 0 :: 0 :: ts => if amCll mi j i.2.2.2.1 266 0 = true ∧ amCat ts = true then some (0 :: ts, tl) else none | _ => none)
    else if i.2.1 = 9997 then (match ts with | 0 :: 0 :: ts => if amCll mi j i.2.2.2.1 267 0 = true ∧ amCat ts = true then some (0 :: ts, tl) else none | _ => none)
    else (amPre (amPt i.2.1).reverse ts).bind (fun ts => if i.2.2.1 = (amPt i.2.1).length ∧ i.2.1 < 266 ∧ (mt i.2.1).2.1 = 99 ∧ amCll mi j i.2.2.2.1 i.2.1 0 = true ∧ amCat ts = true then some (amPush i.2.1 ts, tl) else none)
  | .invokespecial j =>
    if i.2.1 = 9999 then (match ts with | 2 :: ts => if amCll mi j i.2.2.2.1 9999 0 = true ∧ amWd (amCS.getD i.2.2.2.1 (0, 0, 0, 0, 0)).2.2.2.2 = some (.methodLink (amNm (amOwn mi)) j Lib.objectInit) ∧ amCat ts = true then some (ts, tl) else none | _ => none)
    else (amPre (amPt i.2.1).reverse ts).bind (fun ts => if i.2.2.1 = (amPt i.2.1).length ∧ i.2.1 < 265 ∧ (mt i.2.1).2.1 < 20 ∧ (amY i.2.1).name = "<init>" ∧ (mt i.2.1).1 = 3 ∧ (amPt i.2.1).headD 9 = 2 ∧ (amCll mi j i.2.2.2.1 i.2.1 0 = true ∨ (amNm (amOwn mi), j, amY i.2.1) ∈ amNL) ∧ amCat ts = true then some (amPush i.2.1 ts, tl) else none)
  | .new j => if i.2.1 < 12 ∧ amClk mi j i.2.2.2.1 (amNm i.2.1) = true then some (2 :: ts, tl) else none
  | .newarray at_ => match ts with | 0 :: ts => if ((i.2.1 = 20 ∧ at_ = .int) ∨ (i.2.1 = 21 ∧ at_ = .long) ∨ (i.2.1 = 22 ∧ at_ = .boolean)) then some (2 :: ts, tl) else none | _ => none
  | .anewarray j => match ts with | 0 :: ts => if ((i.2.1 = 23 ∧ amClk mi j i.2.2.2.1 "AlikeTown$Text" = true) ∨ (i.2.1 = 24 ∧ amClk mi j i.2.2.2.1 "AlikeTown$Sheet" = true)) then some (2 :: ts, tl) else none | _ => none
  | .multianewarray j q => match ts with | 0 :: 0 :: ts => if q = 2 ∧ amClk mi j i.2.2.2.1 "[[I" = true then some (2 :: ts, tl) else none | _ => none
  | _ => none
def amLk (mi pc : Nat) (ts tl : List Nat) : List (Int × Nat) → List (Int × Int) → Bool
  | [], [] => true
  | q :: l, p :: r => decide (q.1 = p.1) && amJmp mi q.2 (pc + p.2) ts tl && amLk mi pc ts tl l r
  | _, _ => false
/-- what ends a block -/
def amFin (mi pc : Nat) (i : amI) (ts tl : List Nat) : Bool :=
  match i.1 with
  | .nop => amJmp mi i.2.1 pc ts tl
  | .goto off => decide (decode (amBy mi) pc = .ok (i.1, 3)) && amJmp mi i.2.1 (pc + off) ts tl
  | .tableswitch dflt lo hi offs => (match ts with
    | 0 :: ts => decide (decode (amBy mi) pc = .ok (i.1, i.2.2.1)) && amJmp mi i.2.1 (pc + dflt) ts tl && decide (i.2.2.2.2.length = offs.size ∧ hi = lo + offs.size - 1) && (List.range offs.size).all (fun j => decide ((i.2.2.2.2.getD j (0, 0)).1 = lo + j) && amJmp mi (i.2.2.2.2.getD j (0, 0)).2 (pc + offs.getD j 0) ts tl)
    | _ => false)
  | .lookupswitch dflt ps => (match ts with
    | 0 :: ts => decide (decode (amBy mi) pc = .ok (i.1, i.2.2.1)) && amJmp mi i.2.1 (pc + dflt) ts tl && (ps.toList.zip (ps.toList.drop 1)).all (fun (a, next) => a.1 < next.1) && amLk mi pc ts tl i.2.2.2.2 ps.toList
    | _ => false)
  | .ireturn => decide (decode (amBy mi) pc = .ok (i.1, 1)) && decide (ts = [0]) && decide (i.2.1 = (mt mi).1 ∧ ((mt mi).1 = 0 ∨ (mt mi).1 = 4))
  | .lreturn => decide (decode (amBy mi) pc = .ok (i.1, 1)) && decide (ts = [1]) && decide ((mt mi).1 = 1)
  | .return_ => decide (decode (amBy mi) pc = .ok (i.1, 1)) && decide (ts = []) && decide ((mt mi).1 = 3)
  | _ => false
def amChk (mi : Nat) : List amI → Nat → List Nat → List Nat → Bool
  | [], _, _, _ => false
  | i :: cs, pc, ts, tl => amFin mi pc i ts tl || (decide (decode (amBy mi) pc = .ok (i.1, amLen i.1)) && (match amEff mi pc i ts tl with | some q => amChk mi cs (pc + amLen i.1) q.1 q.2 | none => false))
def amChkM (mi : Nat) : Bool := (List.range (prog mi).length).all (fun b => amChk mi (blk mi b).2.2.2 (blk mi b).1 (blk mi b).2.1 (blk mi b).2.2.1)
/-- nothing new is made -/
def amPl (i : amI) : Bool := match i.1 with
  | .new _ | .newarray _ | .anewarray _ | .multianewarray _ _ => false
  | .invokespecial _ => false
  | _ => true
def amPlM (mi : Nat) : Bool := (prog mi).all (fun b => b.2.2.2.all amPl)
/-- how the locals stand at the start -/
def amEnt (mi : Nat) : Bool := decide ((blk mi 0).1 = 0 ∧ (blk mi 0).2.1 = [] ∧ (blk mi 0).2.2.1 = ((mt mi).2.2.1.flatMap (fun t => if t = 1 then [1, 3] else [t])) ++ List.replicate (amMax mi - ((mt mi).2.2.1.flatMap (fun t => if t = 1 then [1, 3] else [t])).length) 3 ∧ ((mt mi).2.2.1.flatMap (fun t => if t = 1 then [1, 3] else [t])).length ≤ amMax mi ∧ (mt mi).2.2.1.all (fun t => decide (t = 0 ∨ t = 1 ∨ t = 2)) = true ∧ 0 < (prog mi).length)
