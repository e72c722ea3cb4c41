/-! ===== THE WORLD: what of the heap stands for the abstract cells ===== -/
abbrev amG : Type := Nat × Nat × Nat × Nat
def amAd (G : amG) (k : Nat) : Nat := if k = 300 then G.2.1 else if k = 301 then G.2.2.1 else if k = 302 then G.2.2.2 else G.1 + k
def amVal (G : amG) (t : Nat) (x : Int) : Value := match t with
  | 1 => .long (Int64.ofInt x)
  | 2 => if x < 0 then .null else .ref (amAd G x.toNat)
  | _ => .int (Int32.ofInt x)
/-- a value that may stand on the stack: a reference is one to a cell that is there -/
def amOk (n t : Nat) (x : Int) : Prop := match t with
  | 1 => R64 x
  | 2 => 0 ≤ x ∧ (x < (n : Int) ∨ x = 300 ∨ x = 301 ∨ x = 302)
  | _ => R32 x
/-- what may stand in a slot: nothing, too -/
def amOkF (n t : Nat) (x : Int) : Prop := (t = 2 ∧ x = -1) ∨ amOk n t x
/-- the kind of a slot -/
def amSl (k j : Nat) : Nat := if (amShp k).1 < 20 then amFt (amShp k).1 j else if (amShp k).1 = 21 then 1 else if (amShp k).1 < 23 then 0 else 2
def amArr (G : amG) (t : Nat) (f : Nat → Int) : (Nat → Int32) ⊕ (Nat → Int64) ⊕ (Nat → UInt32) ⊕ (Nat → UInt64) ⊕ (Nat → Option Nat) :=
  if t = 21 then .inr (.inl (fun j => Int64.ofInt (f j))) else if t < 23 then .inl (fun j => Int32.ofInt (f j)) else .inr (.inr (.inr (.inr (fun j => if f j < 0 then none else some (amAd G (f j).toNat)))))
def amCellE (E : Nat → ClassId) (G : amG) (f : Nat → Int) (k : Nat) : va_E :=
  if (amShp k).1 < 20 then .inr ((amShp k).1, (List.range (amShp k).2).map (fun j => amVal G (amFt (amShp k).1 j) (f j)))
  else .inl (E (amShp k).1, (amShp k).2, amArr G (amShp k).1 f)
def amWs (E : Nat → ClassId) (G : amG) (n : Nat) (C : Nat → Nat → Int) : va_W := (List.range n).map (fun k => (G.1 + k, amCellE E G (C k) k))
theorem amWs_get {E : Nat → ClassId} {G : amG} {n k : Nat} {C : Nat → Nat → Int} (h : k < n) : (amWs E G n C)[k]? = some (G.1 + k, amCellE E G (C k) k) := by
  unfold amWs
  rw [List.getElem?_map, List.getElem?_range h]
  rfl
theorem amWs_lt {E : Nat → ClassId} {G : amG} {n k : Nat} {C : Nat → Nat → Int} {q : Nat × va_E} (h : (amWs E G n C)[k]? = some q) : k < n ∧ q = (G.1 + k, amCellE E G (C k) k) := by
  have hk : k < n := by
    have := (List.getElem?_eq_some_iff.mp h).1
    simpa [amWs] using this
  rw [amWs_get hk] at h
  exact ⟨hk, (Option.some.inj h).symm⟩
theorem amWs_D {E : Nat → ClassId} {G : amG} {n : Nat} {C : Nat → Nat → Int} : va_D (fun q => G.1 ≤ q) (amWs E G n C) := by
  refine ⟨fun i j p q hi hj h => ?_, fun k q hk => ?_⟩
  · obtain ⟨-, rfl⟩ := amWs_lt hi
    obtain ⟨-, rfl⟩ := amWs_lt hj
    have : G.1 + i = G.1 + j := h
    omega
  · obtain ⟨-, rfl⟩ := amWs_lt hk
    exact Nat.le_add_right _ _
theorem amWs_congr {E : Nat → ClassId} {G : amG} {n : Nat} {C C' : Nat → Nat → Int} (h : ∀ k, k < n → C k = C' k) : amWs E G n C = amWs E G n C' := by
  unfold amWs
  apply List.map_congr_left
  intro k hk
  rw [h k (List.mem_range.mp hk)]
theorem amWs_set {E : Nat → ClassId} {G : amG} {n k : Nat} {C C' : Nat → Nat → Int} (h : ∀ j, j < n → j ≠ k → C' j = C j) : (amWs E G n C).set k (G.1 + k, amCellE E G (C' k) k) = amWs E G n C' := by
  apply List.ext_getElem?
  intro j
  by_cases hj : j < n
  · rw [amWs_get hj]
    by_cases e : j = k
    · subst e
      rw [List.getElem?_set_self (by simpa [amWs] using hj)]
    · rw [List.getElem?_set_ne (Ne.symm e), amWs_get hj, h j hj e]
  · rw [List.getElem?_eq_none (by simp [amWs]; omega), List.getElem?_eq_none (by simp [amWs]; omega)]
theorem amWs_push {E : Nat → ClassId} {G : amG} {n : Nat} {C C' : Nat → Nat → Int} (h : ∀ j, j < n → C' j = C j) : amWs E G n C ++ [(G.1 + n, amCellE E G (C' n) n)] = amWs E G (n + 1) C' := by
  unfold amWs
  rw [List.range_succ, List.map_append]
  congr 1
  apply List.map_congr_left
  intro k hk
  rw [h k (List.mem_range.mp hk)]
/-- the heap holds the cells -/
def amH (D : va_G) (E : Nat → ClassId) (G : amG) (cr : amC) (n : Nat) (μ : amM) (H : Heap) : Prop :=
  va_P D amCl (amWs E G n (amCt cr μ)) H ∧ (∀ k, k < n → ∀ j, j < (amShp k).2 → amOkF n (amSl k j) (amCt cr μ k j)) ∧ μ 999 0 = (n : Int) ∧ n ≤ 95
theorem amH.cnt {D : va_G} {E : Nat → ClassId} {G : amG} {cr : amC} {n : Nat} {μ : amM} {H : Heap} (h : amH D E G cr n μ H) : amCnt μ = n := by
  unfold amCnt
  rw [h.2.2.1]
  rfl
/-- the script -/
def amX (L : Nat) (xs : Nat → Int32) (μ : amM) : Prop := μ 302 0 = (L : Int) ∧ ∀ j, j < L → μ 302 (j + 1) = (xs j).toInt
/-- the tables' words that every caller can use -/
def amPrivs : List (MethodName × Nat) := ((List.range 268).filter (fun m => decide ((mt m).2.1 ≠ 99 ∧ (amWm m).2.2.2.1 = 9999))).map (fun m => (amY m, amNF (mt m).2.1))
def amTbl : List Jvm.Cond := (k2_sels amPrivs ++ tables_1).filter goodWord
theorem amTbl_in {i : Nat} {w : Jvm.Cond} (h : amWd i = some w) (hg : goodWord w = true) : w ∈ amTbl := List.mem_filter.mpr ⟨List.mem_append_right _ (amWd_in h), hg⟩
theorem amTbl_sel {m : Nat} (hm : m < 268) (h1 : (mt m).2.1 ≠ 99) (h2 : (amWm m).2.2.2.1 = 9999) : Cond.selects (amY m).cls (amY m) (amY m) ∈ amTbl := by
  refine List.mem_filter.mpr ⟨List.mem_append_left _ (List.mem_map.mpr ⟨(amY m, amNF (mt m).2.1), List.mem_map.mpr ⟨m, List.mem_filter.mpr ⟨List.mem_range.mpr hm, decide_eq_true ⟨h1, h2⟩⟩, rfl⟩, rfl⟩), rfl⟩
theorem amTbl_good {ws : List Jvm.Cond} (h : ∀ w ∈ ws, w ∈ amTbl) : GoodIn amTbl ws := fun w hw => ⟨h w hw, good_of_word (List.mem_filter.mp (h w hw)).2⟩
def amTys (E : Nat → ClassId) : List (ClassId × FieldType) := [(E 20, .int), (E 21, .long), (E 22, .boolean), (E 23, .object "AlikeTown$Text"), (E 24, .object "AlikeTown$Sheet"), (E 25, .array .int)]
/-- the calls of nest mates -/
def amNL : List (String × Nat × MethodName) := [("AlikeTown$State", 35, ⟨"AlikeTown$Text", "<init>", "()V"⟩), ("AlikeTown", 21, ⟨"AlikeTown$Reader", "<init>", "()V"⟩), ("AlikeTown$Reader", 11, ⟨"AlikeTown$Text", "<init>", "()V"⟩), ("AlikeTown", 28, ⟨"AlikeTown$Mender", "<init>", "()V"⟩), ("AlikeTown", 35, ⟨"AlikeTown$Stepper", "<init>", "()V"⟩), ("AlikeTown", 42, ⟨"AlikeTown$Filler", "<init>", "()V"⟩), ("AlikeTown", 56, ⟨"AlikeTown$Voices", "<init>", "()V"⟩), ("AlikeTown", 71, ⟨"AlikeTown$Sheet", "<init>", "()V"⟩)]
/-- what is known of a state's tables and of what stood there before -/
def amK (D : va_G) (E : Nat → ClassId) (G : amG) (L : Nat) (xs : Nat → Int32) (s : State) (H : Heap) : Prop :=
  va_K D amCl (amTys E) s ∧ (∀ q ∈ amNL, va_Nw (.methodLinkNest q.1 q.2.1 q.2.2 "AlikeTown") s) ∧ (va_AO "AlikeTown$Text" s ∧ va_AO "AlikeTown$Sheet" s ∧ (Cond.arrayOver (.array .int)).before #[] s = true) ∧
  (va_Z "AlikeTown$Voices" "ABOVE" "[I" (.ref G.2.1) (fun q => G.1 ≤ q) s H ∧ va_Z "AlikeTown$Voices" "OWN" "[I" (.ref G.2.2.1) (fun q => G.1 ≤ q) s H) ∧
  (va_T .int G.2.1 7 (fun j => .int (Int32.ofInt (amTab 300 j))) (fun q => G.1 ≤ q) s H ∧ va_T .int G.2.2.1 28 (fun j => .int (Int32.ofInt (amTab 301 j))) (fun q => G.1 ≤ q) s H) ∧
  (va_X G.2.2.2 L xs s H ∧ G.2.2.2 < G.1 ∧ L ≤ 3072 ∧ G.1 ≤ H.size)
theorem amOver_moved {s U : State} {ty : FieldType} (hvm : s.vm.Alike U.vm) (h : (Cond.arrayOver ty).before #[] s = true) : (Cond.arrayOver ty).before #[] U = true := by
  have h1 := Cond.arrayOver_setVmC (args := #[]) hvm ty
  rw [h] at h1
  exact h1
theorem amK.moved {D : va_G} {E : Nat → ClassId} {G : amG} {L : Nat} {xs : Nat → Int32} {s U : State} {H H1 : Heap} (h : amK D E G L xs s H) (hW : s.WarmedH U.vm) (hq : ∀ q : Nat, q < G.1 → H1[q]? = H[q]?) (hz : G.1 ≤ H1.size) : amK D E G L xs U H1 := by
  obtain ⟨k1, k2, ⟨k3, k4, k5⟩, ⟨k6, k7⟩, ⟨k8, k9⟩, k10, k11, k12, k13⟩ := h
  have hl : ∀ a : Nat, a < H.size → ¬ G.1 ≤ a → H1[a]? = H[a]? := fun a _ h => hq a (Nat.lt_of_not_le h)
  exact ⟨va_K.moved hW.alike k1, fun q hq => va_Nw.warmM hW (k2 q hq), ⟨va_AO.moved hW.alike k3, va_AO.moved hW.alike k4, amOver_moved hW.alike k5⟩, ⟨(k6.moved hW.alike).kept hl, (k7.moved hW.alike).kept hl⟩, ⟨(k8.moved hW.alike).kept hl, (k9.moved hW.alike).kept hl⟩, (k10.moved hW.alike).kept (hq _ k11), k11, k12, hz⟩
theorem amOk_0 {n t : Nat} {x : Int} (h1 : t ≠ 1) (h2 : t ≠ 2) : amOk n t x ↔ R32 x := by
  unfold amOk
  split
  · exact absurd rfl h1
  · exact absurd rfl h2
  · exact Iff.rfl
theorem amOk.up {n n' t : Nat} {x : Int} (h : amOk n t x) (hn : n ≤ n') : amOk n' t x := by
  by_cases h1 : t = 1
  · subst h1; exact h
  · by_cases h2 : t = 2
    · subst h2
      refine ⟨h.1, ?_⟩
      rcases h.2 with h | h
      · exact Or.inl (by omega)
      · exact Or.inr h
    · rw [amOk_0 h1 h2] at h ⊢
      exact h
theorem amOkF.up {n n' t : Nat} {x : Int} (h : amOkF n t x) (hn : n ≤ n') : amOkF n' t x := h.imp id (fun h => h.up hn)
/-- the stack -/
def amStk (n : Nat) : List Nat → List Int → Prop
  | [], [] => True
  | t :: ts, x :: xs => amOk n t x ∧ amStk n ts xs
  | _, _ => False
def amVs (G : amG) (ts : List Nat) (xs : List Int) : List Value := List.zipWith (amVal G) ts xs
theorem amStk.up {n n' : Nat} (hn : n ≤ n') : ∀ {ts : List Nat} {xs : List Int}, amStk n ts xs → amStk n' ts xs
  | [], [], _ => trivial
  | _ :: _, _ :: _, h => ⟨h.1.up hn, amStk.up hn h.2⟩
  | [], _ :: _, h => h.elim
  | _ :: _, [], h => h.elim
theorem amStk.len {n : Nat} : ∀ {ts : List Nat} {xs : List Int}, amStk n ts xs → ts.length = xs.length
  | [], [], _ => rfl
  | _ :: _, _ :: _, h => congrArg (· + 1) (amStk.len h.2)
  | [], _ :: _, h => h.elim
  | _ :: _, [], h => h.elim
theorem amStk.app {n : Nat} : ∀ {t1 t2 : List Nat} {x1 x2 : List Int}, amStk n t1 x1 → amStk n t2 x2 → amStk n (t1 ++ t2) (x1 ++ x2)
  | [], _, [], _, _, h => h
  | _ :: _, _, _ :: _, _, h1, h => ⟨h1.1, amStk.app h1.2 h⟩
  | [], _, _ :: _, _, h, _ => h.elim
  | _ :: _, _, [], _, h, _ => h.elim
theorem amStk.split {n : Nat} : ∀ {t1 t2 : List Nat} {xs : List Int}, amStk n (t1 ++ t2) xs → amStk n t1 (xs.take t1.length) ∧ amStk n t2 (xs.drop t1.length)
  | [], _, _, h => ⟨trivial, h⟩
  | _ :: _, _, _ :: _, h => ⟨⟨h.1, (amStk.split h.2).1⟩, (amStk.split h.2).2⟩
  | _ :: _, _, [], h => h.elim
theorem amStk.rev {n : Nat} : ∀ {ts : List Nat} {xs : List Int}, amStk n ts xs → amStk n ts.reverse xs.reverse
  | [], [], _ => trivial
  | t :: ts, x :: xs, h => by
    rw [List.reverse_cons, List.reverse_cons]
    exact (amStk.rev h.2).app ⟨h.1, trivial⟩
  | [], _ :: _, h => h.elim
  | _ :: _, [], h => h.elim
theorem amVs_rev (G : amG) : ∀ {ts : List Nat} {xs : List Int}, ts.length = xs.length → amVs G ts.reverse xs.reverse = (amVs G ts xs).reverse := by
  intro ts xs h
  unfold amVs
  rw [List.reverse_zipWith h]
/-- the locals -/
def amLv (G : amG) (tl : List Nat) (lc : List Int) : List (Nat × Value) := (List.range tl.length).filterMap (fun i => if tl.getD i 3 = 3 then none else some (i, amVal G (tl.getD i 3) (lc.getD i 0)))
def amFr (nL : Nat) (G : amG) (n : Nat) (tl : List Nat) (lc : List Int) (sl : Array Slot) : Prop :=
  tl.length = lc.length ∧ tl.length = nL ∧ lv_has sl nL (amLv G tl lc) ∧ ∀ i, tl.getD i 3 ≠ 3 → amOk n (tl.getD i 3) (lc.getD i 0)
theorem amLv_mem {G : amG} {tl : List Nat} {lc : List Int} {q : Nat × Value} : q ∈ amLv G tl lc ↔ ∃ i, tl.getD i 3 ≠ 3 ∧ q = (i, amVal G (tl.getD i 3) (lc.getD i 0)) := by
  unfold amLv
  rw [List.mem_filterMap]
  constructor
  · rintro ⟨i, hi, h⟩
    by_cases e : tl.getD i 3 = 3
    · rw [if_pos e] at h; cases h
    · rw [if_neg e] at h
      exact ⟨i, e, (Option.some.inj h).symm⟩
  · rintro ⟨i, hi, rfl⟩
    refine ⟨i, List.mem_range.mpr ?_, by rw [if_neg hi]⟩
    apply Nat.lt_of_not_le
    intro h
    apply hi
    rw [List.getD_eq_getElem?_getD, List.getElem?_eq_none h]
    rfl
theorem amFr.up {nL n n' : Nat} {G : amG} {tl : List Nat} {lc : List Int} {sl : Array Slot} (h : amFr nL G n tl lc sl) (hn : n ≤ n') : amFr nL G n' tl lc sl := ⟨h.1, h.2.1, h.2.2.1, fun i hi => (h.2.2.2 i hi).up hn⟩
theorem amFr.at {nL n i t : Nat} {G : amG} {tl : List Nat} {lc : List Int} {sl : Array Slot} (h : amFr nL G n tl lc sl) (hi : tl.getD i 3 = t) (ht : t ≠ 3) : sl[i]? = some (.val (amVal G t (lc.getD i 0))) ∧ amOk n t (lc.getD i 0) := by
  subst hi
  exact ⟨h.2.2.1.2.2 _ (amLv_mem.mpr ⟨i, ht, rfl⟩), h.2.2.2 i ht⟩
/-- what a store leaves of the kinds of the locals -/
def amKill (tl : List Nat) (i : Nat) : List Nat := if 0 < i ∧ tl.getD (i - 1) 3 = 1 then tl.set (i - 1) 3 else tl
def amTl1 (tl : List Nat) (i t : Nat) : List Nat := (amKill tl i).set i t
def amTl2 (tl : List Nat) (i : Nat) : List Nat := ((amKill tl i).set i 1).set (i + 1) 3
theorem amKill_len (tl : List Nat) (i : Nat) : (amKill tl i).length = tl.length := by
  unfold amKill
  split <;> simp
theorem getD_set_self {l : List Nat} {i v z : Nat} (h : i < l.length) : (l.set i v).getD i z = v := by
  rw [List.getD_eq_getElem?_getD, List.getElem?_set_self h]; rfl
theorem getD_set_ne {α : Type} {l : List α} {i j : Nat} {v z : α} (h : i ≠ j) : (l.set i v).getD j z = l.getD j z := by
  rw [List.getD_eq_getElem?_getD, List.getElem?_set_ne h, ← List.getD_eq_getElem?_getD]
theorem getD_set_selfI {l : List Int} {i : Nat} {v z : Int} (h : i < l.length) : (l.set i v).getD i z = v := by
  rw [List.getD_eq_getElem?_getD, List.getElem?_set_self h]; rfl
theorem amKill_getD {tl : List Nat} {i j : Nat} (h : (amKill tl i).getD j 3 ≠ 3) : tl.getD j 3 = (amKill tl i).getD j 3 ∧ ¬ (j + 1 = i ∧ tl.getD j 3 = 1) := by
  unfold amKill at h ⊢
  split
  · next h1 =>
    rw [if_pos h1] at h
    by_cases e : i - 1 = j
    · exfalso
      apply h
      subst e
      by_cases hl : i - 1 < tl.length
      · exact getD_set_self hl
      · rw [List.getD_eq_getElem?_getD, List.getElem?_eq_none (by simp; omega)]; rfl
    · rw [getD_set_ne e] at h ⊢
      exact ⟨rfl, fun h2 => by omega⟩
  · next h1 =>
    refine ⟨rfl, fun h2 => h1 ⟨by omega, ?_⟩⟩
    rw [show i - 1 = j by omega]
    exact h2.2
theorem amFr.st1 {nL n i t : Nat} {G : amG} {tl : List Nat} {lc : List Int} {sl sl' : Array Slot} {x : Int} (h : amFr nL G n tl lc sl) (hi : i < nL) (hx : amOk n t x) (ht : t ≠ 3)
    (h' : lv_has sl' nL ((i, amVal G t x) :: (amLv G tl lc).filter (fun q => !(q.1 == i) && !(q.1 + 1 == i && q.2.category == 2)))) : amFr nL G n (amTl1 tl i t) (lc.set i x) sl' := by
  obtain ⟨h1, h2, h3, h4⟩ := h
  have hlen : (amTl1 tl i t).length = tl.length := by simp [amTl1, amKill_len]
  have key : ∀ j, (amTl1 tl i t).getD j 3 ≠ 3 → (j = i ∧ (amTl1 tl i t).getD j 3 = t ∧ (lc.set i x).getD j 0 = x) ∨ (j ≠ i ∧ (amTl1 tl i t).getD j 3 = tl.getD j 3 ∧ (lc.set i x).getD j 0 = lc.getD j 0 ∧ tl.getD j 3 ≠ 3 ∧ ¬ (j + 1 = i ∧ tl.getD j 3 = 1)) := by
    intro j hj
    by_cases e : j = i
    · subst e
      exact Or.inl ⟨rfl, getD_set_self (by rw [amKill_len]; omega), getD_set_selfI (by omega)⟩
    · have e1 : (amTl1 tl i t).getD j 3 = (amKill tl i).getD j 3 := getD_set_ne (Ne.symm e)
      rw [e1] at hj
      obtain ⟨e2, e3⟩ := amKill_getD hj
      exact Or.inr ⟨e, by rw [e1, e2], getD_set_ne (Ne.symm e), by rw [e2]; exact hj, e3⟩
  refine ⟨by rw [hlen, List.length_set]; exact h1, by rw [hlen]; exact h2, ⟨h'.1, h'.2.1, fun q hq => ?_⟩, fun j hj => ?_⟩
  · obtain ⟨j, hj, rfl⟩ := amLv_mem.mp hq
    apply h'.2.2
    rcases key j hj with ⟨rfl, e1, e2⟩ | ⟨e0, e1, e2, e3, e4⟩
    · rw [e1, e2]
      exact List.mem_cons_self
    · rw [e1, e2]
      refine List.mem_cons_of_mem _ (List.mem_filter.mpr ⟨amLv_mem.mpr ⟨j, e3, rfl⟩, ?_⟩)
      simp only [Bool.and_eq_true, Bool.not_eq_true', beq_eq_false_iff_ne, Bool.and_eq_false_iff]
      refine ⟨e0, ?_⟩
      by_cases z : j + 1 = i
      · right
        have z1 : ¬ tl.getD j 3 = 1 := fun z1 => e4 ⟨z, z1⟩
        unfold amVal
        split
        · next z2 => exact absurd z2 z1
        · split <;> simp [Value.category]
        · simp [Value.category]
      · left
        exact z
  · rcases key j hj with ⟨rfl, e1, e2⟩ | ⟨e0, e1, e2, e3, e4⟩
    · rw [e1, e2]; exact hx
    · rw [e1, e2]; exact h4 j e3
theorem amFr.st2 {nL n i : Nat} {G : amG} {tl : List Nat} {lc : List Int} {sl sl' : Array Slot} {x : Int} (h : amFr nL G n tl lc sl) (hi : i + 1 < nL) (hx : R64 x)
    (h' : lv_has sl' nL ((i, Value.long (Int64.ofInt x)) :: (amLv G tl lc).filter (fun q => !(q.1 == i) && (!(q.1 == i + 1) && !(q.1 + 1 == i && q.2.category == 2))))) : amFr nL G n (amTl2 tl i) (lc.set i x) sl' := by
  obtain ⟨h1, h2, h3, h4⟩ := h
  have hlen : (amTl2 tl i).length = tl.length := by simp [amTl2, amKill_len]
  have key : ∀ j, (amTl2 tl i).getD j 3 ≠ 3 → (j = i ∧ (amTl2 tl i).getD j 3 = 1 ∧ (lc.set i x).getD j 0 = x) ∨ (j ≠ i ∧ j ≠ i + 1 ∧ (amTl2 tl i).getD j 3 = tl.getD j 3 ∧ (lc.set i x).getD j 0 = lc.getD j 0 ∧ tl.getD j 3 ≠ 3 ∧ ¬ (j + 1 = i ∧ tl.getD j 3 = 1)) := by
    intro j hj
    by_cases e9 : j = i + 1
    · exfalso
      apply hj
      subst e9
      exact getD_set_self (by simp [amKill_len]; omega)
    · by_cases e : j = i
      · subst e
        exact Or.inl ⟨rfl, by unfold amTl2; rw [getD_set_ne (by omega), getD_set_self (by rw [amKill_len]; omega)], getD_set_selfI (by omega)⟩
      · have e1 : (amTl2 tl i).getD j 3 = (amKill tl i).getD j 3 := by unfold amTl2; rw [getD_set_ne (Ne.symm e9), getD_set_ne (Ne.symm e)]
        rw [e1] at hj
        obtain ⟨e2, e3⟩ := amKill_getD hj
        exact Or.inr ⟨e, e9, by rw [e1, e2], getD_set_ne (Ne.symm e), by rw [e2]; exact hj, e3⟩
  refine ⟨by rw [hlen, List.length_set]; exact h1, by rw [hlen]; exact h2, ⟨h'.1, h'.2.1, fun q hq => ?_⟩, fun j hj => ?_⟩
  · obtain ⟨j, hj, rfl⟩ := amLv_mem.mp hq
    apply h'.2.2
    rcases key j hj with ⟨rfl, e1, e2⟩ | ⟨e0, e9, e1, e2, e3, e4⟩
    · rw [e1, e2]
      exact List.mem_cons_self
    · rw [e1, e2]
      refine List.mem_cons_of_mem _ (List.mem_filter.mpr ⟨amLv_mem.mpr ⟨j, e3, rfl⟩, ?_⟩)
      simp only [Bool.and_eq_true, Bool.not_eq_true', beq_eq_false_iff_ne, Bool.and_eq_false_iff]
      refine ⟨e0, e9, ?_⟩
      by_cases z : j + 1 = i
      · right
        have z1 : ¬ tl.getD j 3 = 1 := fun z1 => e4 ⟨z, z1⟩
        unfold amVal
        split
        · next z2 => exact absurd z2 z1
        · split <;> simp [Value.category]
        · simp [Value.category]
      · left
        exact z
  · rcases key j hj with ⟨rfl, e1, e2⟩ | ⟨e0, e9, e1, e2, e3, e4⟩
    · rw [e1, e2]; exact hx
    · rw [e1, e2]; exact h4 j e3
/-- how many slots the first cells have -/
def amSs (n : Nat) : Nat := ((List.range n).map (fun k => (amShp k).2)).sum
theorem amSs_succ (n : Nat) : amSs (n + 1) = amSs n + (amShp n).2 := by
  unfold amSs
  rw [List.range_succ, List.map_append, List.sum_append]
  simp
theorem amSs_le {a b : Nat} (h : a ≤ b) : amSs a ≤ amSs b := by
  induction b with
  | zero => rw [Nat.le_zero.mp h]; exact Nat.le_refl _
  | succ b ih =>
    rcases Nat.lt_or_ge a (b + 1) with q | q
    · rw [amSs_succ]
      have := ih (by omega)
      omega
    · rw [show a = b + 1 by omega]; exact Nat.le_refl _
/-- fixed references are references, of cells that are none of numbers -/
def amCrOk (cr : amC) : Prop := ∀ k j v, cr k j = some v → amSl k j = 2 ∧ 0 ≤ v
theorem amCt_up {cr : amC} {μ : amM} {k i : Nat} {v : Int} (h : cr k i = none) : amCt cr (up μ k i v) k = fun j => if j = i then v else amCt cr μ k j := by
  funext j
  unfold amCt up
  by_cases e : j = i
  · subst e
    rw [h]
    simp
  · simp [e]
theorem amCt_up_ne {cr : amC} {μ : amM} {k i c : Nat} {v : Int} (h : c ≠ k) : amCt cr (up μ k i v) c = amCt cr μ c := by
  funext j
  unfold amCt up
  simp [h]
theorem amH.put {D : va_G} {E : Nat → ClassId} {G : amG} {cr : amC} {n k i : Nat} {v : Int} {μ : amM} {H H1 : Heap} (h : amH D E G cr n μ H) (hcr : cr k i = none) (h9 : k ≠ 999) (hv : amOkF n (amSl k i) v)
    (hP : va_P D amCl ((amWs E G n (amCt cr μ)).set k (G.1 + k, amCellE E G (amCt cr (up μ k i v) k) k)) H1) : amH D E G cr n (up μ k i v) H1 := by
  obtain ⟨h1, h2, h3, h4⟩ := h
  refine ⟨?_, fun c hc j hj => ?_, ?_, h4⟩
  · rwa [amWs_set (C' := amCt cr (up μ k i v)) (fun j hj e => amCt_up_ne e)] at hP
  · by_cases e : c = k
    · subst e
      rw [amCt_up hcr]
      by_cases e2 : j = i
      · subst e2; simpa using hv
      · simpa [e2] using h2 c hc j hj
    · rw [amCt_up_ne e]; exact h2 c hc j hj
  · unfold up
    rw [if_neg (Ne.symm h9)]; exact h3
theorem amX.put {L : Nat} {xs : Nat → Int32} {μ : amM} {k i : Nat} {v : Int} (h : amX L xs μ) (hk : k ≠ 302) : amX L xs (up μ k i v) := by
  unfold amX up at *
  simp only [if_neg (Ne.symm hk)]
  exact h
theorem tg_shp {x : Int} {t : Nat} (h : amTg x = t) (ht : t < 26) : 0 ≤ x ∧ (amShp x.toNat).1 = t ∧ x.toNat < 95 ∧ x ≠ 300 ∧ x ≠ 301 ∧ x ≠ 302 := by
  cases x with
  | ofNat c =>
    have h1 : amTgN c = t := h
    have e1 : c ≠ 300 := fun e => by subst e; have : amTgN 300 = 27 := rfl; omega
    have e2 : c ≠ 301 := fun e => by subst e; have : amTgN 301 = 27 := rfl; omega
    have e3 : c ≠ 302 := fun e => by subst e; have : amTgN 302 = 26 := rfl; omega
    have h2 : amTgN c = (amShp c).1 := by
      unfold amTgN
      split
      · exact absurd rfl e1
      · exact absurd rfl e2
      · exact absurd rfl e3
      · rfl
    have h3 : c < 95 := by
      apply Nat.lt_of_not_le
      intro hc
      have : amShp c = (99, 0) := by
        unfold amShp
        rw [List.getD_eq_getElem?_getD, List.getElem?_eq_none (by show amShpL.length ≤ c; exact hc)]
        rfl
      rw [h2, this] at h1
      have : (99 : Nat) = t := h1
      omega
    exact ⟨Int.natCast_nonneg c, by rw [← h1, h2]; rfl, h3, by intro e; exact e1 (Int.ofNat.inj e), by intro e; exact e2 (Int.ofNat.inj e), by intro e; exact e3 (Int.ofNat.inj e)⟩
  | negSucc c =>
    have h1 : 99 = t := h
    omega
theorem amAd_lt {G : amG} {k : Nat} (h : k < 95) : amAd G k = G.1 + k := by
  unfold amAd
  rw [if_neg (by omega), if_neg (by omega), if_neg (by omega)]
theorem amOk_lt {n : Nat} {x : Int} (h : amOk n 2 x) (h1 : x ≠ 300) (h2 : x ≠ 301) (h3 : x ≠ 302) : x.toNat < n := by
  obtain ⟨h4, h5⟩ := h
  rcases h5 with h | h | h | h
  · omega
  · exact absurd h h1
  · exact absurd h h2
  · exact absurd h h3
theorem amVal_ref {G : amG} {x : Int} (h : 0 ≤ x) : amVal G 2 x = .ref (amAd G x.toNat) := if_neg (by omega)
theorem amVs_ref {G : amG} {x : Int} {ts : List Nat} {st : List Int} (h : 0 ≤ x) : amVs G (2 :: ts) (x :: st) = .ref (amAd G x.toNat) :: amVs G ts st := congrArg (· :: amVs G ts st) (amVal_ref h)
theorem range_get {α : Type} {N k : Nat} {f : Nat → α} (h : k < N) : ((List.range N).map f)[k]? = some (f k) := by
  rw [List.getElem?_map, List.getElem?_range h]; rfl
theorem range_set {α : Type} {N k : Nat} {f : Nat → α} {v : α} (h : k < N) : ((List.range N).map f).set k v = (List.range N).map (fun j => if j = k then v else f j) := by
  apply List.ext_getElem?
  intro j
  by_cases hj : j < N
  · rw [range_get hj]
    by_cases e : j = k
    · subst e
      rw [List.getElem?_set_self (by simpa using hj)]; simp
    · rw [List.getElem?_set_ne (Ne.symm e), range_get hj]; simp [e]
  · rw [List.getElem?_eq_none (by simp; omega), List.getElem?_eq_none (by simp; omega)]
theorem W_size {p : Program} {l : Launch} {e : Env} {R : Room} {s : State} {m : MethodId} {args : Array Value} {below : List Frame} {meth : Method} {c : Code} {H : Heap} {locs : List Loc} {cells slots : Nat} {Q : State → Prop} {g : JFrame} (h : H.size ≤ s.heap.size + cells → W p l e R s m args below meth c H locs cells slots Q g) : W p l e R s m args below meth c H locs cells slots Q g := by
  intro T hT X
  exact h (by rw [← hT]; exact X.heapSize) T hT X
theorem amH.low {D : va_G} {E : Nat → ClassId} {G : amG} {cr : amC} {n : Nat} {μ : amM} {H : Heap} (h : amH D E G cr n μ H) (hn : n ≠ 0) : G.1 + n ≤ H.size := by
  have h1 := (h.1 (n - 1) _ (amWs_get (by omega))).lt
  have h2 : G.1 + (n - 1) < H.size := h1
  omega
