/-! ===== ends of blocks, blocks, methods ===== -/
def amRin (t : Nat) : Instr := if t = 3 then .return_ else if t = 1 then .lreturn else .ireturn
def amRvs (G : amG) (t : Nat) (x : Int) : List Value := if t = 3 then [] else [amVal G (if t = 1 then 1 else 0) x]
/-- what is asked of the method's end -/
def amRetOk (p : Program) (l : Launch) (e : Env) (s : State) (m : MethodId) (args : Array Value) (below : List Frame) (meth : Method) (c : Code) (D : va_G) (E : Nat → ClassId) (G : amG) (cr : amC) (L : Nat) (xs : Nat → Int32) (mi d n0 : Nat) (R : Room) (r : Int × amM) (Qf : State → Prop) : Prop :=
  ∀ (pc n : Nat) (H : Heap) (locs : List Loc) (sl : Array Slot), decode (amBy mi) pc = .ok (amRin (mt mi).1, 1) → amH D E G cr n r.2 H → amX L xs r.2 → ((mt mi).1 = 1 → R64 r.1) → ((mt mi).1 = 0 ∨ (mt mi).1 = 4 → R32 r.1) → ((mt mi).1 = 4 → r.1 = 0 ∨ r.1 = 1) → ((mt mi).1 = 0 ∨ (mt mi).1 = 1 ∨ (mt mi).1 = 3 ∨ (mt mi).1 = 4) → va_S (fun q => G.1 ≤ q) s.heap H locs → n0 ≤ n →
    W p l e R s m args below meth c H locs (n - n0) (amSs n - amSs n0) Qf (F0 m pc sl (amRvs G (mt mi).1 r.1))
theorem find_at {z : List (Int × Nat)} {x : Int} {j : Nat} {lo : Int} (hz : ∀ i, i < z.length → (z.getD i (0, 0)).1 = lo + i) (hj : j < z.length) (hx : x = lo + j) : z.find? (fun q => q.1 == x) = some (z.getD j (0, 0)) := by
  have hmem : z.getD j (0, 0) ∈ z := by
    rw [List.getD_eq_getElem?_getD, List.getElem?_eq_getElem hj]
    exact List.getElem_mem hj
  cases hf : z.find? (fun q => q.1 == x) with
  | none =>
    have h1 := List.find?_eq_none.mp hf _ hmem
    exfalso
    apply h1
    rw [hz j hj, hx]
    simp
  | some q =>
    have h1 := List.find?_some hf
    have h2 := List.mem_of_find?_eq_some hf
    obtain ⟨i, hi, h3⟩ := List.getElem_of_mem h2
    have h4 : z.getD i (0, 0) = q := by rw [List.getD_eq_getElem?_getD, List.getElem?_eq_getElem hi]; exact h3
    have h5 := hz i hi
    rw [h4] at h5
    have h6 : q.1 = x := by simpa using h1
    have h7 : i = j := by omega
    rw [← h7, h4]
theorem find_no {z : List (Int × Nat)} {x lo : Int} (hz : ∀ i, i < z.length → (z.getD i (0, 0)).1 = lo + i) (hx : x < lo ∨ lo + z.length ≤ x) : z.find? (fun q => q.1 == x) = none := by
  apply List.find?_eq_none.mpr
  intro q hq h1
  obtain ⟨i, hi, h3⟩ := List.getElem_of_mem hq
  have h4 : z.getD i (0, 0) = q := by rw [List.getD_eq_getElem?_getD, List.getElem?_eq_getElem hi]; exact h3
  have h5 := hz i hi
  rw [h4] at h5
  have h6 : q.1 = x := by simpa using h1
  omega
theorem look_at {mi pc : Nat} {ts tl : List Nat} {dflt x : Int} : ∀ {z : List (Int × Nat)} {ps : List (Int × Int)}, amLk mi pc ts tl z ps = true → (z.find? (fun q => q.1 == x) = none ∧ Op.lookupswitch.offset ps dflt x = dflt) ∨ (∃ q off, z.find? (fun q => q.1 == x) = some q ∧ Op.lookupswitch.offset ps dflt x = off ∧ amJmp mi q.2 (pc + off) ts tl = true)
  | [], [], _ => Or.inl ⟨rfl, rfl⟩
  | q :: z, (a, o) :: ps, h => by
    unfold amLk at h
    simp only [Bool.and_eq_true] at h
    obtain ⟨⟨h1, h2⟩, h3⟩ := h
    have h1 : q.1 = a := of_decide_eq_true h1
    rw [Op.lookupswitch.offset_cons]
    by_cases e : a = x
    · refine Or.inr ⟨q, o, ?_, by rw [if_pos e], h2⟩
      rw [List.find?_cons_of_pos (by simp [h1, e])]
    · rw [if_neg e, List.find?_cons_of_neg (by simp [h1, e])]
      exact look_at h3
  | [], _ :: _, h => by cases h
  | _ :: _, [], h => by cases h
theorem go_fin {p : Program} {l : Launch} {e : Env} {s : State} {m : MethodId} {args : Array Value} {below : List Frame} {meth : Method} {c : Code} {D : va_G} {E : Nat → ClassId} {G : amG} {cr : amC} {L : Nat} {xs : Nat → Int32} {mi d n0 : Nat} {R : Room} {r : Int × amM} {Qf : State → Prop} {pc : Nat} {ts tl : List Nat} {call : Nat → List Int → amM → amR} {k : amJ} {nx : amN} (hC : amCx p s m args meth c D E G cr L xs mi d n0 R r) (hk : ∀ b, amGo p l e s m args below meth c D E G cr L xs mi d n0 R r Qf (blk mi b).1 (blk mi b).2.1 (blk mi b).2.2.1 (fun st ls μ => k b st ls μ)) (hRet : amRetOk p l e s m args below meth c D E G cr L xs mi d n0 R r Qf) {i : amI} (h : amFin mi pc i ts tl = true) : amGo p l e s m args below meth c D E G cr L xs mi d n0 R r Qf pc ts tl (stp cr call mrt i k nx) := by
  obtain ⟨ins, a, b, w, z⟩ := i
  cases ins
  case nop => exact go_fall hC (go_jump hk h)
  case goto off =>
    unfold amFin at h
    simp only [Bool.and_eq_true] at h
    have hj := amJmp_w h.2
    exact go_goto hC (of_decide_eq_true h.1) hj.1.symm (go_jump hk (by rw [hj.1]; exact h.2))
  case tableswitch dflt lo hi offs =>
    unfold amFin at h
    dsimp only at h
    split at h
    · simp only [Bool.and_eq_true] at h
      obtain ⟨⟨⟨h1, h2⟩, h3⟩, h4⟩ := h
      obtain ⟨h3, h5⟩ := of_decide_eq_true h3
      have hj := amJmp_w h2
      have h4' : ∀ j, j < offs.size → (z.getD j (0, 0)).1 = lo + j ∧ amJmp mi (z.getD j (0, 0)).2 (pc + offs.getD j 0) _ tl = true := fun j hj => by
        have h6 := List.all_eq_true.mp h4 j (List.mem_range.mpr hj)
        simp only [Bool.and_eq_true] at h6
        exact ⟨of_decide_eq_true h6.1, h6.2⟩
      have hz : ∀ i, i < z.length → (z.getD i (0, 0)).1 = lo + i := fun i hi => (h4' i (by omega)).1
      refine go_tableswitch hC (of_decide_eq_true h1) (fun x _ => ?_) hj.1.symm (go_jump hk (by rw [hj.1]; exact h2))
      by_cases hx : x < lo ∨ hi < x
      · exact Or.inl ⟨hx, find_no hz (by omega)⟩
      · have hlt : (x - lo).toNat < offs.size := by omega
        have hq := (h4' _ hlt).2
        have hj2 := amJmp_w hq
        refine Or.inr ⟨by omega, by omega, z.getD (x - lo).toNat (0, 0), offs.getD (x - lo).toNat 0, _, find_at hz (by omega) (by omega), ?_, hj2.1.symm, go_jump hk (by rw [hj2.1]; exact hq)⟩
        rw [Array.getD_eq_getD_getElem?, Array.getElem?_eq_getElem hlt]
        rfl
    · cases h
  case lookupswitch dflt ps =>
    unfold amFin at h
    dsimp only at h
    split at h
    · simp only [Bool.and_eq_true] at h
      obtain ⟨⟨⟨h1, h2⟩, h3⟩, h4⟩ := h
      have hj := amJmp_w h2
      refine go_lookupswitch hC (of_decide_eq_true h1) h3 (fun x _ => ?_) hj.1.symm (go_jump hk (by rw [hj.1]; exact h2))
      rcases look_at (dflt := dflt) (x := x) h4 with q | ⟨q, off, g1, g2, g3⟩
      · exact Or.inl q
      · have hj2 := amJmp_w g3
        exact Or.inr ⟨q, off, _, g1, g2, hj2.1.symm, go_jump hk (by rw [hj2.1]; exact g3)⟩
    · cases h
  case ireturn =>
    unfold amFin at h
    simp only [Bool.and_eq_true] at h
    obtain ⟨⟨h1, h2⟩, h3⟩ := h
    have h2 := of_decide_eq_true h2
    obtain ⟨h3, h4⟩ := of_decide_eq_true h3
    subst h2
    have h3 : a = (mt mi).1 := h3
    subst h3
    intro st lc μ n H locs sl hF hH hX hst hfr hS hn
    rcases st with _ | ⟨x, _ | ⟨x2, st⟩⟩
    · exact hst.elim
    · have hF : (if (mt mi).1 = 4 then (if x = 0 ∨ x = 1 then some (x, μ) else none) else some (x, μ)) = some r := hF
      have hr : r = (x, μ) ∧ ((mt mi).1 = 4 → x = 0 ∨ x = 1) := by
        by_cases e : (mt mi).1 = 4
        · rw [if_pos e] at hF
          obtain ⟨q1, q2⟩ := if_some hF
          exact ⟨(Option.some.inj q2).symm, fun _ => q1⟩
        · rw [if_neg e] at hF
          exact ⟨(Option.some.inj hF).symm, fun q => absurd q e⟩
      obtain ⟨rfl, hr2⟩ := hr
      have e1 : amRvs G (mt mi).1 x = amVs G [0] [x] := by unfold amRvs; rw [if_neg (by omega), if_neg (by omega)]; rfl
      have e2 : amRin (mt mi).1 = .ireturn := by unfold amRin; rw [if_neg (by omega), if_neg (by omega)]
      rw [← e1]
      exact hRet pc n H locs sl (by rw [e2]; exact of_decide_eq_true h1) hH hX (by omega) (fun _ => hst.1) hr2 (by omega) hS hn
    · exact hst.2.elim
  case lreturn =>
    unfold amFin at h
    simp only [Bool.and_eq_true] at h
    obtain ⟨⟨h1, h2⟩, h3⟩ := h
    have h2 := of_decide_eq_true h2
    have h3 := of_decide_eq_true h3
    subst h2
    intro st lc μ n H locs sl hF hH hX hst hfr hS hn
    rcases st with _ | ⟨x, _ | ⟨x2, st⟩⟩
    · exact hst.elim
    · have hF : some (x, μ) = some r := hF
      have hr : r = (x, μ) := (Option.some.inj hF).symm
      subst hr
      have e1 : amRvs G (mt mi).1 x = amVs G [1] [x] := by unfold amRvs; rw [if_neg (by omega), if_pos h3]; rfl
      have e2 : amRin (mt mi).1 = .lreturn := by unfold amRin; rw [if_neg (by omega), if_pos h3]
      rw [← e1]
      exact hRet pc n H locs sl (by rw [e2]; exact of_decide_eq_true h1) hH hX (fun _ => hst.1) (by omega) (by omega) (by omega) hS hn
    · exact hst.2.elim
  case return_ =>
    unfold amFin at h
    simp only [Bool.and_eq_true] at h
    obtain ⟨⟨h1, h2⟩, h3⟩ := h
    have h2 := of_decide_eq_true h2
    have h3 := of_decide_eq_true h3
    subst h2
    intro st lc μ n H locs sl hF hH hX hst hfr hS hn
    rcases st with _ | ⟨x, st⟩
    · have hF : some (0, μ) = some r := hF
      have hr : r = (0, μ) := (Option.some.inj hF).symm
      subst hr
      have e1 : amRvs G (mt mi).1 0 = amVs G [] [] := by unfold amRvs; rw [if_pos h3]; rfl
      have e2 : amRin (mt mi).1 = .return_ := by unfold amRin; rw [if_pos h3]
      rw [← e1]
      exact hRet pc n H locs sl (by rw [e2]; exact of_decide_eq_true h1) hH hX (by omega) (by omega) (by omega) (by omega) hS hn
    · exact hst.elim
  all_goals cases h
theorem go_blk {p : Program} {l : Launch} {e : Env} {s : State} {m : MethodId} {args : Array Value} {below : List Frame} {meth : Method} {c : Code} {D : va_G} {E : Nat → ClassId} {G : amG} {cr : amC} {L : Nat} {xs : Nat → Int32} {mi d n0 : Nat} {R : Room} {r : Int × amM} {Qf : State → Prop} {call : Nat → List Int → amM → amR} {k : amJ} (hC : amCx p s m args meth c D E G cr L xs mi d n0 R r) (hMet : amHm l cr call d) (hcm : ∀ m xs μ, amMr μ (call m xs μ)) (hkm : ∀ b st ls μ, amMr μ (k b st ls μ)) (hk : ∀ b, amGo p l e s m args below meth c D E G cr L xs mi d n0 R r Qf (blk mi b).1 (blk mi b).2.1 (blk mi b).2.2.1 (fun st ls μ => k b st ls μ)) (hRet : amRetOk p l e s m args below meth c D E G cr L xs mi d n0 R r Qf) : ∀ (cs : List amI) (pc : Nat) (ts tl : List Nat), ((∀ c k, cr c k = none) ∨ cs.all amPl = true) → amChk mi cs pc ts tl = true → amGo p l e s m args below meth c D E G cr L xs mi d n0 R r Qf pc ts tl (runB cr call mrt k cs)
  | [], _, _, _, _, h => by cases h
  | i :: cs, pc, ts, tl, hp, h => by
    unfold amChk at h
    rw [Bool.or_eq_true] at h
    rcases h with h | h
    · exact go_fin hC hk hRet h
    · simp only [Bool.and_eq_true] at h
      obtain ⟨h1, h2⟩ := h
      split at h2
      · next q hq =>
        have hp1 : (∀ c k, cr c k = none) ∨ amPl i = true := hp.imp id (fun q => (List.all_cons (f := amPl) ▸ q : (amPl i && cs.all amPl) = true) |> fun q => (Bool.and_eq_true _ _ ▸ q).1)
        have hp2 : (∀ c k, cr c k = none) ∨ cs.all amPl = true := hp.imp id (fun q => (List.all_cons (f := amPl) ▸ q : (amPl i && cs.all amPl) = true) |> fun q => (Bool.and_eq_true _ _ ▸ q).2)
        exact go_step hC hMet hcm (amMr_run hcm hkm cs) hk hp1 hq (of_decide_eq_true h1) (go_blk hC hMet hcm hkm hk hRet cs _ _ _ hp2 h2)
      · cases h2
theorem nrm_getD {tl : List Nat} {lc : List Int} {i : Nat} (h : tl.length = lc.length) (hi : tl.getD i 3 ≠ 3) : (nrm (tl.map (fun t => !(t == 3))) lc).getD i 0 = lc.getD i 0 := by
  have hl : i < tl.length := by
    apply Nat.lt_of_not_le
    intro q
    apply hi
    rw [List.getD_eq_getElem?_getD, List.getElem?_eq_none q]; rfl
  have hl2 : i < lc.length := by omega
  unfold nrm
  rw [List.getD_eq_getElem?_getD, List.getD_eq_getElem?_getD, List.getElem?_zipWith, List.getElem?_map, List.getElem?_eq_getElem hl, List.getElem?_eq_getElem hl2]
  have h2 : tl[i] ≠ 3 := by
    rw [List.getD_eq_getElem?_getD, List.getElem?_eq_getElem hl] at hi
    exact hi
  have h3 : (tl[i] == 3) = false := by simpa using h2
  show (bif !(tl[i] == 3) then lc[i] else 0) = lc[i]
  rw [h3]; rfl
theorem nrm_len (m : List Bool) (l : List Int) : (nrm m l).length = min m.length l.length := List.length_zipWith
theorem amFr.nrm {nL n : Nat} {G : amG} {tl : List Nat} {lc : List Int} {sl : Array Slot} (h : amFr nL G n tl lc sl) : amFr nL G n tl (nrm (tl.map (fun t => !(t == 3))) lc) sl := by
  obtain ⟨h1, h2, h3, h4⟩ := h
  refine ⟨by rw [nrm_len]; simp; omega, h2, ⟨h3.1, h3.2.1, fun q hq => ?_⟩, fun i hi => ?_⟩
  · obtain ⟨i, hi, rfl⟩ := amLv_mem.mp hq
    rw [nrm_getD h1 hi]
    exact h3.2.2 _ (amLv_mem.mpr ⟨i, hi, rfl⟩)
  · rw [nrm_getD h1 hi]
    exact h4 i hi
theorem go_AtN {p : Program} {l : Launch} {e : Env} {s : State} {m : MethodId} {args : Array Value} {below : List Frame} {meth : Method} {c : Code} {D : va_G} {E : Nat → ClassId} {G : amG} {cr : amC} {L : Nat} {xs : Nat → Int32} {mi d n0 : Nat} {R : Room} {r : Int × amM} {Qf : State → Prop} {call : Nat → List Int → amM → amR} (hC : amCx p s m args meth c D E G cr L xs mi d n0 R r) (hMet : amHm l cr call d) (hcm : ∀ m xs μ, amMr μ (call m xs μ)) (hRet : amRetOk p l e s m args below meth c D E G cr L xs mi d n0 R r Qf) (hchk : ∀ b, b < (prog mi).length → amChk mi (blk mi b).2.2.2 (blk mi b).1 (blk mi b).2.1 (blk mi b).2.2.1 = true ∨ (blk mi b).2.2.2 = []) (hpl : (∀ c k, cr c k = none) ∨ amPlM mi = true) : ∀ (N b : Nat), amGo p l e s m args below meth c D E G cr L xs mi d n0 R r Qf (blk mi b).1 (blk mi b).2.1 (blk mi b).2.2.1 (fun st ls μ => AtN cr call mi N b st (nrm (msk mi b) ls) μ)
  | 0, b => fun st lc μ n H locs sl hF => by cases hF
  | N + 1, b => by
    intro st lc μ n H locs sl hF hH hX hst hfr hS hn
    have hF : runB cr call mrt (fun b st ls μ => AtN cr call mi N b st (nrm (msk mi b) ls) μ) (blk mi b).2.2.2 st (nrm (msk mi b) lc) μ = some r := hF
    by_cases hb : b < (prog mi).length
    · have hc := hchk b hb
      rcases hc with hc | hc
      case inr => rw [hc] at hF; cases hF
      refine go_blk hC hMet hcm (fun b st ls μ => amMr_AtN hcm mi N b st (nrm (msk mi b) ls) μ) (go_AtN hC hMet hcm hRet hchk hpl N) hRet (blk mi b).2.2.2 _ _ _ (hpl.imp id fun q => ?_) hc st (nrm (msk mi b) lc) μ n H locs sl hF hH hX hst hfr.nrm hS hn
      exact List.all_eq_true.mp q (blk mi b) (by
        unfold blk
        rw [List.getD_eq_getElem?_getD, List.getElem?_eq_getElem hb]
        exact List.getElem_mem hb)
    · exfalso
      have e : blk mi b = (0, [], [], []) := by
        unfold blk
        rw [List.getD_eq_getElem?_getD, List.getElem?_eq_none (Nat.le_of_not_lt hb)]
        rfl
      rw [e] at hF
      cases hF
