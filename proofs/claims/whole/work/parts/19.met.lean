/-! ===== methods: what the abstract machine answers, the method answers ===== -/
theorem amVal_02 {G : amG} {t : Nat} {x : Int} : (amVal G t x).category = (if t = 1 then 2 else 1) := by
  by_cases h : t = 1
  · subst h; rfl
  · rw [amVal_cat x h, if_neg h]
theorem lay_ne {p : Nat} {y : Int} {pt : List Nat} {ys : List Int} (hp : p ≠ 1) : lay (p :: pt) (y :: ys) = y :: lay pt ys := by
  match p, hp with
  | 0, _ => rfl
  | 1, h => exact absurd rfl h
  | n + 2, _ => rfl
/-- the locals at the start -/
theorem ent_args {G : amG} {n : Nat} : ∀ {pt : List Nat} {ys : List Int} (off : Nat), amStk n pt ys → ∀ i t, (pt.flatMap (fun t => if t = 1 then [1, 3] else [t])).getD i 3 = t → t ≠ 3 → (off + i, amVal G t ((lay pt ys).getD i 0)) ∈ lv_args off (amVs G pt ys) ∧ amOk n t ((lay pt ys).getD i 0)
  | [], [], off, _, i, t, h, ht => by
    exfalso
    apply ht
    rw [← h]
    cases i <;> rfl
  | p :: pt, y :: ys, off, hs, i, t, h, ht => by
    by_cases hp : p = 1
    · subst hp
      have e1 : ((1 :: pt).flatMap (fun t => if t = 1 then [1, 3] else [t])) = 1 :: 3 :: pt.flatMap (fun t => if t = 1 then [1, 3] else [t]) := rfl
      rw [e1] at h
      have e2 : lv_args off (amVs G (1 :: pt) (y :: ys)) = (off, Value.long (Int64.ofInt y)) :: lv_args (off + 2) (amVs G pt ys) := rfl
      rw [e2]
      have e3 : lay (1 :: pt) (y :: ys) = y :: 0 :: lay pt ys := rfl
      rw [e3]
      match i, h with
      | 0, h =>
        have h : 1 = t := h
        subst h
        exact ⟨List.mem_cons_self, hs.1⟩
      | 1, h =>
        have h : 3 = t := h
        exact absurd h.symm ht
      | i + 2, h =>
        have h : (pt.flatMap (fun t => if t = 1 then [1, 3] else [t])).getD i 3 = t := h
        have h3 := ent_args (G := G) (off + 2) hs.2 i t h ht
        refine ⟨List.mem_cons_of_mem _ ?_, h3.2⟩
        have h4 := h3.1
        rw [show off + 2 + i = off + (i + 2) by omega] at h4
        exact h4
    · have e1 : ((p :: pt).flatMap (fun t => if t = 1 then [1, 3] else [t])) = p :: pt.flatMap (fun t => if t = 1 then [1, 3] else [t]) := by
        rw [List.flatMap_cons, if_neg hp]; rfl
      rw [e1] at h
      have e2 : lv_args off (amVs G (p :: pt) (y :: ys)) = (off, amVal G p y) :: lv_args (off + 1) (amVs G pt ys) := by
        show (off, amVal G p y) :: lv_args (if (amVal G p y).category = 2 then off + 2 else off + 1) _ = _
        rw [amVal_cat y hp]; rfl
      rw [e2]
      have e3 := lay_ne (pt := pt) (ys := ys) (y := y) hp
      rw [e3]
      match i, h with
      | 0, h =>
        have h : p = t := h
        subst h
        exact ⟨List.mem_cons_self, hs.1⟩
      | i + 1, h =>
        have h : (pt.flatMap (fun t => if t = 1 then [1, 3] else [t])).getD i 3 = t := h
        have h3 := ent_args (G := G) (off + 1) hs.2 i t h ht
        refine ⟨List.mem_cons_of_mem _ ?_, h3.2⟩
        have h4 := h3.1
        rw [show off + 1 + i = off + (i + 1) by omega] at h4
        exact h4
  | [], _ :: _, _, hs, _, _, _, _ => hs.elim
  | _ :: _, [], _, hs, _, _, _, _ => hs.elim
theorem lay_len {n : Nat} : ∀ {pt : List Nat} {ys : List Int}, amStk n pt ys → (lay pt ys).length = (pt.flatMap (fun t => if t = 1 then [1, 3] else [t])).length
  | [], [], _ => rfl
  | p :: pt, y :: ys, hs => by
    by_cases hp : p = 1
    · subst hp
      have e3 : lay (1 :: pt) (y :: ys) = y :: 0 :: lay pt ys := rfl
      have e1 : ((1 :: pt).flatMap (fun t => if t = 1 then [1, 3] else [t])) = 1 :: 3 :: pt.flatMap (fun t => if t = 1 then [1, 3] else [t]) := rfl
      rw [e3, e1]
      simp [lay_len hs.2]
    · have e1 : ((p :: pt).flatMap (fun t => if t = 1 then [1, 3] else [t])) = p :: pt.flatMap (fun t => if t = 1 then [1, 3] else [t]) := by
        rw [List.flatMap_cons, if_neg hp]; rfl
      have e3 := lay_ne (pt := pt) (ys := ys) (y := y) hp
      rw [e3, e1]
      simp [lay_len hs.2]
  | [], _ :: _, hs => hs.elim
  | _ :: _, [], hs => hs.elim
theorem sl_len {G : amG} {n : Nat} : ∀ {pt : List Nat} {ys : List Int}, amStk n pt ys → (lg_sl (amVs G pt ys)).length = (pt.flatMap (fun t => if t = 1 then [1, 3] else [t])).length
  | [], [], _ => rfl
  | p :: pt, y :: ys, hs => by
    have e : lg_sl (amVs G (p :: pt) (y :: ys)) = (if (amVal G p y).category = 2 then [Slot.val (amVal G p y), Slot.second] else [Slot.val (amVal G p y)]) ++ lg_sl (amVs G pt ys) := rfl
    rw [e, List.flatMap_cons, List.length_append, List.length_append, sl_len hs.2, amVal_02]
    by_cases hp : p = 1
    · subst hp; rfl
    · rw [if_neg hp, if_neg hp]; rfl
  | [], _ :: _, hs => hs.elim
  | _ :: _, [], hs => hs.elim
theorem ent_fr {G : amG} {n mi : Nat} {ys : List Int} (he : amEnt mi = true) (hs : amStk n (amPt mi) ys) : amFr (amMax mi) G n (blk mi 0).2.2.1 (ent mi ys) ((lg_sl (amVs G (amPt mi) ys) ++ List.replicate (amMax mi - (lg_sl (amVs G (amPt mi) ys)).length) Slot.unset).toArray) := by
  obtain ⟨-, -, h3, h4, -, -⟩ := of_decide_eq_true he
  have hs' : amStk n (mt mi).2.2.1 ys := hs
  have l1 := lay_len hs'
  have l2 := sl_len (G := G) hs'
  have hl := lv_entry (amVs G (amPt mi) ys) (n := amMax mi) (by rw [show amPt mi = (mt mi).2.2.1 from rfl, l2]; exact h4)
  rw [h3]
  have hlen : (((mt mi).2.2.1.flatMap (fun t => if t = 1 then [1, 3] else [t])) ++ List.replicate (amMax mi - ((mt mi).2.2.1.flatMap (fun t => if t = 1 then [1, 3] else [t])).length) 3).length = amMax mi := by
    rw [List.length_append, List.length_replicate]; omega
  have elen : (ent mi ys).length = amMax mi := by
    unfold ent padz
    rw [List.length_append, List.length_replicate, l1]
    show _ = amMax mi
    unfold amMax at h4 ⊢
    omega
  have key : ∀ i t, (((mt mi).2.2.1.flatMap (fun t => if t = 1 then [1, 3] else [t])) ++ List.replicate (amMax mi - ((mt mi).2.2.1.flatMap (fun t => if t = 1 then [1, 3] else [t])).length) 3).getD i 3 = t → t ≠ 3 → (i, amVal G t ((ent mi ys).getD i 0)) ∈ lv_args 0 (amVs G (amPt mi) ys) ∧ amOk n t ((ent mi ys).getD i 0) := by
    intro i t hi ht
    by_cases hil : i < ((mt mi).2.2.1.flatMap (fun t => if t = 1 then [1, 3] else [t])).length
    · rw [List.getD_eq_getElem?_getD, List.getElem?_append_left hil, ← List.getD_eq_getElem?_getD] at hi
      have h5 := ent_args (G := G) 0 hs' i t hi ht
      have e : (ent mi ys).getD i 0 = (lay (mt mi).2.2.1 ys).getD i 0 := by
        unfold ent padz
        rw [List.getD_eq_getElem?_getD, List.getElem?_append_left (by omega), ← List.getD_eq_getElem?_getD]
      rw [e]
      rw [Nat.zero_add] at h5
      exact h5
    · exfalso
      apply ht
      rw [← hi, List.getD_eq_getElem?_getD, List.getElem?_append_right (by omega), List.getElem?_replicate]
      split <;> rfl
  refine ⟨by rw [hlen, elen], hlen, ⟨hl.1, hl.2.1, fun q hq => ?_⟩, fun i hi => (key i _ rfl hi).2⟩
  obtain ⟨i, hi, rfl⟩ := amLv_mem.mp hq
  exact hl.2.2 _ (key i _ rfl hi).1
set_option maxHeartbeats 1000000 in
theorem amMet_one {l : Launch} {cr : amC} (hcr : amCrOk cr) (hall : ∀ m, m < 268 → amChkM m = true) (hent : ∀ m, m < 268 → amEnt m = true) (hpl : ∀ m, m < 268 → amPlM m = true ∨ (amY m).name = "<init>") (d : Nat) (hMet : amHm l cr (RD cr d) d) (mi : Nat) (hm : mi < 266) (hi : (∀ c k, cr c k = none) ∨ (amY mi).name ≠ "<init>") : amMet l cr (RD cr (d + 1)) d mi := by
  intro D E G L xs n ys μ r hr hstk hcnt
  have hok := amMok_of (m := mi) (by omega)
  have hw := amM_words hok (by omega)
  obtain ⟨e1, e2, e3, e4, e5, e6⟩ := of_decide_eq_true (hent mi (by omega))
  refine Met.ofW (cc := amBy mi) (maxL := amMax mi) (ret := amRet mi) (hw.2.2.2.2.2.1 hm) rfl ?_
  intro p e s m args below meth c s₁ B hml hPc
  obtain ⟨rfl, hsz, hH, hX, hK⟩ := hPc
  have hts0 := atoms_spec (ws := amWsm mi) B.pre
  have hts : ∀ w ∈ amTbl, w.before (amVs G (amPt mi) ys).toArray s = true := fun w h => hts0 w (List.mem_cons_of_mem _ h)
  have hown : s.vm.findClass (amNm (amYt mi).1) = some m.cls := findClass_of_methodNamed B.named
  have hin : meth.name = (amY mi).name := (name_of_methodNamed B.named B.method).1
  rw [lg_entry_eq]
  obtain ⟨N, hN⟩ := AtL_iff.mp hr
  have hC : amCx p s m (amVs G (amPt mi) ys).toArray meth c D E G cr L xs mi d n (amRm d n (amCnt r.2)) r := ⟨B.exec, B.bytes, hml, hown, hts, hK, ⟨Nat.le_refl _, Nat.le_refl _, Nat.le_refl _, Nat.le_refl _⟩, B.notSynchronized, hin, hcr, hsz⟩
  have hfr := ent_fr (G := G) (hent mi (by omega)) hstk
  have hRet : amRetOk p l e s m (amVs G (amPt mi) ys).toArray below meth c D E G cr L xs mi d n (amRm d n (amCnt r.2)) r (MQ below (amQ D E G cr L xs (mt mi).1 r) (amVs G (amPt mi) ys).toArray s (amCnt r.2 - n) (amSs (amCnt r.2) - amSs n) (fun q => G.1 ≤ q)) := by
    intro pc n' H locs sl hd hH' hX' r1 r0 r4 rt hS hn
    have hc' := hH'.cnt
    have hret := B.returns
    unfold amRet at hret
    rw [← hc'] at hH' hn ⊢
    rcases rt with t | t | t | t
    · rw [t] at hd hret ⊢
      have e : amRvs G 0 r.1 = [.int (Int32.ofInt r.1)] := rfl
      rw [e]
      exact W.iret B.exec B.bytes hret (fun t ht hw => ⟨⟨Int32.ofInt r.1, (), rfl, ⟨rfl, r0 (Or.inl ‹_›)⟩, by rw [ht]; exact hH', hX'⟩, hS.F ht⟩) (fun q hq => hS.2.2 q hq) hd B.notSynchronized
    · rw [t] at hd hret ⊢
      have e : amRvs G 1 r.1 = [.long (Int64.ofInt r.1)] := rfl
      rw [e]
      exact W.lret B.exec B.bytes hret (fun t ht hw => ⟨⟨Int64.ofInt r.1, (), rfl, ⟨rfl, r1 ‹_›⟩, by rw [ht]; exact hH', hX'⟩, hS.F ht⟩) (fun q hq => hS.2.2 q hq) hd B.notSynchronized
    · rw [t] at hd hret ⊢
      have e : amRvs G 3 r.1 = [] := rfl
      rw [e]
      exact W.vret B.exec B.bytes hret (fun t ht hw => ⟨⟨(), rfl, trivial, by rw [ht]; exact hH', hX'⟩, hS.F ht⟩) (fun q hq => hS.2.2 q hq) hd B.notSynchronized
    · have h01 := r4 t
      have hr32 := r0 (Or.inr t)
      rw [t] at hd hret ⊢
      have e : amRvs G 4 r.1 = [.int (Int32.ofInt r.1)] := rfl
      rw [e]
      have hnar : narrow .boolean (.int (Int32.ofInt r.1)) = .int (Int32.ofInt r.1) := by
        rcases h01 with q | q <;> rw [q] <;> decide +kernel
      exact W.zret B.exec B.bytes hret hnar (fun t ht hw => ⟨⟨Int32.ofInt r.1, (), rfl, ⟨rfl, hr32⟩, by rw [ht]; exact hH', hX'⟩, hS.F ht⟩) (fun q hq => hS.2.2 q hq) hd B.notSynchronized
  have hchk : ∀ b, b < (prog mi).length → amChk mi (blk mi b).2.2.2 (blk mi b).1 (blk mi b).2.1 (blk mi b).2.2.1 = true ∨ (blk mi b).2.2.2 = [] := fun b hb => Or.inl (List.all_eq_true.mp (hall mi (by omega)) b (List.mem_range.mpr hb))
  have hpl2 : (∀ c k, cr c k = none) ∨ amPlM mi = true := by
    rcases hi with h | h
    · exact Or.inl h
    · exact Or.inr ((hpl mi (by omega)).resolve_right h)
  cases N with
  | zero => cases hN
  | succ N =>
    have hF : runB cr (RD cr d) mrt (fun b st ls μ => AtN cr (RD cr d) mi N b st (nrm (msk mi b) ls) μ) (blk mi 0).2.2.2 [] (ent mi ys) μ = some r := hN
    have hcm : ∀ m xs μ, amMr μ (RD cr d m xs μ) := fun m xs μ => amMr_RD d m xs μ
    have hgo := go_blk hC hMet hcm (fun b st ls μ => amMr_AtN hcm mi N b st (nrm (msk mi b) ls) μ) (go_AtN hC hMet hcm hRet hchk hpl2 N) hRet (blk mi 0).2.2.2 0 [] (blk mi 0).2.2.1 (hpl2.imp id fun q => by
      exact List.all_eq_true.mp q (blk mi 0) (by
        unfold blk
        rw [List.getD_eq_getElem?_getD, List.getElem?_eq_getElem e6]
        exact List.getElem_mem e6)) (by
      have h0 := List.all_eq_true.mp (hall mi (by omega)) 0 (List.mem_range.mpr e6)
      rw [e1, e2] at h0
      exact h0) [] (ent mi ys) μ n s.heap [] _ hF hH hX trivial hfr va_S.rf (Nat.le_refl _)
    rw [Nat.sub_self, Nat.sub_self] at hgo
    exact hgo
theorem amMet_RD {l : Launch} {cr : amC} (hcr : amCrOk cr) (hall : ∀ m, m < 268 → amChkM m = true) (hent : ∀ m, m < 268 → amEnt m = true) (hpl : ∀ m, m < 268 → amPlM m = true ∨ (amY m).name = "<init>") : ∀ d mi, mi < 266 → ((∀ c k, cr c k = none) ∨ (amY mi).name ≠ "<init>") → amMet l cr (RD cr (d + 1)) d mi := by
  intro d
  induction d with
  | zero => exact fun mi hm hi => amMet_one hcr hall hent hpl 0 (Or.inl fun _ _ _ => rfl) mi hm hi
  | succ d ih => exact fun mi hm hi => amMet_one hcr hall hent hpl (d + 1) (Or.inr ⟨d, Nat.le_refl _, ih⟩) mi hm hi
