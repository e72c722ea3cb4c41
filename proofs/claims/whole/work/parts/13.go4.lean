/-! ===== calls, new cells ===== -/
/-- a method's words -/
def amWsm (mi : Nat) : List Jvm.Cond := .code (amY mi) (amBy mi) (amMax mi) (amRet mi) :: amTbl
def amPt (mi : Nat) : List Nat := (mt mi).2.2.1
def amPc (D : va_G) (E : Nat → ClassId) (G : amG) (cr : amC) (L : Nat) (xs : Nat → Int32) (mi n : Nat) (ys : List Int) (μ : amM) : Array Value → State → Prop := va_Pc (amVs G (amPt mi) ys) (fun U => U.heap.size = G.1 + n ∧ amH D E G cr n μ U.heap ∧ amX L xs μ ∧ amK D E G L xs U U.heap)
def amQ (D : va_G) (E : Nat → ClassId) (G : amG) (cr : amC) (L : Nat) (xs : Nat → Int32) (t : Nat) (r : Int × amM) : Array Value → State → Outcome → State → Prop := match t with
  | 1 => va_Ql (S := Unit) (fun v _ => v = Int64.ofInt r.1 ∧ R64 r.1) (fun _ t => amH D E G cr (amCnt r.2) r.2 t.heap ∧ amX L xs r.2) (fun q => G.1 ≤ q)
  | 3 => va_Qv (S := Unit) (fun _ => True) (fun _ t => amH D E G cr (amCnt r.2) r.2 t.heap ∧ amX L xs r.2) (fun q => G.1 ≤ q)
  | _ => va_Qi (S := Unit) (fun v _ => v = Int32.ofInt r.1 ∧ R32 r.1) (fun _ t => amH D E G cr (amCnt r.2) r.2 t.heap ∧ amX L xs r.2) (fun q => G.1 ≤ q)
/-- what is proved of a method: where the abstract one answers, it answers so -/
def amMet (l : Launch) (cr : amC) (call : Nat → List Int → amM → amR) (d mi : Nat) : Prop := ∀ (D : va_G) (E : Nat → ClassId) (G : amG) (L : Nat) (xs : Nat → Int32) (n : Nat) (ys : List Int) (μ : amM) (r : Int × amM), call mi ys μ = some r → amStk n (amPt mi) ys → amCnt μ = n →
  Met l (amY mi) (amWsm mi) (amRm d n (amCnt r.2)) (amPc D E G cr L xs mi n ys μ) (amQ D E G cr L xs (mt mi).1 r) (amCnt r.2 - n) (amSs (amCnt r.2) - amSs n) (fun q => G.1 ≤ q)
theorem amPc_blind {D : va_G} {E : Nat → ClassId} {G : amG} {cr : amC} {L : Nat} {xs : Nat → Int32} {mi n : Nat} {ys : List Int} {μ : amM} : FrameBlind (amPc D E G cr L xs mi n ys μ) := by
  intro a U g mk q
  obtain ⟨q1, q2, q3, q4, q5⟩ := q
  exact ⟨q1, q2, q3, q4, q5.moved (U := U.calling g mk a) (State.WarmedH.refl U) (fun _ _ => rfl) (by rw [show (U.calling g mk a).heap = U.heap from rfl, q2]; omega)⟩
theorem amQ_i {D : va_G} {E : Nat → ClassId} {G : amG} {cr : amC} {L : Nat} {xs : Nat → Int32} {t : Nat} {r : Int × amM} (h1 : t ≠ 1) (h3 : t ≠ 3) : amQ D E G cr L xs t r = va_Qi (S := Unit) (fun v _ => v = Int32.ofInt r.1 ∧ R32 r.1) (fun _ t => amH D E G cr (amCnt r.2) r.2 t.heap ∧ amX L xs r.2) (fun q => G.1 ≤ q) := by
  unfold amQ
  split
  · exact absurd rfl h1
  · exact absurd rfl h3
  · rfl
theorem amCw_some {w : Option Jvm.Cond} {y : MethodName} {n : Nat} {t : Option FieldType} (h : amCw w y n t = true) : w = some (.code y (amCb w) n t) := by
  unfold amCw at h
  split at h
  · next y' b l' r' =>
    obtain ⟨rfl, rfl, rfl⟩ := of_decide_eq_true h
    rfl
  · cases h
/-- what the checked words of a method say -/
theorem amM_words {mi : Nat} (h : amMok mi = true) (h2' : mi < 268) : Cond.code (amY mi) (amBy mi) (amMax mi) (amRet mi) ∈ amTbl ∧ Cond.initialized (amY mi).cls ∈ amTbl ∧
    ((mt mi).2.1 = 99 → Cond.static (amY mi) ∈ amTbl) ∧ ((mt mi).2.1 ≠ 99 → Cond.instanceMethod (amY mi) ∈ amTbl) ∧
    ((mt mi).2.1 ≠ 99 → (amY mi).name ≠ "<init>" → Cond.selects (amY mi).cls (amY mi) (amY mi) ∈ amTbl) ∧
    (mi < 266 → plainName (amY mi).cls = true) ∧ ((amY mi).cls ≠ "java/lang/invoke/MethodHandle" ∧ (amY mi).cls ≠ "java/lang/invoke/VarHandle") ∧
    ((parseMethodDescriptor (amY mi).desc).map (fun d => d.parameters.length) = some (if (mt mi).2.1 = 99 then (mt mi).2.2.1.length else (mt mi).2.2.1.length - 1)) ∧
    ((mt mi).2.1 = 99 ∨ (amCl[(mt mi).2.1]?).map (fun r => r.1) = some (amY mi).cls) ∧ amMax mi ≤ 12 ∧ (lg_sl ((mt mi).2.2.1.map (fun t => if t = 1 then Value.long 0 else .int 0))).length ≤ amMax mi := by
  have h2 : mi ≠ 268 := by omega
  unfold amMok at h
  simp only [Bool.and_eq_true] at h
  obtain ⟨⟨⟨⟨⟨⟨⟨⟨⟨⟨c1, c2⟩, c3⟩, c4⟩, c5⟩, c6⟩, c7⟩, c8⟩, c9⟩, c10⟩, c11⟩ := h
  have e1 := amCw_some c1
  have eb : amBy mi = amCb (amWd (amWm mi).1) := by unfold amBy; rw [if_neg h2]
  refine ⟨by rw [eb]; exact amTbl_in e1 rfl, amTbl_in (of_decide_eq_true c2) rfl, fun q => ?_, fun q => ?_, fun q1 q2 => ?_, of_decide_eq_true c5, ⟨of_decide_eq_true c6, of_decide_eq_true c7⟩, of_decide_eq_true c8, of_decide_eq_true c9, of_decide_eq_true c10, of_decide_eq_true c11⟩
  · rw [if_pos q] at c3
    exact amTbl_in (of_decide_eq_true c3) rfl
  · rw [if_neg q] at c3
    exact amTbl_in (of_decide_eq_true c3) rfl
  · rw [if_neg (by rintro (q | q); exact q1 q; exact q2 q)] at c4
    split at c4
    · next q3 => exact amTbl_sel h2' q1 q3
    · exact amTbl_in (of_decide_eq_true c4) rfl
theorem bnd_some {o : amR} {f : Int → amM → amR} {r : Int × amM} (h : bnd o f = some r) : ∃ q, o = some q ∧ f q.1 q.2 = some r := by
  cases o with
  | none => cases h
  | some q => exact ⟨q, rfl, h⟩
def amPush (mi : Nat) (ts : List Nat) : List Nat := if (mt mi).1 = 3 then ts else (if (mt mi).1 = 1 then 1 else 0) :: ts
theorem amFrame {G : amG} {s : State} {H : Heap} {locs : List Loc} {n0 : Nat} (hS : va_S (fun q => G.1 ≤ q) s.heap H locs) (hsz : s.heap.size = G.1 + n0) : ∀ q : Nat, q < G.1 → H[q]? = s.heap[q]? := fun q hq => hS.2.1 q (by omega) (by omega)
theorem amSize {D : va_G} {E : Nat → ClassId} {G : amG} {cr : amC} {n n0 : Nat} {μ : amM} {s : State} {H : Heap} {locs : List Loc} (hH : amH D E G cr n μ H) (hS : va_S (fun q => G.1 ≤ q) s.heap H locs) (hsz : s.heap.size = G.1 + n0) (hn : n0 ≤ n) (hq : H.size ≤ s.heap.size + (n - n0)) : H.size = G.1 + n := by
  rcases Nat.eq_zero_or_pos n with q | q
  · have := hS.1
    omega
  · have := hH.low (by omega)
    omega
theorem amVs_app {G : amG} : ∀ {t1 t2 : List Nat} {x1 x2 : List Int}, t1.length = x1.length → amVs G (t1 ++ t2) (x1 ++ x2) = amVs G t1 x1 ++ amVs G t2 x2
  | [], _, [], _, _ => rfl
  | t :: t1, _, x :: x1, _, h => congrArg (amVal G t x :: ·) (amVs_app (Nat.succ.inj h))
  | [], _, _ :: _, _, h => by cases h
  | _ :: _, _, [], _, h => by cases h
theorem amVs_len {G : amG} {n : Nat} {ts : List Nat} {xs : List Int} (h : amStk n ts xs) : (amVs G ts xs).length = ts.length := by
  unfold amVs
  rw [List.length_zipWith, h.len, Nat.min_self]
/-- the stack at a call: what is taken, turned round, and the rest -/
theorem amStk_call {G : amG} {n : Nat} {pt ts : List Nat} {st : List Int} (h : amStk n (pt.reverse ++ ts) st) : amStk n pt (st.take pt.length).reverse ∧ amStk n ts (st.drop pt.length) ∧ amVs G (pt.reverse ++ ts) st = (amVs G pt (st.take pt.length).reverse).reverse ++ amVs G ts (st.drop pt.length) := by
  have h1 := h.split
  rw [List.length_reverse] at h1
  have h2 := h1.1.rev
  rw [List.reverse_reverse] at h2
  refine ⟨h2, h1.2, ?_⟩
  have e := amVs_rev G h2.len
  rw [List.reverse_reverse] at e
  rw [← e]
  conv => lhs; rw [← List.take_append_drop pt.length st]
  exact amVs_app h1.1.len
theorem getLastD_rev {l : List Int} {x : Int} {t : List Int} (h : l.reverse = x :: t) (d : Int) : l.getLastD d = x := by
  have e : l = t.reverse ++ [x] := by
    rw [← List.reverse_reverse l, h, List.reverse_cons]
  rw [e]
  simp
theorem go_after {p : Program} {l : Launch} {e : Env} {s : State} {m : MethodId} {args : Array Value} {below : List Frame} {meth : Method} {c : Code} {D : va_G} {E : Nat → ClassId} {G : amG} {cr : amC} {L : Nat} {xs : Nat → Int32} {mi d n0 : Nat} {R : Room} {r : Int × amM} {Qf : State → Prop} {pc : Nat} {ts tl : List Nat} {nx : amN} (hC : amCx p s m args meth c D E G cr L xs mi d n0 R r) {a : Nat} {lc : List Int} {n : Nat} {H : Heap} {locs : List Loc} {sl : Array Slot} {stk : List Value} {r1 : Int × amM} {av : Array Value} {rest : List Int} (hmono : ∀ st ls μ, amMr μ (nx st ls μ)) (hn1 : n ≤ amCnt r1.2) (hF : nx (if (mt a).1 = 3 then rest else r1.1 :: rest) lc r1.2 = some r) (hrs : amStk n ts rest) (hfr : amFr (amMax mi) G n tl lc sl) (hS : va_S (fun q => G.1 ≤ q) s.heap H locs) (hn : n0 ≤ n) (h : amGo p l e s m args below meth c D E G cr L xs mi d n0 R r Qf (pc + 3) (amPush a ts) tl nx) (hr : va_Run p l e R s m args below meth c H locs (n - n0) (amSs n - amSs n0) (amCnt r1.2 - n) (amSs (amCnt r1.2) - amSs n) (F0 m pc sl stk) (amVs G ts rest) (amQ D E G cr L xs (mt a).1 r1 av) (fun q => G.1 ≤ q)) : W p l e R s m args below meth c H locs (n - n0) (amSs n - amSs n0) Qf (F0 m pc sl stk) := by
  obtain ⟨hx, hb, hml, hown, hts, hK, hR, hlk, hnm, hcr, hsz⟩ := hC
  have hle := hmono _ _ _ r hF
  have s1 := amSs_le hn
  have s2 := amSs_le hn1
  have c1 : n - n0 + (amCnt r1.2 - n) = amCnt r1.2 - n0 := by omega
  have c2 : amSs n - amSs n0 + (amSs (amCnt r1.2) - amSs n) = amSs (amCnt r1.2) - amSs n0 := by omega
  by_cases t1 : (mt a).1 = 1
  · rw [t1] at hr
    rw [if_neg (by omega)] at hF
    refine va_calll (a := av) hr hS (fun _ _ h => h) (fun _ h => h) (fun v u t H1 locs1 ht hal hp hB hz hk hS1 => ?_)
    rw [ht] at hB
    rw [c1, c2, hp.1]
    have h5 := h (r1.1 :: rest) lc r1.2 (amCnt r1.2) H1 locs1 sl hF hB.1 hB.2 (by unfold amPush; rw [if_neg (by omega), if_pos t1]; exact ⟨hp.2, hrs.up hn1⟩) (hfr.up hn1) hS1 (by omega)
    have e : amVs G (amPush a ts) (r1.1 :: rest) = .long (Int64.ofInt r1.1) :: amVs G ts rest := by unfold amPush; rw [if_neg (by omega), if_pos t1]; rfl
    rw [e] at h5
    exact h5
  · by_cases t3 : (mt a).1 = 3
    · rw [t3] at hr
      rw [if_pos t3] at hF
      refine va_callv (a := av) hr hS (fun _ _ h => h) (fun _ h => h) (fun u t H1 locs1 ht hal hp hB hz hk hS1 => ?_)
      rw [ht] at hB
      rw [c1, c2]
      have h5 := h rest lc r1.2 (amCnt r1.2) H1 locs1 sl hF hB.1 hB.2 (by unfold amPush; rw [if_pos t3]; exact hrs.up hn1) (hfr.up hn1) hS1 (by omega)
      have e : amPush a ts = ts := if_pos t3
      rw [e] at h5
      exact h5
    · rw [amQ_i t1 t3] at hr
      rw [if_neg t3] at hF
      refine va_calli (a := av) hr hS (fun _ _ h => h) (fun _ h => h) (fun v u t H1 locs1 ht hal hp hB hz hk hS1 => ?_)
      rw [ht] at hB
      rw [c1, c2, hp.1]
      have h5 := h (r1.1 :: rest) lc r1.2 (amCnt r1.2) H1 locs1 sl hF hB.1 hB.2 (by unfold amPush; rw [if_neg t3, if_neg t1]; exact ⟨hp.2, hrs.up hn1⟩) (hfr.up hn1) hS1 (by omega)
      have e : amVs G (amPush a ts) (r1.1 :: rest) = .int (Int32.ofInt r1.1) :: amVs G ts rest := by unfold amPush; rw [if_neg t3, if_neg t1]; rfl
      rw [e] at h5
      exact h5
theorem go_callV {p : Program} {l : Launch} {e : Env} {s : State} {m : MethodId} {args : Array Value} {below : List Frame} {meth : Method} {c : Code} {D : va_G} {E : Nat → ClassId} {G : amG} {cr : amC} {L : Nat} {xs : Nat → Int32} {mi d n0 : Nat} {R : Room} {r : Int × amM} {Qf : State → Prop} {pc : Nat} {ts tl : List Nat} {call : Nat → List Int → amM → amR} {k : amJ} {nx : amN} (hC : amCx p s m args meth c D E G cr L xs mi d n0 R r) {i a w dd : Nat} {z : List (Int × Nat)} (hdd : dd + 1 ≤ d) (hMet : amMet l cr call dd a) (hok : amMok a = true) (ha : a < 266) (hst99 : (mt a).2.1 ≠ 99) (hni : (amY a).name ≠ "<init>") (hci : (mt a).2.1 < 20) (hpt : ∃ pt, amPt a = 2 :: pt) (hw : Cond.methodLink (amNm (amYt mi).1) i (amY a) ∈ amTbl) (hcat : (ts.map (fun t => if t = 1 then 2 else 1)).sum ≤ 8) (hcm : ∀ m xs μ, amMr μ (call m xs μ)) (hmono : ∀ st ls μ, amMr μ (nx st ls μ)) (hd : decode (amBy mi) pc = .ok (.invokevirtual i, 3)) (h : amGo p l e s m args below meth c D E G cr L xs mi d n0 R r Qf (pc + 3) (amPush a ts) tl nx) : amGo p l e s m args below meth c D E G cr L xs mi d n0 R r Qf pc ((amPt a).reverse ++ ts) tl (stp cr call mrt (.invokevirtual i, a, (amPt a).length, w, z) k nx) := by
  have hC0 := hC
  obtain ⟨hx, hb, hml, hown, hts, hK, hR, hlk, hnm, hcr, hsz⟩ := hC
  intro st lc μ n H locs sl hF hH hX hst hfr hS hn
  obtain ⟨w1, w2, -, w4, w5, w6, w7, w8, w9, w10, w11⟩ := amM_words hok (by omega)
  have hF : (if amTg ((st.take (amPt a).length).getLastD (-1)) = (mt a).2.1 then bnd (call a (st.take (amPt a).length).reverse μ) (fun v μ => nx (if (mt a).1 = 3 then st.drop (amPt a).length else v :: st.drop (amPt a).length) lc μ) else none) = some r := hF
  obtain ⟨htg, hF⟩ := if_some hF
  obtain ⟨r1, hr1, hF2⟩ := bnd_some hF
  obtain ⟨k1, k2, k3⟩ := amStk_call (G := G) hst
  have hc0 := hH.cnt
  have hnr := hcm a (st.take (amPt a).length).reverse μ r1 hr1
  rw [hc0] at hnr
  have hM := hMet D E G L xs n _ μ r1 hr1 k1 hc0
  have hle := hmono _ _ _ r hF2
  have s1 := amSs_le hn
  have s2 := amSs_le hnr
  have s3 := amSs_le hle
  refine W_size (fun hq => ?_)
  have hHs := amSize hH hS hsz hn hq
  refine go_after hC0 (a := a) hmono hnr hF2 k2 hfr hS hn h (av := (amVs G (amPt a) (st.take (amPt a).length).reverse).toArray) ?_
  obtain ⟨pt, hpt⟩ := hpt
  generalize hys : (st.take (amPt a).length).reverse = ys at *
  cases ys with
  | nil => rw [hpt] at k1; exact k1.elim
  | cons x ys =>
    have htg2 : amTg x = (mt a).2.1 := by rw [← getLastD_rev hys (-1)]; exact htg
    obtain ⟨g1, g2, g3, g4, g5, g6⟩ := tg_shp htg2 (by omega)
    rw [hpt] at k1 k3 k2 ⊢
    have hlt := amOk_lt k1.1 g4 g5 g6
    have he := amWs_get (E := E) (G := G) (C := amCt cr μ) hlt
    rw [amCellE_obj g2 hci] at he
    rcases w9 with q | q
    · exact absurd q hst99
    cases hcl : amCl[(mt a).2.1]? with
    | none => rw [hcl] at q; cases q
    | some cq =>
      rw [hcl] at q
      have hcn : cq.1 = (amY a).cls := Option.some.inj q
      have hrec := va_recv hK.1 hH.1 hcl he
      rw [hcn] at hrec
      rw [amVs_ref g1, amAd_lt g3] at k3 ⊢
      rw [k3]
      have hsel : (Cond.selects (amY a).cls (amY a) (amY a)).before args s = true := hts _ (w5 hst99 hni)
      have hpl : (amVs G pt ys).length = pt.length := amVs_len k1.2
      rw [if_neg hst99] at w8
      have hlen : (mt a).2.2.1.length - 1 = pt.length := by
        have : (mt a).2.2.1 = 2 :: pt := hpt
        rw [this]; rfl
      refine va_runV (As := amVs G pt ys) (rest := amVs G ts (st.drop (2 :: pt).length)) ⟨hx, hb, hml, hown, hts⟩ hM ⟨callB_of pt.length hts (fun w hw => by
          rcases List.mem_cons.mp hw with rfl | hw
          · exact ⟨w1, Or.inl rfl⟩
          · exact ⟨hw, good_of_word (List.mem_filter.mp hw).2⟩) rfl rfl rfl (hts _ w2) (hts _ hw) ⟨w7.1, w7.2, by rw [w8, hlen]⟩ ⟨by show dd + 1 + 1 ≤ _; omega, by show 8 + (amMax a + 11) + 40 * (dd + 1) ≤ _; omega⟩, hts _ (w4 hst99), hsel⟩ ⟨amPc_blind, hrec, fun U hU hW => ⟨by rw [hpt, amVs_ref g1, amAd_lt g3], by rw [hU]; exact hHs, by rw [hU]; exact hH, hX, by rw [hU]; exact hK.moved hW (amFrame hS hsz) (by omega)⟩⟩ rfl hpl hfr.2.2.1.1 (by simp) (lv_room (amVs_cat G k2 hcat)) hd ⟨by omega, by omega⟩
theorem go_callI {p : Program} {l : Launch} {e : Env} {s : State} {m : MethodId} {args : Array Value} {below : List Frame} {meth : Method} {c : Code} {D : va_G} {E : Nat → ClassId} {G : amG} {cr : amC} {L : Nat} {xs : Nat → Int32} {mi d n0 : Nat} {R : Room} {r : Int × amM} {Qf : State → Prop} {pc : Nat} {ts tl : List Nat} {call : Nat → List Int → amM → amR} {k : amJ} {nx : amN} (hC : amCx p s m args meth c D E G cr L xs mi d n0 R r) {i a w dd : Nat} {z : List (Int × Nat)} (hdd : dd + 1 ≤ d) (hMet : amMet l cr call dd a) (hok : amMok a = true) (ha : a < 266) (hst99 : (mt a).2.1 ≠ 99) (hni : (amY a).name = "<init>") (hvoid : (mt a).1 = 3) (hci : (mt a).2.1 < 20) (hpt : ∃ pt, amPt a = 2 :: pt) (hw : Cond.methodLink (amNm (amYt mi).1) i (amY a) ∈ amTbl) (hcat : (ts.map (fun t => if t = 1 then 2 else 1)).sum ≤ 8) (hcm : ∀ m xs μ, amMr μ (call m xs μ)) (hmono : ∀ st ls μ, amMr μ (nx st ls μ)) (hd : decode (amBy mi) pc = .ok (.invokespecial i, 3)) (h : amGo p l e s m args below meth c D E G cr L xs mi d n0 R r Qf (pc + 3) (amPush a ts) tl nx) : amGo p l e s m args below meth c D E G cr L xs mi d n0 R r Qf pc ((amPt a).reverse ++ ts) tl (stp cr call mrt (.invokespecial i, a, (amPt a).length, w, z) k nx) := by
  have hC0 := hC
  obtain ⟨hx, hb, hml, hown, hts, hK, hR, hlk, hnm, hcr, hsz⟩ := hC
  intro st lc μ n H locs sl hF hH hX hst hfr hS hn
  obtain ⟨w1, w2, -, w4, w5, w6, w7, w8, w9, w10, w11⟩ := amM_words hok (by omega)
  have hF1 := hF
  have e9 : stp cr call mrt (.invokespecial i, a, (amPt a).length, w, z) k nx st lc μ = (if amTg ((st.take (amPt a).length).getLastD (-1)) = (mt a).2.1 then bnd (call a (st.take (amPt a).length).reverse μ) (fun _ μ => nx (st.drop (amPt a).length) lc μ) else none) := by
    show (if a = 9999 then _ else _) = _
    rw [if_neg (by omega)]
    rfl
  rw [e9] at hF1
  obtain ⟨htg, hF1⟩ := if_some hF1
  obtain ⟨r1, hr1, hF2⟩ := bnd_some hF1
  have hF2 : nx (if (mt a).1 = 3 then st.drop (amPt a).length else r1.1 :: st.drop (amPt a).length) lc r1.2 = some r := by rw [if_pos hvoid]; exact hF2
  obtain ⟨k1, k2, k3⟩ := amStk_call (G := G) hst
  have hc0 := hH.cnt
  have hnr := hcm a (st.take (amPt a).length).reverse μ r1 hr1
  rw [hc0] at hnr
  have hM := hMet D E G L xs n _ μ r1 hr1 k1 hc0
  have hle := hmono _ _ _ r hF2
  have s1 := amSs_le hn
  have s2 := amSs_le hnr
  have s3 := amSs_le hle
  refine W_size (fun hq => ?_)
  have hHs := amSize hH hS hsz hn hq
  refine go_after hC0 (a := a) hmono hnr hF2 k2 hfr hS hn h (av := (amVs G (amPt a) (st.take (amPt a).length).reverse).toArray) ?_
  obtain ⟨pt, hpt⟩ := hpt
  generalize hys : (st.take (amPt a).length).reverse = ys at *
  cases ys with
  | nil => rw [hpt] at k1; exact k1.elim
  | cons x ys =>
    have htg2 : amTg x = (mt a).2.1 := by rw [← getLastD_rev hys (-1)]; exact htg
    obtain ⟨g1, g2, g3, g4, g5, g6⟩ := tg_shp htg2 (by omega)
    rw [hpt] at k1 k3 k2 ⊢
    have hlt := amOk_lt k1.1 g4 g5 g6
    have he := amWs_get (E := E) (G := G) (C := amCt cr μ) hlt
    rw [amCellE_obj g2 hci] at he
    rcases w9 with q | q
    · exact absurd q hst99
    cases hcl : amCl[(mt a).2.1]? with
    | none => rw [hcl] at q; cases q
    | some cq =>
      rw [hcl] at q
      have hcn : cq.1 = (amY a).cls := Option.some.inj q
      have hrec := va_recv hK.1 hH.1 hcl he
      rw [hcn] at hrec
      rw [amVs_ref g1, amAd_lt g3] at k3 ⊢
      rw [k3]
      have hpl : (amVs G pt ys).length = pt.length := amVs_len k1.2
      rw [if_neg hst99] at w8
      have hlen : (mt a).2.2.1.length - 1 = pt.length := by
        have : (mt a).2.2.1 = 2 :: pt := hpt
        rw [this]; rfl
      have hret : amRet a = none := by unfold amRet; rw [hvoid]; rfl
      have hwsm : amWsm a = Cond.code (amY a) (amBy a) (amMax a) none :: amTbl := by unfold amWsm; rw [hret]
      refine va_runI (As := amVs G pt ys) (rest := amVs G ts (st.drop (2 :: pt).length)) ⟨hx, hb, hml, hown, hts⟩ hM ⟨callB_of pt.length hts (fun w hw => by
          rcases List.mem_cons.mp hw with rfl | hw
          · exact ⟨w1, Or.inl rfl⟩
          · exact ⟨hw, good_of_word (List.mem_filter.mp hw).2⟩) hwsm rfl rfl (hts _ w2) (hts _ hw) ⟨w7.1, w7.2, by rw [w8, hlen]⟩ ⟨by show dd + 1 + 1 ≤ _; omega, by show 8 + (amMax a + 11) + 40 * (dd + 1) ≤ _; omega⟩, hni, hts _ (w4 hst99)⟩ ⟨amPc_blind, fun U hU hW => ⟨by rw [hpt, amVs_ref g1, amAd_lt g3], by rw [hU]; exact hHs, by rw [hU]; exact hH, hX, by rw [hU]; exact hK.moved hW (amFrame hS hsz) (by omega)⟩⟩ rfl hpl hfr.2.2.1.1 (by simp) (lv_room (amVs_cat G k2 hcat)) hd ⟨by omega, by omega⟩
theorem go_callIN {p : Program} {l : Launch} {e : Env} {s : State} {m : MethodId} {args : Array Value} {below : List Frame} {meth : Method} {c : Code} {D : va_G} {E : Nat → ClassId} {G : amG} {cr : amC} {L : Nat} {xs : Nat → Int32} {mi d n0 : Nat} {R : Room} {r : Int × amM} {Qf : State → Prop} {pc : Nat} {ts tl : List Nat} {call : Nat → List Int → amM → amR} {k : amJ} {nx : amN} (hC : amCx p s m args meth c D E G cr L xs mi d n0 R r) {i a w dd : Nat} {z : List (Int × Nat)} (hdd : dd + 1 ≤ d) (hMet : amMet l cr call dd a) (hok : amMok a = true) (ha : a < 266) (hst99 : (mt a).2.1 ≠ 99) (hni : (amY a).name = "<init>") (hvoid : (mt a).1 = 3) (hci : (mt a).2.1 < 20) (hpt : ∃ pt, amPt a = 2 :: pt) (hw : (amNm (amYt mi).1, i, amY a) ∈ amNL) (hcat : (ts.map (fun t => if t = 1 then 2 else 1)).sum ≤ 8) (hcm : ∀ m xs μ, amMr μ (call m xs μ)) (hmono : ∀ st ls μ, amMr μ (nx st ls μ)) (hd : decode (amBy mi) pc = .ok (.invokespecial i, 3)) (h : amGo p l e s m args below meth c D E G cr L xs mi d n0 R r Qf (pc + 3) (amPush a ts) tl nx) : amGo p l e s m args below meth c D E G cr L xs mi d n0 R r Qf pc ((amPt a).reverse ++ ts) tl (stp cr call mrt (.invokespecial i, a, (amPt a).length, w, z) k nx) := by
  have hC0 := hC
  obtain ⟨hx, hb, hml, hown, hts, hK, hR, hlk, hnm, hcr, hsz⟩ := hC
  intro st lc μ n H locs sl hF hH hX hst hfr hS hn
  obtain ⟨w1, w2, -, w4, w5, w6, w7, w8, w9, w10, w11⟩ := amM_words hok (by omega)
  have hF1 := hF
  have e9 : stp cr call mrt (.invokespecial i, a, (amPt a).length, w, z) k nx st lc μ = (if amTg ((st.take (amPt a).length).getLastD (-1)) = (mt a).2.1 then bnd (call a (st.take (amPt a).length).reverse μ) (fun _ μ => nx (st.drop (amPt a).length) lc μ) else none) := by
    show (if a = 9999 then _ else _) = _
    rw [if_neg (by omega)]
    rfl
  rw [e9] at hF1
  obtain ⟨htg, hF1⟩ := if_some hF1
  obtain ⟨r1, hr1, hF2⟩ := bnd_some hF1
  have hF2 : nx (if (mt a).1 = 3 then st.drop (amPt a).length else r1.1 :: st.drop (amPt a).length) lc r1.2 = some r := by rw [if_pos hvoid]; exact hF2
  obtain ⟨k1, k2, k3⟩ := amStk_call (G := G) hst
  have hc0 := hH.cnt
  have hnr := hcm a (st.take (amPt a).length).reverse μ r1 hr1
  rw [hc0] at hnr
  have hM := hMet D E G L xs n _ μ r1 hr1 k1 hc0
  have hle := hmono _ _ _ r hF2
  have s1 := amSs_le hn
  have s2 := amSs_le hnr
  have s3 := amSs_le hle
  refine W_size (fun hq => ?_)
  have hHs := amSize hH hS hsz hn hq
  refine go_after hC0 (a := a) hmono hnr hF2 k2 hfr hS hn h (av := (amVs G (amPt a) (st.take (amPt a).length).reverse).toArray) ?_
  obtain ⟨pt, hpt⟩ := hpt
  generalize hys : (st.take (amPt a).length).reverse = ys at *
  cases ys with
  | nil => rw [hpt] at k1; exact k1.elim
  | cons x ys =>
    have htg2 : amTg x = (mt a).2.1 := by rw [← getLastD_rev hys (-1)]; exact htg
    obtain ⟨g1, g2, g3, g4, g5, g6⟩ := tg_shp htg2 (by omega)
    rw [hpt] at k1 k3 k2 ⊢
    have hlt := amOk_lt k1.1 g4 g5 g6
    have he := amWs_get (E := E) (G := G) (C := amCt cr μ) hlt
    rw [amCellE_obj g2 hci] at he
    rcases w9 with q | q
    · exact absurd q hst99
    cases hcl : amCl[(mt a).2.1]? with
    | none => rw [hcl] at q; cases q
    | some cq =>
      rw [hcl] at q
      have hcn : cq.1 = (amY a).cls := Option.some.inj q
      have hrec := va_recv hK.1 hH.1 hcl he
      rw [hcn] at hrec
      rw [amVs_ref g1, amAd_lt g3] at k3 ⊢
      rw [k3]
      have hpl : (amVs G pt ys).length = pt.length := amVs_len k1.2
      rw [if_neg hst99] at w8
      have hlen : (mt a).2.2.1.length - 1 = pt.length := by
        have : (mt a).2.2.1 = 2 :: pt := hpt
        rw [this]; rfl
      have hret : amRet a = none := by unfold amRet; rw [hvoid]; rfl
      have hwsm : amWsm a = Cond.code (amY a) (amBy a) (amMax a) none :: amTbl := by unfold amWsm; rw [hret]
      refine va_runIN (As := amVs G pt ys) (rest := amVs G ts (st.drop (2 :: pt).length)) ⟨hx, hb, hml, hown, hts⟩ hM ⟨va_cnB pt.length hts (fun w hw => by
          rcases List.mem_cons.mp hw with rfl | hw
          · exact ⟨w1, Or.inl rfl⟩
          · exact ⟨hw, good_of_word (List.mem_filter.mp hw).2⟩) hwsm rfl rfl (hK.2.1 _ hw) (hts _ w2) ⟨w7.1, w7.2, by rw [w8, hlen]⟩ ⟨by show dd + 1 + 1 ≤ _; omega, by show 8 + (amMax a + 11) + 40 * (dd + 1) ≤ _; omega⟩, hni, hts _ (w4 hst99)⟩ ⟨amPc_blind, fun U hU hW => ⟨by rw [hpt, amVs_ref g1, amAd_lt g3], by rw [hU]; exact hHs, by rw [hU]; exact hH, hX, by rw [hU]; exact hK.moved hW (amFrame hS hsz) (by omega)⟩⟩ rfl hpl hfr.2.2.1.1 (by simp) (lv_room (amVs_cat G k2 hcat)) hd ⟨by omega, by omega⟩
theorem go_callS {p : Program} {l : Launch} {e : Env} {s : State} {m : MethodId} {args : Array Value} {below : List Frame} {meth : Method} {c : Code} {D : va_G} {E : Nat → ClassId} {G : amG} {cr : amC} {L : Nat} {xs : Nat → Int32} {mi d n0 : Nat} {R : Room} {r : Int × amM} {Qf : State → Prop} {pc : Nat} {ts tl : List Nat} {call : Nat → List Int → amM → amR} {k : amJ} {nx : amN} (hC : amCx p s m args meth c D E G cr L xs mi d n0 R r) {i a w dd : Nat} {z : List (Int × Nat)} (hdd : dd + 1 ≤ d) (hMet : amMet l cr call dd a) (hok : amMok a = true) (ha : a < 266) (hst99 : (mt a).2.1 = 99) (hw : Cond.methodLink (amNm (amYt mi).1) i (amY a) ∈ amTbl) (hcat : (ts.map (fun t => if t = 1 then 2 else 1)).sum ≤ 8) (hcm : ∀ m xs μ, amMr μ (call m xs μ)) (hmono : ∀ st ls μ, amMr μ (nx st ls μ)) (hd : decode (amBy mi) pc = .ok (.invokestatic i, 3)) (h : amGo p l e s m args below meth c D E G cr L xs mi d n0 R r Qf (pc + 3) (amPush a ts) tl nx) : amGo p l e s m args below meth c D E G cr L xs mi d n0 R r Qf pc ((amPt a).reverse ++ ts) tl (stp cr call mrt (.invokestatic i, a, (amPt a).length, w, z) k nx) := by
  have hC0 := hC
  obtain ⟨hx, hb, hml, hown, hts, hK, hR, hlk, hnm, hcr, hsz⟩ := hC
  intro st lc μ n H locs sl hF hH hX hst hfr hS hn
  obtain ⟨w1, w2, w3, w4, w5, w6, w7, w8, w9, w10, w11⟩ := amM_words hok (by omega)
  have hF1 := hF
  have e9 : stp cr call mrt (.invokestatic i, a, (amPt a).length, w, z) k nx st lc μ = bnd (call a (st.take (amPt a).length).reverse μ) (fun v μ => nx (if (mt a).1 = 3 then st.drop (amPt a).length else v :: st.drop (amPt a).length) lc μ) := by
    show (if a = 9999 then _ else if a = 9998 then _ else if a = 9997 then _ else _) = _
    rw [if_neg (by omega), if_neg (by omega), if_neg (by omega)]
    rfl
  rw [e9] at hF1
  obtain ⟨r1, hr1, hF2⟩ := bnd_some hF1
  obtain ⟨k1, k2, k3⟩ := amStk_call (G := G) hst
  have hc0 := hH.cnt
  have hnr := hcm a (st.take (amPt a).length).reverse μ r1 hr1
  rw [hc0] at hnr
  have hM := hMet D E G L xs n _ μ r1 hr1 k1 hc0
  have hle := hmono _ _ _ r hF2
  have s1 := amSs_le hn
  have s2 := amSs_le hnr
  have s3 := amSs_le hle
  refine W_size (fun hq => ?_)
  have hHs := amSize hH hS hsz hn hq
  rw [k3]
  rw [if_pos hst99] at w8
  refine go_after hC0 (a := a) hmono hnr hF2 k2 hfr hS hn h (va_runS (As := amVs G (amPt a) (st.take (amPt a).length).reverse) (rest := amVs G ts (st.drop (amPt a).length)) ⟨hx, hb, hml, hown, hts⟩ hM ⟨callB_of (amPt a).length hts (fun w hw => by
          rcases List.mem_cons.mp hw with rfl | hw
          · exact ⟨w1, Or.inl rfl⟩
          · exact ⟨hw, good_of_word (List.mem_filter.mp hw).2⟩) rfl rfl rfl (hts _ w2) (hts _ hw) ⟨w7.1, w7.2, w8⟩ ⟨by show dd + 1 + 1 ≤ _; omega, by show 8 + (amMax a + 11) + 40 * (dd + 1) ≤ _; omega⟩, hts _ (w3 hst99)⟩ ⟨amPc_blind, fun U hU hW => ⟨rfl, by rw [hU]; exact hHs, by rw [hU]; exact hH, hX, by rw [hU]; exact hK.moved hW (amFrame hS hsz) (by omega)⟩⟩ rfl (amVs_len k1) hfr.2.2.1.1 rfl (lv_room (amVs_cat G k2 hcat)) hd ⟨by omega, by omega⟩)
