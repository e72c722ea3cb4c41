/-! ===== the law's entry: the world there, the fixed references, from the abstract run to the machine's ===== -/
theorem amPriv_ne : ∀ m, m < 268 → (amWm m).2.2.2.1 = 9999 → (amY m).name ≠ "<init>" := by decide +kernel
theorem amPrivs_ok : ∀ q ∈ amPrivs, (q.1.cls ≠ "java/lang/invoke/MethodHandle" ∧ q.1.cls ≠ "java/lang/invoke/VarHandle") ∧ Cond.instantiable q.1.cls q.2 ∈ tables_1 ∧ Cond.privateMethod q.1 ∈ tables_1 ∧ Cond.instanceMethod q.1 ∈ tables_1 := by
  intro q hq
  obtain ⟨m, hm, rfl⟩ := List.mem_map.mp hq
  obtain ⟨hm1, hm2⟩ := List.mem_filter.mp hm
  have hm1 := List.mem_range.mp hm1
  obtain ⟨h1, h2⟩ := of_decide_eq_true hm2
  have h := amMok_of (m := m) hm1
  have hi := amPriv_ne m hm1 h2
  unfold amMok at h
  simp only [Bool.and_eq_true] at h
  obtain ⟨⟨⟨⟨⟨⟨⟨⟨⟨⟨c1, c2⟩, c3⟩, c4⟩, c5⟩, c6⟩, c7⟩, c8⟩, c9⟩, c10⟩, c11⟩ := h
  rw [if_neg h1] at c3
  rw [if_neg (not_or.mpr ⟨h1, hi⟩), if_pos h2, Bool.and_eq_true] at c4
  exact ⟨⟨of_decide_eq_true c6, of_decide_eq_true c7⟩, amWd_in (of_decide_eq_true c4.1), amWd_in (of_decide_eq_true c4.2), amWd_in (of_decide_eq_true c3)⟩
theorem cr2_lt {k j : Nat} {v : Int} (h : cr2 k j = some v) : k < 95 ∧ j < 40 := by
  have hl : ∀ row ∈ cr2L, row.length ≤ 40 := by decide +kernel
  have hL : cr2L.length = 95 := by decide +kernel
  by_cases hk : k < 95
  · refine ⟨hk, Nat.lt_of_not_le fun hj => ?_⟩
    unfold cr2 at h
    have hr : cr2L.getD k [] ∈ cr2L := by
      rw [List.getD_eq_getElem?_getD, List.getElem?_eq_getElem (by omega)]
      exact List.getElem_mem _
    have := hl _ hr
    rw [List.getD_eq_getElem?_getD, List.getElem?_eq_none (by omega)] at h
    cases h
  · exfalso
    unfold cr2 at h
    rw [List.getD_eq_getElem?_getD (l := cr2L), List.getElem?_eq_none (by omega)] at h
    cases h
theorem cr2_chk : ((List.range 95).all (fun k => (List.range 40).all (fun j => match cr2 k j with | none => true | some v => decide (amSl k j = 2 ∧ 0 ≤ v)))) = true := by decide +kernel
theorem amCrOk_2 : amCrOk cr2 := by
  intro k j v h
  obtain ⟨hk, hj⟩ := cr2_lt h
  have h1 := List.all_eq_true.mp (List.all_eq_true.mp cr2_chk k (List.mem_range.mpr hk)) j (List.mem_range.mpr hj)
  rw [h] at h1
  exact of_decide_eq_true h1
theorem amCrOk_0 : amCrOk cr0 := fun _ _ _ h => by cases h
/-- the memory says what the fixed references say -/
def amAg (μ : amM) : Prop := ∀ k j v, cr2 k j = some v → μ k j = v
theorem amH.fix {D : va_G} {E : Nat → ClassId} {G : amG} {n : Nat} {μ : amM} {H : Heap} (ha : amAg μ) (h : amH D E G cr0 n μ H) : amH D E G cr2 n μ H := by
  have e : amCt cr2 μ = amCt cr0 μ := by
    funext k j
    unfold amCt
    cases e : cr2 k j with
    | none => rfl
    | some v => exact (ha k j v e).symm
  unfold amH at h ⊢
  rw [e]
  exact h
/-- the memory at the start: the script -/
def amMu0 (L : Nat) (xs : Nat → Int32) : amM := fun c j => if c = 302 then (if j = 0 then (L : Int) else (xs (j - 1)).toInt) else 0
noncomputable def amLawK : amJ := fun b st ls μ => @ite amR (amAg μ) (Classical.propDecidable _) (At cr2 2000 268 b st (nrm (msk 268 b) ls) μ) none
/-- the law's run -/
noncomputable def amLaw (L : Nat) (xs : Nat → Int32) : amR := runB cr0 (RD cr0 2000) mrt amLawK lawI0 [] (ent 268 [302]) (amMu0 L xs)
set_option maxRecDepth 100000 in
theorem amNL_ok : ∀ q ∈ amNL, Cond.methodLinkNest q.1 q.2.1 q.2.2 "AlikeTown" ∈ tables_1 := by decide +kernel
set_option maxRecDepth 100000 in
theorem amU_ok : ∀ c : Nat, c < 12 → ∀ q : vw_C, amCl[c]? = some q → (∀ w ∈ u_ws q.1 q.2.1 q.2.2, w ∈ tables_1) ∧ Cond.instantiable q.1 q.2.2 ∈ tables_1 := by
  intro c hc q hq
  have key : ∀ c, c < 12 → (∀ w ∈ u_ws (amCl.getD c ("", amF0, 0)).1 (amCl.getD c ("", amF0, 0)).2.1 (amCl.getD c ("", amF0, 0)).2.2, w ∈ tables_1) ∧ Cond.instantiable (amCl.getD c ("", amF0, 0)).1 (amCl.getD c ("", amF0, 0)).2.2 ∈ tables_1 := by decide +kernel
  have h := key c hc
  rw [List.getD_eq_getElem?_getD, hq] at h
  exact h
def amVa : Jvm.Term := .static "AlikeTown$Voices" "ABOVE" "[I"
def amVo : Jvm.Term := .static "AlikeTown$Voices" "OWN" "[I"
set_option maxRecDepth 100000 in
theorem amNarrow_ok : Cond.arrayOf amVa .int ∈ flatC (Jvm.Cond.and given_1 narrow_1) ∧ Cond.arrayOf amVo .int ∈ flatC (Jvm.Cond.and given_1 narrow_1) ∧ Cond.eq (.length amVa) (.int (Int32.ofNat 7)) ∈ flatC (Jvm.Cond.and given_1 narrow_1) ∧ Cond.eq (.length amVo) (.int (Int32.ofNat 28)) ∈ flatC (Jvm.Cond.and given_1 narrow_1) ∧
    (∀ j, j < 7 → Cond.eq (.elem amVa (.int (Int32.ofNat j))) (.int (Int32.ofInt (amTab 300 j))) ∈ flatC (Jvm.Cond.and given_1 narrow_1)) ∧ (∀ j, j < 28 → Cond.eq (.elem amVo (.int (Int32.ofNat j))) (.int (Int32.ofInt (amTab 301 j))) ∈ flatC (Jvm.Cond.and given_1 narrow_1)) := by decide +kernel
theorem amK_start {s : State} {b L : Nat} {xs : Nat → Int32} (htb : ∀ w ∈ tables_1, w.before #[Value.ref b] s = true) (hX : va_X b L xs s s.heap) (hb : b < s.heap.size) (hL : L ≤ 3072) (hg : (Jvm.Cond.and given_1 narrow_1).before #[Value.ref b] s = true) : ∃ (D : va_G) (E : Nat → ClassId) (tA tO : Nat), amK D E (s.heap.size, tA, tO, b) L xs s s.heap := by
  have hw : ∀ (i : Nat) (w : Jvm.Cond), amWd i = some w → w.before #[Value.ref b] s = true := fun i w h => htb w (amWd_in h)
  have hn := flat_of_before _ hg
  obtain ⟨n1, n2, n3, n4, n5, n6⟩ := amNarrow_ok
  have hk : ∀ c : Nat, ∃ z : ClassId × (Nat → Nat), ∀ q : vw_C, amCl[c]? = some q → u_Kn s q.1 q.2.1 q.2.2 z.1 z.2 := by
    intro c
    cases hq : amCl[c]? with
    | none => exact ⟨(0, fun _ => 0), fun q h => by cases h⟩
    | some q =>
      have hc : c < 12 := (List.getElem?_eq_some_iff.mp hq).1
      obtain ⟨u1, u2⟩ := amU_ok c hc q hq
      obtain ⟨cC, iS, h⟩ := u_known (ws := tables_1) htb u1 (htb _ u2)
      exact ⟨(cC, iS), fun q h' => by cases h'; exact h⟩
  obtain ⟨z, hz⟩ := Classical.axiomOfChoice hk
  obtain ⟨cI, kI, pI, i1, i2, i3⟩ := Cond.arrayClass_spec (hw 125 (.arrayClass .int) (by rfl))
  obtain ⟨cJ, kJ, pJ, j1, j2, j3⟩ := Cond.arrayClass_spec (hw 292 (.arrayClass .long) (by rfl))
  obtain ⟨cZ, kZ, pZ, z1, z2, z3⟩ := Cond.arrayClass_spec (hw 1082 (.arrayClass .boolean) (by rfl))
  obtain ⟨pT, cT, kT, t1, -, t3, t4, t5⟩ := Cond.arrayOver_spec (hw 127 (.arrayOver (.object "AlikeTown$Text")) (by rfl))
  obtain ⟨pS, cS, kS, s1, -, s3, s4, s5⟩ := Cond.arrayOver_spec (hw 318 (.arrayOver (.object "AlikeTown$Sheet")) (by rfl))
  obtain ⟨pA, cA, kA, a1, a2, a3, a4⟩ := Cond.arrayOver_specA (hw 213 (.arrayOver (.array .int)) (by rfl))
  have hA : ∀ a : Nat, a < s.heap.size → ¬ s.heap.size ≤ a := fun a h => Nat.not_le_of_lt h
  obtain ⟨tA, eA, TA⟩ := va_Tof (args := #[Value.ref b]) (s := s) (tm := amVa) (ty := .int) (N := 7) (f := fun j => .int (Int32.ofInt (amTab 300 j))) (A := fun q => s.heap.size ≤ q) (by decide) (hn _ n1) (va_eqt (hn _ n3)) (fun j hj => va_eqt (hn _ (n5 j hj))) hA
  obtain ⟨tO, eO, TO⟩ := va_Tof (args := #[Value.ref b]) (s := s) (tm := amVo) (ty := .int) (N := 28) (f := fun j => .int (Int32.ofInt (amTab 301 j))) (A := fun q => s.heap.size ≤ q) (by decide) (hn _ n2) (va_eqt (hn _ n4)) (fun j hj => va_eqt (hn _ (n6 j hj))) hA
  refine ⟨(fun c => (z c).1, fun c => (z c).2), fun t => match t with | 20 => cI | 21 => cJ | 22 => cZ | 23 => cT | 24 => cS | _ => cA, tA, tO, ⟨fun c q hq => hz c q hq, fun k q hk => ?_⟩, fun q hq => va_Nw.of rfl (htb _ (amNL_ok q hq)), ⟨va_AO.of (hw 127 (.arrayOver (.object "AlikeTown$Text")) (by rfl)), va_AO.of (hw 318 (.arrayOver (.object "AlikeTown$Sheet")) (by rfl)), hw 213 (.arrayOver (.array .int)) (by rfl)⟩,
    ⟨va_Zof (hw 501 (.laysStatic "AlikeTown$Voices" "ABOVE" "[I") (by rfl)) (hw 11 (.initialized "AlikeTown$Voices") (by rfl)) eA hA, va_Zof (hw 876 (.laysStatic "AlikeTown$Voices" "OWN" "[I") (by rfl)) (hw 11 (.initialized "AlikeTown$Voices") (by rfl)) eO hA⟩, ⟨TA, TO⟩, hX, hb, hL, Nat.le_refl _⟩
  match k, hk with
  | 0, hk => cases hk; exact ⟨fun n z => ⟨fun k h => (by cases h), kI, i2, pI, i3⟩, i1⟩
  | 1, hk => cases hk; exact ⟨fun n z => ⟨fun k h => (by cases h), kJ, j2, pJ, j3⟩, j1⟩
  | 2, hk => cases hk; exact ⟨fun n z => ⟨fun k h => (by cases h), kZ, z2, pZ, z3⟩, z1⟩
  | 3, hk => cases hk; exact ⟨fun n z => ⟨fun k h => (by cases h), kT, t3, pT, t4⟩, kT, pT, t3, t4, t1, t5⟩
  | 4, hk => cases hk; exact ⟨fun n z => ⟨fun k h => (by cases h), kS, s3, pS, s4⟩, kS, pS, s3, s4, s1, s5⟩
  | 5, hk => cases hk; exact ⟨fun n z => ⟨fun k h => (by cases h), kA, a2, pA, a3⟩, a4⟩
  | k + 6, hk => cases hk
/-! THE CLAIM OUT OF ONE WALK OF THE LAW'S BODY -/
def R_law : String := "AlikeTownLaw"
def lw_P (b : Addr) (xs : List Int32) (args : Array Value) (s : State) : Prop := args = #[.ref b] ∧ s.IntsAt b xs ∧ xs.length ≤ 3072 ∧ (Jvm.Cond.and given_1 narrow_1).before args s = true
def lw_Q (_ : Array Value) (s : State) (o : Outcome) (t : State) : Prop := o = .returned (some (.int 1)) ∧ Framed s o t [] 600000 7302249
def lw_Z (below : List Frame) (a : Array Value) (s : State) : State → Prop := fun t => ∃ o, t.status = .running ∧ Ended t below o ∧ lw_Q a s o t
theorem lw_ret {p : Program} {l : Launch} {e : Env} {s : State} {m : MethodId} {below : List Frame} {meth : Method} {c : Code} {b : Nat} (hx : p.tables.exec = Jvm.exec) (hb : c.code = code) (hr : meth.sig.returnType = ret) (hlocks : meth.locks = false) {pc : Nat} {H : Heap} {ls : Array Slot} (hdg : decode code pc = .ok (.ireturn, 1)) : W p l e room_1 s m #[Value.ref b] below meth c H [] 600000 7302249 (lw_Z below #[Value.ref b] s) (F0 m pc ls [.int 1]) := by
  intro T hT X
  obtain ⟨fs, hret, hrun, hended, hW, hframe⟩ := X.leave (v := some (.int 1)) (hlocks := hlocks) (fun h => by rw [hr] at h; cases h)
  have hmeth' : T.vm.method? m = some meth := X.method'
  refine ⟨T.setFrames fs, ?_, .returned (some (.int 1)), hrun, hended, rfl, ⟨_, rfl⟩, hW, hframe⟩
  jvm_step X.here [X.here.top, hx, hb, hdg, hmeth', hr, ret, narrow_b1]
  (try refine ⟨rfl, ?_⟩); (try refine ⟨rfl, ?_⟩)
  first | (intro acts; rw [hret _ acts rfl rfl rfl]) | rw [hret _ _ rfl rfl rfl]
  exact Steps.refl _
def lw_At (p : Program) (s : State) (m : MethodId) (meth : Method) (c : Code) (b L : Nat) (xs : Nat → Int32) : Prop :=
  p.tables.exec = Jvm.exec ∧ c.code = code ∧ meth.sig.returnType = ret ∧ c.maxLocals = 4 ∧ s.vm.findClass R_law = some m.cls ∧ (∀ w ∈ k2_sels amPrivs ++ tables_1, w.before #[Value.ref b] s = true) ∧ va_X b L xs s s.heap ∧ b < s.heap.size ∧ meth.locks = false ∧ (Jvm.Cond.and given_1 narrow_1).before #[Value.ref b] s = true ∧ meth.name = "law"
theorem amEnt_law : amEnt 268 = true := by decide +kernel
theorem amLaw_rt : (mt 268).1 = 4 := by decide +kernel
theorem amMr_At {cr : amC} {d m b : Nat} {st ls : List Int} {μ : amM} : amMr μ (At cr d m b st ls μ) := by
  intro r hr
  obtain ⟨N, hN⟩ := AtL_iff.mp hr
  exact amMr_AtN (fun m xs μ => amMr_RD d m xs μ) m N b st ls μ r hN
set_option maxHeartbeats 1000000 in
/-- where the abstract run of the law answers 1, the law answers true -/
theorem law_runs {p : Program} {e : Env} {s : State} {m : MethodId} {below : List Frame} {meth : Method} {c : Code} (l : Launch) {b L : Nat} {xs : Nat → Int32} (hL : L ≤ 3072) (C0 : lw_At p s m meth c b L xs) {μ' : amM} (hr : amLaw L xs = some (1, μ')) (hc95 : amCnt μ' ≤ 95) : W p l e room_1 s m #[Value.ref b] below meth c s.heap [] 0 0 (lw_Z below #[Value.ref b] s) (entryFrame m ([Value.ref b] : List Value).toArray 4) := by
  obtain ⟨hx, hb, hret, hml, hown, hts, hX, hbl, hlk, hg, hnm⟩ := C0
  obtain ⟨D, E, tA, tO, hK⟩ := amK_start (fun w h => hts w (List.mem_append_right _ h)) hX hbl hL hg
  generalize hG : ((s.heap.size, tA, tO, b) : amG) = G at hK
  have hG1 : G.1 = s.heap.size := by rw [← hG]
  have hG4 : amAd G 302 = b := by rw [← hG]; rfl
  have htb : ∀ w ∈ amTbl, w.before #[Value.ref b] s = true := fun w h => hts w (List.mem_filter.mp h).1
  have hby : amBy 268 = code := rfl
  have hmx : amMax 268 = 4 := by decide +kernel
  have hn0 : amNm (amYt 268).1 = R_law := by decide +kernel
  have hn1 : (amY 268).name = "law" := by decide +kernel
  have hs0 : amSs 0 = 0 := rfl
  have hs95 : amSs 95 ≤ 7302249 := by decide +kernel
  have hC : ∀ cr, amCrOk cr → amCx p s m #[Value.ref b] meth c D E G cr L xs 268 2000 0 room_1 (1, μ') := fun cr hcr => ⟨hx, hb, by rw [hmx]; exact hml, by rw [hn0]; exact hown, htb, hK, ⟨by show amCnt μ' - 0 ≤ 600000; omega, by have := amSs_le hc95; show amSs (amCnt μ') - amSs 0 ≤ 7302249; omega, by decide, by decide⟩, hlk, by rw [hn1]; exact hnm, hcr, by rw [hG1]; rfl⟩
  have hRet : ∀ cr, amRetOk p l e s m #[Value.ref b] below meth c D E G cr L xs 268 2000 0 room_1 (1, μ') (lw_Z below #[Value.ref b] s) := by
    intro cr pc n H locs sl hd hH hX _ _ _ _ hS hn
    rw [amLaw_rt] at hd ⊢
    have e1 : amRvs G 4 1 = [.int 1] := rfl
    show W _ _ _ _ _ _ _ _ _ _ _ _ _ _ _ (F0 m pc sl (amRvs G 4 1))
    rw [e1]
    have h95 : n ≤ 95 := hH.2.2.2
    have := amSs_le h95
    exact W.widen (by omega) (by omega) (va_forget (fun q hq => by have := hS.2.2 q hq; show s.heap.size ≤ q.base; rw [← hG1]; exact this) (lw_ret hx hb hret hlk hd))
  have hcm : ∀ cr m xs μ, amMr μ (RD cr 2000 m xs μ) := fun cr m xs μ => amMr_RD 2000 m xs μ
  have hMet : ∀ cr, amCrOk cr → amHm l cr (RD cr 2000) 2000 := fun cr hcr => Or.inr ⟨1999, by decide, amMet_RD hcr amChk_all amEnt_of amPl_of 1999⟩
  have hk : ∀ bb, amGo p l e s m #[Value.ref b] below meth c D E G cr0 L xs 268 2000 0 room_1 (1, μ') (lw_Z below #[Value.ref b] s) (blk 268 bb).1 (blk 268 bb).2.1 (blk 268 bb).2.2.1 (fun st ls μ => amLawK bb st ls μ) := by
    intro bb st lc μ n H locs sl hF hH hX hst hfr hS hn
    unfold amLawK at hF
    obtain ⟨hag, hF⟩ := if_some hF
    obtain ⟨N, hN⟩ := AtL_iff.mp hF
    exact go_AtN (hC cr2 amCrOk_2) (hMet cr2 amCrOk_2) (hcm cr2) (hRet cr2) amLaw_chk (Or.inr amLaw_pl) N bb st lc μ n H locs sl hN (hH.fix hag) hX hst hfr hS hn
  have hkm : ∀ bb st ls μ, amMr μ (amLawK bb st ls μ) := by
    intro bb st ls μ r h
    unfold amLawK at h
    exact amMr_At r (if_some h).2
  have hstk : amStk 0 (amPt 268) [302] := ⟨⟨by decide, Or.inr (Or.inr (Or.inr rfl))⟩, trivial⟩
  have hfr := ent_fr (G := G) amEnt_law hstk
  have hvs : amVs G (amPt 268) [302] = [Value.ref b] := by
    show [amVal G 2 302] = _
    rw [amVal_ref (by decide)]
    show [Value.ref (amAd G 302)] = _
    rw [hG4]
  rw [hvs, hmx] at hfr
  rw [lg_entry_eq]
  have hH0 : amH D E G cr0 0 (amMu0 L xs) s.heap := ⟨fun k q h => (by cases h), fun k h => absurd h (Nat.not_lt_zero k), rfl, (by decide)⟩
  have hX0 : amX L xs (amMu0 L xs) := ⟨rfl, fun j hj => rfl⟩
  have hgo := go_blk (hC cr0 amCrOk_0) (hMet cr0 amCrOk_0) (hcm cr0) hkm hk (hRet cr0) lawI0 0 [] [2, 3, 3, 3] (Or.inl fun _ _ => rfl) amChkL_I [] (ent 268 [302]) (amMu0 L xs) 0 s.heap [] _ hr hH0 hX0 trivial (by rw [hmx]; exact hfr) va_S.rf (Nat.le_refl _)
  exact hgo
