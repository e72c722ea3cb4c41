/-! ===== new cells ===== -/
theorem shp_lt {n t : Nat} (h : (amShp n).1 = t) (ht : t < 90) : n < 95 := by
  apply Nat.lt_of_not_le
  intro hc
  have : amShp n = (99, 0) := by
    unfold amShp
    rw [List.getD_eq_getElem?_getD, List.getElem?_eq_none (by show amShpL.length ≤ n; exact hc)]
    rfl
  rw [this] at h
  have : (99 : Nat) = t := h
  omega
theorem shp_small (k : Nat) : (amShp k).2 ≤ 6561 := by
  by_cases hc : k < 95
  · have hq := List.all_eq_true.mp (show ((List.range 95).all (fun k => decide ((amShp k).2 ≤ 6561))) = true by decide +kernel) k (List.mem_range.mpr hc)
    exact of_decide_eq_true hq
  · have : amShp k = (99, 0) := by
      unfold amShp
      rw [List.getD_eq_getElem?_getD, List.getElem?_eq_none (by show amShpL.length ≤ k; exact Nat.le_of_not_lt hc)]
      rfl
    rw [this]; decide
theorem amDf_ok (n k j : Nat) : amOkF n (amSl k j) (amDf (amShp k).1 j) := by
  unfold amSl amDf
  by_cases h1 : (amShp k).1 < 20
  · rw [if_pos h1, if_pos h1]
    by_cases h2 : amFt (amShp k).1 j = 2
    · rw [if_pos h2]; exact Or.inl ⟨h2, rfl⟩
    · rw [if_neg h2]
      refine Or.inr ?_
      by_cases h3 : amFt (amShp k).1 j = 1
      · rw [h3]; exact R32_64 R32_0
      · exact (amOk_0 h3 h2).mpr R32_0
  · rw [if_neg h1, if_neg h1]
    by_cases h2 : (amShp k).1 = 21
    · rw [if_pos h2, if_neg (by omega)]; exact Or.inr (R32_64 R32_0)
    · rw [if_neg h2]
      by_cases h3 : (amShp k).1 < 23
      · rw [if_pos h3, if_neg (by omega)]; exact Or.inr R32_0
      · rw [if_neg h3, if_pos (by omega)]; exact Or.inl ⟨rfl, rfl⟩
theorem amCt_0 {cr : amC} (h0 : ∀ c k, cr c k = none) (μ : amM) : amCt cr μ = μ := by
  funext c k
  unfold amCt
  rw [h0]
/-- one more cell -/
theorem amH.born {D : va_G} {E : Nat → ClassId} {G : amG} {cr : amC} {n t : Nat} {μ : amM} {H H1 : Heap} (h : amH D E G cr n μ H) (h0 : ∀ c k, cr c k = none) (ht : (amShp n).1 = t) (h9 : t < 90)
    (hP : va_P D amCl (amWs E G n (amCt cr μ) ++ [(G.1 + n, amCellE E G (fun k => amDf t k) n)]) H1) : amH D E G cr (n + 1) (amBorn μ) H1 := by
  have hc := h.cnt
  have hn := shp_lt ht h9
  rw [amCt_0 h0] at hP
  have hrow : amBorn μ n = fun k => amDf t k := by
    unfold amBorn
    rw [hc, if_pos rfl, ht]
  have hoth : ∀ c, c < n → amBorn μ c = μ c := by
    intro c hc2
    unfold amBorn
    rw [hc, if_neg (by omega), if_neg (by omega)]
  refine ⟨?_, fun c hc2 j hj => ?_, ?_, by omega⟩
  · rw [amCt_0 h0, ← amWs_push (C := μ) hoth, hrow]
    exact hP
  · rw [amCt_0 h0]
    by_cases e : c = n
    · subst e
      rw [hrow, ← ht]
      exact amDf_ok _ _ _
    · rw [hoth c (by omega)]
      have := h.2.1 c (by omega) j hj
      rw [amCt_0 h0] at this
      exact this.up (by omega)
  · unfold amBorn
    rw [hc, if_neg (by omega), if_pos rfl]
    omega
theorem amX.born {L : Nat} {xs : Nat → Int32} {μ : amM} (h : amX L xs μ) (hc : amCnt μ < 95) : amX L xs (amBorn μ) := by
  unfold amX amBorn at *
  rw [if_neg (by omega), if_neg (by omega)]
  exact h
theorem newAddr {D : va_G} {E : Nat → ClassId} {G : amG} {n q : Nat} {C : Nat → Nat → Int} {e : va_E} {H1 : Heap} (hP : va_P D amCl (amWs E G n C ++ [(q, e)]) H1) (hD : va_D (fun q => G.1 ≤ q) (amWs E G n C ++ [(q, e)])) (hz : H1.size ≤ G.1 + n + 1) : q = G.1 + n := by
  have hl : (amWs E G n C).length = n := by simp [amWs]
  have hq : (amWs E G n C ++ [(q, e)])[n]? = some (q, e) := by
    rw [List.getElem?_append_right (by omega), hl, Nat.sub_self]; rfl
  have h1 := (hP n _ hq).lt
  have h2 : G.1 ≤ q := hD.2 n _ hq
  have h3 : (q : Nat) < H1.size := h1
  apply Nat.le_antisymm
  · omega
  · apply Nat.le_of_not_lt
    intro h4
    have h5 : (amWs E G n C ++ [(q, e)])[q - G.1]? = some (G.1 + (q - G.1), amCellE E G (C (q - G.1)) (q - G.1)) := by
      rw [List.getElem?_append_left (by omega)]
      exact amWs_get (by omega)
    have h6 := hD.1 (q - G.1) n _ _ h5 hq (by show G.1 + (q - G.1) = q; omega)
    omega
theorem amDf_val {G : amG} {t j : Nat} {ty : FieldType} (h : amTyOk (amFt t j) ty) (ht : t < 20) : defaultValue ty = amVal G (amFt t j) (amDf t j) := by
  unfold amDf
  rw [if_pos ht]
  rcases h with ⟨h1, rfl⟩ | ⟨h1, rfl⟩ | ⟨h1, h2⟩
  · rw [h1]; rfl
  · rw [h1]; rfl
  · rw [h1]
    rcases h2 with ⟨q, rfl⟩ | ⟨q, rfl⟩ <;> rfl
theorem go_new {p : Program} {l : Launch} {e : Env} {s : State} {m : MethodId} {args : Array Value} {below : List Frame} {meth : Method} {c : Code} {D : va_G} {E : Nat → ClassId} {G : amG} {cr : amC} {L : Nat} {xs : Nat → Int32} {mi d n0 : Nat} {R : Room} {r : Int × amM} {Qf : State → Prop} {pc : Nat} {ts tl : List Nat} {call : Nat → List Int → amM → amR} {rt : Nat → Nat × Nat} {k : amJ} {nx : amN} (hC : amCx p s m args meth c D E G cr L xs mi d n0 R r) {i a b w N : Nat} {C : String} {Tb : u_T} {ty : Nat → FieldType} {z : List (Int × Nat)} (h0 : ∀ c k, cr c k = none) (hc : amCl[a]? = some (C, Tb, N)) (ha : a < 20) (hin : ∀ w ∈ u_ws C Tb N, w ∈ amTbl) (hty : ∀ k, k < N → parseFieldDescriptor (Tb k).2.2.1 = some (ty k)) (htk : ∀ k, k < N → amTyOk (amFt a k) (ty k)) (hw1 : Cond.classLink (amNm (amYt mi).1) i C ∈ amTbl) (hw2 : Cond.instantiable C N ∈ amTbl) (hw3 : Cond.initialized C ∈ amTbl) (hmono : ∀ st ls μ, amMr μ (nx st ls μ)) (hd : decode (amBy mi) pc = .ok (.new i, 3)) (h : amGo p l e s m args below meth c D E G cr L xs mi d n0 R r Qf (pc + 3) (2 :: ts) tl nx) : amGo p l e s m args below meth c D E G cr L xs mi d n0 R r Qf pc ts tl (stp cr call rt (.new i, a, b, w, z) k nx) := by
  obtain ⟨hx, hbb, hml, hown, hts, hK, hR, hlk, hnm, hcr, hsz⟩ := hC
  intro st lc μ n H locs sl hF hH hX hst hfr hS hn
  have hF : amNew μ a (fun x μ => nx (x :: st) lc μ) = some r := hF
  obtain ⟨⟨ht, h9⟩, hF⟩ := if_some hF
  have hc0 := hH.cnt
  have hn95 := shp_lt ht h9
  rw [hc0] at hn95
  have hb := cnt_born ht h9
  have hle := hmono _ _ _ r hF
  rw [hb, hc0] at hle
  have s1 := amSs_le hn
  have s3 := amSs_le hle
  have s4 := amSs_succ n
  have ht2 : (amShp n).1 = a := by rw [← hc0]; exact ht
  have hN := amShp_N ht2 ha hn95 hc
  refine va_new (fs := (List.range N).map (fun j => amVal G (amFt a j) (amDf a j))) hx hbb hts hin ty hty hown (hts _ hw1) (hts _ hw2) (hts _ hw3) hK.1 hH.1 amWs_D hS (fun q hq => by show G.1 ≤ q; omega) hc (fun j hj => by
      unfold vp_V
      rw [List.getD_eq_getElem?_getD, range_get hj]
      exact amDf_val (htk j hj) ha) (by omega) (by omega) hd (fun q H1 hP1 hD1 hS1 => ?_)
  refine W_size (fun hz => ?_)
  have ec : amCellE E G (fun k => amDf a k) n = .inr (a, (List.range N).map (fun j => amVal G (amFt a j) (amDf a j))) := by rw [amCellE_obj ht2 ha, hN]
  rw [← ec] at hP1 hD1
  have hq1 := newAddr hP1 hD1 (by have := hS.1; omega)
  subst hq1
  have h5 := h ((amCnt μ : Int) :: st) lc (amBorn μ) (n + 1) H1 locs sl hF (hH.born h0 (by rw [← hc0]; exact ht) h9 hP1) (hX.born (by omega)) ⟨⟨by omega, Or.inl (by omega)⟩, amStk.up (Nat.le_succ n) hst⟩ (hfr.up (by omega)) hS1 (by omega)
  rw [amVs_ref (by omega)] at h5
  have e2 : amAd G ((amCnt μ : Int)).toNat = G.1 + n := by rw [hc0]; exact amAd_lt (by omega)
  rw [e2] at h5
  have c1 : n - n0 + 1 = n + 1 - n0 := by omega
  have c2 : amSs n - amSs n0 + N = amSs (n + 1) - amSs n0 := by rw [amSs_succ]; omega
  rw [c1, c2]
  exact h5
theorem go_newa20 {p : Program} {l : Launch} {e : Env} {s : State} {m : MethodId} {args : Array Value} {below : List Frame} {meth : Method} {c : Code} {D : va_G} {E : Nat → ClassId} {G : amG} {cr : amC} {L : Nat} {xs : Nat → Int32} {mi d n0 : Nat} {R : Room} {r : Int × amM} {Qf : State → Prop} {pc : Nat} {ts tl : List Nat} {call : Nat → List Int → amM → amR} {rt : Nat → Nat × Nat} {k : amJ} {nx : amN} (hC : amCx p s m args meth c D E G cr L xs mi d n0 R r) {b w : Nat} {z : List (Int × Nat)} (h0 : ∀ c k, cr c k = none) (hw : Cond.arrayClass .int ∈ amTbl) (hmono : ∀ st ls μ, amMr μ (nx st ls μ)) (hd : decode (amBy mi) pc = .ok (.newarray .int, 2)) (h : amGo p l e s m args below meth c D E G cr L xs mi d n0 R r Qf (pc + 2) (2 :: ts) tl nx) : amGo p l e s m args below meth c D E G cr L xs mi d n0 R r Qf pc (0 :: ts) tl (stp cr call rt (.newarray .int, 20, b, w, z) k nx) := by
  obtain ⟨hx, hbb, hml, hown, hts, hK, hR, hlk, hnm, hcr, hsz⟩ := hC
  intro st lc μ n H locs sl hF hH hX hst hfr hS hn
  rcases st with _ | ⟨y, st⟩
  · exact hst.elim
  have hF : amNwa μ 20 y (fun x μ => nx (x :: st) lc μ) = some r := hF
  obtain ⟨⟨ht, h9, hlen⟩, hF⟩ := if_some hF
  have hc0 := hH.cnt
  have hn95 := shp_lt ht h9
  rw [hc0] at hn95
  have hb := cnt_born ht h9
  have hle := hmono _ _ _ r hF
  rw [hb, hc0] at hle
  have s1 := amSs_le hn
  have s3 := amSs_le hle
  have s4 := amSs_succ n
  have ht2 : (amShp n).1 = 20 := by rw [← hc0]; exact ht
  have hsm := shp_small n
  rw [hc0] at hlen
  have hy0 : ¬ Int32.ofInt y < 0 := fun q => by
    have := (n_lt hst.1 R32_0).mp q
    omega
  have hyN : (Int32.ofInt y).toNatClampNeg = (amShp n).2 := by rw [n_clamp hst.1]; omega
  refine va_newa (a0 := ((amShp n).2, amArr G 20 (fun k => amDf 20 k))) hx hbb (atype := .int) (hts _ hw) (ty := .int) rfl hK.1 hH.1 amWs_D hS (fun q hq => by show G.1 ≤ q; omega) (fun cA => by rw [amArr_i _ (by decide) (by decide)]; rfl) hy0 hyN (by show (amShp n).2 * 4 ≤ 536870912; omega) (by omega) (by omega) hd (fun q cA H1 hK1 hP1 hD1 hS1 => ?_)
  have hcA : cA = E 20 := by
    have q1 := (hK1.2 6 (cA, .int) rfl).2
    have q2 := (hK.1.2 0 (E 20, .int) rfl).2
    have q3 : s.vm.findClass ("[" ++ (FieldType.int : FieldType).toString) = some cA := q1
    have q4 : s.vm.findClass ("[" ++ (FieldType.int : FieldType).toString) = some (E 20) := q2
    exact Option.some.inj (q3.symm.trans q4)
  subst hcA
  refine W_size (fun hz => ?_)
  have ec : amCellE E G (fun k => amDf 20 k) n = .inl (E 20, (amShp n).2, amArr G 20 (fun k => amDf 20 k)) := amCellE_arr ht2 (by omega)
  rw [← ec] at hP1 hD1
  have hq1 := newAddr hP1 hD1 (by have := hS.1; omega)
  subst hq1
  have h5 := h ((amCnt μ : Int) :: st) lc (amBorn μ) (n + 1) H1 locs sl hF (hH.born h0 (by rw [← hc0]; exact ht) h9 hP1) (hX.born (by omega)) ⟨⟨by omega, Or.inl (by omega)⟩, amStk.up (Nat.le_succ n) hst.2⟩ (hfr.up (by omega)) hS1 (by omega)
  rw [amVs_ref (by omega)] at h5
  have e2 : amAd G ((amCnt μ : Int)).toNat = G.1 + n := by rw [hc0]; exact amAd_lt (by omega)
  rw [e2] at h5
  have c1 : n - n0 + 1 = n + 1 - n0 := by omega
  have c2 : amSs n - amSs n0 + (amShp n).2 = amSs (n + 1) - amSs n0 := by rw [amSs_succ]; omega
  rw [c1, c2]
  exact h5
theorem go_newa21 {p : Program} {l : Launch} {e : Env} {s : State} {m : MethodId} {args : Array Value} {below : List Frame} {meth : Method} {c : Code} {D : va_G} {E : Nat → ClassId} {G : amG} {cr : amC} {L : Nat} {xs : Nat → Int32} {mi d n0 : Nat} {R : Room} {r : Int × amM} {Qf : State → Prop} {pc : Nat} {ts tl : List Nat} {call : Nat → List Int → amM → amR} {rt : Nat → Nat × Nat} {k : amJ} {nx : amN} (hC : amCx p s m args meth c D E G cr L xs mi d n0 R r) {b w : Nat} {z : List (Int × Nat)} (h0 : ∀ c k, cr c k = none) (hw : Cond.arrayClass .long ∈ amTbl) (hmono : ∀ st ls μ, amMr μ (nx st ls μ)) (hd : decode (amBy mi) pc = .ok (.newarray .long, 2)) (h : amGo p l e s m args below meth c D E G cr L xs mi d n0 R r Qf (pc + 2) (2 :: ts) tl nx) : amGo p l e s m args below meth c D E G cr L xs mi d n0 R r Qf pc (0 :: ts) tl (stp cr call rt (.newarray .long, 21, b, w, z) k nx) := by
  obtain ⟨hx, hbb, hml, hown, hts, hK, hR, hlk, hnm, hcr, hsz⟩ := hC
  intro st lc μ n H locs sl hF hH hX hst hfr hS hn
  rcases st with _ | ⟨y, st⟩
  · exact hst.elim
  have hF : amNwa μ 21 y (fun x μ => nx (x :: st) lc μ) = some r := hF
  obtain ⟨⟨ht, h9, hlen⟩, hF⟩ := if_some hF
  have hc0 := hH.cnt
  have hn95 := shp_lt ht h9
  rw [hc0] at hn95
  have hb := cnt_born ht h9
  have hle := hmono _ _ _ r hF
  rw [hb, hc0] at hle
  have s1 := amSs_le hn
  have s3 := amSs_le hle
  have s4 := amSs_succ n
  have ht2 : (amShp n).1 = 21 := by rw [← hc0]; exact ht
  have hsm := shp_small n
  rw [hc0] at hlen
  have hy0 : ¬ Int32.ofInt y < 0 := fun q => by
    have := (n_lt hst.1 R32_0).mp q
    omega
  have hyN : (Int32.ofInt y).toNatClampNeg = (amShp n).2 := by rw [n_clamp hst.1]; omega
  refine va_newa (a0 := ((amShp n).2, amArr G 21 (fun k => amDf 21 k))) hx hbb (atype := .long) (hts _ hw) (ty := .long) rfl hK.1 hH.1 amWs_D hS (fun q hq => by show G.1 ≤ q; omega) (fun cA => by rw [amArr_l]; rfl) hy0 hyN (by show (amShp n).2 * 8 ≤ 536870912; omega) (by omega) (by omega) hd (fun q cA H1 hK1 hP1 hD1 hS1 => ?_)
  have hcA : cA = E 21 := by
    have q1 := (hK1.2 6 (cA, .long) rfl).2
    have q2 := (hK.1.2 1 (E 21, .long) rfl).2
    have q3 : s.vm.findClass ("[" ++ (FieldType.long : FieldType).toString) = some cA := q1
    have q4 : s.vm.findClass ("[" ++ (FieldType.long : FieldType).toString) = some (E 21) := q2
    exact Option.some.inj (q3.symm.trans q4)
  subst hcA
  refine W_size (fun hz => ?_)
  have ec : amCellE E G (fun k => amDf 21 k) n = .inl (E 21, (amShp n).2, amArr G 21 (fun k => amDf 21 k)) := amCellE_arr ht2 (by omega)
  rw [← ec] at hP1 hD1
  have hq1 := newAddr hP1 hD1 (by have := hS.1; omega)
  subst hq1
  have h5 := h ((amCnt μ : Int) :: st) lc (amBorn μ) (n + 1) H1 locs sl hF (hH.born h0 (by rw [← hc0]; exact ht) h9 hP1) (hX.born (by omega)) ⟨⟨by omega, Or.inl (by omega)⟩, amStk.up (Nat.le_succ n) hst.2⟩ (hfr.up (by omega)) hS1 (by omega)
  rw [amVs_ref (by omega)] at h5
  have e2 : amAd G ((amCnt μ : Int)).toNat = G.1 + n := by rw [hc0]; exact amAd_lt (by omega)
  rw [e2] at h5
  have c1 : n - n0 + 1 = n + 1 - n0 := by omega
  have c2 : amSs n - amSs n0 + (amShp n).2 = amSs (n + 1) - amSs n0 := by rw [amSs_succ]; omega
  rw [c1, c2]
  exact h5
theorem go_newa22 {p : Program} {l : Launch} {e : Env} {s : State} {m : MethodId} {args : Array Value} {below : List Frame} {meth : Method} {c : Code} {D : va_G} {E : Nat → ClassId} {G : amG} {cr : amC} {L : Nat} {xs : Nat → Int32} {mi d n0 : Nat} {R : Room} {r : Int × amM} {Qf : State → Prop} {pc : Nat} {ts tl : List Nat} {call : Nat → List Int → amM → amR} {rt : Nat → Nat × Nat} {k : amJ} {nx : amN} (hC : amCx p s m args meth c D E G cr L xs mi d n0 R r) {b w : Nat} {z : List (Int × Nat)} (h0 : ∀ c k, cr c k = none) (hw : Cond.arrayClass .boolean ∈ amTbl) (hmono : ∀ st ls μ, amMr μ (nx st ls μ)) (hd : decode (amBy mi) pc = .ok (.newarray .boolean, 2)) (h : amGo p l e s m args below meth c D E G cr L xs mi d n0 R r Qf (pc + 2) (2 :: ts) tl nx) : amGo p l e s m args below meth c D E G cr L xs mi d n0 R r Qf pc (0 :: ts) tl (stp cr call rt (.newarray .boolean, 22, b, w, z) k nx) := by
  obtain ⟨hx, hbb, hml, hown, hts, hK, hR, hlk, hnm, hcr, hsz⟩ := hC
  intro st lc μ n H locs sl hF hH hX hst hfr hS hn
  rcases st with _ | ⟨y, st⟩
  · exact hst.elim
  have hF : amNwa μ 22 y (fun x μ => nx (x :: st) lc μ) = some r := hF
  obtain ⟨⟨ht, h9, hlen⟩, hF⟩ := if_some hF
  have hc0 := hH.cnt
  have hn95 := shp_lt ht h9
  rw [hc0] at hn95
  have hb := cnt_born ht h9
  have hle := hmono _ _ _ r hF
  rw [hb, hc0] at hle
  have s1 := amSs_le hn
  have s3 := amSs_le hle
  have s4 := amSs_succ n
  have ht2 : (amShp n).1 = 22 := by rw [← hc0]; exact ht
  have hsm := shp_small n
  rw [hc0] at hlen
  have hy0 : ¬ Int32.ofInt y < 0 := fun q => by
    have := (n_lt hst.1 R32_0).mp q
    omega
  have hyN : (Int32.ofInt y).toNatClampNeg = (amShp n).2 := by rw [n_clamp hst.1]; omega
  refine va_newa (a0 := ((amShp n).2, amArr G 22 (fun k => amDf 22 k))) hx hbb (atype := .boolean) (hts _ hw) (ty := .boolean) rfl hK.1 hH.1 amWs_D hS (fun q hq => by show G.1 ≤ q; omega) (fun cA => by rw [amArr_i _ (by decide) (by decide)]; rfl) hy0 hyN (by show (amShp n).2 * 1 ≤ 536870912; omega) (by omega) (by omega) hd (fun q cA H1 hK1 hP1 hD1 hS1 => ?_)
  have hcA : cA = E 22 := by
    have q1 := (hK1.2 6 (cA, .boolean) rfl).2
    have q2 := (hK.1.2 2 (E 22, .boolean) rfl).2
    have q3 : s.vm.findClass ("[" ++ (FieldType.boolean : FieldType).toString) = some cA := q1
    have q4 : s.vm.findClass ("[" ++ (FieldType.boolean : FieldType).toString) = some (E 22) := q2
    exact Option.some.inj (q3.symm.trans q4)
  subst hcA
  refine W_size (fun hz => ?_)
  have ec : amCellE E G (fun k => amDf 22 k) n = .inl (E 22, (amShp n).2, amArr G 22 (fun k => amDf 22 k)) := amCellE_arr ht2 (by omega)
  rw [← ec] at hP1 hD1
  have hq1 := newAddr hP1 hD1 (by have := hS.1; omega)
  subst hq1
  have h5 := h ((amCnt μ : Int) :: st) lc (amBorn μ) (n + 1) H1 locs sl hF (hH.born h0 (by rw [← hc0]; exact ht) h9 hP1) (hX.born (by omega)) ⟨⟨by omega, Or.inl (by omega)⟩, amStk.up (Nat.le_succ n) hst.2⟩ (hfr.up (by omega)) hS1 (by omega)
  rw [amVs_ref (by omega)] at h5
  have e2 : amAd G ((amCnt μ : Int)).toNat = G.1 + n := by rw [hc0]; exact amAd_lt (by omega)
  rw [e2] at h5
  have c1 : n - n0 + 1 = n + 1 - n0 := by omega
  have c2 : amSs n - amSs n0 + (amShp n).2 = amSs (n + 1) - amSs n0 := by rw [amSs_succ]; omega
  rw [c1, c2]
  exact h5
theorem go_anew23 {p : Program} {l : Launch} {e : Env} {s : State} {m : MethodId} {args : Array Value} {below : List Frame} {meth : Method} {c : Code} {D : va_G} {E : Nat → ClassId} {G : amG} {cr : amC} {L : Nat} {xs : Nat → Int32} {mi d n0 : Nat} {R : Room} {r : Int × amM} {Qf : State → Prop} {pc : Nat} {ts tl : List Nat} {call : Nat → List Int → amM → amR} {rt : Nat → Nat × Nat} {k : amJ} {nx : amN} (hC : amCx p s m args meth c D E G cr L xs mi d n0 R r) {i b w : Nat} {z : List (Int × Nat)} (h0 : ∀ c k, cr c k = none) (hw : Cond.classLink (amNm (amYt mi).1) i "AlikeTown$Text" ∈ amTbl) (hmono : ∀ st ls μ, amMr μ (nx st ls μ)) (hd : decode (amBy mi) pc = .ok (.anewarray i, 3)) (h : amGo p l e s m args below meth c D E G cr L xs mi d n0 R r Qf (pc + 3) (2 :: ts) tl nx) : amGo p l e s m args below meth c D E G cr L xs mi d n0 R r Qf pc (0 :: ts) tl (stp cr call rt (.anewarray i, 23, b, w, z) k nx) := by
  obtain ⟨hx, hbb, hml, hown, hts, hK, hR, hlk, hnm, hcr, hsz⟩ := hC
  intro st lc μ n H locs sl hF hH hX hst hfr hS hn
  rcases st with _ | ⟨y, st⟩
  · exact hst.elim
  have hF : amNwa μ 23 y (fun x μ => nx (x :: st) lc μ) = some r := hF
  obtain ⟨⟨ht, h9, hlen⟩, hF⟩ := if_some hF
  have hc0 := hH.cnt
  have hn95 := shp_lt ht h9
  rw [hc0] at hn95
  have hb := cnt_born ht h9
  have hle := hmono _ _ _ r hF
  rw [hb, hc0] at hle
  have s1 := amSs_le hn
  have s3 := amSs_le hle
  have s4 := amSs_succ n
  have ht2 : (amShp n).1 = 23 := by rw [← hc0]; exact ht
  have hsm := shp_small n
  rw [hc0] at hlen
  have hy0 : ¬ Int32.ofInt y < 0 := fun q => by
    have := (n_lt hst.1 R32_0).mp q
    omega
  have hyN : (Int32.ofInt y).toNatClampNeg = (amShp n).2 := by rw [n_clamp hst.1]; omega
  refine va_newq hx hbb hown (hts _ hw) (C := "AlikeTown$Text") hK.2.2.1.1 hK.1 hH.1 amWs_D hS (fun q hq => by show G.1 ≤ q; omega) hy0 hyN (by omega) (by omega) (by omega) hd (fun q cA H1 hK1 hP1 hD1 hS1 => ?_)
  have hcA : cA = E 23 := by
    obtain ⟨kA, comp, q1, q2, q3, q4⟩ := (hK1.2 6 (cA, .object "AlikeTown$Text") rfl).2
    obtain ⟨kA', comp', q1', q2', q3', q4'⟩ := (hK.1.2 3 (E 23, .object "AlikeTown$Text") rfl).2
    exact Option.some.inj (q4.symm.trans q4')
  subst hcA
  refine W_size (fun hz => ?_)
  have ec : amCellE E G (fun k => amDf 23 k) n = .inl (E 23, (amShp n).2, .inr (.inr (.inr (.inr (fun _ => none))))) := by rw [amCellE_arr ht2 (by omega), amArr_q _ (by omega)]; rfl
  rw [← ec] at hP1 hD1
  have hq1 := newAddr hP1 hD1 (by have := hS.1; omega)
  subst hq1
  have h5 := h ((amCnt μ : Int) :: st) lc (amBorn μ) (n + 1) H1 locs sl hF (hH.born h0 (by rw [← hc0]; exact ht) h9 hP1) (hX.born (by omega)) ⟨⟨by omega, Or.inl (by omega)⟩, amStk.up (Nat.le_succ n) hst.2⟩ (hfr.up (by omega)) hS1 (by omega)
  rw [amVs_ref (by omega)] at h5
  have e2 : amAd G ((amCnt μ : Int)).toNat = G.1 + n := by rw [hc0]; exact amAd_lt (by omega)
  rw [e2] at h5
  have c1 : n - n0 + 1 = n + 1 - n0 := by omega
  have c2 : amSs n - amSs n0 + (amShp n).2 = amSs (n + 1) - amSs n0 := by rw [amSs_succ]; omega
  rw [c1, c2]
  exact h5
theorem go_anew24 {p : Program} {l : Launch} {e : Env} {s : State} {m : MethodId} {args : Array Value} {below : List Frame} {meth : Method} {c : Code} {D : va_G} {E : Nat → ClassId} {G : amG} {cr : amC} {L : Nat} {xs : Nat → Int32} {mi d n0 : Nat} {R : Room} {r : Int × amM} {Qf : State → Prop} {pc : Nat} {ts tl : List Nat} {call : Nat → List Int → amM → amR} {rt : Nat → Nat × Nat} {k : amJ} {nx : amN} (hC : amCx p s m args meth c D E G cr L xs mi d n0 R r) {i b w : Nat} {z : List (Int × Nat)} (h0 : ∀ c k, cr c k = none) (hw : Cond.classLink (amNm (amYt mi).1) i "AlikeTown$Sheet" ∈ amTbl) (hmono : ∀ st ls μ, amMr μ (nx st ls μ)) (hd : decode (amBy mi) pc = .ok (.anewarray i, 3)) (h : amGo p l e s m args below meth c D E G cr L xs mi d n0 R r Qf (pc + 3) (2 :: ts) tl nx) : amGo p l e s m args below meth c D E G cr L xs mi d n0 R r Qf pc (0 :: ts) tl (stp cr call rt (.anewarray i, 24, b, w, z) k nx) := by
  obtain ⟨hx, hbb, hml, hown, hts, hK, hR, hlk, hnm, hcr, hsz⟩ := hC
  intro st lc μ n H locs sl hF hH hX hst hfr hS hn
  rcases st with _ | ⟨y, st⟩
  · exact hst.elim
  have hF : amNwa μ 24 y (fun x μ => nx (x :: st) lc μ) = some r := hF
  obtain ⟨⟨ht, h9, hlen⟩, hF⟩ := if_some hF
  have hc0 := hH.cnt
  have hn95 := shp_lt ht h9
  rw [hc0] at hn95
  have hb := cnt_born ht h9
  have hle := hmono _ _ _ r hF
  rw [hb, hc0] at hle
  have s1 := amSs_le hn
  have s3 := amSs_le hle
  have s4 := amSs_succ n
  have ht2 : (amShp n).1 = 24 := by rw [← hc0]; exact ht
  have hsm := shp_small n
  rw [hc0] at hlen
  have hy0 : ¬ Int32.ofInt y < 0 := fun q => by
    have := (n_lt hst.1 R32_0).mp q
    omega
  have hyN : (Int32.ofInt y).toNatClampNeg = (amShp n).2 := by rw [n_clamp hst.1]; omega
  refine va_newq hx hbb hown (hts _ hw) (C := "AlikeTown$Sheet") hK.2.2.1.2.1 hK.1 hH.1 amWs_D hS (fun q hq => by show G.1 ≤ q; omega) hy0 hyN (by omega) (by omega) (by omega) hd (fun q cA H1 hK1 hP1 hD1 hS1 => ?_)
  have hcA : cA = E 24 := by
    obtain ⟨kA, comp, q1, q2, q3, q4⟩ := (hK1.2 6 (cA, .object "AlikeTown$Sheet") rfl).2
    obtain ⟨kA', comp', q1', q2', q3', q4'⟩ := (hK.1.2 4 (E 24, .object "AlikeTown$Sheet") rfl).2
    exact Option.some.inj (q4.symm.trans q4')
  subst hcA
  refine W_size (fun hz => ?_)
  have ec : amCellE E G (fun k => amDf 24 k) n = .inl (E 24, (amShp n).2, .inr (.inr (.inr (.inr (fun _ => none))))) := by rw [amCellE_arr ht2 (by omega), amArr_q _ (by omega)]; rfl
  rw [← ec] at hP1 hD1
  have hq1 := newAddr hP1 hD1 (by have := hS.1; omega)
  subst hq1
  have h5 := h ((amCnt μ : Int) :: st) lc (amBorn μ) (n + 1) H1 locs sl hF (hH.born h0 (by rw [← hc0]; exact ht) h9 hP1) (hX.born (by omega)) ⟨⟨by omega, Or.inl (by omega)⟩, amStk.up (Nat.le_succ n) hst.2⟩ (hfr.up (by omega)) hS1 (by omega)
  rw [amVs_ref (by omega)] at h5
  have e2 : amAd G ((amCnt μ : Int)).toNat = G.1 + n := by rw [hc0]; exact amAd_lt (by omega)
  rw [e2] at h5
  have c1 : n - n0 + 1 = n + 1 - n0 := by omega
  have c2 : amSs n - amSs n0 + (amShp n).2 = amSs (n + 1) - amSs n0 := by rw [amSs_succ]; omega
  rw [c1, c2]
  exact h5
theorem multi_outer (c : ClassId) (N h0 : Nat) : ∀ i : Nat, Jvm.Free.Multi.outerC c N h0 i = arrV c N (fun j => va_rf (if j < i then some (h0 + 1 + j) else none))
  | 0 => by
    show ({ cls := c, slots := Array.replicate N .null, vm := .none } : Cell) = _
    rw [arrV_new]
    exact congrArg (arrV c N) (funext fun j => by rw [if_neg (Nat.not_lt_zero j)]; rfl)
  | i + 1 => by
    show (Jvm.Free.Multi.outerC c N h0 i).setSlot i (.ref (h0 + 1 + i)) = _
    rw [multi_outer c N h0 i, arrV_store]
    refine congrArg (arrV c N) (funext fun j => ?_)
    unfold updV
    by_cases e : j = i
    · subst e
      rw [if_pos (Nat.lt_succ_self j)]
      simp [va_rf]
    · by_cases h : j < i
      · simp [e, h, Nat.lt_succ_of_lt h]
      · simp [e, h, show ¬ j < i + 1 by omega]
theorem go_multi {p : Program} {l : Launch} {e : Env} {s : State} {m : MethodId} {args : Array Value} {below : List Frame} {meth : Method} {c : Code} {D : va_G} {E : Nat → ClassId} {G : amG} {cr : amC} {L : Nat} {xs : Nat → Int32} {mi d n0 : Nat} {R : Room} {r : Int × amM} {Qf : State → Prop} {pc : Nat} {ts tl : List Nat} {call : Nat → List Int → amM → amR} {rt : Nat → Nat × Nat} {k : amJ} {nx : amN} (hC : amCx p s m args meth c D E G cr L xs mi d n0 R r) {i a b w : Nat} {z : List (Int × Nat)} (h0 : ∀ c k, cr c k = none) (hw1 : Cond.classLink (amNm (amYt mi).1) i "[[I" ∈ amTbl) (hw2 : Cond.arrayClass .int ∈ amTbl) (hmono : ∀ st ls μ, amMr μ (nx st ls μ)) (hd : decode (amBy mi) pc = .ok (.multianewarray i 2, 4)) (h : amGo p l e s m args below meth c D E G cr L xs mi d n0 R r Qf (pc + 4) (2 :: ts) tl nx) : amGo p l e s m args below meth c D E G cr L xs mi d n0 R r Qf pc (0 :: 0 :: ts) tl (stp cr call rt (.multianewarray i 2, a, b, w, z) k nx) := by
  obtain ⟨hx, hbb, hml, hown, hts, hK, hR, hlk, hnm, hcr, hsz⟩ := hC
  intro st lc μ n H locs sl hF hH hX hst hfr hS hn
  rcases st with _ | ⟨y, _ | ⟨x, st⟩⟩
  · exact hst.elim
  · exact hst.2.elim
  have hF : amMul μ x y (fun v μ => nx (v :: st) lc μ) = some r := hF
  obtain ⟨⟨hc1, rfl, rfl⟩, hG⟩ := if_some hF
  have hc0 := hH.cnt
  rw [hc1] at hc0
  subst hc0
  have hle : 48 ≤ amCnt r.2 := hmono _ _ _ r hG
  have s1 := amSs_le hn
  have s3 := amSs_le hle
  have s4 : amSs 48 = amSs 42 + 645 := by decide +kernel
  have hov : (Cond.arrayOver (.array .int)).before args s = true := hK.2.2.1.2.2
  refine W_size (fun hq => ?_)
  have hHs := amSize hH hS hsz hn hq
  intro T hT X
  obtain ⟨vm₁, cA, comp, -, fA, fC, hO, -, X', step⟩ := X.multianewarray2F hx hown (ty := .int) (hts _ hw1) hov (hts _ hw2) (g := F0 m pc sl (amVs G (0 :: 0 :: ts) (128 :: 5 :: st))) rfl (by rw [hbb]; exact hd) (n := 5) (k := 128) (rest := amVs G ts st) rfl (by decide) (by decide) (by decide) (by decide) (by decide) rfl rfl (by show _ + (1 + 5) ≤ _; omega) (by show _ + (5 + 5 * 128) ≤ _; omega)
  generalize hFl : Jvm.Free.Multi.fill (T.setVm vm₁) cA comp (5 : Int32).toNatClampNeg (128 : Int32).toNatClampNeg (defaultValue .int) (5 : Int32).toNatClampNeg = Fl at X' step
  have hTh : (T.setVm vm₁).heap = H := hT
  obtain ⟨f1, f2, -, -⟩ := Jvm.Free.Multi.fill_facts (T.setVm vm₁) cA comp (5 : Int32).toNatClampNeg (128 : Int32).toNatClampNeg (defaultValue .int) (5 : Int32).toNatClampNeg
  rw [hFl, hTh] at f1 f2
  have hold : ∀ q : Nat, q < H.size → Fl.heap[q]? = H[q]? := fun q hq => by
    have := Jvm.Free.Multi.fill_old (T.setVm vm₁) cA comp (5 : Int32).toNatClampNeg (128 : Int32).toNatClampNeg (defaultValue .int) (a := q) (by rw [hTh]; exact hq) (5 : Int32).toNatClampNeg
    rw [hFl, hTh] at this
    exact this
  have hrow : ∀ j : Nat, j < 5 → Fl.heap[H.size + 1 + j]? = some (Jvm.Free.Multi.innerC comp 128 (.int 0)) := fun j hj => by
    have := Jvm.Free.Multi.fill_inner (T.setVm vm₁) cA comp (5 : Int32).toNatClampNeg (128 : Int32).toNatClampNeg (defaultValue .int) (5 : Int32).toNatClampNeg j hj
    rw [hFl, hTh] at this
    exact this
  have hcA : cA = E 25 := by
    have q2 := (hK.1.2 5 (E 25, .array .int) rfl).2
    have q4 : s.vm.findClass ("[" ++ (FieldType.array .int).toString) = some (E 25) := q2
    exact Option.some.inj (fA.symm.trans q4)
  have hcomp : comp = E 20 := by
    have q2 := (hK.1.2 0 (E 20, .int) rfl).2
    have q4 : s.vm.findClass ("[" ++ (FieldType.int).toString) = some (E 20) := q2
    exact Option.some.inj (fC.symm.trans q4)
  subst hcA
  subst hcomp
  obtain ⟨μ1, hμ1⟩ : ∃ μ1 : amM, μ1 = (fun c => if c = 42 then (fun j => if j < 5 then ((42 + 1 + j : Nat) : Int) else -1) else if 42 < c ∧ c ≤ 42 + 5 then (fun _ => 0) else if c = 999 then (fun _ => ((42 + 6 : Nat) : Int)) else μ c) := ⟨_, rfl⟩
  have hG2 : nx (42 :: st) lc μ1 = some r := by rw [hμ1]; exact hG
  have r42 : ∀ j, μ1 42 j = if j < 5 then ((43 + j : Nat) : Int) else -1 := fun j => by rw [hμ1]; rfl
  have rin : ∀ c, 42 < c → c ≤ 47 → μ1 c = fun _ => 0 := fun c h1 h2 => by rw [hμ1]; dsimp only; rw [if_neg (by omega), if_pos ⟨h1, by omega⟩]
  have rlo : ∀ c, c < 42 → μ1 c = μ c := fun c h1 => by rw [hμ1]; dsimp only; rw [if_neg (by omega), if_neg (by omega), if_neg (by omega)]
  have hP1 : va_P D amCl (amWs E G 48 μ1) Fl.heap := by
    intro k q hk
    obtain ⟨hk1, rfl⟩ := amWs_lt hk
    by_cases k1 : k < 42
    · rw [rlo k k1]
      have h9 := hH.1 k _ (amWs_get k1)
      rw [amCt_0 h0] at h9
      exact h9.kept (hold _ (by show G.1 + k < _; omega))
    · by_cases k2 : k = 42
      · subst k2
        rw [amCellE_arr (t := 25) (by decide +kernel) (by decide), amArr_q _ (by decide)]
        show Fl.heap[G.1 + 42]? = some (vp_cell _ _)
        rw [← hHs, f2, vp_cell_q]
        congr 1
        rw [multi_outer]
        refine congrArg (arrV _ _) (funext fun j => congrArg va_rf ?_)
        rw [r42]
        by_cases e : j < 5
        · have e1 : ¬ (((43 + j : Nat) : Int) < 0) := by omega
          have e2 : amAd G ((43 + j : Nat) : Int).toNat = H.size + 1 + j := by
            rw [show ((43 + j : Nat) : Int).toNat = 43 + j from rfl, amAd_lt (by omega)]; omega
          have e3 : j < (5 : Int32).toNatClampNeg := e
          simp only [e, e3, if_true, e1, if_false, e2]
        · have e3 : ¬ j < (5 : Int32).toNatClampNeg := e
          simp only [e, e3, if_false]
          rfl
      · have hsh : amShp k = (20, 128) := by
          rcases (show k = 43 ∨ k = 44 ∨ k = 45 ∨ k = 46 ∨ k = 47 by omega) with rfl | rfl | rfl | rfl | rfl <;> decide +kernel
        rw [amCellE_arr (t := 20) (by rw [hsh]) (by decide), amArr_i _ (by decide) (by decide), rin k (by omega) (by omega), hsh]
        show Fl.heap[G.1 + k]? = some (vp_cell _ _)
        have h9 := hrow (k - 43) (by omega)
        rw [show H.size + 1 + (k - 43) = G.1 + k by omega] at h9
        rw [h9, vp_cell_i]
        exact congrArg some (arrV_new _ _ _)
  have hH1 : amH D E G cr 48 μ1 Fl.heap := by
    refine ⟨by rw [amCt_0 h0]; exact hP1, fun k hk j hj => ?_, by rw [hμ1]; rfl, by decide⟩
    rw [amCt_0 h0]
    by_cases k1 : k < 42
    · rw [rlo k k1]
      have h9 := hH.2.1 k k1 j hj
      rw [amCt_0 h0] at h9
      exact h9.up (by decide)
    · by_cases k2 : k = 42
      · subst k2
        have hsh : amShp 42 = (25, 5) := by decide +kernel
        rw [hsh] at hj
        have hj : j < 5 := hj
        rw [r42, if_pos hj]
        refine Or.inr ?_
        have e : amSl 42 j = 2 := by unfold amSl; rw [hsh]; rfl
        rw [e]
        exact ⟨by omega, Or.inl (by omega)⟩
      · have hsh : amShp k = (20, 128) := by
          rcases (show k = 43 ∨ k = 44 ∨ k = 45 ∨ k = 46 ∨ k = 47 by omega) with rfl | rfl | rfl | rfl | rfl <;> decide +kernel
        rw [rin k (by omega) (by omega)]
        refine Or.inr ?_
        have e : amSl k j = 0 := by unfold amSl; rw [hsh]; rfl
        rw [e]
        exact R32_0
  have hX1 : amX L xs μ1 := by
    unfold amX
    have e : μ1 302 = μ 302 := by rw [hμ1]; rfl
    rw [e]; exact hX
  have h5 := h (42 :: st) lc μ1 48 Fl.heap locs sl hG2 hH1 hX1 ⟨⟨by decide, Or.inl (by decide)⟩, amStk.up (by decide) hst.2.2⟩ (hfr.up (by decide)) ⟨by have := hS.1; omega, fun q h1 h2 => (hold q (Nat.lt_of_lt_of_le h1 hS.1)).trans (hS.2.1 q h1 h2), hS.2.2⟩ (by omega)
  rw [amVs_ref (by decide), show amAd G (42 : Int).toNat = G.1 + 42 from amAd_lt (by decide)] at h5
  have c1 : 42 - n0 + 1 + (5 : Int32).toNatClampNeg = 48 - n0 := by show 42 - n0 + 1 + 5 = _; omega
  have c2 : amSs 42 - amSs n0 + (5 : Int32).toNatClampNeg + (5 : Int32).toNatClampNeg * (128 : Int32).toNatClampNeg = amSs 48 - amSs n0 := by show amSs 42 - amSs n0 + 5 + 5 * 128 = _; omega
  rw [c1, c2] at X'
  obtain ⟨t, a1, b1⟩ := h5 Fl rfl X'
  refine ⟨t, step t ?_, b1⟩
  rw [show T.heap.size = G.1 + 42 by rw [hT]; exact hHs]
  exact a1
