/-! ===== fields, rows of numbers, branches ===== -/
theorem if_some {c : Prop} {hc : Decidable c} {a : amR} {r : Int × amM} (h : (if c then a else none) = some r) : c ∧ a = some r := by
  by_cases hq : c
  · rw [if_pos hq] at h; exact ⟨hq, h⟩
  · rw [if_neg hq] at h; cases h
theorem some_if {c : Prop} {hc : Decidable c} {a : amR} {r : Int × amM} (h : (if c then none else a) = some r) : ¬ c ∧ a = some r := by
  by_cases hq : c
  · rw [if_pos hq] at h; cases h
  · rw [if_neg hq] at h; exact ⟨hq, h⟩
theorem amCellE_obj {E : Nat → ClassId} {G : amG} {f : Nat → Int} {k ci : Nat} (h : (amShp k).1 = ci) (h2 : ci < 20) : amCellE E G f k = .inr (ci, (List.range (amShp k).2).map (fun j => amVal G (amFt ci j) (f j))) := by
  unfold amCellE
  rw [h, if_pos h2]
theorem amCellE_arr {E : Nat → ClassId} {G : amG} {f : Nat → Int} {k t : Nat} (h : (amShp k).1 = t) (h2 : ¬ t < 20) : amCellE E G f k = .inl (E t, (amShp k).2, amArr G t f) := by
  unfold amCellE
  rw [h, if_neg h2]
theorem amSl_obj {k ci j : Nat} (h : (amShp k).1 = ci) (h2 : ci < 20) : amSl k j = amFt ci j := by
  unfold amSl
  rw [h, if_pos h2]
theorem amSl_arr {k t j : Nat} (h : (amShp k).1 = t) (h2 : ¬ t < 20) : amSl k j = if t = 21 then 1 else if t < 23 then 0 else 2 := by
  unfold amSl
  rw [h, if_neg h2]
theorem amOk_ft {n t t' : Nat} {x : Int} (h : amOk n t x) (ht : t = t' ∨ (t = 4 ∧ t' = 0)) : amOk n t' x := by
  rcases ht with rfl | ⟨rfl, rfl⟩
  · exact h
  · exact h
theorem amVal_ft {G : amG} {t t' : Nat} {x : Int} (ht : t = t' ∨ (t = 4 ∧ t' = 0)) : amVal G t x = amVal G t' x := by
  rcases ht with rfl | ⟨rfl, rfl⟩
  · rfl
  · rfl
theorem shp_no {t : Nat} (h : t = 26 ∨ t = 27) (cc : Nat) : (amShp cc).1 ≠ t := by
  by_cases hc : cc < 95
  · have hq := List.all_eq_true.mp (show ((List.range 95).all (fun k => decide ((amShp k).1 ≠ 26 ∧ (amShp k).1 ≠ 27))) = true by decide +kernel) cc (List.mem_range.mpr hc)
    have hq2 := of_decide_eq_true hq
    rcases h with rfl | rfl
    · exact hq2.1
    · exact hq2.2
  · have e : amShp cc = (99, 0) := by
      unfold amShp
      rw [List.getD_eq_getElem?_getD, List.getElem?_eq_none (by show amShpL.length ≤ cc; exact Nat.le_of_not_lt hc)]
      rfl
    rw [e]
    rcases h with rfl | rfl <;> decide
theorem tg_big {x : Int} {t : Nat} (h : amTg x = t) (ht : t = 26 ∨ t = 27) (hx : 0 ≤ x) : (t = 26 ∧ x = 302) ∨ (t = 27 ∧ (x = 300 ∨ x = 301)) := by
  cases x with
  | ofNat cc =>
    have q : amTgN cc = t := h
    by_cases e1 : cc = 300
    · subst e1; exact Or.inr ⟨q.symm.trans rfl, Or.inl rfl⟩
    · by_cases e2 : cc = 301
      · subst e2; exact Or.inr ⟨q.symm.trans rfl, Or.inr rfl⟩
      · by_cases e3 : cc = 302
        · subst e3; exact Or.inl ⟨q.symm.trans rfl, rfl⟩
        · exfalso
          have h3 : amTgN cc = (amShp cc).1 := by
            unfold amTgN
            split
            · exact absurd rfl e1
            · exact absurd rfl e2
            · exact absurd rfl e3
            · rfl
          exact shp_no ht cc (h3.symm.trans q)
  | negSucc cc => exact absurd hx (by omega)
theorem amArr_i {G : amG} {t : Nat} (f : Nat → Int) (h1 : t ≠ 21) (h2 : t < 23) : amArr G t f = .inl (fun j => Int32.ofInt (f j)) := by
  unfold amArr
  rw [if_neg h1, if_pos h2]
theorem amArr_l {G : amG} (f : Nat → Int) : amArr G 21 f = .inr (.inl (fun j => Int64.ofInt (f j))) := if_pos rfl
/-- fields and their cells have as many slots as their class says -/
def amShpOk : Bool := (List.range 95).all (fun k => decide ((amShp k).1 < 20 → (amCl[(amShp k).1]?).map (fun q => q.2.2) = some (amShp k).2))
theorem amShp_ok : amShpOk = true := by decide +kernel
theorem amShp_N {k ci N : Nat} {C : String} {T : u_T} (h : (amShp k).1 = ci) (h2 : ci < 20) (hk : k < 95) (hc : amCl[ci]? = some (C, T, N)) : (amShp k).2 = N := by
  have h3 := List.all_eq_true.mp amShp_ok k (List.mem_range.mpr hk)
  simp only [decide_eq_true_eq] at h3
  rw [h] at h3
  have h4 := h3 h2
  rw [hc] at h4
  exact (Option.some.inj h4).symm
theorem amCr_arr {cr : amC} (h : amCrOk cr) {k t j : Nat} (h1 : (amShp k).1 = t) (h2 : ¬ t < 20) (h3 : t < 23) : cr k j = none := by
  cases hv : cr k j with
  | none => rfl
  | some v =>
    have h4 := (h k j v hv).1
    rw [amSl_arr h1 h2] at h4
    split at h4
    · omega
    · first | omega | (rw [if_pos h3] at h4; omega)
theorem amCt_arr {cr : amC} (h : amCrOk cr) {k t : Nat} (μ : amM) (h1 : (amShp k).1 = t) (h2 : ¬ t < 20) (h3 : t < 23) : amCt cr μ k = μ k := by
  funext j
  unfold amCt
  rw [amCr_arr h h1 h2 h3]
theorem go_getfield {p : Program} {l : Launch} {e : Env} {s : State} {m : MethodId} {args : Array Value} {below : List Frame} {meth : Method} {c : Code} {D : va_G} {E : Nat → ClassId} {G : amG} {cr : amC} {L : Nat} {xs : Nat → Int32} {mi d n0 : Nat} {R : Room} {r : Int × amM} {Qf : State → Prop} {pc : Nat} {ts tl : List Nat} {call : Nat → List Int → amM → amR} {rt : Nat → Nat × Nat} {k : amJ} {nx : amN} (hC : amCx p s m args meth c D E G cr L xs mi d n0 R r) {i ci kf t a w N : Nat} {C : String} {Tb : u_T} {z : List (Int × Nat)} (hc : amCl[ci]? = some (C, Tb, N)) (hci : ci < 20) (hk : kf < N) (hin : ∀ w ∈ u_ws C Tb N, w ∈ amTbl) (hw : Cond.fieldLink (amNm (amYt mi).1) i (Tb kf).1 (Tb kf).2.1 (Tb kf).2.2.1 ∈ amTbl) (ht : amFt ci kf = t ∨ (amFt ci kf = 4 ∧ t = 0)) (hd : decode (amBy mi) pc = .ok (.getfield i, 3)) (h : amGo p l e s m args below meth c D E G cr L xs mi d n0 R r Qf (pc + 3) (t :: ts) tl nx) : amGo p l e s m args below meth c D E G cr L xs mi d n0 R r Qf pc (2 :: ts) tl (stp cr call rt (.getfield i, ci, kf, w, z) k nx) := by
  obtain ⟨hx, hb, hml, hown, hts, hK, hR, hlk, hnm, hcr, hsz⟩ := hC
  intro st lc μ n H locs sl hF hH hX hst hfr hS hn
  rcases st with _ | ⟨x, st⟩
  · exact hst.elim
  have hF1 : ∃ v, amTg x = ci ∧ v = amCt cr μ x.toNat kf ∧ (amFt ci kf = 2 → 0 ≤ v) ∧ nx (v :: st) lc μ = some r := by
    rcases z with _ | ⟨⟨w0, z0⟩, z⟩
    · have hF : amGf cr μ ci kf x (fun v => nx (v :: st) lc μ) = some r := hF
      obtain ⟨h1, h2⟩ := if_some hF
      by_cases e : amFt ci kf = 2
      · rw [if_pos e] at h2
        obtain ⟨h3, h4⟩ := if_some h2
        exact ⟨_, h1, rfl, fun _ => h3, h4⟩
      · rw [if_neg e] at h2
        exact ⟨_, h1, rfl, fun q => absurd q e, h2⟩
    · have hF : amGx cr μ ci kf x w0 (fun v => nx (v :: st) lc μ) = some r := hF
      obtain ⟨h1, h2⟩ := if_some hF
      obtain ⟨h3, h4⟩ := if_some h2
      obtain ⟨h5, h6⟩ := if_some h4
      exact ⟨_, h1, h3.symm, fun _ => h5, h6⟩
  obtain ⟨v, h1, hv, h2, h3⟩ := hF1
  obtain ⟨g1, g2, g3, g4, g5, g6⟩ := tg_shp h1 (by omega)
  have hlt := amOk_lt hst.1 g4 g5 g6
  have hN := amShp_N g2 hci g3 hc
  have he := amWs_get (E := E) (G := G) (C := amCt cr μ) hlt
  rw [amCellE_obj g2 hci, hN] at he
  rw [amVs_ref g1, amAd_lt g3]
  refine va_get hx hb hts hin hown hK.1 hH.1 x.toNat he hc kf hk (hts _ hw) (fun _ q => q) (range_get hk) hd ?_
  have hok := hH.2.1 x.toNat hlt kf (by omega)
  rw [amSl_obj g2 hci] at hok
  rw [← hv] at hok ⊢
  rw [amVal_ft ht]
  refine h (v :: st) lc μ n H locs sl h3 hH hX ⟨amOk_ft ?_ ht, hst.2⟩ hfr hS hn
  rcases hok with ⟨q1, q2⟩ | q
  · have := h2 q1
    omega
  · exact q
/-- a value of a field's type -/
def amTyOk (t : Nat) (ty : FieldType) : Prop := (t = 0 ∧ ty = .int) ∨ (t = 4 ∧ ty = .boolean) ∨ (t = 2 ∧ ((∃ q, ty = .object q) ∨ ∃ u, ty = .array u))
theorem amTy_nf {G : amG} {t : Nat} {ty : FieldType} {x : Int} (h : amTyOk t ty) (h2 : t = 2 → 0 ≤ x) (h4 : t = 4 → x = 0 ∨ x = 1) : narrow ty (amVal G t x) = amVal G t x ∧ fits ty (amVal G t x) = true := by
  rcases h with ⟨rfl, rfl⟩ | ⟨rfl, rfl⟩ | ⟨rfl, h⟩
  · exact ⟨rfl, rfl⟩
  · rcases h4 rfl with rfl | rfl
    · exact ⟨(by decide +kernel : narrow .boolean (Value.int (Int32.ofInt 0)) = Value.int (Int32.ofInt 0)), rfl⟩
    · exact ⟨(by decide +kernel : narrow .boolean (Value.int (Int32.ofInt 1)) = Value.int (Int32.ofInt 1)), rfl⟩
  · rw [amVal_ref (h2 rfl)]
    rcases h with ⟨q, rfl⟩ | ⟨q, rfl⟩
    · exact ⟨rfl, rfl⟩
    · exact ⟨rfl, rfl⟩
theorem go_putfield {p : Program} {l : Launch} {e : Env} {s : State} {m : MethodId} {args : Array Value} {below : List Frame} {meth : Method} {c : Code} {D : va_G} {E : Nat → ClassId} {G : amG} {cr : amC} {L : Nat} {xs : Nat → Int32} {mi d n0 : Nat} {R : Room} {r : Int × amM} {Qf : State → Prop} {pc : Nat} {ts tl : List Nat} {call : Nat → List Int → amM → amR} {rt : Nat → Nat × Nat} {k : amJ} {nx : amN} (hC : amCx p s m args meth c D E G cr L xs mi d n0 R r) {i ci kf t w N : Nat} {C : String} {Tb : u_T} {ty : FieldType} {ty0 : Nat → FieldType} {z : List (Int × Nat)} (hc : amCl[ci]? = some (C, Tb, N)) (hci : ci < 20) (hk : kf < N) (hin : ∀ w ∈ u_ws C Tb N, w ∈ amTbl) (hty0 : ∀ k, k < N → parseFieldDescriptor (Tb k).2.2.1 = some (ty0 k)) (hnn : ∀ a, a < N → ∀ b, b < N → a ≠ b → (Tb a).2.1 ≠ (Tb b).2.1) (hw : Cond.fieldLink (amNm (amYt mi).1) i (Tb kf).1 (Tb kf).2.1 (Tb kf).2.2.1 ∈ amTbl) (hfin : (Tb kf).2.2.2 = false) (hpd : parseFieldDescriptor (Tb kf).2.2.1 = some ty) (hty : amTyOk (amFt ci kf) ty) (ht : amFt ci kf = t ∨ (amFt ci kf = 4 ∧ t = 0)) (hd : decode (amBy mi) pc = .ok (.putfield i, 3)) (h : amGo p l e s m args below meth c D E G cr L xs mi d n0 R r Qf (pc + 3) ts tl nx) : amGo p l e s m args below meth c D E G cr L xs mi d n0 R r Qf pc (t :: 2 :: ts) tl (stp cr call rt (.putfield i, ci, kf, w, z) k nx) := by
  obtain ⟨hx, hb, hml, hown, hts, hK, hR, hlk, hnm, hcr, hsz⟩ := hC
  intro st lc μ n H locs sl hF hH hX hst hfr hS hn
  rcases st with _ | ⟨v, _ | ⟨x, st⟩⟩
  · exact hst.elim
  · exact hst.2.elim
  have hF : amPf cr μ ci kf x v (fun μ => nx st lc μ) = some r := hF
  obtain ⟨⟨h1, -, h2, h4⟩, h3⟩ := if_some hF
  obtain ⟨g1, g2, g3, g4, g5, g6⟩ := tg_shp h1 (by omega)
  have hlt := amOk_lt hst.2.1 g4 g5 g6
  have hN := amShp_N g2 hci g3 hc
  have he := amWs_get (E := E) (G := G) (C := amCt cr μ) hlt
  rw [amCellE_obj g2 hci, hN] at he
  have hvo : amOk n (amFt ci kf) v := by
    rcases ht with e | ⟨e1, e2⟩
    · rw [e]; exact hst.1
    · rw [e1]; rw [e2] at hst; exact hst.1
  have h20 : amFt ci kf = 2 → 0 ≤ v := fun e => by rw [e] at hvo; exact hvo.1
  have hnf := amTy_nf (G := G) hty h20 h4
  have e1 : amVs G (t :: 2 :: ts) (v :: x :: st) = amVal G (amFt ci kf) v :: .ref (G.1 + x.toNat) :: amVs G ts st := by
    rw [amVal_ft ht, ← amAd_lt (G := G) g3, ← amVal_ref g1]; rfl
  rw [e1]
  refine va_put hx hb hts hin ty0 hty0 hnn hown hK.1 hH.1 amWs_D hS x.toNat he hc kf hk (hts _ hw) (fun _ q => q) hfin hpd hnf.1 hnf.2 (by simpa using hk) hd (fun H1 locs1 hP1 _ hS1 => ?_)
  rw [range_set hk] at hP1
  refine h st lc (up μ x.toNat kf v) n H1 locs1 sl h3 (hH.put h2 (by omega) (Or.inr (by rw [amSl_obj g2 hci]; exact hvo)) ?_) (hX.put (by omega)) hst.2.2 hfr hS1 hn
  rw [amCellE_obj g2 hci, hN, amCt_up h2]
  have e2 : (fun j => amVal G (amFt ci j) (if j = kf then v else amCt cr μ x.toNat j)) = (fun j => if j = kf then amVal G (amFt ci kf) v else amVal G (amFt ci j) (amCt cr μ x.toNat j)) := by
    funext j
    by_cases e : j = kf
    · subst e; simp
    · simp [e]
  rw [e2]
  exact hP1
theorem go_putfieldF {p : Program} {l : Launch} {e : Env} {s : State} {m : MethodId} {args : Array Value} {below : List Frame} {meth : Method} {c : Code} {D : va_G} {E : Nat → ClassId} {G : amG} {cr : amC} {L : Nat} {xs : Nat → Int32} {mi d n0 : Nat} {R : Room} {r : Int × amM} {Qf : State → Prop} {pc : Nat} {ts tl : List Nat} {call : Nat → List Int → amM → amR} {rt : Nat → Nat × Nat} {k : amJ} {nx : amN} (hC : amCx p s m args meth c D E G cr L xs mi d n0 R r) {i ci kf t w N : Nat} {C : String} {Tb : u_T} {ty : FieldType} {ty0 : Nat → FieldType} {z : List (Int × Nat)} (hc : amCl[ci]? = some (C, Tb, N)) (hci : ci < 20) (hk : kf < N) (hin : ∀ w ∈ u_ws C Tb N, w ∈ amTbl) (hty0 : ∀ k, k < N → parseFieldDescriptor (Tb k).2.2.1 = some (ty0 k)) (hnn : ∀ a, a < N → ∀ b, b < N → a ≠ b → (Tb a).2.1 ≠ (Tb b).2.1) (hw : Cond.fieldLink (amNm (amYt mi).1) i (Tb kf).1 (Tb kf).2.1 (Tb kf).2.2.1 ∈ amTbl) (hfin : (Tb kf).2.2.2 = true) (hmn : (amY mi).name = "<init>") (hdecl : (Tb kf).1 = amNm (amYt mi).1) (hpd : parseFieldDescriptor (Tb kf).2.2.1 = some ty) (hty : amTyOk (amFt ci kf) ty) (ht : amFt ci kf = t ∨ (amFt ci kf = 4 ∧ t = 0)) (hd : decode (amBy mi) pc = .ok (.putfield i, 3)) (h : amGo p l e s m args below meth c D E G cr L xs mi d n0 R r Qf (pc + 3) ts tl nx) : amGo p l e s m args below meth c D E G cr L xs mi d n0 R r Qf pc (t :: 2 :: ts) tl (stp cr call rt (.putfield i, ci, kf, w, z) k nx) := by
  obtain ⟨hx, hb, hml, hown, hts, hK, hR, hlk, hnm, hcr, hsz⟩ := hC
  intro st lc μ n H locs sl hF hH hX hst hfr hS hn
  rcases st with _ | ⟨v, _ | ⟨x, st⟩⟩
  · exact hst.elim
  · exact hst.2.elim
  have hF : amPf cr μ ci kf x v (fun μ => nx st lc μ) = some r := hF
  obtain ⟨⟨h1, -, h2, h4⟩, h3⟩ := if_some hF
  obtain ⟨g1, g2, g3, g4, g5, g6⟩ := tg_shp h1 (by omega)
  have hlt := amOk_lt hst.2.1 g4 g5 g6
  have hN := amShp_N g2 hci g3 hc
  have he := amWs_get (E := E) (G := G) (C := amCt cr μ) hlt
  rw [amCellE_obj g2 hci, hN] at he
  have hvo : amOk n (amFt ci kf) v := by
    rcases ht with e | ⟨e1, e2⟩
    · rw [e]; exact hst.1
    · rw [e1]; rw [e2] at hst; exact hst.1
  have h20 : amFt ci kf = 2 → 0 ≤ v := fun e => by rw [e] at hvo; exact hvo.1
  have hnf := amTy_nf (G := G) hty h20 h4
  have e1 : amVs G (t :: 2 :: ts) (v :: x :: st) = amVal G (amFt ci kf) v :: .ref (G.1 + x.toNat) :: amVs G ts st := by
    rw [amVal_ft ht, ← amAd_lt (G := G) g3, ← amVal_ref g1]; rfl
  rw [e1]
  refine va_putF hx hb hts hin ty0 hty0 hnn hown hK.1 hH.1 amWs_D hS x.toNat he hc kf hk (hts _ hw) (fun _ q => q) hfin (hnm.trans hmn) hdecl hpd hnf.1 hnf.2 (by simpa using hk) hd (fun H1 locs1 hP1 _ hS1 => ?_)
  rw [range_set hk] at hP1
  refine h st lc (up μ x.toNat kf v) n H1 locs1 sl h3 (hH.put h2 (by omega) (Or.inr (by rw [amSl_obj g2 hci]; exact hvo)) ?_) (hX.put (by omega)) hst.2.2 hfr hS1 hn
  rw [amCellE_obj g2 hci, hN, amCt_up h2]
  have e2 : (fun j => amVal G (amFt ci j) (if j = kf then v else amCt cr μ x.toNat j)) = (fun j => if j = kf then amVal G (amFt ci kf) v else amVal G (amFt ci j) (amCt cr μ x.toNat j)) := by
    funext j
    by_cases e : j = kf
    · subst e; simp
    · simp [e]
  rw [e2]
  exact hP1
theorem go_getstatic0 {p : Program} {l : Launch} {e : Env} {s : State} {m : MethodId} {args : Array Value} {below : List Frame} {meth : Method} {c : Code} {D : va_G} {E : Nat → ClassId} {G : amG} {cr : amC} {L : Nat} {xs : Nat → Int32} {mi d n0 : Nat} {R : Room} {r : Int × amM} {Qf : State → Prop} {pc : Nat} {ts tl : List Nat} {call : Nat → List Int → amM → amR} {rt : Nat → Nat × Nat} {k : amJ} {nx : amN} (hC : amCx p s m args meth c D E G cr L xs mi d n0 R r) {i b w : Nat} {z : List (Int × Nat)} (hw : Cond.fieldLink (amNm (amYt mi).1) i "AlikeTown$Voices" "ABOVE" "[I" ∈ amTbl) (hd : decode (amBy mi) pc = .ok (.getstatic i, 3)) (h : amGo p l e s m args below meth c D E G cr L xs mi d n0 R r Qf (pc + 3) (2 :: ts) tl nx) : amGo p l e s m args below meth c D E G cr L xs mi d n0 R r Qf pc ts tl (stp cr call rt (.getstatic i, 300, b, w, z) k nx) := by
  obtain ⟨hx, hb, hml, hown, hts, hK, hR, hlk, hnm, hcr, hsz⟩ := hC
  intro st lc μ n H locs sl hF hH hX hst hfr hS hn
  have h1 := h (300 :: st) lc μ n H locs sl hF hH hX ⟨⟨by decide, by simp⟩, hst⟩ hfr hS hn
  exact va_gets hx hb hK.2.2.2.1.1 hS hown (hts _ hw) (fun _ q => q) hd h1
theorem go_getstatic1 {p : Program} {l : Launch} {e : Env} {s : State} {m : MethodId} {args : Array Value} {below : List Frame} {meth : Method} {c : Code} {D : va_G} {E : Nat → ClassId} {G : amG} {cr : amC} {L : Nat} {xs : Nat → Int32} {mi d n0 : Nat} {R : Room} {r : Int × amM} {Qf : State → Prop} {pc : Nat} {ts tl : List Nat} {call : Nat → List Int → amM → amR} {rt : Nat → Nat × Nat} {k : amJ} {nx : amN} (hC : amCx p s m args meth c D E G cr L xs mi d n0 R r) {i b w : Nat} {z : List (Int × Nat)} (hw : Cond.fieldLink (amNm (amYt mi).1) i "AlikeTown$Voices" "OWN" "[I" ∈ amTbl) (hd : decode (amBy mi) pc = .ok (.getstatic i, 3)) (h : amGo p l e s m args below meth c D E G cr L xs mi d n0 R r Qf (pc + 3) (2 :: ts) tl nx) : amGo p l e s m args below meth c D E G cr L xs mi d n0 R r Qf pc ts tl (stp cr call rt (.getstatic i, 301, b, w, z) k nx) := by
  obtain ⟨hx, hb, hml, hown, hts, hK, hR, hlk, hnm, hcr, hsz⟩ := hC
  intro st lc μ n H locs sl hF hH hX hst hfr hS hn
  have h1 := h (301 :: st) lc μ n H locs sl hF hH hX ⟨⟨by decide, by simp⟩, hst⟩ hfr hS hn
  exact va_gets hx hb hK.2.2.2.1.2 hS hown (hts _ hw) (fun _ q => q) hd h1
theorem go_iaload {p : Program} {l : Launch} {e : Env} {s : State} {m : MethodId} {args : Array Value} {below : List Frame} {meth : Method} {c : Code} {D : va_G} {E : Nat → ClassId} {G : amG} {cr : amC} {L : Nat} {xs : Nat → Int32} {mi d n0 : Nat} {R : Room} {r : Int × amM} {Qf : State → Prop} {pc : Nat} {ts tl : List Nat} {call : Nat → List Int → amM → amR} {rt : Nat → Nat × Nat} {k : amJ} {nx : amN} (hC : amCx p s m args meth c D E G cr L xs mi d n0 R r) {a b w : Nat} {z : List (Int × Nat)} (hd : decode (amBy mi) pc = .ok (.iaload, 1)) (h : amGo p l e s m args below meth c D E G cr L xs mi d n0 R r Qf (pc + 1) (0 :: ts) tl nx) : amGo p l e s m args below meth c D E G cr L xs mi d n0 R r Qf pc (0 :: 2 :: ts) tl (stp cr call rt (.iaload, a, b, w, z) k nx) := by
  obtain ⟨hx, hb, hml, hown, hts, hK, hR, hlk, hnm, hcr, hsz⟩ := hC
  intro st lc μ n H locs sl hF hH hX hst hfr hS hn
  rcases st with _ | ⟨y, _ | ⟨x, st⟩⟩
  · exact hst.elim
  · exact hst.2.elim
  have hF : amAld μ x y (fun v => nx (v :: st) lc μ) = some r := hF
  unfold amAld at hF
  have e1 : amVs G (0 :: 2 :: ts) (y :: x :: st) = .int (Int32.ofInt y) :: .ref (amAd G x.toNat) :: amVs G ts st := by
    rw [← amVal_ref hst.2.1.1]; rfl
  rw [e1]
  by_cases h20 : amTg x = 20
  · rw [if_pos h20] at hF
    obtain ⟨h1, h2⟩ := if_some hF
    obtain ⟨g1, g2, g3, g4, g5, g6⟩ := tg_shp h20 (by omega)
    have hlt := amOk_lt hst.2.1 g4 g5 g6
    have he := amWs_get (E := E) (G := G) (C := amCt cr μ) hlt
    rw [amCellE_arr g2 (by omega), amCt_arr hcr μ g2 (by omega) (by omega)] at he
    have hl : amLn x = ((amShp x.toNat).2 : Int) := by
      cases x with
      | ofNat cc =>
        show ((amLnN cc : Nat) : Int) = _
        unfold amLnN
        split
        · exact absurd rfl g4
        · exact absurd rfl g5
        · rfl
      | negSucc cc => exact absurd g1 (by omega)
    rw [hl] at h1
    rw [amAd_lt g3]
    have hok := hH.2.1 x.toNat hlt y.toNat (by omega)
    rw [amSl_arr g2 (by omega), amCt_arr hcr μ g2 (by omega) (by omega)] at hok
    have hok2 : R32 (μ x.toNat y.toNat) := by
      rcases hok with q | q
      · exact absurd q.1 (by decide)
      · exact q
    refine va_iald hx hb hK.1 hH.1 x.toNat 0 he rfl (n_in hst.1 h1) hd ?_
    rw [n_clamp hst.1]
    exact h (_ :: st) lc μ n H locs sl h2 hH hX ⟨hok2, hst.2.2⟩ hfr hS hn
  · rw [if_neg h20] at hF
    by_cases h27 : amTg x = 27
    · rw [if_pos h27] at hF
      obtain ⟨h1, h2⟩ := if_some hF
      have hx2 : x = 300 ∨ x = 301 := by
        rcases tg_big h27 (Or.inr rfl) hst.2.1.1 with q | q
        · exact absurd q.1 (by decide)
        · exact q.2
      have tab : ∀ j, R32 (amTab 300 j) ∧ R32 (amTab 301 j) := by
        intro j
        by_cases hj : j < 28
        · have hq := List.all_eq_true.mp (show ((List.range 28).all (fun j => decide ((-2147483648 ≤ amTab 300 j ∧ amTab 300 j < 2147483648) ∧ (-2147483648 ≤ amTab 301 j ∧ amTab 301 j < 2147483648)))) = true by decide +kernel) j (List.mem_range.mpr hj)
          have hq2 := of_decide_eq_true hq
          exact hq2
        · have e1 : amTab 300 j = 0 := by
            show amT0.getD j 0 = 0
            rw [List.getD_eq_getElem?_getD, List.getElem?_eq_none (by show 7 ≤ j; omega)]; rfl
          have e2 : amTab 301 j = 0 := by
            show amT1.getD j 0 = 0
            rw [List.getD_eq_getElem?_getD, List.getElem?_eq_none (by show 28 ≤ j; omega)]; rfl
          rw [e1, e2]; exact ⟨R32_0, R32_0⟩
      rcases hx2 with rfl | rfl
      · refine va_ti hx hb hK.2.2.2.2.1.1 hS (n_in hst.1 h1) rfl hd ?_
        rw [n_clamp hst.1]
        exact h (_ :: st) lc μ n H locs sl h2 hH hX ⟨(tab _).1, hst.2.2⟩ hfr hS hn
      · refine va_ti hx hb hK.2.2.2.2.1.2 hS (n_in hst.1 h1) rfl hd ?_
        rw [n_clamp hst.1]
        exact h (_ :: st) lc μ n H locs sl h2 hH hX ⟨(tab _).2, hst.2.2⟩ hfr hS hn
    · rw [if_neg h27] at hF
      obtain ⟨h26, hF⟩ := if_some hF
      obtain ⟨h1, h2⟩ := if_some hF
      have hx2 : x = 302 := by
        rcases tg_big h26 (Or.inl rfl) hst.2.1.1 with q | q
        · exact q.2
        · exact absurd q.1 (by decide)
      subst hx2
      rw [hX.1] at h1
      have hj : y.toNat < L := by omega
      rw [hX.2 _ hj] at h2
      refine va_sld hx hb hK.2.2.2.2.2.1 (by have := hK.2.2.2.2.2; omega) (by have := hK.2.2.2.2.2.2.1; show ¬ G.1 ≤ G.2.2.2; omega) hS (n_in hst.1 h1) hd ?_
      rw [n_clamp hst.1]
      have h5 := h (_ :: st) lc μ n H locs sl h2 hH hX ⟨i32_R _, hst.2.2⟩ hfr hS hn
      have e2 : amVs G (0 :: ts) ((xs y.toNat).toInt :: st) = .int (xs y.toNat) :: amVs G ts st := by
        show Value.int (Int32.ofInt (xs y.toNat).toInt) :: _ = _
        rw [Int32.ofInt_toInt]; rfl
      rw [e2] at h5
      exact h5
theorem amLn_arr {x : Int} (g1 : 0 ≤ x) (g4 : x ≠ 300) (g5 : x ≠ 301) : amLn x = ((amShp x.toNat).2 : Int) := by
  cases x with
  | ofNat cc =>
    show ((amLnN cc : Nat) : Int) = _
    unfold amLnN
    split
    · exact absurd rfl g4
    · exact absurd rfl g5
    · rfl
  | negSucc cc => exact absurd g1 (by omega)
theorem go_laload {p : Program} {l : Launch} {e : Env} {s : State} {m : MethodId} {args : Array Value} {below : List Frame} {meth : Method} {c : Code} {D : va_G} {E : Nat → ClassId} {G : amG} {cr : amC} {L : Nat} {xs : Nat → Int32} {mi d n0 : Nat} {R : Room} {r : Int × amM} {Qf : State → Prop} {pc : Nat} {ts tl : List Nat} {call : Nat → List Int → amM → amR} {rt : Nat → Nat × Nat} {k : amJ} {nx : amN} (hC : amCx p s m args meth c D E G cr L xs mi d n0 R r) {a b w : Nat} {z : List (Int × Nat)} (hd : decode (amBy mi) pc = .ok (.laload, 1)) (h : amGo p l e s m args below meth c D E G cr L xs mi d n0 R r Qf (pc + 1) (1 :: ts) tl nx) : amGo p l e s m args below meth c D E G cr L xs mi d n0 R r Qf pc (0 :: 2 :: ts) tl (stp cr call rt (.laload, a, b, w, z) k nx) := by
  obtain ⟨hx, hb, hml, hown, hts, hK, hR, hlk, hnm, hcr, hsz⟩ := hC
  intro st lc μ n H locs sl hF hH hX hst hfr hS hn
  rcases st with _ | ⟨y, _ | ⟨x, st⟩⟩
  · exact hst.elim
  · exact hst.2.elim
  have hF : amPld 21 μ x y (fun v => nx (v :: st) lc μ) = some r := hF
  obtain ⟨h20, hF⟩ := if_some hF
  obtain ⟨h1, h2⟩ := if_some hF
  have e1 : amVs G (0 :: 2 :: ts) (y :: x :: st) = .int (Int32.ofInt y) :: .ref (amAd G x.toNat) :: amVs G ts st := by
    rw [← amVal_ref hst.2.1.1]; rfl
  rw [e1]
  obtain ⟨g1, g2, g3, g4, g5, g6⟩ := tg_shp h20 (by omega)
  have hlt := amOk_lt hst.2.1 g4 g5 g6
  have he := amWs_get (E := E) (G := G) (C := amCt cr μ) hlt
  rw [amCellE_arr g2 (by omega), amCt_arr hcr μ g2 (by omega) (by omega)] at he
  rw [amLn_arr g1 g4 g5] at h1
  rw [amAd_lt g3]
  have hok := hH.2.1 x.toNat hlt y.toNat (by omega)
  rw [amSl_arr g2 (by omega), amCt_arr hcr μ g2 (by omega) (by omega)] at hok
  have hok2 : R64 (μ x.toNat y.toNat) := by
    rcases hok with q | q
    · exact absurd q.1 (by decide)
    · exact q
  refine va_lald hx hb hK.1 hH.1 x.toNat 1 he rfl (n_in hst.1 h1) hd ?_
  rw [n_clamp hst.1]
  exact h (_ :: st) lc μ n H locs sl h2 hH hX ⟨hok2, hst.2.2⟩ hfr hS hn
theorem go_baload {p : Program} {l : Launch} {e : Env} {s : State} {m : MethodId} {args : Array Value} {below : List Frame} {meth : Method} {c : Code} {D : va_G} {E : Nat → ClassId} {G : amG} {cr : amC} {L : Nat} {xs : Nat → Int32} {mi d n0 : Nat} {R : Room} {r : Int × amM} {Qf : State → Prop} {pc : Nat} {ts tl : List Nat} {call : Nat → List Int → amM → amR} {rt : Nat → Nat × Nat} {k : amJ} {nx : amN} (hC : amCx p s m args meth c D E G cr L xs mi d n0 R r) {a b w : Nat} {z : List (Int × Nat)} (hd : decode (amBy mi) pc = .ok (.baload, 1)) (h : amGo p l e s m args below meth c D E G cr L xs mi d n0 R r Qf (pc + 1) (0 :: ts) tl nx) : amGo p l e s m args below meth c D E G cr L xs mi d n0 R r Qf pc (0 :: 2 :: ts) tl (stp cr call rt (.baload, a, b, w, z) k nx) := by
  obtain ⟨hx, hb, hml, hown, hts, hK, hR, hlk, hnm, hcr, hsz⟩ := hC
  intro st lc μ n H locs sl hF hH hX hst hfr hS hn
  rcases st with _ | ⟨y, _ | ⟨x, st⟩⟩
  · exact hst.elim
  · exact hst.2.elim
  have hF : amPld 22 μ x y (fun v => nx (v :: st) lc μ) = some r := hF
  obtain ⟨h20, hF⟩ := if_some hF
  obtain ⟨h1, h2⟩ := if_some hF
  have e1 : amVs G (0 :: 2 :: ts) (y :: x :: st) = .int (Int32.ofInt y) :: .ref (amAd G x.toNat) :: amVs G ts st := by
    rw [← amVal_ref hst.2.1.1]; rfl
  rw [e1]
  obtain ⟨g1, g2, g3, g4, g5, g6⟩ := tg_shp h20 (by omega)
  have hlt := amOk_lt hst.2.1 g4 g5 g6
  have he := amWs_get (E := E) (G := G) (C := amCt cr μ) hlt
  rw [amCellE_arr g2 (by omega), amCt_arr hcr μ g2 (by omega) (by omega)] at he
  rw [amLn_arr g1 g4 g5] at h1
  rw [amAd_lt g3]
  have hok := hH.2.1 x.toNat hlt y.toNat (by omega)
  rw [amSl_arr g2 (by omega), amCt_arr hcr μ g2 (by omega) (by omega)] at hok
  have hok2 : R32 (μ x.toNat y.toNat) := by
    rcases hok with q | q
    · exact absurd q.1 (by decide)
    · exact q
  refine va_zald hx hb hK.1 hH.1 x.toNat 2 he rfl (n_in hst.1 h1) hd ?_
  rw [n_clamp hst.1]
  exact h (_ :: st) lc μ n H locs sl h2 hH hX ⟨hok2, hst.2.2⟩ hfr hS hn
theorem go_iastore {p : Program} {l : Launch} {e : Env} {s : State} {m : MethodId} {args : Array Value} {below : List Frame} {meth : Method} {c : Code} {D : va_G} {E : Nat → ClassId} {G : amG} {cr : amC} {L : Nat} {xs : Nat → Int32} {mi d n0 : Nat} {R : Room} {r : Int × amM} {Qf : State → Prop} {pc : Nat} {ts tl : List Nat} {call : Nat → List Int → amM → amR} {rt : Nat → Nat × Nat} {k : amJ} {nx : amN} (hC : amCx p s m args meth c D E G cr L xs mi d n0 R r) {a b w : Nat} {z : List (Int × Nat)} (hd : decode (amBy mi) pc = .ok (.iastore, 1)) (h : amGo p l e s m args below meth c D E G cr L xs mi d n0 R r Qf (pc + 1) ts tl nx) : amGo p l e s m args below meth c D E G cr L xs mi d n0 R r Qf pc (0 :: 0 :: 2 :: ts) tl (stp cr call rt (.iastore, a, b, w, z) k nx) := by
  obtain ⟨hx, hb, hml, hown, hts, hK, hR, hlk, hnm, hcr, hsz⟩ := hC
  intro st lc μ n H locs sl hF hH hX hst hfr hS hn
  rcases st with _ | ⟨v, _ | ⟨y, _ | ⟨x, st⟩⟩⟩
  · exact hst.elim
  · exact hst.2.elim
  · exact hst.2.2.elim
  have hF : amPst 20 μ x y v (fun μ => nx st lc μ) = some r := hF
  obtain ⟨h20, hF⟩ := if_some hF
  obtain ⟨h1, h2⟩ := if_some hF
  rw [if_neg (by decide)] at h2
  obtain ⟨g1, g2, g3, g4, g5, g6⟩ := tg_shp h20 (by omega)
  have hlt := amOk_lt hst.2.2.1 g4 g5 g6
  have he := amWs_get (E := E) (G := G) (C := amCt cr μ) hlt
  rw [amCellE_arr g2 (by omega), amCt_arr hcr μ g2 (by omega) (by omega)] at he
  rw [amLn_arr g1 g4 g5] at h1
  have e1 : amVs G (0 :: 0 :: 2 :: ts) (v :: y :: x :: st) = .int (Int32.ofInt v) :: .int (Int32.ofInt y) :: .ref (G.1 + x.toNat) :: amVs G ts st := by
    rw [← amAd_lt (G := G) g3, ← amVal_ref hst.2.2.1.1]; rfl
  rw [e1]
  refine va_iast hx hb hK.1 hH.1 amWs_D hS x.toNat 0 he rfl (n_in hst.2.1 h1) hd (fun H1 locs1 hP1 _ hS1 => ?_)
  rw [n_clamp hst.2.1] at hP1
  have hcn : cr x.toNat y.toNat = none := amCr_arr hcr g2 (by omega) (by omega)
  refine h st lc (up μ x.toNat y.toNat v) n H1 locs1 sl h2 (hH.put hcn (by omega) (Or.inr (by rw [amSl_arr g2 (by omega)]; exact hst.1)) ?_) (hX.put (by omega)) hst.2.2.2 hfr hS1 hn
  rw [amCellE_arr g2 (by omega), amCt_up hcn, amCt_arr hcr μ g2 (by omega) (by omega)]
  have e2 : amArr G 20 (fun j => if j = y.toNat then v else μ x.toNat j) = .inl ((upd (fun j => Int32.ofInt (μ x.toNat j)) y.toNat ((Int32.ofInt v)))) := by
    rw [amArr_i _ (by decide) (by decide)]
    refine congrArg Sum.inl (funext fun j => ?_)
    by_cases e : j = y.toNat
    · subst e; simp [upd]
    · simp [upd, e]
  rw [e2]
  exact hP1
theorem go_lastore {p : Program} {l : Launch} {e : Env} {s : State} {m : MethodId} {args : Array Value} {below : List Frame} {meth : Method} {c : Code} {D : va_G} {E : Nat → ClassId} {G : amG} {cr : amC} {L : Nat} {xs : Nat → Int32} {mi d n0 : Nat} {R : Room} {r : Int × amM} {Qf : State → Prop} {pc : Nat} {ts tl : List Nat} {call : Nat → List Int → amM → amR} {rt : Nat → Nat × Nat} {k : amJ} {nx : amN} (hC : amCx p s m args meth c D E G cr L xs mi d n0 R r) {a b w : Nat} {z : List (Int × Nat)} (hd : decode (amBy mi) pc = .ok (.lastore, 1)) (h : amGo p l e s m args below meth c D E G cr L xs mi d n0 R r Qf (pc + 1) ts tl nx) : amGo p l e s m args below meth c D E G cr L xs mi d n0 R r Qf pc (1 :: 0 :: 2 :: ts) tl (stp cr call rt (.lastore, a, b, w, z) k nx) := by
  obtain ⟨hx, hb, hml, hown, hts, hK, hR, hlk, hnm, hcr, hsz⟩ := hC
  intro st lc μ n H locs sl hF hH hX hst hfr hS hn
  rcases st with _ | ⟨v, _ | ⟨y, _ | ⟨x, st⟩⟩⟩
  · exact hst.elim
  · exact hst.2.elim
  · exact hst.2.2.elim
  have hF : amPst 21 μ x y v (fun μ => nx st lc μ) = some r := hF
  obtain ⟨h20, hF⟩ := if_some hF
  obtain ⟨h1, h2⟩ := if_some hF
  rw [if_neg (by decide)] at h2
  obtain ⟨g1, g2, g3, g4, g5, g6⟩ := tg_shp h20 (by omega)
  have hlt := amOk_lt hst.2.2.1 g4 g5 g6
  have he := amWs_get (E := E) (G := G) (C := amCt cr μ) hlt
  rw [amCellE_arr g2 (by omega), amCt_arr hcr μ g2 (by omega) (by omega)] at he
  rw [amLn_arr g1 g4 g5] at h1
  have e1 : amVs G (1 :: 0 :: 2 :: ts) (v :: y :: x :: st) = .long (Int64.ofInt v) :: .int (Int32.ofInt y) :: .ref (G.1 + x.toNat) :: amVs G ts st := by
    rw [← amAd_lt (G := G) g3, ← amVal_ref hst.2.2.1.1]; rfl
  rw [e1]
  refine va_last hx hb hK.1 hH.1 amWs_D hS x.toNat 1 he rfl (n_in hst.2.1 h1) hd (fun H1 locs1 hP1 _ hS1 => ?_)
  rw [n_clamp hst.2.1] at hP1
  have hcn : cr x.toNat y.toNat = none := amCr_arr hcr g2 (by omega) (by omega)
  refine h st lc (up μ x.toNat y.toNat v) n H1 locs1 sl h2 (hH.put hcn (by omega) (Or.inr (by rw [amSl_arr g2 (by omega)]; exact hst.1)) ?_) (hX.put (by omega)) hst.2.2.2 hfr hS1 hn
  rw [amCellE_arr g2 (by omega), amCt_up hcn, amCt_arr hcr μ g2 (by omega) (by omega)]
  have e2 : amArr G 21 (fun j => if j = y.toNat then v else μ x.toNat j) = .inr (.inl ((vp_updL (fun j => Int64.ofInt (μ x.toNat j)) y.toNat ((Int64.ofInt v))))) := by
    rw [amArr_l]
    refine congrArg (fun q => Sum.inr (Sum.inl q)) (funext fun j => ?_)
    by_cases e : j = y.toNat
    · subst e; simp [vp_updL]
    · simp [vp_updL, e]
  rw [e2]
  exact hP1
theorem go_bastore {p : Program} {l : Launch} {e : Env} {s : State} {m : MethodId} {args : Array Value} {below : List Frame} {meth : Method} {c : Code} {D : va_G} {E : Nat → ClassId} {G : amG} {cr : amC} {L : Nat} {xs : Nat → Int32} {mi d n0 : Nat} {R : Room} {r : Int × amM} {Qf : State → Prop} {pc : Nat} {ts tl : List Nat} {call : Nat → List Int → amM → amR} {rt : Nat → Nat × Nat} {k : amJ} {nx : amN} (hC : amCx p s m args meth c D E G cr L xs mi d n0 R r) {a b w : Nat} {z : List (Int × Nat)} (hd : decode (amBy mi) pc = .ok (.bastore, 1)) (h : amGo p l e s m args below meth c D E G cr L xs mi d n0 R r Qf (pc + 1) ts tl nx) : amGo p l e s m args below meth c D E G cr L xs mi d n0 R r Qf pc (0 :: 0 :: 2 :: ts) tl (stp cr call rt (.bastore, a, b, w, z) k nx) := by
  obtain ⟨hx, hb, hml, hown, hts, hK, hR, hlk, hnm, hcr, hsz⟩ := hC
  intro st lc μ n H locs sl hF hH hX hst hfr hS hn
  rcases st with _ | ⟨v, _ | ⟨y, _ | ⟨x, st⟩⟩⟩
  · exact hst.elim
  · exact hst.2.elim
  · exact hst.2.2.elim
  have hF : amPst 22 μ x y v (fun μ => nx st lc μ) = some r := hF
  obtain ⟨h20, hF⟩ := if_some hF
  obtain ⟨h1, h2⟩ := if_some hF
  rw [if_pos rfl] at h2
  obtain ⟨hv01, h2⟩ := if_some h2
  obtain ⟨g1, g2, g3, g4, g5, g6⟩ := tg_shp h20 (by omega)
  have hlt := amOk_lt hst.2.2.1 g4 g5 g6
  have he := amWs_get (E := E) (G := G) (C := amCt cr μ) hlt
  rw [amCellE_arr g2 (by omega), amCt_arr hcr μ g2 (by omega) (by omega)] at he
  rw [amLn_arr g1 g4 g5] at h1
  have e1 : amVs G (0 :: 0 :: 2 :: ts) (v :: y :: x :: st) = .int (Int32.ofInt v) :: .int (Int32.ofInt y) :: .ref (G.1 + x.toNat) :: amVs G ts st := by
    rw [← amAd_lt (G := G) g3, ← amVal_ref hst.2.2.1.1]; rfl
  rw [e1]
  refine va_zast hx hb hK.1 hH.1 amWs_D hS x.toNat 2 he rfl (n_in hst.2.1 h1) hd (fun H1 locs1 hP1 _ hS1 => ?_)
  rw [n_clamp hst.2.1] at hP1
  have hcn : cr x.toNat y.toNat = none := amCr_arr hcr g2 (by omega) (by omega)
  refine h st lc (up μ x.toNat y.toNat v) n H1 locs1 sl h2 (hH.put hcn (by omega) (Or.inr (by rw [amSl_arr g2 (by omega)]; exact hst.1)) ?_) (hX.put (by omega)) hst.2.2.2 hfr hS1 hn
  rw [amCellE_arr g2 (by omega), amCt_up hcn, amCt_arr hcr μ g2 (by omega) (by omega)]
  have e2 : amArr G 22 (fun j => if j = y.toNat then v else μ x.toNat j) = .inl ((upd (fun j => Int32.ofInt (μ x.toNat j)) y.toNat (vp_nar .boolean (Int32.ofInt v)))) := by
    rw [amArr_i _ (by decide) (by decide)]
    refine congrArg Sum.inl (funext fun j => ?_)
    have hnz : vp_nar .boolean (Int32.ofInt v) = Int32.ofInt v := by
      rcases hv01 with rfl | rfl
      · decide +kernel
      · decide +kernel
    by_cases e : j = y.toNat
    · subst e; simp [upd, hnz]
    · simp [upd, e]
  rw [e2]
  exact hP1
theorem go_arraylength {p : Program} {l : Launch} {e : Env} {s : State} {m : MethodId} {args : Array Value} {below : List Frame} {meth : Method} {c : Code} {D : va_G} {E : Nat → ClassId} {G : amG} {cr : amC} {L : Nat} {xs : Nat → Int32} {mi d n0 : Nat} {R : Room} {r : Int × amM} {Qf : State → Prop} {pc : Nat} {ts tl : List Nat} {call : Nat → List Int → amM → amR} {rt : Nat → Nat × Nat} {k : amJ} {nx : amN} (hC : amCx p s m args meth c D E G cr L xs mi d n0 R r) {a b w : Nat} {z : List (Int × Nat)} (hd : decode (amBy mi) pc = .ok (.arraylength, 1)) (h : amGo p l e s m args below meth c D E G cr L xs mi d n0 R r Qf (pc + 1) (0 :: ts) tl nx) : amGo p l e s m args below meth c D E G cr L xs mi d n0 R r Qf pc (2 :: ts) tl (stp cr call rt (.arraylength, a, b, w, z) k nx) := by
  obtain ⟨hx, hb, hml, hown, hts, hK, hR, hlk, hnm, hcr, hsz⟩ := hC
  intro st lc μ n H locs sl hF hH hX hst hfr hS hn
  rcases st with _ | ⟨x, st⟩
  · exact hst.elim
  have hF : (if amTg x = 26 then nx (μ 302 0 :: st) lc μ else none) = some r := hF
  obtain ⟨h26, h2⟩ := if_some hF
  have hx2 : x = 302 := by
    rcases tg_big h26 (Or.inl rfl) hst.1.1 with q | q
    · exact q.2
    · exact absurd q.1 (by decide)
  subst hx2
  rw [hX.1] at h2
  have hL := hK.2.2.2.2.2
  have e9 : amVs G (2 :: ts) (302 :: st) = .ref G.2.2.2 :: amVs G ts st := rfl
  rw [e9]
  refine va_slen hx hb hL.1 (by omega) (by have := hL.2.1; show ¬ G.1 ≤ G.2.2.2; omega) hS hd ?_
  have h5 := h ((L : Int) :: st) lc μ n H locs sl h2 hH hX ⟨⟨by omega, by omega⟩, hst.2⟩ hfr hS hn
  exact h5
