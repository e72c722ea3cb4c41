/-! ===== what is checked holds: one instruction, a block, a method ===== -/
theorem oif {α : Type} {c : Prop} {hc : Decidable c} {a : α} {r : α} (h : (if c then some a else none) = some r) : c ∧ a = r := by
  by_cases hq : c
  · rw [if_pos hq] at h; exact ⟨hq, Option.some.inj h⟩
  · rw [if_neg hq] at h; cases h
theorem amFr.weak {nL n : Nat} {G : amG} {tl tl' : List Nat} {lc : List Int} {sl : Array Slot} (h : amFr nL G n tl lc sl) (hc : amCompat tl tl' = true) : amFr nL G n tl' lc sl := by
  unfold amCompat at hc
  simp only [Bool.and_eq_true, beq_iff_eq, List.all_eq_true, List.mem_range, Bool.or_eq_true] at hc
  obtain ⟨h1, h2, h3, h4⟩ := h
  have key : ∀ i, tl'.getD i 3 ≠ 3 → tl'.getD i 3 = tl.getD i 3 := by
    intro i hi
    by_cases hl : i < tl.length
    · exact (hc.2 i hl).resolve_left hi
    · exfalso
      apply hi
      rw [List.getD_eq_getElem?_getD, List.getElem?_eq_none (by omega)]
      rfl
  refine ⟨by omega, by omega, ⟨h3.1, h3.2.1, fun q hq => ?_⟩, fun i hi => ?_⟩
  · obtain ⟨i, hi, rfl⟩ := amLv_mem.mp hq
    have hk := key i hi
    rw [hk] at hi ⊢
    exact h3.2.2 _ (amLv_mem.mpr ⟨i, hi, rfl⟩)
  · have hk := key i hi
    rw [hk] at hi ⊢
    exact h4 i hi
theorem amFld_w {mi i ci kf w : Nat} (h : amFld mi i ci kf w = true) : ci < 12 ∧ kf < amNF ci ∧ Cond.fieldLink (amNm (amYt mi).1) i (amT ci kf).1 (amT ci kf).2.1 (amT ci kf).2.2.1 ∈ amTbl ∧ (amFt ci kf = 0 ∨ amFt ci kf = 2 ∨ amFt ci kf = 4) := by
  obtain ⟨h1, h2, h3, h4, h5, h6, h7, h8, h9⟩ := of_decide_eq_true h
  have hm : amFL.getD w (0, 0, 0, 0, 0) ∈ amFL := by
    rw [List.getD_eq_getElem?_getD, List.getElem?_eq_getElem h5]
    exact List.getElem_mem h5
  have h10 := List.all_eq_true.mp amFL_ok _ hm
  generalize amFL.getD w (0, 0, 0, 0, 0) = e at *
  unfold amFok at h10
  by_cases e0 : e.2.2.2.2 = 0
  · rw [if_pos e0] at h10; cases h10
  · rw [if_neg e0, h1, h2, h3, h4] at h10
    rw [if_neg h9] at h10
    exact ⟨h6, h7, amTbl_in (of_decide_eq_true h10) rfl, h8⟩
theorem amStf_w {mi i w q : Nat} (h : amStf mi i w q = true) : Cond.fieldLink (amNm (amYt mi).1) i "AlikeTown$Voices" (if q = 0 then "ABOVE" else "OWN") "[I" ∈ amTbl := by
  obtain ⟨h1, h2, h3, h4⟩ := of_decide_eq_true h
  have h5 := amTbl_in h4 rfl
  rw [← h3] at h5
  have e : amNm (amOwn mi) = amNm (amYt mi).1 := rfl
  rw [e] at h5 h3
  rw [h3] at h5 ⊢
  exact h5
theorem amCst_w {mi i w : Nat} {v : Int} (h : amCst mi i w 0 v = true) : Cond.constant (amNm (amYt mi).1) i (Int32.ofInt v) ∈ amTbl ∧ R32 v := by
  obtain ⟨h1, h2, h3, h4, h5⟩ := of_decide_eq_true h
  have hm : amCO.getD w (0, 0, 0, 0, 0) ∈ amCO := by
    rw [List.getD_eq_getElem?_getD, List.getElem?_eq_getElem h5]
    exact List.getElem_mem h5
  have h10 := List.all_eq_true.mp amCO_ok _ hm
  generalize amCO.getD w (0, 0, 0, 0, 0) = e at *
  unfold amOok at h10
  rw [if_pos h4, h1, h2, h3] at h10
  obtain ⟨g1, g2⟩ := of_decide_eq_true h10
  exact ⟨amTbl_in g1 rfl, g2⟩
theorem amCst_w1 {mi i w : Nat} {v : Int} (h : amCst mi i w 1 v = true) : Cond.constantLong (amNm (amYt mi).1) i (Int64.ofInt v) ∈ amTbl ∧ R64 v := by
  obtain ⟨h1, h2, h3, h4, h5⟩ := of_decide_eq_true h
  have hm : amCO.getD w (0, 0, 0, 0, 0) ∈ amCO := by
    rw [List.getD_eq_getElem?_getD, List.getElem?_eq_getElem h5]
    exact List.getElem_mem h5
  have h10 := List.all_eq_true.mp amCO_ok _ hm
  generalize amCO.getD w (0, 0, 0, 0, 0) = e at *
  unfold amOok at h10
  rw [if_neg (by omega), h1, h2, h3] at h10
  obtain ⟨g1, g2⟩ := of_decide_eq_true h10
  exact ⟨amTbl_in g1 rfl, g2⟩
theorem amCll_w {mi i w a : Nat} (h : amCll mi i w a 0 = true) (ha : a ≠ 9999) : Cond.methodLink (amNm (amYt mi).1) i (amY a) ∈ amTbl := by
  obtain ⟨h1, h2, h3, h4, h5⟩ := of_decide_eq_true h
  have hm : amCS.getD w (0, 0, 0, 0, 0) ∈ amCS := by
    rw [List.getD_eq_getElem?_getD, List.getElem?_eq_getElem h5]
    exact List.getElem_mem h5
  have h10 := List.all_eq_true.mp amCS_ok _ hm
  generalize amCS.getD w (0, 0, 0, 0, 0) = e at *
  unfold amCok at h10
  rw [h3, h4, h1, h2, if_neg ha, if_pos rfl] at h10
  exact amTbl_in (of_decide_eq_true h10) rfl
theorem amClk_w {mi i w : Nat} {C : String} (h : amClk mi i w C = true) : Cond.classLink (amNm (amYt mi).1) i C ∈ amTbl := by
  obtain ⟨h1, h2, h3, h5⟩ := of_decide_eq_true h
  have hm : amCN.getD w (0, 0, "", 0) ∈ amCN := by
    rw [List.getD_eq_getElem?_getD, List.getElem?_eq_getElem h5]
    exact List.getElem_mem h5
  have h10 := List.all_eq_true.mp amCN_ok _ hm
  generalize amCN.getD w (0, 0, "", 0) = e at *
  unfold amNok at h10
  rw [h1, h2, h3] at h10
  exact amTbl_in (of_decide_eq_true h10) rfl
theorem amPre_w {l ts q : List Nat} (h : amPre l ts = some q) : ts = l ++ q := by
  unfold amPre at h
  split at h
  · next e =>
    cases h
    conv => lhs; rw [← List.take_append_drop l.length ts, e]
  · cases h
/-- the classes: all that a row of the kit asks -/
def amClsOk (ci : Nat) : Bool := match amCl[ci]? with
  | some q => (List.range q.2.2).all (fun k => decide (parseFieldDescriptor (q.2.1 k).2.2.1 = some (amTyOf ci k)) && (match amFt ci k with | 0 => decide (amTyOf ci k = .int) | 4 => decide (amTyOf ci k = .boolean) | 2 => (match amTyOf ci k with | .object _ => true | .array _ => true | _ => false) | _ => false) && (List.range q.2.2).all (fun j => decide (k ≠ j → (q.2.1 k).2.1 ≠ (q.2.1 j).2.1)))
  | none => false
theorem amCls_ok : ((List.range 12).all amClsOk) = true := by decide +kernel
def amInsW : List Nat := [18, 26, 32, 128, 182, 207, 235, 257, 274, 294, 319, 959]
theorem amIns_ok : ((List.range 12).all (fun ci => match amCl[ci]? with | some q => decide (amWd (amInsW.getD ci 0) = some (.instantiable q.1 q.2.2) ∧ q.1 = amNm ci) | none => false)) = true := by decide +kernel
def amIniW : List Nat := [1, 2, 3, 4, 5, 6, 7, 8, 9, 11, 12, 13]
theorem amIni_ok : ((List.range 12).all (fun ci => decide (amWd (amIniW.getD ci 0) = some (.initialized (amNm ci))))) = true := by decide +kernel
def amLayW : List (List Nat) := [[348, 350, 352, 354, 356, 358, 360, 362, 364, 366, 368], [162, 164, 166, 168, 170, 172, 174, 176, 178], [98, 100, 102, 104, 106, 108, 110, 112, 114, 116, 118, 120, 122], [136, 138, 140], [195, 197, 199, 201, 203], [221, 223, 225, 227, 229, 231], [245, 247, 249, 251, 253], [266, 268, 270], [285, 287, 289], [306, 308, 310, 312, 314], [330, 332, 334], [1003, 1005, 1007, 1009, 1011, 1013, 1015, 1017, 1019, 1021, 1023, 1025, 1027, 1029, 1031, 1033, 1035, 1037, 1039, 1041, 1043, 1045, 1047, 1049, 1051, 1053, 1055, 1057, 1059, 1061, 1063, 1065, 1067, 1069, 1071, 1073, 1075, 1077, 1079]]
theorem amLay_ok : ((List.range 12).all (fun ci => match amCl[ci]? with | some q => (List.range q.2.2).all (fun k => decide (amWd ((amLayW.getD ci []).getD k 0) = some (u_lay q.1 q.2.1 k)) && goodWord (u_lay q.1 q.2.1 k)) | none => false)) = true := by decide +kernel
