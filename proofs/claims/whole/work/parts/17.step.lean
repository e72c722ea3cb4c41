/-! ===== one checked instruction ===== -/
theorem amCls_w {ci kf : Nat} (h : ci < 12) (hk : kf < amNF ci) : ∃ C Tb N, amCl[ci]? = some (C, Tb, N) ∧ kf < N ∧ amT ci = Tb ∧ (∀ w ∈ u_ws C Tb N, w ∈ amTbl) ∧ (∀ k, k < N → parseFieldDescriptor (Tb k).2.2.1 = some (amTyOf ci k)) ∧ (∀ k, k < N → amTyOk (amFt ci k) (amTyOf ci k)) ∧ (∀ a, a < N → ∀ b, b < N → a ≠ b → (Tb a).2.1 ≠ (Tb b).2.1) := by
  have h1 := List.all_eq_true.mp amCls_ok ci (List.mem_range.mpr h)
  have h2 := List.all_eq_true.mp amLay_ok ci (List.mem_range.mpr h)
  unfold amClsOk at h1
  unfold amNF at hk
  cases hq : amCl[ci]? with
  | none => rw [hq] at h1; cases h1
  | some q =>
    rw [hq] at h1 h2 hk
    obtain ⟨C, Tb, N⟩ := q
    have h1' := List.all_eq_true.mp h1
    have h2' := List.all_eq_true.mp h2
    refine ⟨C, Tb, N, rfl, hk, by unfold amT; rw [hq], fun w hw => ?_, fun k hk => ?_, fun k hk => ?_, fun a ha b hb hab => ?_⟩
    · obtain ⟨k, hk1, rfl⟩ := List.mem_map.mp hw
      have h3 := h2' k hk1
      simp only [Bool.and_eq_true] at h3
      exact amTbl_in (of_decide_eq_true h3.1) h3.2
    · have h3 := h1' k (List.mem_range.mpr hk)
      simp only [Bool.and_eq_true] at h3
      exact of_decide_eq_true h3.1.1
    · have h3 := h1' k (List.mem_range.mpr hk)
      simp only [Bool.and_eq_true] at h3
      have h4 := h3.1.2
      split at h4
      · next e => rw [e]; exact Or.inl ⟨rfl, of_decide_eq_true h4⟩
      · next e => rw [e]; exact Or.inr (Or.inl ⟨rfl, of_decide_eq_true h4⟩)
      · next e =>
        rw [e]
        split at h4
        · next q e2 => exact Or.inr (Or.inr ⟨rfl, Or.inl ⟨q, e2⟩⟩)
        · next q e2 => exact Or.inr (Or.inr ⟨rfl, Or.inr ⟨q, e2⟩⟩)
        · cases h4
      · cases h4
    · have h3 := h1' a (List.mem_range.mpr ha)
      simp only [Bool.and_eq_true] at h3
      have h4 := List.all_eq_true.mp h3.2 b (List.mem_range.mpr hb)
      exact of_decide_eq_true h4 hab
def amHm (l : Launch) (cr : amC) (call : Nat → List Int → amM → amR) (d : Nat) : Prop := (∀ a xs μ, call a xs μ = none) ∨ ∃ dd, dd + 1 ≤ d ∧ ∀ a, a < 266 → ((∀ c k, cr c k = none) ∨ (amY a).name ≠ "<init>") → amMet l cr call dd a
theorem amFtt_or {ci kf : Nat} : amFt ci kf = amFtt ci kf ∨ (amFt ci kf = 4 ∧ amFtt ci kf = 0) := by
  unfold amFtt
  by_cases h : amFt ci kf = 4
  · rw [if_pos h]; exact Or.inr ⟨h, rfl⟩
  · rw [if_neg h]; exact Or.inl rfl
theorem amJmp_w {mi b : Nat} {tgt : Int} {ts tl : List Nat} (h : amJmp mi b tgt ts tl = true) : ((blk mi b).1 : Int) = tgt ∧ (blk mi b).2.1 = ts ∧ amCompat tl (blk mi b).2.2.1 = true := by
  unfold amJmp at h
  simp only [Bool.and_eq_true] at h
  exact ⟨of_decide_eq_true h.1.1, of_decide_eq_true h.1.2, h.2⟩
theorem go_jump {p : Program} {l : Launch} {e : Env} {s : State} {m : MethodId} {args : Array Value} {below : List Frame} {meth : Method} {c : Code} {D : va_G} {E : Nat → ClassId} {G : amG} {cr : amC} {L : Nat} {xs : Nat → Int32} {mi d n0 : Nat} {R : Room} {r : Int × amM} {Qf : State → Prop} {ts tl : List Nat} {k : amJ} {b : Nat} {tgt : Nat} (hk : ∀ b, amGo p l e s m args below meth c D E G cr L xs mi d n0 R r Qf (blk mi b).1 (blk mi b).2.1 (blk mi b).2.2.1 (fun st ls μ => k b st ls μ)) (h : amJmp mi b tgt ts tl = true) : amGo p l e s m args below meth c D E G cr L xs mi d n0 R r Qf tgt ts tl (fun st ls μ => k b st ls μ) := by
  obtain ⟨h1, h2, h3⟩ := amJmp_w h
  have h1' : (blk mi b).1 = tgt := by omega
  intro st lc μ n H locs sl hF hH hX hst hfr hS hn
  have h4 := hk b st lc μ n H locs sl hF hH hX (by rw [h2]; exact hst) (hfr.weak h3) hS hn
  rw [h1', h2] at h4
  exact h4
theorem amPt_hd {a : Nat} (h : (amPt a).headD 9 = 2) : ∃ pt, amPt a = 2 :: pt := by
  cases e : amPt a with
  | nil => rw [e] at h; exact absurd h (by decide)
  | cons x t =>
    rw [e] at h
    have h : x = 2 := h
    exact ⟨t, by rw [h]⟩
theorem amNoInit {a : Nat} (h : (mt a).2.1 = 99) (ha : a < 266) : (amY a).name ≠ "<init>" := by
  have h1 := List.all_eq_true.mp (show ((List.range 266).all (fun a => decide ((mt a).2.1 = 99 → (amYt a).2.1 ≠ "<init>"))) = true by decide +kernel) a (List.mem_range.mpr ha)
  exact of_decide_eq_true h1 h
theorem amTbl_max : Cond.code Lib.Math.max.name Lib.Math.max.code 2 (some .int) ∈ amTbl := amTbl_in (i := 479) (by decide +kernel) rfl
theorem amTbl_min : Cond.code Lib.Math.min.name Lib.Math.min.code 2 (some .int) ∈ amTbl := amTbl_in (i := 476) (by decide +kernel) rfl
theorem amTbl_obj : Cond.code Lib.objectInit ⟨#[0xb1]⟩ 1 none ∈ amTbl := amTbl_in (i := 24) (by decide +kernel) rfl
theorem amIni_w {ci : Nat} (h : ci < 12) : Cond.initialized (amNm ci) ∈ amTbl := amTbl_in (of_decide_eq_true (List.all_eq_true.mp amIni_ok ci (List.mem_range.mpr h))) rfl
theorem amCls_w0 {ci : Nat} (h : ci < 12) : ∃ C Tb N, amCl[ci]? = some (C, Tb, N) ∧ (∀ w ∈ u_ws C Tb N, w ∈ amTbl) ∧ (∀ k, k < N → parseFieldDescriptor (Tb k).2.2.1 = some (amTyOf ci k)) ∧ (∀ k, k < N → amTyOk (amFt ci k) (amTyOf ci k)) ∧ Cond.instantiable C N ∈ amTbl ∧ C = amNm ci := by
  have h0 : 0 < amNF ci := of_decide_eq_true (List.all_eq_true.mp (show ((List.range 12).all (fun ci => decide (0 < amNF ci))) = true by decide +kernel) ci (List.mem_range.mpr h))
  obtain ⟨C, Tb, N, g1, g2, g3, g4, g5, g6, g7⟩ := amCls_w h h0
  have h2 := List.all_eq_true.mp amIns_ok ci (List.mem_range.mpr h)
  rw [g1] at h2
  obtain ⟨q1, q2⟩ := of_decide_eq_true h2
  exact ⟨C, Tb, N, g1, g4, g5, g6, amTbl_in q1 rfl, q2⟩
set_option maxHeartbeats 4000000 in
theorem go_step {p : Program} {l : Launch} {e : Env} {s : State} {m : MethodId} {args : Array Value} {below : List Frame} {meth : Method} {c : Code} {D : va_G} {E : Nat → ClassId} {G : amG} {cr : amC} {L : Nat} {xs : Nat → Int32} {mi d n0 : Nat} {R : Room} {r : Int × amM} {Qf : State → Prop} {pc : Nat} {ts tl : List Nat} {call : Nat → List Int → amM → amR} {k : amJ} {nx : amN} (hC : amCx p s m args meth c D E G cr L xs mi d n0 R r) (hMet : amHm l cr call d) (hcm : ∀ m xs μ, amMr μ (call m xs μ)) (hmono : ∀ st ls μ, amMr μ (nx st ls μ)) (hk : ∀ b, amGo p l e s m args below meth c D E G cr L xs mi d n0 R r Qf (blk mi b).1 (blk mi b).2.1 (blk mi b).2.2.1 (fun st ls μ => k b st ls μ)) {i : amI} {ts' tl' : List Nat} (hph : (∀ c k, cr c k = none) ∨ amPl i = true) (h : amEff mi pc i ts tl = some (ts', tl')) (hd : decode (amBy mi) pc = .ok (i.1, amLen i.1)) (hn : amGo p l e s m args below meth c D E G cr L xs mi d n0 R r Qf (pc + amLen i.1) ts' tl' nx) : amGo p l e s m args below meth c D E G cr L xs mi d n0 R r Qf pc ts tl (stp cr call mrt i k nx) := by
  obtain ⟨ins, a, b, w, z⟩ := i
  cases ins
  case iconst n =>
    unfold amEff at h
    dsimp only at h
    obtain ⟨hc, h⟩ := oif h
    cases h
    exact go_iconst hC hc hd hn
  case bipush n =>
    unfold amEff at h
    dsimp only at h
    obtain ⟨hc, h⟩ := oif h
    cases h
    exact go_bipush hC hc.1 hc.2 hd hn
  case sipush n =>
    unfold amEff at h
    dsimp only at h
    obtain ⟨hc, h⟩ := oif h
    cases h
    exact go_sipush hC hc.1 hc.2 hd hn
  case lconst n =>
    unfold amEff at h
    dsimp only at h
    cases h
    exact go_lconst hC  hd hn
  case ldc j =>
    unfold amEff at h
    dsimp only at h
    obtain ⟨hc, h⟩ := oif h
    cases h
    exact go_ldc hC rfl (amCst_w hc).2 (amCst_w hc).1 hd hn
  case ldc_w j =>
    unfold amEff at h
    dsimp only at h
    obtain ⟨hc, h⟩ := oif h
    cases h
    exact go_ldc_w hC rfl (amCst_w hc).2 (amCst_w hc).1 hd hn
  case ldc2_w j =>
    unfold amEff at h
    dsimp only at h
    obtain ⟨hc, h⟩ := oif h
    cases h
    exact go_ldc2_w hC rfl (amCst_w1 hc).2 (amCst_w1 hc).1 hd hn
  case iload_n n =>
    unfold amEff at h
    dsimp only at h
    obtain ⟨hc, h⟩ := oif h
    cases h
    exact go_iload_n hC hc hd hn
  case iload n =>
    unfold amEff at h
    dsimp only at h
    obtain ⟨hc, h⟩ := oif h
    cases h
    exact go_iload hC hc hd hn
  case lload_n n =>
    unfold amEff at h
    dsimp only at h
    obtain ⟨hc, h⟩ := oif h
    cases h
    exact go_lload_n hC hc hd hn
  case lload n =>
    unfold amEff at h
    dsimp only at h
    obtain ⟨hc, h⟩ := oif h
    cases h
    exact go_lload hC hc hd hn
  case aload_n n =>
    unfold amEff at h
    dsimp only at h
    obtain ⟨hc, h⟩ := oif h
    cases h
    exact go_aload_n hC hc hd hn
  case aload n =>
    unfold amEff at h
    dsimp only at h
    obtain ⟨hc, h⟩ := oif h
    cases h
    exact go_aload hC hc hd hn
  case istore_n n =>
    unfold amEff at h
    dsimp only at h
    split at h
    · obtain ⟨hc, h⟩ := oif h
      cases h
      exact go_istore_n hC hc hd hn
    · cases h
  case istore n =>
    unfold amEff at h
    dsimp only at h
    split at h
    · obtain ⟨hc, h⟩ := oif h
      cases h
      exact go_istore hC hc hd hn
    · cases h
  case astore_n n =>
    unfold amEff at h
    dsimp only at h
    split at h
    · obtain ⟨hc, h⟩ := oif h
      cases h
      exact go_astore_n hC hc hd hn
    · cases h
  case astore n =>
    unfold amEff at h
    dsimp only at h
    split at h
    · obtain ⟨hc, h⟩ := oif h
      cases h
      exact go_astore hC hc hd hn
    · cases h
  case lstore_n n =>
    unfold amEff at h
    dsimp only at h
    split at h
    · obtain ⟨hc, h⟩ := oif h
      cases h
      exact go_lstore_n hC hc hd hn
    · cases h
  case lstore n =>
    unfold amEff at h
    dsimp only at h
    split at h
    · obtain ⟨hc, h⟩ := oif h
      cases h
      exact go_lstore hC hc hd hn
    · cases h
  case iinc n v =>
    unfold amEff at h
    dsimp only at h
    obtain ⟨hc, h⟩ := oif h
    cases h
    exact go_iinc hC hc.1 hc.2 hd hn
  case iadd  =>
    unfold amEff at h
    dsimp only at h
    split at h
    · cases h
      exact go_iadd hC  hd hn
    · cases h
  case isub  =>
    unfold amEff at h
    dsimp only at h
    split at h
    · cases h
      exact go_isub hC  hd hn
    · cases h
  case imul  =>
    unfold amEff at h
    dsimp only at h
    split at h
    · cases h
      exact go_imul hC  hd hn
    · cases h
  case idiv  =>
    unfold amEff at h
    dsimp only at h
    split at h
    · cases h
      exact go_idiv hC  hd hn
    · cases h
  case irem  =>
    unfold amEff at h
    dsimp only at h
    split at h
    · cases h
      exact go_irem hC  hd hn
    · cases h
  case iand  =>
    unfold amEff at h
    dsimp only at h
    split at h
    · cases h
      exact go_iand hC  hd hn
    · cases h
  case ior  =>
    unfold amEff at h
    dsimp only at h
    split at h
    · cases h
      exact go_ior hC  hd hn
    · cases h
  case ixor  =>
    unfold amEff at h
    dsimp only at h
    split at h
    · cases h
      exact go_ixor hC  hd hn
    · cases h
  case ishl  =>
    unfold amEff at h
    dsimp only at h
    split at h
    · cases h
      exact go_ishl hC  hd hn
    · cases h
  case ishr  =>
    unfold amEff at h
    dsimp only at h
    split at h
    · cases h
      exact go_ishr hC  hd hn
    · cases h
  case iushr  =>
    unfold amEff at h
    dsimp only at h
    split at h
    · cases h
      exact go_iushr hC  hd hn
    · cases h
  case ladd  =>
    unfold amEff at h
    dsimp only at h
    split at h
    · cases h
      exact go_ladd hC  hd hn
    · cases h
  case lmul  =>
    unfold amEff at h
    dsimp only at h
    split at h
    · cases h
      exact go_lmul hC  hd hn
    · cases h
  case land  =>
    unfold amEff at h
    dsimp only at h
    split at h
    · cases h
      exact go_land hC  hd hn
    · cases h
  case lor  =>
    unfold amEff at h
    dsimp only at h
    split at h
    · cases h
      exact go_lor hC  hd hn
    · cases h
  case lshl  =>
    unfold amEff at h
    dsimp only at h
    split at h
    · cases h
      exact go_lshl hC  hd hn
    · cases h
  case lshr  =>
    unfold amEff at h
    dsimp only at h
    split at h
    · cases h
      exact go_lshr hC  hd hn
    · cases h
  case lushr  =>
    unfold amEff at h
    dsimp only at h
    split at h
    · cases h
      exact go_lushr hC  hd hn
    · cases h
  case ineg  =>
    unfold amEff at h
    dsimp only at h
    split at h
    · cases h
      exact go_ineg hC  hd hn
    · cases h
  case i2l  =>
    unfold amEff at h
    dsimp only at h
    split at h
    · cases h
      exact go_i2l hC  hd hn
    · cases h
  case l2i  =>
    unfold amEff at h
    dsimp only at h
    split at h
    · cases h
      exact go_l2i hC  hd hn
    · cases h
  case i2b  =>
    unfold amEff at h
    dsimp only at h
    split at h
    · cases h
      exact go_i2b hC  hd hn
    · cases h
  case i2s  =>
    unfold amEff at h
    dsimp only at h
    split at h
    · cases h
      exact go_i2s hC  hd hn
    · cases h
  case lcmp  =>
    unfold amEff at h
    dsimp only at h
    split at h
    · cases h
      exact go_lcmp hC  hd hn
    · cases h
  case iaload  =>
    unfold amEff at h
    dsimp only at h
    split at h
    · cases h
      exact go_iaload hC  hd hn
    · cases h
  case laload  =>
    unfold amEff at h
    dsimp only at h
    split at h
    · cases h
      exact go_laload hC  hd hn
    · cases h
  case baload  =>
    unfold amEff at h
    dsimp only at h
    split at h
    · cases h
      exact go_baload hC  hd hn
    · cases h
  case iastore  =>
    unfold amEff at h
    dsimp only at h
    split at h
    · cases h
      exact go_iastore hC  hd hn
    · cases h
  case lastore  =>
    unfold amEff at h
    dsimp only at h
    split at h
    · cases h
      exact go_lastore hC  hd hn
    · cases h
  case bastore  =>
    unfold amEff at h
    dsimp only at h
    split at h
    · cases h
      exact go_bastore hC  hd hn
    · cases h
  case arraylength  =>
    unfold amEff at h
    dsimp only at h
    split at h
    · cases h
      exact go_arraylength hC  hd hn
    · cases h
  case dup  =>
    unfold amEff at h
    dsimp only at h
    split at h
    · obtain ⟨hc, h⟩ := oif h
      cases h
      exact go_dup hC hc hd hn
    · cases h
  case dup2  =>
    unfold amEff at h
    dsimp only at h
    split at h
    · obtain ⟨hc, h⟩ := oif h
      cases h
      exact go_dup2 hC hc.1 hc.2 hd hn
    · cases h
  case pop  =>
    unfold amEff at h
    dsimp only at h
    split at h
    · obtain ⟨hc, h⟩ := oif h
      cases h
      exact go_pop hC hc hd hn
    · cases h
  case getfield j =>
    unfold amEff at h
    dsimp only at h
    split at h
    · obtain ⟨hc, h⟩ := oif h
      cases h
      obtain ⟨q1, q2, q3, q4⟩ := amFld_w hc
      obtain ⟨C, Tb, N, g1, g2, g3, g4, g5, g6, g7⟩ := amCls_w q1 q2
      rw [g3] at q3
      exact go_getfield (a := 0) hC g1 (by omega) g2 g4 q3 amFtt_or hd hn
    · cases h
  case putfield j =>
    unfold amEff at h
    dsimp only at h
    split at h
    · obtain ⟨⟨hc, ht, hfin⟩, h⟩ := oif h
      cases h
      subst ht
      obtain ⟨q1, q2, q3, q4⟩ := amFld_w hc
      obtain ⟨C, Tb, N, g1, g2, g3, g4, g5, g6, g7⟩ := amCls_w q1 q2
      rw [g3] at q3 hfin
      cases hf : (Tb b).2.2.2 with
      | false => exact go_putfield hC g1 (by omega) g2 g4 g5 g7 q3 hf (g5 _ g2) (g6 _ g2) amFtt_or hd hn
      | true => exact go_putfieldF hC g1 (by omega) g2 g4 g5 g7 q3 hf (hfin hf).1 (hfin hf).2 (g5 _ g2) (g6 _ g2) amFtt_or hd hn
    · cases h
  case getstatic j =>
    unfold amEff at h
    dsimp only at h
    obtain ⟨hc, h⟩ := oif h
    cases h
    rcases hc with ⟨ha, hc⟩ | ⟨ha, hc⟩
    · have ha : a = 300 := ha
      subst ha
      exact go_getstatic0 hC (amStf_w hc) hd hn
    · have ha : a = 301 := ha
      subst ha
      exact go_getstatic1 hC (amStf_w hc) hd hn
  case aaload  =>
    unfold amEff at h
    dsimp only at h
    split at h
    · obtain ⟨hc, h⟩ := oif h
      cases h
      exact go_aaload hC hc hd hn
    · cases h
  case aastore  =>
    unfold amEff at h
    dsimp only at h
    split at h
    · obtain ⟨hc, h⟩ := oif h
      cases h
      rcases hc with ha | ha
      · have ha : a = 23 := ha
        subst ha
        exact go_aastore hC (Or.inl ⟨rfl, rfl⟩) (ci := 3) rfl (by decide) (show amCl[3]? = some ("AlikeTown$Text", _, _) from rfl) hd hn
      · have ha : a = 24 := ha
        subst ha
        exact go_aastore hC (Or.inr ⟨rfl, rfl⟩) (ci := 10) rfl (by decide) (show amCl[10]? = some ("AlikeTown$Sheet", _, _) from rfl) hd hn
    · cases h
  case ifCond cd off =>
    unfold amEff at h
    dsimp only at h
    split at h
    · obtain ⟨hc, h⟩ := oif h
      cases h
      have hj := amJmp_w hc
      exact go_ifCond hC hd hj.1.symm (go_jump hk (by rw [hj.1]; exact hc)) hn
    · cases h
  case if_icmp cd off =>
    unfold amEff at h
    dsimp only at h
    split at h
    · obtain ⟨hc, h⟩ := oif h
      cases h
      have hj := amJmp_w hc
      exact go_if_icmp hC hd hj.1.symm (go_jump hk (by rw [hj.1]; exact hc)) hn
    · cases h
  case invokevirtual j =>
    unfold amEff at h
    dsimp only at h
    obtain ⟨ts2, hp, h⟩ := Option.bind_eq_some_iff.mp h
    obtain ⟨⟨hb1, hb2, hb3, hb4, hb5, hb6, hb7⟩, h⟩ := oif h
    cases h
    have hb1 : b = (amPt a).length := hb1
    subst hb1
    rw [amPre_w hp]
    rcases hMet with hnone | ⟨dd, hdd, hM⟩
    · intro st lc μ n H locs sl hF
      have hF : (if amTg ((st.take (amPt a).length).getLastD (-1)) = (mt a).2.1 then bnd (call a (st.take (amPt a).length).reverse μ) (fun v μ => nx (if (mt a).1 = 3 then st.drop (amPt a).length else v :: st.drop (amPt a).length) lc μ) else none) = some r := hF
      rw [hnone] at hF
      obtain ⟨-, hF⟩ := if_some hF
      cases hF
    · have h265 : a < 265 := hb2
      exact go_callV hC hdd (hM a (by omega) (Or.inr hb4)) (amMok_of (by omega)) (by omega) (by have : (mt a).2.1 < 20 := hb3; omega) hb4 hb3 (amPt_hd hb5) (amCll_w hb6 (by omega)) (of_decide_eq_true hb7) hcm hmono hd hn
  case invokestatic j =>
    unfold amEff at h
    dsimp only at h
    split at h
    · next e =>
      have e : a = 9999 := e
      subst e
      split at h
      · obtain ⟨⟨hc1, hc2, hc3⟩, h⟩ := oif h
        cases h
        have hw1 := amTbl_in hc2 rfl
        exact go_copy hC hw1 (amTbl_in (i := 615) (by decide +kernel) rfl) (amTbl_in (i := 614) (by decide +kernel) rfl) (amTbl_in (i := 16) (by decide +kernel) rfl) (of_decide_eq_true hc3) hd hn
      · cases h
    · split at h
      · next e =>
        have e : a = 9998 := e
        subst e
        split at h
        · obtain ⟨⟨hc1, hc3⟩, h⟩ := oif h
          cases h
          have hM := amM_words (amMok_of (m := 266) (by decide)) (by decide)
          exact go_max hC (amCll_w hc1 (by decide)) (hM.2.2.1 (by decide +kernel)) hM.2.1 (amTbl_max) (of_decide_eq_true hc3) hmono hd hn
        · cases h
      · split at h
        · next e =>
          have e : a = 9997 := e
          subst e
          split at h
          · obtain ⟨⟨hc1, hc3⟩, h⟩ := oif h
            cases h
            have hM := amM_words (amMok_of (m := 267) (by decide)) (by decide)
            exact go_min hC (amCll_w hc1 (by decide)) (hM.2.2.1 (by decide +kernel)) hM.2.1 (amTbl_min) (of_decide_eq_true hc3) hmono hd hn
          · cases h
        · obtain ⟨ts2, hp, h⟩ := Option.bind_eq_some_iff.mp h
          obtain ⟨⟨hb1, hb2, hb3, hb6, hb7⟩, h⟩ := oif h
          cases h
          have hb1 : b = (amPt a).length := hb1
          subst hb1
          have h265 : a < 266 := hb2
          rw [amPre_w hp]
          rcases hMet with hnone | ⟨dd, hdd, hM⟩
          · intro st lc μ n H locs sl hF
            have e9 : stp cr call mrt (.invokestatic j, a, (amPt a).length, w, z) k nx st lc μ = bnd (call a (st.take (amPt a).length).reverse μ) (fun v μ => nx (if (mt a).1 = 3 then st.drop (amPt a).length else v :: st.drop (amPt a).length) lc μ) := by
              show (if a = 9999 then _ else if a = 9998 then _ else if a = 9997 then _ else _) = _
              rw [if_neg (by omega), if_neg (by omega), if_neg (by omega)]
              rfl
            rw [e9, hnone] at hF
            cases hF
          · exact go_callS hC hdd (hM a (by omega) (Or.inr (amNoInit hb3 (by omega)))) (amMok_of (by omega)) (by omega) hb3 (amCll_w hb6 (by omega)) (of_decide_eq_true hb7) hcm hmono hd hn
  case invokespecial j =>
    unfold amEff at h
    dsimp only at h
    split at h
    · next e =>
      have e : a = 9999 := e
      subst e
      split at h
      · obtain ⟨⟨hc1, hc2, hc3⟩, h⟩ := oif h
        cases h
        exact go_objInit hC (amTbl_in hc2 rfl) (amTbl_in (i := 23) (by decide +kernel) rfl) amTbl_obj (of_decide_eq_true hc3) hd hn
      · cases h
    · next e9 =>
      have e9 : a ≠ 9999 := e9
      obtain ⟨ts2, hp, h⟩ := Option.bind_eq_some_iff.mp h
      obtain ⟨⟨hb1, hb2, hb3, hb4, hb8, hb5, hb6, hb7⟩, h⟩ := oif h
      cases h
      have hb1 : b = (amPt a).length := hb1
      subst hb1
      have h265 : a < 265 := hb2
      have hv3 : (mt a).1 = 3 := hb8
      rw [amPre_w hp]
      rcases hph with h0 | hpl
      · rcases hMet with hnone | ⟨dd, hdd, hM⟩
        · intro st lc μ n H locs sl hF
          have e9 : stp cr call mrt (.invokespecial j, a, (amPt a).length, w, z) k nx st lc μ = (if amTg ((st.take (amPt a).length).getLastD (-1)) = (mt a).2.1 then bnd (call a (st.take (amPt a).length).reverse μ) (fun _ μ => nx (st.drop (amPt a).length) lc μ) else none) := by
            show (if a = 9999 then _ else _) = _
            rw [if_neg (by omega)]
            rfl
          rw [e9, hnone] at hF
          obtain ⟨-, hF⟩ := if_some hF
          cases hF
        · rcases hb6 with hb6 | hb6
          · exact go_callI hC hdd (hM a (by omega) (Or.inl h0)) (amMok_of (by omega)) (by omega) (by have : (mt a).2.1 < 20 := hb3; omega) hb4 hv3 hb3 (amPt_hd hb5) (amCll_w hb6 (by omega)) (of_decide_eq_true hb7) hcm hmono hd hn
          · exact go_callIN hC hdd (hM a (by omega) (Or.inl h0)) (amMok_of (by omega)) (by omega) (by have : (mt a).2.1 < 20 := hb3; omega) hb4 hv3 hb3 (amPt_hd hb5) hb6 (of_decide_eq_true hb7) hcm hmono hd hn
      · cases hpl
  case new j =>
    unfold amEff at h
    dsimp only at h
    obtain ⟨⟨hc1, hc2⟩, h⟩ := oif h
    cases h
    have hc1 : a < 12 := hc1
    rcases hph with h0 | hpl
    · obtain ⟨C, Tb, N, g1, g4, g5, g6, g7, g8⟩ := amCls_w0 hc1
      exact go_new hC h0 g1 (by omega) g4 g5 g6 (by rw [← g8] at hc2; exact amClk_w hc2) g7 (by rw [g8]; exact amIni_w hc1) hmono hd hn
    · cases hpl
  case newarray at_ =>
    unfold amEff at h
    dsimp only at h
    split at h
    · obtain ⟨hc, h⟩ := oif h
      cases h
      rcases hph with h0 | hpl
      · rcases hc with ⟨e, e2⟩ | ⟨e, e2⟩ | ⟨e, e2⟩
        · have e : a = 20 := e
          subst e; subst e2
          exact go_newa20 hC h0 (amTbl_in (i := 125) (by decide +kernel) rfl) hmono hd hn
        · have e : a = 21 := e
          subst e; subst e2
          exact go_newa21 hC h0 (amTbl_in (i := 292) (by decide +kernel) rfl) hmono hd hn
        · have e : a = 22 := e
          subst e; subst e2
          exact go_newa22 hC h0 (amTbl_in (i := 1082) (by decide +kernel) rfl) hmono hd hn
      · cases hpl
    · cases h
  case anewarray j =>
    unfold amEff at h
    dsimp only at h
    split at h
    · obtain ⟨hc, h⟩ := oif h
      cases h
      rcases hph with h0 | hpl
      · rcases hc with ⟨e, e2⟩ | ⟨e, e2⟩
        · have e : a = 23 := e
          subst e
          exact go_anew23 hC h0 (amClk_w e2) hmono hd hn
        · have e : a = 24 := e
          subst e
          exact go_anew24 hC h0 (amClk_w e2) hmono hd hn
      · cases hpl
    · cases h
  case multianewarray j q =>
    unfold amEff at h
    dsimp only at h
    split at h
    · obtain ⟨⟨hc1, hc2⟩, h⟩ := oif h
      cases h
      rcases hph with h0 | hpl
      · have hc1 : q = 2 := hc1
        subst hc1
        exact go_multi hC h0 (amClk_w hc2) (amTbl_in (i := 125) (by decide +kernel) rfl) hmono hd hn
      · cases hpl
    · cases h
  all_goals (unfold amEff at h; cases h)
