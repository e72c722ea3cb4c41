/-! ===== the constructors: reckoned out on a memory of zeros; the script lies aside ===== -/
def ov (σ : Nat → Int) (μ : amM) : amM := fun c => if c = 302 then σ else μ c
def oR (σ : Nat → Int) (o o' : amR) : Prop := ∀ r, o = some r → r.2 302 0 = 0 ∧ o' = some (r.1, ov σ r.2)
theorem ov_ne (σ : Nat → Int) (μ : amM) {c : Nat} (h : c ≠ 302) : ov σ μ c = μ c := if_neg h
theorem ov_up (σ : Nat → Int) (μ : amM) {c : Nat} (i : Nat) (v : Int) (h : c ≠ 302) : up (ov σ μ) c i v = ov σ (up μ c i v) := by
  funext c'
  by_cases e : c' = 302
  · have e2 : c' ≠ c := by omega
    unfold up ov
    rw [if_neg e2, if_pos e, if_pos e]
  · unfold up
    rw [ov_ne _ _ e, ov_ne _ _ e, ov_ne _ _ h]
theorem ov_upr (σ : Nat → Int) (μ : amM) {c : Nat} (g : Nat → Int) (h : c ≠ 302) : upr (ov σ μ) c g = ov σ (upr μ c g) := by
  funext c'
  by_cases e : c' = 302
  · have e2 : c' ≠ c := by omega
    unfold upr ov
    rw [if_neg e2, if_pos e, if_pos e]
  · unfold upr
    rw [ov_ne _ _ e, ov_ne _ _ e]
theorem tg302 {x : Int} {t : Nat} (h : amTg x = t) (ht : t ≠ 26) : x.toNat ≠ 302 := fun e => by
  cases x with
  | ofNat c =>
    have e : c = 302 := e
    rw [e] at h
    exact ht h.symm
  | negSucc c => exact absurd e (by show ¬ (0 = 302); decide)
theorem z_up {μ : amM} {c i : Nat} {v : Int} (h : c ≠ 302) (z : μ 302 0 = 0) : up μ c i v 302 0 = 0 := (up_ne _ _ _ _ (Or.inl (Ne.symm h))).trans z
theorem oR_no (σ : Nat → Int) (o' : amR) : oR σ none o' := fun r h => by cases h
theorem oR_so (σ : Nat → Int) (x : Int) {μ : amM} (z : μ 302 0 = 0) : oR σ (some (x, μ)) (some (x, ov σ μ)) := fun r h => by
  cases h
  exact ⟨z, rfl⟩
theorem oR_if {σ : Nat → Int} {c : Prop} {hc : Decidable c} {a b a' b' : amR} (h1 : c → oR σ a a') (h2 : ¬ c → oR σ b b') : oR σ (if c then a else b) (if c then a' else b') := by
  by_cases h : c
  · rw [if_pos h, if_pos h]; exact h1 h
  · rw [if_neg h, if_neg h]; exact h2 h
theorem oR_bn {σ : Nat → Int} {o o' : amR} {f f' : Int → amM → amR} (h : oR σ o o') (hf : ∀ v μ, μ 302 0 = 0 → oR σ (f v μ) (f' v (ov σ μ))) : oR σ (bnd o f) (bnd o' f') := fun r hr => by
  cases o with
  | none => cases hr
  | some r0 =>
    obtain ⟨z, e⟩ := h r0 rfl
    rw [e]
    exact hf r0.1 r0.2 z r hr
theorem ov_Ct (σ : Nat → Int) (cr : amC) (μ : amM) {c : Nat} (k : Nat) (h : c ≠ 302) : amCt cr (ov σ μ) c k = amCt cr μ c k := by
  unfold amCt
  rw [ov_ne _ _ h]
theorem oR_Gf {σ : Nat → Int} {cr : amC} {μ : amM} {ci k : Nat} {x : Int} {F F' : Int → amR} (hci : ci ≠ 26) (h : ∀ v, oR σ (F v) (F' v)) : oR σ (amGf cr μ ci k x F) (amGf cr (ov σ μ) ci k x F') := by
  unfold amGf
  refine oR_if (fun e => ?_) (fun _ => oR_no _ _)
  rw [ov_Ct σ cr μ k (tg302 e hci)]
  exact oR_if (fun _ => oR_if (fun _ => h _) (fun _ => oR_no _ _)) (fun _ => h _)
theorem oR_Gx {σ : Nat → Int} {cr : amC} {μ : amM} {ci k : Nat} {x w : Int} {F F' : Int → amR} (hci : ci ≠ 26) (h : ∀ v, oR σ (F v) (F' v)) : oR σ (amGx cr μ ci k x w F) (amGx cr (ov σ μ) ci k x w F') := by
  unfold amGx
  refine oR_if (fun e => ?_) (fun _ => oR_no _ _)
  rw [ov_Ct σ cr μ k (tg302 e hci)]
  exact oR_if (fun _ => oR_if (fun _ => h _) (fun _ => oR_no _ _)) (fun _ => oR_no _ _)
theorem oR_Pf {σ : Nat → Int} {cr : amC} {μ : amM} {ci k : Nat} {x v : Int} {F F' : amM → amR} (hci : ci ≠ 26) (z : μ 302 0 = 0) (h : ∀ μ, μ 302 0 = 0 → oR σ (F μ) (F' (ov σ μ))) : oR σ (amPf cr μ ci k x v F) (amPf cr (ov σ μ) ci k x v F') := by
  unfold amPf
  refine oR_if (fun e => ?_) (fun _ => oR_no _ _)
  have n := tg302 e.1 hci
  rw [ov_up σ μ k v n]
  exact h _ (z_up n z)
theorem oR_Al {σ : Nat → Int} {μ : amM} {x i : Int} {F F' : Int → amR} (z : μ 302 0 = 0) (h : ∀ v, oR σ (F v) (F' v)) : oR σ (amAld μ x i F) (amAld (ov σ μ) x i F') := by
  unfold amAld
  by_cases e : amTg x = 20
  · rw [if_pos e, if_pos e, ov_ne σ μ (tg302 e (by decide))]
    exact oR_if (fun _ => h _) (fun _ => oR_no _ _)
  · rw [if_neg e, if_neg e]
    refine oR_if (fun _ => oR_if (fun _ => h _) (fun _ => oR_no _ _)) (fun _ => ?_)
    by_cases e2 : amTg x = 26
    · rw [if_pos e2, if_neg (show ¬ (0 ≤ i ∧ i < μ 302 0) by omega)]
      exact oR_no _ _
    · rw [if_neg e2]
      exact oR_no _ _
theorem oR_Pl {σ : Nat → Int} {t : Nat} {μ : amM} {x i : Int} {F F' : Int → amR} (ht : t ≠ 26) (h : ∀ v, oR σ (F v) (F' v)) : oR σ (amPld t μ x i F) (amPld t (ov σ μ) x i F') := by
  unfold amPld
  refine oR_if (fun e => ?_) (fun _ => oR_no _ _)
  rw [ov_ne σ μ (tg302 e ht)]
  exact oR_if (fun _ => h _) (fun _ => oR_no _ _)
theorem oR_Ps {σ : Nat → Int} {t : Nat} {μ : amM} {x i v : Int} {F F' : amM → amR} (ht : t ≠ 26) (z : μ 302 0 = 0) (h : ∀ μ, μ 302 0 = 0 → oR σ (F μ) (F' (ov σ μ))) : oR σ (amPst t μ x i v F) (amPst t (ov σ μ) x i v F') := by
  unfold amPst
  refine oR_if (fun e => ?_) (fun _ => oR_no _ _)
  have n := tg302 e ht
  rw [ov_up σ μ i.toNat v n]
  exact oR_if (fun _ => oR_if (fun _ => oR_if (fun _ => h _ (z_up n z)) (fun _ => oR_no _ _)) (fun _ => h _ (z_up n z))) (fun _ => oR_no _ _)
theorem oR_Ql {σ : Nat → Int} {cr : amC} {t : Nat} {μ : amM} {x i : Int} {F F' : Int → amR} (ht : t ≠ 26) (h : ∀ v, oR σ (F v) (F' v)) : oR σ (amQld cr t μ x i F) (amQld cr t (ov σ μ) x i F') := by
  unfold amQld
  refine oR_if (fun e => ?_) (fun _ => oR_no _ _)
  rw [ov_Ct σ cr μ i.toNat (tg302 e ht)]
  exact oR_if (fun _ => oR_if (fun _ => h _) (fun _ => oR_no _ _)) (fun _ => oR_no _ _)
theorem oR_Qs {σ : Nat → Int} {cr : amC} {t : Nat} {μ : amM} {x i v : Int} {F F' : amM → amR} (ht : t ≠ 26) (z : μ 302 0 = 0) (h : ∀ μ, μ 302 0 = 0 → oR σ (F μ) (F' (ov σ μ))) : oR σ (amQst cr t μ x i v F) (amQst cr t (ov σ μ) x i v F') := by
  unfold amQst
  refine oR_if (fun e => ?_) (fun _ => oR_no _ _)
  have n := tg302 e.1 ht
  rw [ov_up σ μ i.toNat v n]
  exact oR_if (fun _ => h _ (z_up n z)) (fun _ => oR_no _ _)
theorem oR_Cp {σ : Nat → Int} {μ : amM} {x i y j n : Int} {F F' : amM → amR} (z : μ 302 0 = 0) (h : ∀ μ, μ 302 0 = 0 → oR σ (F μ) (F' (ov σ μ))) : oR σ (amCpy μ x i y j n F) (amCpy (ov σ μ) x i y j n F') := by
  unfold amCpy
  refine oR_if (fun e => ?_) (fun _ => oR_no _ _)
  have n1 := tg302 e.1 (by decide)
  have n2 := tg302 e.2 (by decide)
  rw [ov_ne σ μ n1, ov_ne σ μ n2, ov_upr σ μ _ n2]
  exact oR_if (fun _ => h _ ((congrFun (upr_ne _ _ _ (Ne.symm n2)) 0).trans z)) (fun _ => oR_no _ _)
theorem ov_cnt (σ : Nat → Int) (μ : amM) : amCnt (ov σ μ) = amCnt μ := by
  unfold amCnt
  rw [ov_ne σ μ (by decide)]
theorem ov_born (σ : Nat → Int) {μ : amM} (h : amCnt μ ≠ 302) : amBorn (ov σ μ) = ov σ (amBorn μ) := by
  funext c
  unfold amBorn
  rw [ov_cnt]
  by_cases e : c = 302
  · have e1 : c ≠ amCnt μ := by omega
    have e2 : c ≠ 999 := by omega
    unfold ov
    rw [if_neg e1, if_neg e2, if_pos e, if_pos e]
  · rw [ov_ne _ _ e, ov_ne _ _ e]
theorem shp302 {n t : Nat} (h : (amShp n).1 = t ∧ t < 90) : n ≠ 302 := fun e => by
  rw [e] at h
  have : (amShp 302).1 = 99 := by decide +kernel
  omega
theorem z_born {μ : amM} (h : amCnt μ ≠ 302) (z : μ 302 0 = 0) : amBorn μ 302 0 = 0 := by
  unfold amBorn
  rw [if_neg (Ne.symm h), if_neg (by decide)]
  exact z
theorem oR_Nw {σ : Nat → Int} {μ : amM} {t : Nat} {F F' : Int → amM → amR} (z : μ 302 0 = 0) (h : ∀ v μ, μ 302 0 = 0 → oR σ (F v μ) (F' v (ov σ μ))) : oR σ (amNew μ t F) (amNew (ov σ μ) t F') := by
  unfold amNew
  rw [ov_cnt]
  refine oR_if (fun e => ?_) (fun _ => oR_no _ _)
  have n := shp302 e
  rw [ov_born σ n]
  exact h _ _ (z_born n z)
theorem oR_Na {σ : Nat → Int} {μ : amM} {t : Nat} {k : Int} {F F' : Int → amM → amR} (z : μ 302 0 = 0) (h : ∀ v μ, μ 302 0 = 0 → oR σ (F v μ) (F' v (ov σ μ))) : oR σ (amNwa μ t k F) (amNwa (ov σ μ) t k F') := by
  unfold amNwa
  rw [ov_cnt]
  refine oR_if (fun e => ?_) (fun _ => oR_no _ _)
  have n := shp302 ⟨e.1, e.2.1⟩
  rw [ov_born σ n]
  exact h _ _ (z_born n z)
theorem oR_Mu {σ : Nat → Int} {μ : amM} {n k : Int} {F F' : Int → amM → amR} (z : μ 302 0 = 0) (h : ∀ v μ, μ 302 0 = 0 → oR σ (F v μ) (F' v (ov σ μ))) : oR σ (amMul μ n k F) (amMul (ov σ μ) n k F') := by
  unfold amMul
  rw [ov_cnt]
  refine oR_if (fun e => ?_) (fun _ => oR_no _ _)
  have q : (fun c => if c = 42 then (fun j => if j < 5 then ((42 + 1 + j : Nat) : Int) else -1) else if 42 < c ∧ c ≤ 42 + 5 then (fun _ => 0) else if c = 999 then (fun _ => ((42 + 6 : Nat) : Int)) else ov σ μ c) = ov σ (fun c => if c = 42 then (fun j => if j < 5 then ((42 + 1 + j : Nat) : Int) else -1) else if 42 < c ∧ c ≤ 42 + 5 then (fun _ => 0) else if c = 999 then (fun _ => ((42 + 6 : Nat) : Int)) else μ c) := by
    funext c
    by_cases e : c = 302
    · unfold ov
      rw [e]
      rfl
    · rw [ov_ne _ _ e, ov_ne _ _ e]
  rw [q]
  exact h _ _ z
theorem oR_Sw {σ : Nat → Int} {x : Int} {F F' : Nat → amR} (h : ∀ b, oR σ (F b) (F' b)) (d : Nat) : ∀ l : List (Int × Nat), oR σ (amSw x l d F) (amSw x l d F')
  | [] => h d
  | (_, b) :: r => oR_if (fun _ => h b) (fun _ => oR_Sw h d r)
def okI (i : amI) : Bool := match i.1 with
  | .arraylength => false
  | .getfield _ => !(Nat.beq i.2.1 26)
  | .putfield _ => !(Nat.beq i.2.1 26)
  | .aaload => !(Nat.beq i.2.1 26)
  | .aastore => !(Nat.beq i.2.1 26)
  | _ => true
theorem okI_n {n : Nat} (h : (!(Nat.beq n 26)) = true) : n ≠ 26 := fun e => by
  rw [e] at h
  cases h
set_option maxHeartbeats 4000000 in
set_option maxRecDepth 20000 in
theorem oR_stp {σ : Nat → Int} {cr : amC} {call call' : Nat → List Int → amM → amR} {rt : Nat → Nat × Nat} (hc : ∀ m xs μ, μ 302 0 = 0 → oR σ (call m xs μ) (call' m xs (ov σ μ))) (i : amI) (hi : okI i = true) {k k' : amJ} (hk : ∀ b st ls μ, μ 302 0 = 0 → oR σ (k b st ls μ) (k' b st ls (ov σ μ))) {nx nx' : amN} (hn : ∀ st ls μ, μ 302 0 = 0 → oR σ (nx st ls μ) (nx' st ls (ov σ μ))) (st ls : List Int) (μ : amM) (z : μ 302 0 = 0) : oR σ (stp cr call rt i k nx st ls μ) (stp cr call' rt i k' nx' st ls (ov σ μ)) := by
  obtain ⟨ins, a, b, w, l⟩ := i
  rcases l with _ | ⟨⟨w0, z0⟩, l⟩ <;> rcases st with _ | ⟨x0, _ | ⟨x1, _ | ⟨x2, _ | ⟨x3, _ | ⟨x4, st⟩⟩⟩⟩⟩ <;> cases ins <;> dsimp only [stp] <;>
    first
    | exact hn _ _ _ z
    | exact oR_no _ _
    | exact hk _ _ _ _ z
    | exact oR_so _ _ z
    | exact oR_Sw (fun _ => hk _ _ _ _ z) _ _
    | exact oR_Gf (okI_n hi) (fun _ => hn _ _ _ z)
    | exact oR_Gx (okI_n hi) (fun _ => hn _ _ _ z)
    | exact oR_Pf (okI_n hi) z (fun _ z => hn _ _ _ z)
    | exact oR_Al z (fun _ => hn _ _ _ z)
    | exact oR_Pl (by decide) (fun _ => hn _ _ _ z)
    | exact oR_Ps (by decide) z (fun _ z => hn _ _ _ z)
    | exact oR_Ql (okI_n hi) (fun _ => hn _ _ _ z)
    | exact oR_Qs (okI_n hi) z (fun _ z => hn _ _ _ z)
    | exact oR_Nw z (fun _ _ z => hn _ _ _ z)
    | exact oR_Na z (fun _ _ z => hn _ _ _ z)
    | exact oR_Mu z (fun _ _ z => hn _ _ _ z)
    | exact absurd hi (by show ¬ (false = true); decide)
    | exact oR_if (fun _ => oR_no _ _) (fun _ => hn _ _ _ z)
    | exact oR_if (fun _ => hn _ _ _ z) (fun _ => oR_no _ _)
    | exact oR_if (fun _ => oR_if (fun _ => oR_so _ _ z) (fun _ => oR_no _ _)) (fun _ => oR_so _ _ z)
    | exact oR_if (fun _ => oR_bn (hc _ _ _ z) (fun _ _ z => hn _ _ _ z)) (fun _ => oR_no _ _)
    | exact oR_if (fun _ => oR_no _ _) (fun _ => oR_bn (hc _ _ _ z) (fun _ _ z => hn _ _ _ z))
    | exact oR_if (fun _ => oR_Cp z (fun _ z => hn _ _ _ z)) (fun _ => oR_if (fun _ => hn _ _ _ z) (fun _ => oR_if (fun _ => hn _ _ _ z) (fun _ => oR_bn (hc _ _ _ z) (fun _ _ z => hn _ _ _ z))))
    | exact oR_if (fun _ => oR_no _ _) (fun _ => oR_if (fun _ => hn _ _ _ z) (fun _ => oR_if (fun _ => hn _ _ _ z) (fun _ => oR_bn (hc _ _ _ z) (fun _ _ z => hn _ _ _ z))))
    | exact oR_if (fun _ => oR_no _ _) (fun _ => oR_if (fun _ => oR_no _ _) (fun _ => oR_if (fun _ => oR_no _ _) (fun _ => oR_bn (hc _ _ _ z) (fun _ _ z => hn _ _ _ z))))
    | exact oR_if (fun _ => oR_if (fun _ => hn _ _ _ z) (fun _ => oR_no _ _)) (fun _ => oR_if (fun _ => oR_bn (hc _ _ _ z) (fun _ _ z => hn _ _ _ z)) (fun _ => oR_no _ _))
    | exact oR_if (fun _ => oR_no _ _) (fun _ => oR_if (fun _ => oR_bn (hc _ _ _ z) (fun _ _ z => hn _ _ _ z)) (fun _ => oR_no _ _))
    | (rename_i c _; cases c <;> first | exact oR_if (fun _ => hk _ _ _ _ z) (fun _ => hn _ _ _ z) | exact oR_if (fun _ => hn _ _ _ z) (fun _ => hk _ _ _ _ z))
theorem oR_run {σ : Nat → Int} {cr : amC} {call call' : Nat → List Int → amM → amR} {rt : Nat → Nat × Nat} (hc : ∀ m xs μ, μ 302 0 = 0 → oR σ (call m xs μ) (call' m xs (ov σ μ))) {k k' : amJ} (hk : ∀ b st ls μ, μ 302 0 = 0 → oR σ (k b st ls μ) (k' b st ls (ov σ μ))) (cs : List amI) (ho : cs.all okI = true) : ∀ st ls μ, μ 302 0 = 0 → oR σ (runB cr call rt k cs st ls μ) (runB cr call' rt k' cs st ls (ov σ μ)) := by
  induction cs with
  | nil => exact fun _ _ _ _ => oR_no _ _
  | cons i cs ih =>
    rw [List.all_cons, Bool.and_eq_true] at ho
    exact fun st ls μ z => oR_stp hc i ho.1 hk (nx := runB cr call rt k cs) (nx' := runB cr call' rt k' cs) (ih ho.2) st ls μ z
theorem oR_AtN {σ : Nat → Int} {cr : amC} {call call' : Nat → List Int → amM → amR} (hc : ∀ m xs μ, μ 302 0 = 0 → oR σ (call m xs μ) (call' m xs (ov σ μ))) {m : Nat} (ho : ∀ b, (blk m b).2.2.2.all okI = true) : ∀ n b st ls μ, μ 302 0 = 0 → oR σ (AtN cr call m n b st ls μ) (AtL cr call' m b st ls (ov σ μ))
  | 0, _, _, _, _, _ => oR_no _ _
  | n + 1, b, st, ls, μ, z => by
    rw [AtL_eq]
    exact oR_run hc (k := fun b st ls μ => AtN cr call m n b st (nrm (msk m b) ls) μ) (k' := fun b st ls μ => AtL cr call' m b st (nrm (msk m b) ls) μ) (fun b st ls μ z => oR_AtN hc ho n b st _ μ z) _ (ho b) st ls μ z
/-- runs that can be reckoned out: at most F blocks each -/
noncomputable def RN (F : Nat) : Nat → Nat → List Int → amM → amR
  | 0 => fun _ _ _ => none
  | d + 1 => fun m xs μ => if m < 268 then AtN cr0 (RN F d) m F 0 [] (ent m xs) μ else none
theorem ok_n : ((List.range 268).all fun m => (prog m).all fun b => b.2.2.2.all okI) = true := by decide +kernel
theorem ok_b {m : Nat} (hm : m < 268) (b : Nat) : (blk m b).2.2.2.all okI = true := by
  have q := List.all_eq_true.mp (List.all_eq_true.mp ok_n m (List.mem_range.mpr hm))
  unfold blk
  by_cases hb : b < (prog m).length
  · rw [List.getD_eq_getElem?_getD, List.getElem?_eq_getElem hb]
    exact q _ (List.getElem_mem _)
  · rw [List.getD_eq_getElem?_getD, List.getElem?_eq_none (by omega)]
    rfl
theorem oR_RN {σ : Nat → Int} (F : Nat) : ∀ d m xs μ, μ 302 0 = 0 → oR σ (RN F d m xs μ) (RD cr0 d m xs (ov σ μ))
  | 0, _, _, _, _ => oR_no _ _
  | d + 1, m, xs, μ, z => by
    show oR σ (if m < 268 then AtN cr0 (RN F d) m F 0 [] (ent m xs) μ else none) (AtL cr0 (RD cr0 d) m 0 [] (ent m xs) (ov σ μ))
    by_cases hm : m < 268
    · rw [if_pos hm]
      exact oR_AtN (oR_RN F d) (ok_b hm) F 0 [] _ μ z
    · rw [if_neg hm]
      exact oR_no _ _
def zm : amM := fun _ _ => 0
noncomputable def K0 (v : Int) : amJ := fun b st ls μ => if b = 1 ∧ st = [] ∧ nrm (msk 268 1) ls = [302, 0, 71, 0] then some (v, μ) else none
noncomputable def R0 (v : Int) : amR := runB cr0 (RN 400 2000) mrt (K0 v) lawI0 [] (ent 268 [302]) zm
def ckT : List (Nat × Nat × Int) := [(2, 7, 1), (2, 8, 4), (2, 9, 0), (2, 10, 4), (2, 11, 1), (2, 12, 1), (1, 4, 0), (1, 5, 0), (13, 2, 0), (16, 2, 0), (1, 6, 0), (1, 7, 0), (1, 8, 1), (0, 10, 0), (59, 1, 0), (55, 1, 57), (55, 2, 58), (72, 0, 1), (72, 1, 4), (72, 2, 0), (72, 3, 1), (72, 4, 1), (72, 8, 0), (72, 9, 0), (72, 404, 0), (72, 405, 0), (72, 5, 0), (72, 6, 0), (72, 7, 1), (71, 2, 0), (71, 33, 0), (999, 0, 95)]
def ckM (μ : amM) : Bool := ckT.all (fun q => decide (μ q.1 q.2.1 = q.2.2)) && ((List.range 6).all (fun k => decide (μ 62 k = 0 ∧ μ 74 k = 0)) && ((List.range 4).all (fun k => decide ((μ (63 + 2 * k) 1 = 0 ∧ μ (63 + 2 * k) 2 = 0) ∧ (μ 91 k = 0 ∧ μ 92 k = 0) ∧ (μ 3 k = -1 ∧ μ 72 (20 + k) = 0) ∧ μ 7 k = ((nbs 1 4 0 k).length : Nat)) && (List.range (nbs 1 4 0 k).length).all (fun i => decide (μ 6 (4 * k + i) = ((nbs 1 4 0 k).getD i 0 : Nat)))) && ((List.range 81).all (fun h => decide (μ 56 h = hc h)) && (List.range 95).all (fun c => (List.range 40).all (fun j => match cr2 c j with | none => true | some v => decide (μ c j = v))))))
set_option maxRecDepth 1000000 in
theorem R0_ok : (match R0 1 with | some r => decide (r.1 = 1) && ckM r.2 | none => false) = true := by decide +kernel
set_option maxRecDepth 1000000 in
theorem R0_2 : (match R0 2 with | some r => decide (r.1 = 2) | none => false) = true := by decide +kernel
