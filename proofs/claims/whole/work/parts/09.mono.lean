/-! ===== cells are only added ===== -/
def amMr (μ : amM) (o : amR) : Prop := ∀ r, o = some r → amCnt μ ≤ amCnt r.2
theorem amMr_c {μ : amM} : amMr μ none := fun _ h => by cases h
theorem amMr_s {μ : amM} {x : Int} : amMr μ (some (x, μ)) := fun _ h => by cases h; exact Nat.le_refl _
theorem amMr_ite {μ : amM} {c : Prop} {hc : Decidable c} {a b : amR} (ha : amMr μ a) (hb : amMr μ b) : amMr μ (if c then a else b) := by
  split
  · exact ha
  · exact hb
theorem amMr_bnd {μ : amM} {o : amR} {F : Int → amM → amR} (ho : amMr μ o) (h : ∀ v μ, amMr μ (F v μ)) : amMr μ (bnd o F) := by
  cases o with
  | none => exact amMr_c
  | some r => exact fun r' h' => Nat.le_trans (ho r rfl) (h r.1 r.2 r' h')
theorem amMr_to {μ μ' : amM} {o : amR} (h : amMr μ' o) (he : amCnt μ ≤ amCnt μ') : amMr μ o := fun r hr => Nat.le_trans he (h r hr)
theorem cnt_up {μ : amM} {c i : Nat} {v : Int} (h : c ≠ 999) : amCnt (up μ c i v) = amCnt μ := by
  unfold amCnt up
  rw [if_neg (Ne.symm h)]
theorem cnt_upr {μ : amM} {c : Nat} {f : Nat → Int} (h : c ≠ 999) : amCnt (upr μ c f) = amCnt μ := by
  unfold amCnt upr
  rw [if_neg (Ne.symm h)]
theorem tg_999 {x : Int} {t : Nat} (h : amTg x = t) (ht : t < 90) : x.toNat ≠ 999 := by
  intro e
  cases x with
  | ofNat c =>
    have : c = 999 := e
    subst this
    have h2 : amTg (Int.ofNat 999) = 99 := by decide +kernel
    omega
  | negSucc c =>
    have : (0 : Nat) = 999 := e
    omega
theorem shp_999 {n t : Nat} (h : (amShp n).1 = t) (ht : t < 90) : n ≠ 999 := by
  intro e
  subst e
  have h2 : (amShp 999).1 = 99 := by decide +kernel
  omega
theorem cnt_born {μ : amM} {t : Nat} (h : (amShp (amCnt μ)).1 = t) (ht : t < 90) : amCnt (amBorn μ) = amCnt μ + 1 := by
  have h1 := shp_999 h ht
  show (amBorn μ 999 0).toNat = _
  unfold amBorn
  rw [if_neg (Ne.symm h1), if_pos rfl]
  omega
theorem amMr_Gf {cr : amC} {μ : amM} {ci k : Nat} {x : Int} {f : Int → amR} (h : ∀ v, amMr μ (f v)) : amMr μ (amGf cr μ ci k x f) := amMr_ite (amMr_ite (amMr_ite (h _) amMr_c) (h _)) amMr_c
theorem amMr_Gx {cr : amC} {μ : amM} {ci k : Nat} {x w : Int} {f : Int → amR} (h : ∀ v, amMr μ (f v)) : amMr μ (amGx cr μ ci k x w f) := amMr_ite (amMr_ite (amMr_ite (h _) amMr_c) amMr_c) amMr_c
theorem amMr_Pf {cr : amC} {μ : amM} {ci k : Nat} {x v : Int} {f : amM → amR} (h : ∀ μ, amMr μ (f μ)) : amMr μ (amPf cr μ ci k x v f) := by
  unfold amPf
  split
  · next e => exact amMr_to (h _) (Nat.le_of_eq (cnt_up (tg_999 e.1 e.2.1)).symm)
  · exact amMr_c
theorem amMr_Ald {μ : amM} {x i : Int} {f : Int → amR} (h : ∀ v, amMr μ (f v)) : amMr μ (amAld μ x i f) := amMr_ite (amMr_ite (h _) amMr_c) (amMr_ite (amMr_ite (h _) amMr_c) (amMr_ite (amMr_ite (h _) amMr_c) amMr_c))
theorem amMr_Pld {t : Nat} {μ : amM} {x i : Int} {f : Int → amR} (h : ∀ v, amMr μ (f v)) : amMr μ (amPld t μ x i f) := amMr_ite (amMr_ite (h _) amMr_c) amMr_c
theorem amMr_Pst {t : Nat} (ht : t < 90) {μ : amM} {x i v : Int} {f : amM → amR} (h : ∀ μ, amMr μ (f μ)) : amMr μ (amPst t μ x i v f) := by
  unfold amPst
  split
  · next e =>
    have h1 := amMr_to (h (up μ x.toNat i.toNat v)) (Nat.le_of_eq (cnt_up (tg_999 e ht)).symm)
    exact amMr_ite (amMr_ite (amMr_ite h1 amMr_c) h1) amMr_c
  · exact amMr_c
theorem amMr_Qld {cr : amC} {t : Nat} {μ : amM} {x i : Int} {f : Int → amR} (h : ∀ v, amMr μ (f v)) : amMr μ (amQld cr t μ x i f) := amMr_ite (amMr_ite (amMr_ite (h _) amMr_c) amMr_c) amMr_c
theorem amMr_Qst {cr : amC} {t : Nat} {μ : amM} {x i v : Int} {f : amM → amR} (h : ∀ μ, amMr μ (f μ)) : amMr μ (amQst cr t μ x i v f) := by
  unfold amQst
  split
  · next e => exact amMr_ite (amMr_to (h _) (Nat.le_of_eq (cnt_up (tg_999 e.1 e.2.1)).symm)) amMr_c
  · exact amMr_c
theorem amMr_Cpy {μ : amM} {x i y j n : Int} {f : amM → amR} (h : ∀ μ, amMr μ (f μ)) : amMr μ (amCpy μ x i y j n f) := by
  unfold amCpy
  split
  · next e => exact amMr_ite (amMr_to (h _) (Nat.le_of_eq (cnt_upr (tg_999 e.2 (by omega))).symm)) amMr_c
  · exact amMr_c
theorem amMr_New {μ : amM} {t : Nat} {f : Int → amM → amR} (h : ∀ v μ, amMr μ (f v μ)) : amMr μ (amNew μ t f) := by
  unfold amNew
  split
  · next e => exact amMr_to (h _ _) (by rw [cnt_born e.1 e.2]; omega)
  · exact amMr_c
theorem amMr_Nwa {μ : amM} {t : Nat} {n : Int} {f : Int → amM → amR} (h : ∀ v μ, amMr μ (f v μ)) : amMr μ (amNwa μ t n f) := by
  unfold amNwa
  split
  · next e => exact amMr_to (h _ _) (by rw [cnt_born e.1 e.2.1]; omega)
  · exact amMr_c
theorem amMr_Mul {μ : amM} {n k : Int} {f : Int → amM → amR} (h : ∀ v μ, amMr μ (f v μ)) : amMr μ (amMul μ n k f) := by
  unfold amMul
  split
  · next e =>
    refine amMr_to (h _ _) ?_
    rw [e.1]
    exact (by decide : 42 ≤ 48)
  · exact amMr_c
theorem amMr_Sw {μ : amM} {x : Int} {F : Nat → amR} (h : ∀ b, amMr μ (F b)) (d : Nat) : ∀ l : List (Int × Nat), amMr μ (amSw x l d F)
  | [] => h d
  | (_, b) :: r => amMr_ite (h b) (amMr_Sw h d r)
set_option maxHeartbeats 4000000 in
set_option maxRecDepth 20000 in
theorem amMr_stp {cr : amC} {call : Nat → List Int → amM → amR} {rt : Nat → Nat × Nat} (hc : ∀ m xs μ, amMr μ (call m xs μ)) (i : amI) {k : amJ} (hk : ∀ b st ls μ, amMr μ (k b st ls μ)) {nx : amN} (h : ∀ st ls μ, amMr μ (nx st ls μ)) (st ls : List Int) (μ : amM) : amMr μ (stp cr call rt i k nx st ls μ) := by
  obtain ⟨ins, a, b, w, l⟩ := i
  rcases l with _ | ⟨⟨w0, z0⟩, l⟩ <;> rcases st with _ | ⟨x0, _ | ⟨x1, _ | ⟨x2, _ | ⟨x3, _ | ⟨x4, st⟩⟩⟩⟩⟩ <;> cases ins <;> dsimp only [stp] <;>
    first
    | exact h _ _ _
    | exact amMr_c
    | exact amMr_s
    | exact hk _ _ _ _
    | exact amMr_Sw (fun _ => hk _ _ _ _) _ _
    | exact amMr_Gf (fun _ => h _ _ _)
    | exact amMr_Gx (fun _ => h _ _ _)
    | exact amMr_Pf (fun _ => h _ _ _)
    | exact amMr_Ald (fun _ => h _ _ _)
    | exact amMr_Pld (fun _ => h _ _ _)
    | exact amMr_Pst (by decide) (fun _ => h _ _ _)
    | exact amMr_Qld (fun _ => h _ _ _)
    | exact amMr_Qst (fun _ => h _ _ _)
    | exact amMr_New (fun _ _ => h _ _ _)
    | exact amMr_Nwa (fun _ _ => h _ _ _)
    | exact amMr_Mul (fun _ _ => h _ _ _)
    | exact amMr_ite amMr_c (h _ _ _)
    | exact amMr_ite (h _ _ _) amMr_c
    | exact amMr_ite (amMr_bnd (hc _ _ _) (fun _ _ => h _ _ _)) amMr_c
    | exact amMr_ite (amMr_Cpy (fun _ => h _ _ _)) (amMr_ite (h _ _ _) (amMr_ite (h _ _ _) (amMr_bnd (hc _ _ _) (fun _ _ => h _ _ _))))
    | exact amMr_ite amMr_c (amMr_ite (h _ _ _) (amMr_ite (h _ _ _) (amMr_bnd (hc _ _ _) (fun _ _ => h _ _ _))))
    | exact amMr_ite amMr_c (amMr_ite amMr_c (amMr_ite amMr_c (amMr_bnd (hc _ _ _) (fun _ _ => h _ _ _))))
    | exact amMr_ite amMr_c (amMr_ite (amMr_bnd (hc _ _ _) (fun _ _ => h _ _ _)) amMr_c)
    | exact amMr_ite (amMr_ite (h _ _ _) amMr_c) (amMr_ite (amMr_bnd (hc _ _ _) (fun _ _ => h _ _ _)) amMr_c)
    | exact amMr_ite (amMr_ite amMr_s amMr_c) amMr_s
    | (rename_i c _; cases c <;> first | exact amMr_ite (hk _ _ _ _) (h _ _ _) | exact amMr_ite (h _ _ _) (hk _ _ _ _))
theorem amMr_run {cr : amC} {call : Nat → List Int → amM → amR} {rt : Nat → Nat × Nat} (hc : ∀ m xs μ, amMr μ (call m xs μ)) {k : amJ} (hk : ∀ b st ls μ, amMr μ (k b st ls μ)) : ∀ (cs : List amI) (st ls : List Int) (μ : amM), amMr μ (runB cr call rt k cs st ls μ)
  | [], _, _, _ => amMr_c
  | i :: cs, st, ls, μ => amMr_stp hc i hk (amMr_run hc hk cs) st ls μ
theorem amMr_AtN {cr : amC} {call : Nat → List Int → amM → amR} (hc : ∀ m xs μ, amMr μ (call m xs μ)) (m : Nat) : ∀ (n b : Nat) (st ls : List Int) (μ : amM), amMr μ (AtN cr call m n b st ls μ)
  | 0, _, _, _, _ => amMr_c
  | n + 1, b, st, ls, μ => amMr_run hc (fun b st ls μ => amMr_AtN hc m n b st (nrm (msk m b) ls) μ) _ st ls μ
theorem amMr_RD {cr : amC} : ∀ (d m : Nat) (xs : List Int) (μ : amM), amMr μ (RD cr d m xs μ)
  | 0, _, _, _ => amMr_c
  | d + 1, m, xs, μ => fun r h => by
    obtain ⟨n, hn⟩ := AtL_iff.mp h
    exact amMr_AtN (fun m xs μ => amMr_RD d m xs μ) m n 0 [] (ent m xs) μ r hn
