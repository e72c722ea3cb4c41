/-! ===== what blocks and methods do, as functions: none where they do not end, or do what they must not ===== -/
noncomputable def AtN (cr : amC) (call : Nat → List Int → amM → amR) (m : Nat) : Nat → amJ
  | 0 => fun _ _ _ _ => none
  | n + 1 => fun b st ls μ => runB cr call mrt (fun b st ls μ => AtN cr call m n b st (nrm (msk m b) ls) μ) (blk m b).2.2.2 st ls μ
/-- a term that asks k at most once, at its end -/
def amTL (F : amJ → amR) : Prop := (∃ o, ∀ k, F k = o) ∨ ∃ b st ls μ, ∀ k : amJ, F k = k b st ls μ
theorem amTL_c (o : amR) : amTL (fun _ => o) := Or.inl ⟨o, fun _ => rfl⟩
theorem amTL_k (b : Nat) (st ls : List Int) (μ : amM) : amTL (fun k => k b st ls μ) := Or.inr ⟨b, st, ls, μ, fun _ => rfl⟩
theorem amTL_ite {c : Prop} {hc : Decidable c} {F G : amJ → amR} (hF : amTL F) (hG : amTL G) : amTL (fun k => if c then F k else G k) := by
  by_cases h : c
  · simp only [h, if_true]; exact hF
  · simp only [h, if_false]; exact hG
theorem amTL_bnd {o : amR} {F : amJ → Int → amM → amR} (h : ∀ v μ, amTL (fun k => F k v μ)) : amTL (fun k => bnd o (F k)) := by
  cases o with
  | none => exact amTL_c none
  | some r => exact h r.1 r.2
theorem amTL_Gf {cr : amC} {μ : amM} {ci k0 : Nat} {x : Int} {F : amJ → Int → amR} (h : ∀ v, amTL (fun k => F k v)) : amTL (fun k => amGf cr μ ci k0 x (F k)) := amTL_ite (amTL_ite (amTL_ite (h _) (amTL_c none)) (h _)) (amTL_c none)
theorem amTL_Gx {cr : amC} {μ : amM} {ci k0 : Nat} {x w : Int} {F : amJ → Int → amR} (h : ∀ v, amTL (fun k => F k v)) : amTL (fun k => amGx cr μ ci k0 x w (F k)) := amTL_ite (amTL_ite (amTL_ite (h _) (amTL_c none)) (amTL_c none)) (amTL_c none)
theorem amTL_Pf {cr : amC} {μ : amM} {ci k0 : Nat} {x v : Int} {F : amJ → amM → amR} (h : ∀ v, amTL (fun k => F k v)) : amTL (fun k => amPf cr μ ci k0 x v (F k)) := amTL_ite (h _) (amTL_c none)
theorem amTL_Ald {μ : amM} {x i : Int} {F : amJ → Int → amR} (h : ∀ v, amTL (fun k => F k v)) : amTL (fun k => amAld μ x i (F k)) := amTL_ite (amTL_ite (h _) (amTL_c none)) (amTL_ite (amTL_ite (h _) (amTL_c none)) (amTL_ite (amTL_ite (h _) (amTL_c none)) (amTL_c none)))
theorem amTL_Pld {t : Nat} {μ : amM} {x i : Int} {F : amJ → Int → amR} (h : ∀ v, amTL (fun k => F k v)) : amTL (fun k => amPld t μ x i (F k)) := amTL_ite (amTL_ite (h _) (amTL_c none)) (amTL_c none)
theorem amTL_Pst {t : Nat} {μ : amM} {x i v : Int} {F : amJ → amM → amR} (h : ∀ v, amTL (fun k => F k v)) : amTL (fun k => amPst t μ x i v (F k)) := amTL_ite (amTL_ite (amTL_ite (amTL_ite (h _) (amTL_c none)) (h _)) (amTL_c none)) (amTL_c none)
theorem amTL_Qld {cr : amC} {t : Nat} {μ : amM} {x i : Int} {F : amJ → Int → amR} (h : ∀ v, amTL (fun k => F k v)) : amTL (fun k => amQld cr t μ x i (F k)) := amTL_ite (amTL_ite (amTL_ite (h _) (amTL_c none)) (amTL_c none)) (amTL_c none)
theorem amTL_Qst {cr : amC} {t : Nat} {μ : amM} {x i v : Int} {F : amJ → amM → amR} (h : ∀ v, amTL (fun k => F k v)) : amTL (fun k => amQst cr t μ x i v (F k)) := amTL_ite (amTL_ite (h _) (amTL_c none)) (amTL_c none)
theorem amTL_Cpy {μ : amM} {x i y j n : Int} {F : amJ → amM → amR} (h : ∀ v, amTL (fun k => F k v)) : amTL (fun k => amCpy μ x i y j n (F k)) := amTL_ite (amTL_ite (h _) (amTL_c none)) (amTL_c none)
theorem amTL_New {μ : amM} {t : Nat} {F : amJ → Int → amM → amR} (h : ∀ v μ, amTL (fun k => F k v μ)) : amTL (fun k => amNew μ t (F k)) := amTL_ite (h _ _) (amTL_c none)
theorem amTL_Nwa {μ : amM} {t : Nat} {n : Int} {F : amJ → Int → amM → amR} (h : ∀ v μ, amTL (fun k => F k v μ)) : amTL (fun k => amNwa μ t n (F k)) := amTL_ite (h _ _) (amTL_c none)
theorem amTL_Mul {μ : amM} {n k2 : Int} {F : amJ → Int → amM → amR} (h : ∀ v μ, amTL (fun k => F k v μ)) : amTL (fun k => amMul μ n k2 (F k)) := amTL_ite (h _ _) (amTL_c none)
theorem amTL_Sw {x : Int} {F : amJ → Nat → amR} (h : ∀ b, amTL (fun k => F k b)) (d : Nat) : ∀ l : List (Int × Nat), amTL (fun k => amSw x l d (F k))
  | [] => h d
  | (_, b) :: r => amTL_ite (h b) (amTL_Sw h d r)
set_option maxHeartbeats 4000000 in
set_option maxRecDepth 20000 in
theorem amTL_stp {cr : amC} {call : Nat → List Int → amM → amR} {rt : Nat → Nat × Nat} (i : amI) {NX : amJ → amN} (h : ∀ st ls μ, amTL (fun k => NX k st ls μ)) (st ls : List Int) (μ : amM) : amTL (fun k => stp cr call rt i k (NX k) st ls μ) := by
  obtain ⟨ins, a, b, w, l⟩ := i
  rcases l with _ | ⟨⟨w0, z0⟩, l⟩ <;> rcases st with _ | ⟨x0, _ | ⟨x1, _ | ⟨x2, _ | ⟨x3, _ | ⟨x4, st⟩⟩⟩⟩⟩ <;> cases ins <;> dsimp only [stp] <;>
    first
    | exact h _ _ _
    | exact amTL_c _
    | exact amTL_k _ _ _ _
    | exact amTL_Sw (fun _ => amTL_k _ _ _ _) _ _
    | exact amTL_Gf (fun _ => h _ _ _)
    | exact amTL_Gx (fun _ => h _ _ _)
    | exact amTL_Pf (fun _ => h _ _ _)
    | exact amTL_Ald (fun _ => h _ _ _)
    | exact amTL_Pld (fun _ => h _ _ _)
    | exact amTL_Pst (fun _ => h _ _ _)
    | exact amTL_Qld (fun _ => h _ _ _)
    | exact amTL_Qst (fun _ => h _ _ _)
    | exact amTL_New (fun _ _ => h _ _ _)
    | exact amTL_Nwa (fun _ _ => h _ _ _)
    | exact amTL_Mul (fun _ _ => h _ _ _)
    | exact amTL_ite (amTL_c _) (h _ _ _)
    | exact amTL_ite (h _ _ _) (amTL_c _)
    | exact amTL_ite (amTL_bnd (fun _ _ => h _ _ _)) (amTL_c _)
    | exact amTL_ite (amTL_c _) (amTL_bnd (fun _ _ => h _ _ _))
    | exact amTL_ite (amTL_Cpy (fun _ => h _ _ _)) (amTL_ite (h _ _ _) (amTL_ite (h _ _ _) (amTL_bnd (fun _ _ => h _ _ _))))
    | exact amTL_ite (amTL_c _) (amTL_ite (h _ _ _) (amTL_ite (h _ _ _) (amTL_bnd (fun _ _ => h _ _ _))))
    | exact amTL_ite (amTL_c _) (amTL_ite (amTL_c _) (amTL_ite (amTL_c _) (amTL_bnd (fun _ _ => h _ _ _))))
    | exact amTL_ite (amTL_c _) (amTL_ite (amTL_bnd (fun _ _ => h _ _ _)) (amTL_c _))
    | exact amTL_ite (amTL_ite (h _ _ _) (amTL_c _)) (amTL_ite (amTL_bnd (fun _ _ => h _ _ _)) (amTL_c _))
    | exact amTL_ite (amTL_ite (amTL_c _) (amTL_c _)) (amTL_c _)
    | (rename_i c _; cases c <;> first | exact amTL_ite (amTL_k _ _ _ _) (h _ _ _) | exact amTL_ite (h _ _ _) (amTL_k _ _ _ _))
theorem amTL_run {cr : amC} {call : Nat → List Int → amM → amR} {rt : Nat → Nat × Nat} (cs : List amI) : ∀ st ls μ, amTL (fun k => runB cr call rt k cs st ls μ) := by
  induction cs with
  | nil => exact fun _ _ _ => amTL_c none
  | cons i cs ih => exact fun st ls μ => amTL_stp i (NX := fun k => runB cr call rt k cs) ih st ls μ
/-- likewise, with k's locals put in order first -/
theorem amTL_N {F : amJ → amR} (h : amTL F) (m : Nat) : amTL (fun k => F (fun b st ls μ => k b st (nrm (msk m b) ls) μ)) := by
  rcases h with ⟨o, h⟩ | ⟨b, st, ls, μ, h⟩
  · exact Or.inl ⟨o, fun k => h _⟩
  · exact Or.inr ⟨b, st, nrm (msk m b) ls, μ, fun k => h _⟩
theorem AtN_up (cr : amC) (call : Nat → List Int → amM → amR) (m : Nat) : ∀ (n : Nat) (b : Nat) (st ls : List Int) (μ : amM) (r : Int × amM), AtN cr call m n b st ls μ = some r → AtN cr call m (n + 1) b st ls μ = some r
  | 0, _, _, _, _, _, h => by cases h
  | n + 1, b, st, ls, μ, r, h => by
    have hT := amTL_N (amTL_run (cr := cr) (call := call) (rt := mrt) (blk m b).2.2.2 st ls μ) m
    change runB _ _ _ _ _ _ _ _ = _ at h
    change runB _ _ _ _ _ _ _ _ = _
    rcases hT with ⟨o, hT⟩ | ⟨b', st', ls', μ', hT⟩
    · exact (hT (AtN cr call m (n + 1))).trans ((hT (AtN cr call m n)).symm.trans h)
    · exact (hT (AtN cr call m (n + 1))).trans (AtN_up cr call m n _ _ _ _ _ ((hT (AtN cr call m n)).symm.trans h))
theorem AtN_le {cr : amC} {call : Nat → List Int → amM → amR} {m n b : Nat} {st ls : List Int} {μ : amM} {r : Int × amM} (h : AtN cr call m n b st ls μ = some r) : ∀ k, AtN cr call m (n + k) b st ls μ = some r
  | 0 => h
  | k + 1 => AtN_up cr call m (n + k) b st ls μ r (AtN_le h k)
theorem AtN_one {cr : amC} {call : Nat → List Int → amM → amR} {m n n' b : Nat} {st ls : List Int} {μ : amM} {r r' : Int × amM} (h : AtN cr call m n b st ls μ = some r) (h' : AtN cr call m n' b st ls μ = some r') : r = r' := by
  have h1 := AtN_le h n'
  have h2 := AtN_le h' n
  rw [Nat.add_comm n' n] at h2
  exact Option.some.inj (h1.symm.trans h2)
def amEx (cr : amC) (call : Nat → List Int → amM → amR) (m b : Nat) (st ls : List Int) (μ : amM) : Prop := ∃ r n, AtN cr call m n b st ls μ = some r
noncomputable def AtL (cr : amC) (call : Nat → List Int → amM → amR) (m : Nat) : amJ := fun b st ls μ => @dite _ (amEx cr call m b st ls μ) (Classical.propDecidable _) (fun h => some h.choose) (fun _ => none)
theorem AtL_iff {cr : amC} {call : Nat → List Int → amM → amR} {m b : Nat} {st ls : List Int} {μ : amM} {r : Int × amM} : AtL cr call m b st ls μ = some r ↔ ∃ n, AtN cr call m n b st ls μ = some r := by
  unfold AtL
  by_cases h : amEx cr call m b st ls μ
  · rw [dif_pos h]
    obtain ⟨n, hn⟩ := h.choose_spec
    constructor
    · intro e
      exact ⟨n, by rw [hn]; exact e⟩
    · rintro ⟨n', hn'⟩
      rw [AtN_one hn hn']
  · rw [dif_neg h]
    constructor
    · intro e; cases e
    · rintro ⟨n, hn⟩
      exact absurd ⟨r, n, hn⟩ h
theorem AtL_eq (cr : amC) (call : Nat → List Int → amM → amR) (m b : Nat) (st ls : List Int) (μ : amM) : AtL cr call m b st ls μ = runB cr call mrt (fun b st ls μ => AtL cr call m b st (nrm (msk m b) ls) μ) (blk m b).2.2.2 st ls μ := by
  apply Option.ext
  intro r
  rw [AtL_iff]
  have hT := amTL_N (amTL_run (cr := cr) (call := call) (rt := mrt) (blk m b).2.2.2 st ls μ) m
  rcases hT with ⟨o, hT⟩ | ⟨b', st', ls', μ', hT⟩
  · constructor
    · rintro ⟨n, hn⟩
      cases n with
      | zero => cases hn
      | succ n => exact (hT (AtL cr call m)).trans ((hT (AtN cr call m n)).symm.trans hn)
    · intro h
      exact ⟨1, (hT (AtN cr call m 0)).trans ((hT (AtL cr call m)).symm.trans h)⟩
  · constructor
    · rintro ⟨n, hn⟩
      cases n with
      | zero => cases hn
      | succ n => exact (hT (AtL cr call m)).trans (AtL_iff.mpr ⟨n, (hT (AtN cr call m n)).symm.trans hn⟩)
    · intro h
      obtain ⟨n, hn⟩ := AtL_iff.mp ((hT (AtL cr call m)).symm.trans h)
      exact ⟨n + 1, (hT (AtN cr call m n)).trans hn⟩
/-- a method, with d calls open at most -/
noncomputable def RD (cr : amC) : Nat → Nat → List Int → amM → amR
  | 0 => fun _ _ _ => none
  | d + 1 => fun m xs μ => AtL cr (RD cr d) m 0 [] (ent m xs) μ
noncomputable def At (cr : amC) (d m : Nat) : amJ := AtL cr (RD cr d) m
theorem At_eq (cr : amC) (d m b : Nat) (st ls : List Int) (μ : amM) : At cr d m b st ls μ = runB cr (RD cr d) mrt (fun b st ls μ => At cr d m b st (nrm (msk m b) ls) μ) (blk m b).2.2.2 st ls μ := AtL_eq cr (RD cr d) m b st ls μ
