/-! ===== calls, new cells ===== -/
/-- a method's words -/
def amWsm (mi : Nat) : List Jvm.Cond := .code (amY mi) (amBy mi) (amMax mi) (amRet mi) :: amTbl
def amPt (mi : Nat) : List Nat := (mt mi).2.2.1
def amPc (D : va_G) (E : Nat → ClassId) (G : amG) (cr : amC) (L : Nat) (xs : Nat → Int32) (mi n : Nat) (ys : List Int) (μ : amM) : Array Value → State → Prop := va_Pc (amVs G (amPt mi) ys) (fun U => U.heap.size = G.1 + n ∧ amH D E G cr n μ U.heap ∧ amX L xs μ ∧ amK D E G L xs U U.heap)
def amQ (D : va_G) (E : Nat → ClassId) (G : amG) (cr : amC) (L : Nat) (xs : Nat → Int32) (t : Nat) (r : Int × amM) : Array Value → State → Outcome → State → Prop := match t with
  | 1 => va_Ql (S := Unit) (fun v _ => v = Int64.ofInt r.1 ∧ R64 r.1) (fun _ t => amH D E G cr (amCnt r.2) r.2 t.heap ∧ amX L xs r.2) (fun q => G.1 ≤ q)
  | 3 => va_Qv (S := Unit) (fun _ => True) (fun _ t => amH D E G cr (amCnt r.2) r.2 t.heap ∧ amX L xs r.2) (fun q => G.1 ≤ q)
  | _ => va_Qi (S := Unit) (fun v _ => v = Int32.ofInt r.1 ∧ R32 r.1) (fun _ t => amH D E G cr (amCnt r.2) r.2 t.heap ∧ amX L xs r.2) (fun q => G.1 ≤ q)
/-- what is proved of a method: where the abstract one answers, it answers so -/
def amMet (l : Launch) (cr : amC) (call : Nat → List Int → amM → amR) (d mi : Nat) : Prop := ∀ (D : va_G) (E : Nat → ClassId) (G : amG) (L : Nat) (xs : Nat → Int32) (n : Nat) (ys : List Int) (μ : amM) (r : Int × amM), call mi ys μ = some r → amStk n (amPt mi) ys → amCnt μ = n →
  Met l (amY mi) (amWsm mi) (amRm d n (amCnt r.2)) (amPc D E G cr L xs mi n ys μ) (amQ D E G cr L xs (mt mi).1 r) (amCnt r.2 - n) (amSs (amCnt r.2) - amSs n) (fun q => G.1 ≤ q)
theorem amPc_blind {D : va_G} {E : Nat → ClassId} {G : amG} {cr : amC} {L : Nat} {xs : Nat → Int32} {mi n : Nat} {ys : List Int} {μ : amM} : FrameBlind (amPc D E G cr L xs mi n ys μ) := by
  intro a U g mk q
  obtain ⟨q1, q2, q3, q4, q5⟩ := q
  exact ⟨q1, q2, q3, q4, q5.moved (U := U.calling g mk a) (State.WarmedH.refl U) (fun _ _ => rfl) (by rw [show (U.calling g mk a).heap = U.heap from rfl, q2]; omega)⟩
/-- what the checked words of a method say -/
theorem amM_words {mi : Nat} (h : amMok mi = true) : Cond.code (amY mi) (amBy mi) (amMax mi) (amRet mi) ∈ tables_1 ∧ Cond.initialized (amY mi).cls ∈ tables_1 ∧
    ((mt mi).2.1 = 99 → Cond.static (amY mi) ∈ tables_1) ∧ ((mt mi).2.1 ≠ 99 → Cond.instanceMethod (amY mi) ∈ tables_1) := by
  sorry
