/-! ===== one instruction after the other: what the abstract machine does, the machine does ===== -/
theorem R32_64 {x : Int} (h : R32 x) : R64 x := ⟨by have := h.1; omega, by have := h.2; omega⟩
def amRm (d n0 n1 : Nat) : Room := { frames := d + 1, cells := n1 - n0, slots := amSs n1 - amSs n0, locals := 40 * (d + 1) }
def amGo (p : Program) (l : Launch) (e : Env) (s : State) (m : MethodId) (args : Array Value) (below : List Frame) (meth : Method) (c : Code) (D : va_G) (E : Nat → ClassId) (G : amG) (cr : amC) (L : Nat) (xs : Nat → Int32) (mi d n0 : Nat) (R : Room) (r : Int × amM) (Qf : State → Prop) (pc : Nat) (ts tl : List Nat) (F : amN) : Prop :=
  ∀ (st lc : List Int) (μ : amM) (n : Nat) (H : Heap) (locs : List Loc) (sl : Array Slot), F st lc μ = some r → amH D E G cr n μ H → amX L xs μ → amStk n ts st → amFr (amMax mi) G n tl lc sl → va_S (fun q => G.1 ≤ q) s.heap H locs → n0 ≤ n →
    W p l e R s m args below meth c H locs (n - n0) (amSs n - amSs n0) Qf (F0 m pc sl (amVs G ts st))
def amCx (p : Program) (s : State) (m : MethodId) (args : Array Value) (meth : Method) (c : Code) (D : va_G) (E : Nat → ClassId) (G : amG) (cr : amC) (L : Nat) (xs : Nat → Int32) (mi d n0 : Nat) (R : Room) (r : Int × amM) : Prop :=
  p.tables.exec = Jvm.exec ∧ c.code = amBy mi ∧ c.maxLocals = amMax mi ∧ s.vm.findClass (amNm (amYt mi).1) = some m.cls ∧ (∀ w ∈ amTbl, w.before args s = true) ∧ amK D E G L xs s s.heap ∧
  (amCnt r.2 - n0 ≤ R.cells ∧ amSs (amCnt r.2) - amSs n0 ≤ R.slots ∧ d + 1 ≤ R.frames ∧ 40 * (d + 1) ≤ R.locals) ∧ meth.locks = false ∧ meth.name = (amY mi).name ∧ amCrOk cr ∧ s.heap.size = G.1 + n0
theorem go_iconst {p : Program} {l : Launch} {e : Env} {s : State} {m : MethodId} {args : Array Value} {below : List Frame} {meth : Method} {c : Code} {D : va_G} {E : Nat → ClassId} {G : amG} {cr : amC} {L : Nat} {xs : Nat → Int32} {mi d n0 : Nat} {R : Room} {r : Int × amM} {Qf : State → Prop} {pc : Nat} {ts tl : List Nat} {call : Nat → List Int → amM → amR} {rt : Nat → Nat × Nat} {k : amJ} {nx : amN} (hC : amCx p s m args meth c D E G cr L xs mi d n0 R r) {n : Int} {a b w : Nat} {z : List (Int × Nat)} (hR32 : R32 n) (hd : decode (amBy mi) pc = .ok (.iconst n, 1)) (h : amGo p l e s m args below meth c D E G cr L xs mi d n0 R r Qf (pc + 1) (0 :: ts) tl nx) : amGo p l e s m args below meth c D E G cr L xs mi d n0 R r Qf pc ts tl (stp cr call rt (.iconst n, a, b, w, z) k nx) := by
  obtain ⟨hx, hb, hml, hown, hts, hK, hR, hlk, hnm, hcr, hsz⟩ := hC
  intro st lc μ n H locs sl hF hH hX hst hfr hS hn
  exact lv_iconst hx hb hd rfl (h (_ :: st) lc μ n H locs sl hF hH hX ⟨hR32, hst⟩ hfr hS hn)
theorem go_bipush {p : Program} {l : Launch} {e : Env} {s : State} {m : MethodId} {args : Array Value} {below : List Frame} {meth : Method} {c : Code} {D : va_G} {E : Nat → ClassId} {G : amG} {cr : amC} {L : Nat} {xs : Nat → Int32} {mi d n0 : Nat} {R : Room} {r : Int × amM} {Qf : State → Prop} {pc : Nat} {ts tl : List Nat} {call : Nat → List Int → amM → amR} {rt : Nat → Nat × Nat} {k : amJ} {nx : amN} (hC : amCx p s m args meth c D E G cr L xs mi d n0 R r) {n : Int} {a b w : Nat} {z : List (Int × Nat)} (hR32 : R32 n) (hv : (Int8.ofInt n).toInt32 = Int32.ofInt n) (hd : decode (amBy mi) pc = .ok (.bipush n, 2)) (h : amGo p l e s m args below meth c D E G cr L xs mi d n0 R r Qf (pc + 2) (0 :: ts) tl nx) : amGo p l e s m args below meth c D E G cr L xs mi d n0 R r Qf pc ts tl (stp cr call rt (.bipush n, a, b, w, z) k nx) := by
  obtain ⟨hx, hb, hml, hown, hts, hK, hR, hlk, hnm, hcr, hsz⟩ := hC
  intro st lc μ n H locs sl hF hH hX hst hfr hS hn
  exact lv_bipush hx hb hd hv (h (_ :: st) lc μ n H locs sl hF hH hX ⟨hR32, hst⟩ hfr hS hn)
theorem go_sipush {p : Program} {l : Launch} {e : Env} {s : State} {m : MethodId} {args : Array Value} {below : List Frame} {meth : Method} {c : Code} {D : va_G} {E : Nat → ClassId} {G : amG} {cr : amC} {L : Nat} {xs : Nat → Int32} {mi d n0 : Nat} {R : Room} {r : Int × amM} {Qf : State → Prop} {pc : Nat} {ts tl : List Nat} {call : Nat → List Int → amM → amR} {rt : Nat → Nat × Nat} {k : amJ} {nx : amN} (hC : amCx p s m args meth c D E G cr L xs mi d n0 R r) {n : Int} {a b w : Nat} {z : List (Int × Nat)} (hR32 : R32 n) (hv : (Int16.ofInt n).toInt32 = Int32.ofInt n) (hd : decode (amBy mi) pc = .ok (.sipush n, 3)) (h : amGo p l e s m args below meth c D E G cr L xs mi d n0 R r Qf (pc + 3) (0 :: ts) tl nx) : amGo p l e s m args below meth c D E G cr L xs mi d n0 R r Qf pc ts tl (stp cr call rt (.sipush n, a, b, w, z) k nx) := by
  obtain ⟨hx, hb, hml, hown, hts, hK, hR, hlk, hnm, hcr, hsz⟩ := hC
  intro st lc μ n H locs sl hF hH hX hst hfr hS hn
  exact lv_sipush hx hb hd hv (h (_ :: st) lc μ n H locs sl hF hH hX ⟨hR32, hst⟩ hfr hS hn)
theorem go_lconst {p : Program} {l : Launch} {e : Env} {s : State} {m : MethodId} {args : Array Value} {below : List Frame} {meth : Method} {c : Code} {D : va_G} {E : Nat → ClassId} {G : amG} {cr : amC} {L : Nat} {xs : Nat → Int32} {mi d n0 : Nat} {R : Room} {r : Int × amM} {Qf : State → Prop} {pc : Nat} {ts tl : List Nat} {call : Nat → List Int → amM → amR} {rt : Nat → Nat × Nat} {k : amJ} {nx : amN} (hC : amCx p s m args meth c D E G cr L xs mi d n0 R r) {n : Fin 2} {a b w : Nat} {z : List (Int × Nat)} (hd : decode (amBy mi) pc = .ok (.lconst n, 1)) (h : amGo p l e s m args below meth c D E G cr L xs mi d n0 R r Qf (pc + 1) (1 :: ts) tl nx) : amGo p l e s m args below meth c D E G cr L xs mi d n0 R r Qf pc ts tl (stp cr call rt (.lconst n, a, b, w, z) k nx) := by
  obtain ⟨hx, hb, hml, hown, hts, hK, hR, hlk, hnm, hcr, hsz⟩ := hC
  intro st lc μ n' H locs sl hF hH hX hst hfr hS hn
  exact lv_lconst hx hb hd (by rfl) (h ((n.val : Int) :: st) lc μ n' H locs sl hF hH hX ⟨(by have := n.isLt; show R64 _; unfold R64; omega), hst⟩ hfr hS hn)
theorem go_iload_n {p : Program} {l : Launch} {e : Env} {s : State} {m : MethodId} {args : Array Value} {below : List Frame} {meth : Method} {c : Code} {D : va_G} {E : Nat → ClassId} {G : amG} {cr : amC} {L : Nat} {xs : Nat → Int32} {mi d n0 : Nat} {R : Room} {r : Int × amM} {Qf : State → Prop} {pc : Nat} {ts tl : List Nat} {call : Nat → List Int → amM → amR} {rt : Nat → Nat × Nat} {k : amJ} {nx : amN} (hC : amCx p s m args meth c D E G cr L xs mi d n0 R r) {i : Fin 4} {a b w : Nat} {z : List (Int × Nat)} (hi : tl.getD (i.val) 3 = 0) (hd : decode (amBy mi) pc = .ok (.iload_n i, 1)) (h : amGo p l e s m args below meth c D E G cr L xs mi d n0 R r Qf (pc + 1) (0 :: ts) tl nx) : amGo p l e s m args below meth c D E G cr L xs mi d n0 R r Qf pc ts tl (stp cr call rt (.iload_n i, a, b, w, z) k nx) := by
  obtain ⟨hx, hb, hml, hown, hts, hK, hR, hlk, hnm, hcr, hsz⟩ := hC
  intro st lc μ n H locs sl hF hH hX hst hfr hS hn
  obtain ⟨h1, h2⟩ := hfr.at hi (by decide)
  exact lv_iload_n hx hb hd rfl h1 (h (_ :: st) lc μ n H locs sl hF hH hX ⟨h2, hst⟩ hfr hS hn)
theorem go_iload {p : Program} {l : Launch} {e : Env} {s : State} {m : MethodId} {args : Array Value} {below : List Frame} {meth : Method} {c : Code} {D : va_G} {E : Nat → ClassId} {G : amG} {cr : amC} {L : Nat} {xs : Nat → Int32} {mi d n0 : Nat} {R : Room} {r : Int × amM} {Qf : State → Prop} {pc : Nat} {ts tl : List Nat} {call : Nat → List Int → amM → amR} {rt : Nat → Nat × Nat} {k : amJ} {nx : amN} (hC : amCx p s m args meth c D E G cr L xs mi d n0 R r) {i : Nat} {a b w : Nat} {z : List (Int × Nat)} (hi : tl.getD (i) 3 = 0) (hd : decode (amBy mi) pc = .ok (.iload i, 2)) (h : amGo p l e s m args below meth c D E G cr L xs mi d n0 R r Qf (pc + 2) (0 :: ts) tl nx) : amGo p l e s m args below meth c D E G cr L xs mi d n0 R r Qf pc ts tl (stp cr call rt (.iload i, a, b, w, z) k nx) := by
  obtain ⟨hx, hb, hml, hown, hts, hK, hR, hlk, hnm, hcr, hsz⟩ := hC
  intro st lc μ n H locs sl hF hH hX hst hfr hS hn
  obtain ⟨h1, h2⟩ := hfr.at hi (by decide)
  exact lv_iload hx hb hd h1 (h (_ :: st) lc μ n H locs sl hF hH hX ⟨h2, hst⟩ hfr hS hn)
theorem go_lload_n {p : Program} {l : Launch} {e : Env} {s : State} {m : MethodId} {args : Array Value} {below : List Frame} {meth : Method} {c : Code} {D : va_G} {E : Nat → ClassId} {G : amG} {cr : amC} {L : Nat} {xs : Nat → Int32} {mi d n0 : Nat} {R : Room} {r : Int × amM} {Qf : State → Prop} {pc : Nat} {ts tl : List Nat} {call : Nat → List Int → amM → amR} {rt : Nat → Nat × Nat} {k : amJ} {nx : amN} (hC : amCx p s m args meth c D E G cr L xs mi d n0 R r) {i : Fin 4} {a b w : Nat} {z : List (Int × Nat)} (hi : tl.getD (i.val) 3 = 1) (hd : decode (amBy mi) pc = .ok (.lload_n i, 1)) (h : amGo p l e s m args below meth c D E G cr L xs mi d n0 R r Qf (pc + 1) (1 :: ts) tl nx) : amGo p l e s m args below meth c D E G cr L xs mi d n0 R r Qf pc ts tl (stp cr call rt (.lload_n i, a, b, w, z) k nx) := by
  obtain ⟨hx, hb, hml, hown, hts, hK, hR, hlk, hnm, hcr, hsz⟩ := hC
  intro st lc μ n H locs sl hF hH hX hst hfr hS hn
  obtain ⟨h1, h2⟩ := hfr.at hi (by decide)
  exact lv_lload_n hx hb hd rfl h1 (h (_ :: st) lc μ n H locs sl hF hH hX ⟨h2, hst⟩ hfr hS hn)
theorem go_lload {p : Program} {l : Launch} {e : Env} {s : State} {m : MethodId} {args : Array Value} {below : List Frame} {meth : Method} {c : Code} {D : va_G} {E : Nat → ClassId} {G : amG} {cr : amC} {L : Nat} {xs : Nat → Int32} {mi d n0 : Nat} {R : Room} {r : Int × amM} {Qf : State → Prop} {pc : Nat} {ts tl : List Nat} {call : Nat → List Int → amM → amR} {rt : Nat → Nat × Nat} {k : amJ} {nx : amN} (hC : amCx p s m args meth c D E G cr L xs mi d n0 R r) {i : Nat} {a b w : Nat} {z : List (Int × Nat)} (hi : tl.getD (i) 3 = 1) (hd : decode (amBy mi) pc = .ok (.lload i, 2)) (h : amGo p l e s m args below meth c D E G cr L xs mi d n0 R r Qf (pc + 2) (1 :: ts) tl nx) : amGo p l e s m args below meth c D E G cr L xs mi d n0 R r Qf pc ts tl (stp cr call rt (.lload i, a, b, w, z) k nx) := by
  obtain ⟨hx, hb, hml, hown, hts, hK, hR, hlk, hnm, hcr, hsz⟩ := hC
  intro st lc μ n H locs sl hF hH hX hst hfr hS hn
  obtain ⟨h1, h2⟩ := hfr.at hi (by decide)
  exact lv_lload hx hb hd h1 (h (_ :: st) lc μ n H locs sl hF hH hX ⟨h2, hst⟩ hfr hS hn)
theorem go_aload_n {p : Program} {l : Launch} {e : Env} {s : State} {m : MethodId} {args : Array Value} {below : List Frame} {meth : Method} {c : Code} {D : va_G} {E : Nat → ClassId} {G : amG} {cr : amC} {L : Nat} {xs : Nat → Int32} {mi d n0 : Nat} {R : Room} {r : Int × amM} {Qf : State → Prop} {pc : Nat} {ts tl : List Nat} {call : Nat → List Int → amM → amR} {rt : Nat → Nat × Nat} {k : amJ} {nx : amN} (hC : amCx p s m args meth c D E G cr L xs mi d n0 R r) {i : Fin 4} {a b w : Nat} {z : List (Int × Nat)} (hi : tl.getD (i.val) 3 = 2) (hd : decode (amBy mi) pc = .ok (.aload_n i, 1)) (h : amGo p l e s m args below meth c D E G cr L xs mi d n0 R r Qf (pc + 1) (2 :: ts) tl nx) : amGo p l e s m args below meth c D E G cr L xs mi d n0 R r Qf pc ts tl (stp cr call rt (.aload_n i, a, b, w, z) k nx) := by
  obtain ⟨hx, hb, hml, hown, hts, hK, hR, hlk, hnm, hcr, hsz⟩ := hC
  intro st lc μ n H locs sl hF hH hX hst hfr hS hn
  obtain ⟨h1, h2⟩ := hfr.at hi (by decide)
  have e : amVal G 2 (lc.getD (i.val) 0) = .ref (amAd G (lc.getD (i.val) 0).toNat) := if_neg (by have := h2.1; omega)
  rw [e] at h1
  have h3 := h (_ :: st) lc μ n H locs sl hF hH hX ⟨h2, hst⟩ hfr hS hn
  have e2 : amVs G (2 :: ts) (lc.getD (i.val) 0 :: st) = .ref (amAd G (lc.getD (i.val) 0).toNat) :: amVs G ts st := congrArg (· :: amVs G ts st) e
  rw [e2] at h3
  exact lv_aload_n hx hb hd rfl h1 h3
theorem go_aload {p : Program} {l : Launch} {e : Env} {s : State} {m : MethodId} {args : Array Value} {below : List Frame} {meth : Method} {c : Code} {D : va_G} {E : Nat → ClassId} {G : amG} {cr : amC} {L : Nat} {xs : Nat → Int32} {mi d n0 : Nat} {R : Room} {r : Int × amM} {Qf : State → Prop} {pc : Nat} {ts tl : List Nat} {call : Nat → List Int → amM → amR} {rt : Nat → Nat × Nat} {k : amJ} {nx : amN} (hC : amCx p s m args meth c D E G cr L xs mi d n0 R r) {i : Nat} {a b w : Nat} {z : List (Int × Nat)} (hi : tl.getD (i) 3 = 2) (hd : decode (amBy mi) pc = .ok (.aload i, 2)) (h : amGo p l e s m args below meth c D E G cr L xs mi d n0 R r Qf (pc + 2) (2 :: ts) tl nx) : amGo p l e s m args below meth c D E G cr L xs mi d n0 R r Qf pc ts tl (stp cr call rt (.aload i, a, b, w, z) k nx) := by
  obtain ⟨hx, hb, hml, hown, hts, hK, hR, hlk, hnm, hcr, hsz⟩ := hC
  intro st lc μ n H locs sl hF hH hX hst hfr hS hn
  obtain ⟨h1, h2⟩ := hfr.at hi (by decide)
  have e : amVal G 2 (lc.getD (i) 0) = .ref (amAd G (lc.getD (i) 0).toNat) := if_neg (by have := h2.1; omega)
  rw [e] at h1
  have h3 := h (_ :: st) lc μ n H locs sl hF hH hX ⟨h2, hst⟩ hfr hS hn
  have e2 : amVs G (2 :: ts) (lc.getD (i) 0 :: st) = .ref (amAd G (lc.getD (i) 0).toNat) :: amVs G ts st := congrArg (· :: amVs G ts st) e
  rw [e2] at h3
  exact lv_aload hx hb hd h1 h3
theorem go_istore_n {p : Program} {l : Launch} {e : Env} {s : State} {m : MethodId} {args : Array Value} {below : List Frame} {meth : Method} {c : Code} {D : va_G} {E : Nat → ClassId} {G : amG} {cr : amC} {L : Nat} {xs : Nat → Int32} {mi d n0 : Nat} {R : Room} {r : Int × amM} {Qf : State → Prop} {pc : Nat} {ts tl : List Nat} {call : Nat → List Int → amM → amR} {rt : Nat → Nat × Nat} {k : amJ} {nx : amN} (hC : amCx p s m args meth c D E G cr L xs mi d n0 R r) {i : Fin 4} {a b w : Nat} {z : List (Int × Nat)} (hi : i.val < amMax mi) (hd : decode (amBy mi) pc = .ok (.istore_n i, 1)) (h : amGo p l e s m args below meth c D E G cr L xs mi d n0 R r Qf (pc + 1) ts (amTl1 tl (i.val) 0) nx) : amGo p l e s m args below meth c D E G cr L xs mi d n0 R r Qf pc (0 :: ts) tl (stp cr call rt (.istore_n i, a, b, w, z) k nx) := by
  obtain ⟨hx, hb, hml, hown, hts, hK, hR, hlk, hnm, hcr, hsz⟩ := hC
  intro st lc μ n H locs sl hF hH hX hst hfr hS hn
  rcases st with _ | ⟨x, st⟩
  · exact hst.elim
  refine lv_istore_n hx hb hd rfl hfr.2.2.1 hi rfl (fun sl' hl' => ?_)
  exact h st (lc.set (i.val) x) μ n H locs sl' hF hH hX hst.2 (hfr.st1 hi hst.1 (by decide) hl') hS hn
theorem go_istore {p : Program} {l : Launch} {e : Env} {s : State} {m : MethodId} {args : Array Value} {below : List Frame} {meth : Method} {c : Code} {D : va_G} {E : Nat → ClassId} {G : amG} {cr : amC} {L : Nat} {xs : Nat → Int32} {mi d n0 : Nat} {R : Room} {r : Int × amM} {Qf : State → Prop} {pc : Nat} {ts tl : List Nat} {call : Nat → List Int → amM → amR} {rt : Nat → Nat × Nat} {k : amJ} {nx : amN} (hC : amCx p s m args meth c D E G cr L xs mi d n0 R r) {i : Nat} {a b w : Nat} {z : List (Int × Nat)} (hi : i < amMax mi) (hd : decode (amBy mi) pc = .ok (.istore i, 2)) (h : amGo p l e s m args below meth c D E G cr L xs mi d n0 R r Qf (pc + 2) ts (amTl1 tl (i) 0) nx) : amGo p l e s m args below meth c D E G cr L xs mi d n0 R r Qf pc (0 :: ts) tl (stp cr call rt (.istore i, a, b, w, z) k nx) := by
  obtain ⟨hx, hb, hml, hown, hts, hK, hR, hlk, hnm, hcr, hsz⟩ := hC
  intro st lc μ n H locs sl hF hH hX hst hfr hS hn
  rcases st with _ | ⟨x, st⟩
  · exact hst.elim
  refine lv_istore hx hb hd hfr.2.2.1 hi rfl (fun sl' hl' => ?_)
  exact h st (lc.set (i) x) μ n H locs sl' hF hH hX hst.2 (hfr.st1 hi hst.1 (by decide) hl') hS hn
theorem go_lstore_n {p : Program} {l : Launch} {e : Env} {s : State} {m : MethodId} {args : Array Value} {below : List Frame} {meth : Method} {c : Code} {D : va_G} {E : Nat → ClassId} {G : amG} {cr : amC} {L : Nat} {xs : Nat → Int32} {mi d n0 : Nat} {R : Room} {r : Int × amM} {Qf : State → Prop} {pc : Nat} {ts tl : List Nat} {call : Nat → List Int → amM → amR} {rt : Nat → Nat × Nat} {k : amJ} {nx : amN} (hC : amCx p s m args meth c D E G cr L xs mi d n0 R r) {i : Fin 4} {a b w : Nat} {z : List (Int × Nat)} (hi : i.val + 1 < amMax mi) (hd : decode (amBy mi) pc = .ok (.lstore_n i, 1)) (h : amGo p l e s m args below meth c D E G cr L xs mi d n0 R r Qf (pc + 1) ts (amTl2 tl (i.val)) nx) : amGo p l e s m args below meth c D E G cr L xs mi d n0 R r Qf pc (1 :: ts) tl (stp cr call rt (.lstore_n i, a, b, w, z) k nx) := by
  obtain ⟨hx, hb, hml, hown, hts, hK, hR, hlk, hnm, hcr, hsz⟩ := hC
  intro st lc μ n H locs sl hF hH hX hst hfr hS hn
  rcases st with _ | ⟨x, st⟩
  · exact hst.elim
  refine lv_lstore_n hx hb hd rfl hfr.2.2.1 hi rfl (fun sl' hl' => ?_)
  exact h st (lc.set (i.val) x) μ n H locs sl' hF hH hX hst.2 (hfr.st2 hi hst.1 hl') hS hn
theorem go_lstore {p : Program} {l : Launch} {e : Env} {s : State} {m : MethodId} {args : Array Value} {below : List Frame} {meth : Method} {c : Code} {D : va_G} {E : Nat → ClassId} {G : amG} {cr : amC} {L : Nat} {xs : Nat → Int32} {mi d n0 : Nat} {R : Room} {r : Int × amM} {Qf : State → Prop} {pc : Nat} {ts tl : List Nat} {call : Nat → List Int → amM → amR} {rt : Nat → Nat × Nat} {k : amJ} {nx : amN} (hC : amCx p s m args meth c D E G cr L xs mi d n0 R r) {i : Nat} {a b w : Nat} {z : List (Int × Nat)} (hi : i + 1 < amMax mi) (hd : decode (amBy mi) pc = .ok (.lstore i, 2)) (h : amGo p l e s m args below meth c D E G cr L xs mi d n0 R r Qf (pc + 2) ts (amTl2 tl (i)) nx) : amGo p l e s m args below meth c D E G cr L xs mi d n0 R r Qf pc (1 :: ts) tl (stp cr call rt (.lstore i, a, b, w, z) k nx) := by
  obtain ⟨hx, hb, hml, hown, hts, hK, hR, hlk, hnm, hcr, hsz⟩ := hC
  intro st lc μ n H locs sl hF hH hX hst hfr hS hn
  rcases st with _ | ⟨x, st⟩
  · exact hst.elim
  refine lv_lstore hx hb hd hfr.2.2.1 hi rfl (fun sl' hl' => ?_)
  exact h st (lc.set (i) x) μ n H locs sl' hF hH hX hst.2 (hfr.st2 hi hst.1 hl') hS hn
theorem go_astore_n {p : Program} {l : Launch} {e : Env} {s : State} {m : MethodId} {args : Array Value} {below : List Frame} {meth : Method} {c : Code} {D : va_G} {E : Nat → ClassId} {G : amG} {cr : amC} {L : Nat} {xs : Nat → Int32} {mi d n0 : Nat} {R : Room} {r : Int × amM} {Qf : State → Prop} {pc : Nat} {ts tl : List Nat} {call : Nat → List Int → amM → amR} {rt : Nat → Nat × Nat} {k : amJ} {nx : amN} (hC : amCx p s m args meth c D E G cr L xs mi d n0 R r) {i : Fin 4} {a b w : Nat} {z : List (Int × Nat)} (hi : i.val < amMax mi) (hd : decode (amBy mi) pc = .ok (.astore_n i, 1)) (h : amGo p l e s m args below meth c D E G cr L xs mi d n0 R r Qf (pc + 1) ts (amTl1 tl (i.val) 2) nx) : amGo p l e s m args below meth c D E G cr L xs mi d n0 R r Qf pc (2 :: ts) tl (stp cr call rt (.astore_n i, a, b, w, z) k nx) := by
  obtain ⟨hx, hb, hml, hown, hts, hK, hR, hlk, hnm, hcr, hsz⟩ := hC
  intro st lc μ n H locs sl hF hH hX hst hfr hS hn
  rcases st with _ | ⟨x, st⟩
  · exact hst.elim
  have e : amVal G 2 x = .ref (amAd G x.toNat) := if_neg (by have := hst.1.1; omega)
  have e2 : amVs G (2 :: ts) (x :: st) = .ref (amAd G x.toNat) :: amVs G ts st := congrArg (· :: amVs G ts st) e
  rw [e2]
  refine lv_astore_n hx hb hd rfl hfr.2.2.1 hi rfl (fun sl' hl' => ?_)
  exact h st (lc.set (i.val) x) μ n H locs sl' hF hH hX hst.2 (hfr.st1 hi hst.1 (by decide) (by rw [e]; exact hl')) hS hn
theorem go_astore {p : Program} {l : Launch} {e : Env} {s : State} {m : MethodId} {args : Array Value} {below : List Frame} {meth : Method} {c : Code} {D : va_G} {E : Nat → ClassId} {G : amG} {cr : amC} {L : Nat} {xs : Nat → Int32} {mi d n0 : Nat} {R : Room} {r : Int × amM} {Qf : State → Prop} {pc : Nat} {ts tl : List Nat} {call : Nat → List Int → amM → amR} {rt : Nat → Nat × Nat} {k : amJ} {nx : amN} (hC : amCx p s m args meth c D E G cr L xs mi d n0 R r) {i : Nat} {a b w : Nat} {z : List (Int × Nat)} (hi : i < amMax mi) (hd : decode (amBy mi) pc = .ok (.astore i, 2)) (h : amGo p l e s m args below meth c D E G cr L xs mi d n0 R r Qf (pc + 2) ts (amTl1 tl (i) 2) nx) : amGo p l e s m args below meth c D E G cr L xs mi d n0 R r Qf pc (2 :: ts) tl (stp cr call rt (.astore i, a, b, w, z) k nx) := by
  obtain ⟨hx, hb, hml, hown, hts, hK, hR, hlk, hnm, hcr, hsz⟩ := hC
  intro st lc μ n H locs sl hF hH hX hst hfr hS hn
  rcases st with _ | ⟨x, st⟩
  · exact hst.elim
  have e : amVal G 2 x = .ref (amAd G x.toNat) := if_neg (by have := hst.1.1; omega)
  have e2 : amVs G (2 :: ts) (x :: st) = .ref (amAd G x.toNat) :: amVs G ts st := congrArg (· :: amVs G ts st) e
  rw [e2]
  refine lv_astore hx hb hd hfr.2.2.1 hi rfl (fun sl' hl' => ?_)
  exact h st (lc.set (i) x) μ n H locs sl' hF hH hX hst.2 (hfr.st1 hi hst.1 (by decide) (by rw [e]; exact hl')) hS hn
theorem go_iinc {p : Program} {l : Launch} {e : Env} {s : State} {m : MethodId} {args : Array Value} {below : List Frame} {meth : Method} {c : Code} {D : va_G} {E : Nat → ClassId} {G : amG} {cr : amC} {L : Nat} {xs : Nat → Int32} {mi d n0 : Nat} {R : Room} {r : Int × amM} {Qf : State → Prop} {pc : Nat} {ts tl : List Nat} {call : Nat → List Int → amM → amR} {rt : Nat → Nat × Nat} {k : amJ} {nx : amN} (hC : amCx p s m args meth c D E G cr L xs mi d n0 R r) {i : Nat} {v : Int} {a b w : Nat} {z : List (Int × Nat)} (hi : tl.getD i 3 = 0) (hl : i < amMax mi) (hd : decode (amBy mi) pc = .ok (.iinc i v, 3)) (h : amGo p l e s m args below meth c D E G cr L xs mi d n0 R r Qf (pc + 3) ts (amTl1 tl i 0) nx) : amGo p l e s m args below meth c D E G cr L xs mi d n0 R r Qf pc ts tl (stp cr call rt (.iinc i v, a, b, w, z) k nx) := by
  obtain ⟨hx, hb, hml, hown, hts, hK, hR, hlk, hnm, hcr, hsz⟩ := hC
  intro st lc μ n H locs sl hF hH hX hst hfr hS hn
  obtain ⟨kk, hkk⟩ : ∃ kk, (amLv G tl lc)[kk]? = some (i, Value.int (Int32.ofInt (lc.getD i 0))) := by
    apply List.getElem?_of_mem
    exact amLv_mem.mpr ⟨i, by rw [hi]; decide, by rw [hi]; rfl⟩
  refine lv_iinc hx hb hd hfr.2.2.1 hkk (n_add _ _) hl rfl (fun sl' hl' => ?_)
  exact h st (lc.set i _) μ n H locs sl' hF hH hX hst (hfr.st1 hl (w32_R _) (by decide) hl') hS hn
theorem go_iadd {p : Program} {l : Launch} {e : Env} {s : State} {m : MethodId} {args : Array Value} {below : List Frame} {meth : Method} {c : Code} {D : va_G} {E : Nat → ClassId} {G : amG} {cr : amC} {L : Nat} {xs : Nat → Int32} {mi d n0 : Nat} {R : Room} {r : Int × amM} {Qf : State → Prop} {pc : Nat} {ts tl : List Nat} {call : Nat → List Int → amM → amR} {rt : Nat → Nat × Nat} {k : amJ} {nx : amN} (hC : amCx p s m args meth c D E G cr L xs mi d n0 R r) {a b w : Nat} {z : List (Int × Nat)} (hd : decode (amBy mi) pc = .ok (.iadd, 1)) (h : amGo p l e s m args below meth c D E G cr L xs mi d n0 R r Qf (pc + 1) (0 :: ts) tl nx) : amGo p l e s m args below meth c D E G cr L xs mi d n0 R r Qf pc (0 :: 0 :: ts) tl (stp cr call rt (.iadd, a, b, w, z) k nx) := by
  obtain ⟨hx, hb, hml, hown, hts, hK, hR, hlk, hnm, hcr, hsz⟩ := hC
  intro st lc μ n H locs sl hF hH hX hst hfr hS hn
  rcases st with _ | ⟨y, _ | ⟨x, st⟩⟩
  · exact hst.elim
  · exact hst.2.elim
  refine lv_iadd hx hb hd ?_
  rw [n_add]
  exact h (w32 (x + y) :: st) lc μ n H locs sl hF hH hX ⟨w32_R _, hst.2.2⟩ hfr hS hn
theorem go_isub {p : Program} {l : Launch} {e : Env} {s : State} {m : MethodId} {args : Array Value} {below : List Frame} {meth : Method} {c : Code} {D : va_G} {E : Nat → ClassId} {G : amG} {cr : amC} {L : Nat} {xs : Nat → Int32} {mi d n0 : Nat} {R : Room} {r : Int × amM} {Qf : State → Prop} {pc : Nat} {ts tl : List Nat} {call : Nat → List Int → amM → amR} {rt : Nat → Nat × Nat} {k : amJ} {nx : amN} (hC : amCx p s m args meth c D E G cr L xs mi d n0 R r) {a b w : Nat} {z : List (Int × Nat)} (hd : decode (amBy mi) pc = .ok (.isub, 1)) (h : amGo p l e s m args below meth c D E G cr L xs mi d n0 R r Qf (pc + 1) (0 :: ts) tl nx) : amGo p l e s m args below meth c D E G cr L xs mi d n0 R r Qf pc (0 :: 0 :: ts) tl (stp cr call rt (.isub, a, b, w, z) k nx) := by
  obtain ⟨hx, hb, hml, hown, hts, hK, hR, hlk, hnm, hcr, hsz⟩ := hC
  intro st lc μ n H locs sl hF hH hX hst hfr hS hn
  rcases st with _ | ⟨y, _ | ⟨x, st⟩⟩
  · exact hst.elim
  · exact hst.2.elim
  refine lv_isub hx hb hd ?_
  rw [n_sub]
  exact h (w32 (x - y) :: st) lc μ n H locs sl hF hH hX ⟨w32_R _, hst.2.2⟩ hfr hS hn
theorem go_imul {p : Program} {l : Launch} {e : Env} {s : State} {m : MethodId} {args : Array Value} {below : List Frame} {meth : Method} {c : Code} {D : va_G} {E : Nat → ClassId} {G : amG} {cr : amC} {L : Nat} {xs : Nat → Int32} {mi d n0 : Nat} {R : Room} {r : Int × amM} {Qf : State → Prop} {pc : Nat} {ts tl : List Nat} {call : Nat → List Int → amM → amR} {rt : Nat → Nat × Nat} {k : amJ} {nx : amN} (hC : amCx p s m args meth c D E G cr L xs mi d n0 R r) {a b w : Nat} {z : List (Int × Nat)} (hd : decode (amBy mi) pc = .ok (.imul, 1)) (h : amGo p l e s m args below meth c D E G cr L xs mi d n0 R r Qf (pc + 1) (0 :: ts) tl nx) : amGo p l e s m args below meth c D E G cr L xs mi d n0 R r Qf pc (0 :: 0 :: ts) tl (stp cr call rt (.imul, a, b, w, z) k nx) := by
  obtain ⟨hx, hb, hml, hown, hts, hK, hR, hlk, hnm, hcr, hsz⟩ := hC
  intro st lc μ n H locs sl hF hH hX hst hfr hS hn
  rcases st with _ | ⟨y, _ | ⟨x, st⟩⟩
  · exact hst.elim
  · exact hst.2.elim
  refine lv_imul hx hb hd ?_
  rw [n_mul]
  exact h (w32 (x * y) :: st) lc μ n H locs sl hF hH hX ⟨w32_R _, hst.2.2⟩ hfr hS hn
theorem go_iand {p : Program} {l : Launch} {e : Env} {s : State} {m : MethodId} {args : Array Value} {below : List Frame} {meth : Method} {c : Code} {D : va_G} {E : Nat → ClassId} {G : amG} {cr : amC} {L : Nat} {xs : Nat → Int32} {mi d n0 : Nat} {R : Room} {r : Int × amM} {Qf : State → Prop} {pc : Nat} {ts tl : List Nat} {call : Nat → List Int → amM → amR} {rt : Nat → Nat × Nat} {k : amJ} {nx : amN} (hC : amCx p s m args meth c D E G cr L xs mi d n0 R r) {a b w : Nat} {z : List (Int × Nat)} (hd : decode (amBy mi) pc = .ok (.iand, 1)) (h : amGo p l e s m args below meth c D E G cr L xs mi d n0 R r Qf (pc + 1) (0 :: ts) tl nx) : amGo p l e s m args below meth c D E G cr L xs mi d n0 R r Qf pc (0 :: 0 :: ts) tl (stp cr call rt (.iand, a, b, w, z) k nx) := by
  obtain ⟨hx, hb, hml, hown, hts, hK, hR, hlk, hnm, hcr, hsz⟩ := hC
  intro st lc μ n H locs sl hF hH hX hst hfr hS hn
  rcases st with _ | ⟨y, _ | ⟨x, st⟩⟩
  · exact hst.elim
  · exact hst.2.elim
  refine lv_iand hx hb hd ?_
  rw [n_and]
  exact h (bAnd x y :: st) lc μ n H locs sl hF hH hX ⟨i32_R _, hst.2.2⟩ hfr hS hn
theorem go_ior {p : Program} {l : Launch} {e : Env} {s : State} {m : MethodId} {args : Array Value} {below : List Frame} {meth : Method} {c : Code} {D : va_G} {E : Nat → ClassId} {G : amG} {cr : amC} {L : Nat} {xs : Nat → Int32} {mi d n0 : Nat} {R : Room} {r : Int × amM} {Qf : State → Prop} {pc : Nat} {ts tl : List Nat} {call : Nat → List Int → amM → amR} {rt : Nat → Nat × Nat} {k : amJ} {nx : amN} (hC : amCx p s m args meth c D E G cr L xs mi d n0 R r) {a b w : Nat} {z : List (Int × Nat)} (hd : decode (amBy mi) pc = .ok (.ior, 1)) (h : amGo p l e s m args below meth c D E G cr L xs mi d n0 R r Qf (pc + 1) (0 :: ts) tl nx) : amGo p l e s m args below meth c D E G cr L xs mi d n0 R r Qf pc (0 :: 0 :: ts) tl (stp cr call rt (.ior, a, b, w, z) k nx) := by
  obtain ⟨hx, hb, hml, hown, hts, hK, hR, hlk, hnm, hcr, hsz⟩ := hC
  intro st lc μ n H locs sl hF hH hX hst hfr hS hn
  rcases st with _ | ⟨y, _ | ⟨x, st⟩⟩
  · exact hst.elim
  · exact hst.2.elim
  refine lv_ior hx hb hd ?_
  rw [n_or]
  exact h (bOr x y :: st) lc μ n H locs sl hF hH hX ⟨i32_R _, hst.2.2⟩ hfr hS hn
theorem go_ixor {p : Program} {l : Launch} {e : Env} {s : State} {m : MethodId} {args : Array Value} {below : List Frame} {meth : Method} {c : Code} {D : va_G} {E : Nat → ClassId} {G : amG} {cr : amC} {L : Nat} {xs : Nat → Int32} {mi d n0 : Nat} {R : Room} {r : Int × amM} {Qf : State → Prop} {pc : Nat} {ts tl : List Nat} {call : Nat → List Int → amM → amR} {rt : Nat → Nat × Nat} {k : amJ} {nx : amN} (hC : amCx p s m args meth c D E G cr L xs mi d n0 R r) {a b w : Nat} {z : List (Int × Nat)} (hd : decode (amBy mi) pc = .ok (.ixor, 1)) (h : amGo p l e s m args below meth c D E G cr L xs mi d n0 R r Qf (pc + 1) (0 :: ts) tl nx) : amGo p l e s m args below meth c D E G cr L xs mi d n0 R r Qf pc (0 :: 0 :: ts) tl (stp cr call rt (.ixor, a, b, w, z) k nx) := by
  obtain ⟨hx, hb, hml, hown, hts, hK, hR, hlk, hnm, hcr, hsz⟩ := hC
  intro st lc μ n H locs sl hF hH hX hst hfr hS hn
  rcases st with _ | ⟨y, _ | ⟨x, st⟩⟩
  · exact hst.elim
  · exact hst.2.elim
  refine lv_ixor hx hb hd ?_
  rw [n_xor]
  exact h (bXor x y :: st) lc μ n H locs sl hF hH hX ⟨i32_R _, hst.2.2⟩ hfr hS hn
theorem go_ishl {p : Program} {l : Launch} {e : Env} {s : State} {m : MethodId} {args : Array Value} {below : List Frame} {meth : Method} {c : Code} {D : va_G} {E : Nat → ClassId} {G : amG} {cr : amC} {L : Nat} {xs : Nat → Int32} {mi d n0 : Nat} {R : Room} {r : Int × amM} {Qf : State → Prop} {pc : Nat} {ts tl : List Nat} {call : Nat → List Int → amM → amR} {rt : Nat → Nat × Nat} {k : amJ} {nx : amN} (hC : amCx p s m args meth c D E G cr L xs mi d n0 R r) {a b w : Nat} {z : List (Int × Nat)} (hd : decode (amBy mi) pc = .ok (.ishl, 1)) (h : amGo p l e s m args below meth c D E G cr L xs mi d n0 R r Qf (pc + 1) (0 :: ts) tl nx) : amGo p l e s m args below meth c D E G cr L xs mi d n0 R r Qf pc (0 :: 0 :: ts) tl (stp cr call rt (.ishl, a, b, w, z) k nx) := by
  obtain ⟨hx, hb, hml, hown, hts, hK, hR, hlk, hnm, hcr, hsz⟩ := hC
  intro st lc μ n H locs sl hF hH hX hst hfr hS hn
  rcases st with _ | ⟨y, _ | ⟨x, st⟩⟩
  · exact hst.elim
  · exact hst.2.elim
  refine lv_ishl hx hb hd ?_
  rw [n_shl]
  exact h (bShl x y :: st) lc μ n H locs sl hF hH hX ⟨i32_R _, hst.2.2⟩ hfr hS hn
theorem go_ishr {p : Program} {l : Launch} {e : Env} {s : State} {m : MethodId} {args : Array Value} {below : List Frame} {meth : Method} {c : Code} {D : va_G} {E : Nat → ClassId} {G : amG} {cr : amC} {L : Nat} {xs : Nat → Int32} {mi d n0 : Nat} {R : Room} {r : Int × amM} {Qf : State → Prop} {pc : Nat} {ts tl : List Nat} {call : Nat → List Int → amM → amR} {rt : Nat → Nat × Nat} {k : amJ} {nx : amN} (hC : amCx p s m args meth c D E G cr L xs mi d n0 R r) {a b w : Nat} {z : List (Int × Nat)} (hd : decode (amBy mi) pc = .ok (.ishr, 1)) (h : amGo p l e s m args below meth c D E G cr L xs mi d n0 R r Qf (pc + 1) (0 :: ts) tl nx) : amGo p l e s m args below meth c D E G cr L xs mi d n0 R r Qf pc (0 :: 0 :: ts) tl (stp cr call rt (.ishr, a, b, w, z) k nx) := by
  obtain ⟨hx, hb, hml, hown, hts, hK, hR, hlk, hnm, hcr, hsz⟩ := hC
  intro st lc μ n H locs sl hF hH hX hst hfr hS hn
  rcases st with _ | ⟨y, _ | ⟨x, st⟩⟩
  · exact hst.elim
  · exact hst.2.elim
  refine lv_ishr hx hb hd ?_
  rw [n_shr]
  exact h (bShr x y :: st) lc μ n H locs sl hF hH hX ⟨i32_R _, hst.2.2⟩ hfr hS hn
theorem go_iushr {p : Program} {l : Launch} {e : Env} {s : State} {m : MethodId} {args : Array Value} {below : List Frame} {meth : Method} {c : Code} {D : va_G} {E : Nat → ClassId} {G : amG} {cr : amC} {L : Nat} {xs : Nat → Int32} {mi d n0 : Nat} {R : Room} {r : Int × amM} {Qf : State → Prop} {pc : Nat} {ts tl : List Nat} {call : Nat → List Int → amM → amR} {rt : Nat → Nat × Nat} {k : amJ} {nx : amN} (hC : amCx p s m args meth c D E G cr L xs mi d n0 R r) {a b w : Nat} {z : List (Int × Nat)} (hd : decode (amBy mi) pc = .ok (.iushr, 1)) (h : amGo p l e s m args below meth c D E G cr L xs mi d n0 R r Qf (pc + 1) (0 :: ts) tl nx) : amGo p l e s m args below meth c D E G cr L xs mi d n0 R r Qf pc (0 :: 0 :: ts) tl (stp cr call rt (.iushr, a, b, w, z) k nx) := by
  obtain ⟨hx, hb, hml, hown, hts, hK, hR, hlk, hnm, hcr, hsz⟩ := hC
  intro st lc μ n H locs sl hF hH hX hst hfr hS hn
  rcases st with _ | ⟨y, _ | ⟨x, st⟩⟩
  · exact hst.elim
  · exact hst.2.elim
  refine lv_iushr hx hb hd (n_ushr _ _) ?_
  exact h (bUshr x y :: st) lc μ n H locs sl hF hH hX ⟨i32_R _, hst.2.2⟩ hfr hS hn
theorem go_idiv {p : Program} {l : Launch} {e : Env} {s : State} {m : MethodId} {args : Array Value} {below : List Frame} {meth : Method} {c : Code} {D : va_G} {E : Nat → ClassId} {G : amG} {cr : amC} {L : Nat} {xs : Nat → Int32} {mi d n0 : Nat} {R : Room} {r : Int × amM} {Qf : State → Prop} {pc : Nat} {ts tl : List Nat} {call : Nat → List Int → amM → amR} {rt : Nat → Nat × Nat} {k : amJ} {nx : amN} (hC : amCx p s m args meth c D E G cr L xs mi d n0 R r) {a b w : Nat} {z : List (Int × Nat)} (hd : decode (amBy mi) pc = .ok (.idiv, 1)) (h : amGo p l e s m args below meth c D E G cr L xs mi d n0 R r Qf (pc + 1) (0 :: ts) tl nx) : amGo p l e s m args below meth c D E G cr L xs mi d n0 R r Qf pc (0 :: 0 :: ts) tl (stp cr call rt (.idiv, a, b, w, z) k nx) := by
  obtain ⟨hx, hb, hml, hown, hts, hK, hR, hlk, hnm, hcr, hsz⟩ := hC
  intro st lc μ n H locs sl hF hH hX hst hfr hS hn
  rcases st with _ | ⟨y, _ | ⟨x, st⟩⟩
  · exact hst.elim
  · exact hst.2.elim
  have hF : (if y = 0 then none else nx (w32 (x.tdiv y) :: st) lc μ) = some r := hF
  by_cases hy : y = 0
  · rw [if_pos hy] at hF; cases hF
  rw [if_neg hy] at hF
  refine lv_idiv hx hb hd (fun q => hy ((n_eq hst.1 R32_0).mp q)) ?_
  rw [n_div hst.2.1 hst.1]
  exact h (w32 (x.tdiv y) :: st) lc μ n H locs sl hF hH hX ⟨w32_R _, hst.2.2⟩ hfr hS hn
theorem go_irem {p : Program} {l : Launch} {e : Env} {s : State} {m : MethodId} {args : Array Value} {below : List Frame} {meth : Method} {c : Code} {D : va_G} {E : Nat → ClassId} {G : amG} {cr : amC} {L : Nat} {xs : Nat → Int32} {mi d n0 : Nat} {R : Room} {r : Int × amM} {Qf : State → Prop} {pc : Nat} {ts tl : List Nat} {call : Nat → List Int → amM → amR} {rt : Nat → Nat × Nat} {k : amJ} {nx : amN} (hC : amCx p s m args meth c D E G cr L xs mi d n0 R r) {a b w : Nat} {z : List (Int × Nat)} (hd : decode (amBy mi) pc = .ok (.irem, 1)) (h : amGo p l e s m args below meth c D E G cr L xs mi d n0 R r Qf (pc + 1) (0 :: ts) tl nx) : amGo p l e s m args below meth c D E G cr L xs mi d n0 R r Qf pc (0 :: 0 :: ts) tl (stp cr call rt (.irem, a, b, w, z) k nx) := by
  obtain ⟨hx, hb, hml, hown, hts, hK, hR, hlk, hnm, hcr, hsz⟩ := hC
  intro st lc μ n H locs sl hF hH hX hst hfr hS hn
  rcases st with _ | ⟨y, _ | ⟨x, st⟩⟩
  · exact hst.elim
  · exact hst.2.elim
  have hF : (if y = 0 then none else nx (x.tmod y :: st) lc μ) = some r := hF
  by_cases hy : y = 0
  · rw [if_pos hy] at hF; cases hF
  rw [if_neg hy] at hF
  refine lv_irem hx hb hd (fun q => hy ((n_eq hst.1 R32_0).mp q)) ?_
  rw [n_rem hst.2.1 hst.1]
  exact h (x.tmod y :: st) lc μ n H locs sl hF hH hX ⟨n_remR hst.2.1 hst.1, hst.2.2⟩ hfr hS hn
theorem go_ladd {p : Program} {l : Launch} {e : Env} {s : State} {m : MethodId} {args : Array Value} {below : List Frame} {meth : Method} {c : Code} {D : va_G} {E : Nat → ClassId} {G : amG} {cr : amC} {L : Nat} {xs : Nat → Int32} {mi d n0 : Nat} {R : Room} {r : Int × amM} {Qf : State → Prop} {pc : Nat} {ts tl : List Nat} {call : Nat → List Int → amM → amR} {rt : Nat → Nat × Nat} {k : amJ} {nx : amN} (hC : amCx p s m args meth c D E G cr L xs mi d n0 R r) {a b w : Nat} {z : List (Int × Nat)} (hd : decode (amBy mi) pc = .ok (.ladd, 1)) (h : amGo p l e s m args below meth c D E G cr L xs mi d n0 R r Qf (pc + 1) (1 :: ts) tl nx) : amGo p l e s m args below meth c D E G cr L xs mi d n0 R r Qf pc (1 :: 1 :: ts) tl (stp cr call rt (.ladd, a, b, w, z) k nx) := by
  obtain ⟨hx, hb, hml, hown, hts, hK, hR, hlk, hnm, hcr, hsz⟩ := hC
  intro st lc μ n H locs sl hF hH hX hst hfr hS hn
  rcases st with _ | ⟨y, _ | ⟨x, st⟩⟩
  · exact hst.elim
  · exact hst.2.elim
  refine lv_ladd hx hb hd ?_
  rw [m_add]
  exact h (w64 (x + y) :: st) lc μ n H locs sl hF hH hX ⟨w64_R _, hst.2.2⟩ hfr hS hn
theorem go_lmul {p : Program} {l : Launch} {e : Env} {s : State} {m : MethodId} {args : Array Value} {below : List Frame} {meth : Method} {c : Code} {D : va_G} {E : Nat → ClassId} {G : amG} {cr : amC} {L : Nat} {xs : Nat → Int32} {mi d n0 : Nat} {R : Room} {r : Int × amM} {Qf : State → Prop} {pc : Nat} {ts tl : List Nat} {call : Nat → List Int → amM → amR} {rt : Nat → Nat × Nat} {k : amJ} {nx : amN} (hC : amCx p s m args meth c D E G cr L xs mi d n0 R r) {a b w : Nat} {z : List (Int × Nat)} (hd : decode (amBy mi) pc = .ok (.lmul, 1)) (h : amGo p l e s m args below meth c D E G cr L xs mi d n0 R r Qf (pc + 1) (1 :: ts) tl nx) : amGo p l e s m args below meth c D E G cr L xs mi d n0 R r Qf pc (1 :: 1 :: ts) tl (stp cr call rt (.lmul, a, b, w, z) k nx) := by
  obtain ⟨hx, hb, hml, hown, hts, hK, hR, hlk, hnm, hcr, hsz⟩ := hC
  intro st lc μ n H locs sl hF hH hX hst hfr hS hn
  rcases st with _ | ⟨y, _ | ⟨x, st⟩⟩
  · exact hst.elim
  · exact hst.2.elim
  refine lv_lmul hx hb hd ?_
  rw [m_mul]
  exact h (w64 (x * y) :: st) lc μ n H locs sl hF hH hX ⟨w64_R _, hst.2.2⟩ hfr hS hn
theorem go_land {p : Program} {l : Launch} {e : Env} {s : State} {m : MethodId} {args : Array Value} {below : List Frame} {meth : Method} {c : Code} {D : va_G} {E : Nat → ClassId} {G : amG} {cr : amC} {L : Nat} {xs : Nat → Int32} {mi d n0 : Nat} {R : Room} {r : Int × amM} {Qf : State → Prop} {pc : Nat} {ts tl : List Nat} {call : Nat → List Int → amM → amR} {rt : Nat → Nat × Nat} {k : amJ} {nx : amN} (hC : amCx p s m args meth c D E G cr L xs mi d n0 R r) {a b w : Nat} {z : List (Int × Nat)} (hd : decode (amBy mi) pc = .ok (.land, 1)) (h : amGo p l e s m args below meth c D E G cr L xs mi d n0 R r Qf (pc + 1) (1 :: ts) tl nx) : amGo p l e s m args below meth c D E G cr L xs mi d n0 R r Qf pc (1 :: 1 :: ts) tl (stp cr call rt (.land, a, b, w, z) k nx) := by
  obtain ⟨hx, hb, hml, hown, hts, hK, hR, hlk, hnm, hcr, hsz⟩ := hC
  intro st lc μ n H locs sl hF hH hX hst hfr hS hn
  rcases st with _ | ⟨y, _ | ⟨x, st⟩⟩
  · exact hst.elim
  · exact hst.2.elim
  refine lv_land hx hb hd ?_
  rw [m_and]
  exact h (lAnd x y :: st) lc μ n H locs sl hF hH hX ⟨i64_R _, hst.2.2⟩ hfr hS hn
theorem go_lor {p : Program} {l : Launch} {e : Env} {s : State} {m : MethodId} {args : Array Value} {below : List Frame} {meth : Method} {c : Code} {D : va_G} {E : Nat → ClassId} {G : amG} {cr : amC} {L : Nat} {xs : Nat → Int32} {mi d n0 : Nat} {R : Room} {r : Int × amM} {Qf : State → Prop} {pc : Nat} {ts tl : List Nat} {call : Nat → List Int → amM → amR} {rt : Nat → Nat × Nat} {k : amJ} {nx : amN} (hC : amCx p s m args meth c D E G cr L xs mi d n0 R r) {a b w : Nat} {z : List (Int × Nat)} (hd : decode (amBy mi) pc = .ok (.lor, 1)) (h : amGo p l e s m args below meth c D E G cr L xs mi d n0 R r Qf (pc + 1) (1 :: ts) tl nx) : amGo p l e s m args below meth c D E G cr L xs mi d n0 R r Qf pc (1 :: 1 :: ts) tl (stp cr call rt (.lor, a, b, w, z) k nx) := by
  obtain ⟨hx, hb, hml, hown, hts, hK, hR, hlk, hnm, hcr, hsz⟩ := hC
  intro st lc μ n H locs sl hF hH hX hst hfr hS hn
  rcases st with _ | ⟨y, _ | ⟨x, st⟩⟩
  · exact hst.elim
  · exact hst.2.elim
  refine lv_lor hx hb hd ?_
  rw [m_or]
  exact h (lOr x y :: st) lc μ n H locs sl hF hH hX ⟨i64_R _, hst.2.2⟩ hfr hS hn
theorem go_lshl {p : Program} {l : Launch} {e : Env} {s : State} {m : MethodId} {args : Array Value} {below : List Frame} {meth : Method} {c : Code} {D : va_G} {E : Nat → ClassId} {G : amG} {cr : amC} {L : Nat} {xs : Nat → Int32} {mi d n0 : Nat} {R : Room} {r : Int × amM} {Qf : State → Prop} {pc : Nat} {ts tl : List Nat} {call : Nat → List Int → amM → amR} {rt : Nat → Nat × Nat} {k : amJ} {nx : amN} (hC : amCx p s m args meth c D E G cr L xs mi d n0 R r) {a b w : Nat} {z : List (Int × Nat)} (hd : decode (amBy mi) pc = .ok (.lshl, 1)) (h : amGo p l e s m args below meth c D E G cr L xs mi d n0 R r Qf (pc + 1) (1 :: ts) tl nx) : amGo p l e s m args below meth c D E G cr L xs mi d n0 R r Qf pc (0 :: 1 :: ts) tl (stp cr call rt (.lshl, a, b, w, z) k nx) := by
  obtain ⟨hx, hb, hml, hown, hts, hK, hR, hlk, hnm, hcr, hsz⟩ := hC
  intro st lc μ n H locs sl hF hH hX hst hfr hS hn
  rcases st with _ | ⟨y, _ | ⟨x, st⟩⟩
  · exact hst.elim
  · exact hst.2.elim
  refine lv_lshl hx hb hd (m_shl _ _) ?_
  exact h (lShl x y :: st) lc μ n H locs sl hF hH hX ⟨i64_R _, hst.2.2⟩ hfr hS hn
theorem go_lshr {p : Program} {l : Launch} {e : Env} {s : State} {m : MethodId} {args : Array Value} {below : List Frame} {meth : Method} {c : Code} {D : va_G} {E : Nat → ClassId} {G : amG} {cr : amC} {L : Nat} {xs : Nat → Int32} {mi d n0 : Nat} {R : Room} {r : Int × amM} {Qf : State → Prop} {pc : Nat} {ts tl : List Nat} {call : Nat → List Int → amM → amR} {rt : Nat → Nat × Nat} {k : amJ} {nx : amN} (hC : amCx p s m args meth c D E G cr L xs mi d n0 R r) {a b w : Nat} {z : List (Int × Nat)} (hd : decode (amBy mi) pc = .ok (.lshr, 1)) (h : amGo p l e s m args below meth c D E G cr L xs mi d n0 R r Qf (pc + 1) (1 :: ts) tl nx) : amGo p l e s m args below meth c D E G cr L xs mi d n0 R r Qf pc (0 :: 1 :: ts) tl (stp cr call rt (.lshr, a, b, w, z) k nx) := by
  obtain ⟨hx, hb, hml, hown, hts, hK, hR, hlk, hnm, hcr, hsz⟩ := hC
  intro st lc μ n H locs sl hF hH hX hst hfr hS hn
  rcases st with _ | ⟨y, _ | ⟨x, st⟩⟩
  · exact hst.elim
  · exact hst.2.elim
  refine lv_lshr hx hb hd (m_shr _ _) ?_
  exact h (lShr x y :: st) lc μ n H locs sl hF hH hX ⟨i64_R _, hst.2.2⟩ hfr hS hn
theorem go_lushr {p : Program} {l : Launch} {e : Env} {s : State} {m : MethodId} {args : Array Value} {below : List Frame} {meth : Method} {c : Code} {D : va_G} {E : Nat → ClassId} {G : amG} {cr : amC} {L : Nat} {xs : Nat → Int32} {mi d n0 : Nat} {R : Room} {r : Int × amM} {Qf : State → Prop} {pc : Nat} {ts tl : List Nat} {call : Nat → List Int → amM → amR} {rt : Nat → Nat × Nat} {k : amJ} {nx : amN} (hC : amCx p s m args meth c D E G cr L xs mi d n0 R r) {a b w : Nat} {z : List (Int × Nat)} (hd : decode (amBy mi) pc = .ok (.lushr, 1)) (h : amGo p l e s m args below meth c D E G cr L xs mi d n0 R r Qf (pc + 1) (1 :: ts) tl nx) : amGo p l e s m args below meth c D E G cr L xs mi d n0 R r Qf pc (0 :: 1 :: ts) tl (stp cr call rt (.lushr, a, b, w, z) k nx) := by
  obtain ⟨hx, hb, hml, hown, hts, hK, hR, hlk, hnm, hcr, hsz⟩ := hC
  intro st lc μ n H locs sl hF hH hX hst hfr hS hn
  rcases st with _ | ⟨y, _ | ⟨x, st⟩⟩
  · exact hst.elim
  · exact hst.2.elim
  refine lv_lushr hx hb hd (m_ushr _ _) ?_
  exact h (lUshr x y :: st) lc μ n H locs sl hF hH hX ⟨i64_R _, hst.2.2⟩ hfr hS hn
theorem go_i2l {p : Program} {l : Launch} {e : Env} {s : State} {m : MethodId} {args : Array Value} {below : List Frame} {meth : Method} {c : Code} {D : va_G} {E : Nat → ClassId} {G : amG} {cr : amC} {L : Nat} {xs : Nat → Int32} {mi d n0 : Nat} {R : Room} {r : Int × amM} {Qf : State → Prop} {pc : Nat} {ts tl : List Nat} {call : Nat → List Int → amM → amR} {rt : Nat → Nat × Nat} {k : amJ} {nx : amN} (hC : amCx p s m args meth c D E G cr L xs mi d n0 R r) {a b w : Nat} {z : List (Int × Nat)} (hd : decode (amBy mi) pc = .ok (.i2l, 1)) (h : amGo p l e s m args below meth c D E G cr L xs mi d n0 R r Qf (pc + 1) (1 :: ts) tl nx) : amGo p l e s m args below meth c D E G cr L xs mi d n0 R r Qf pc (0 :: ts) tl (stp cr call rt (.i2l, a, b, w, z) k nx) := by
  obtain ⟨hx, hb, hml, hown, hts, hK, hR, hlk, hnm, hcr, hsz⟩ := hC
  intro st lc μ n H locs sl hF hH hX hst hfr hS hn
  rcases st with _ | ⟨x, st⟩
  · exact hst.elim
  refine lv_i2l hx hb hd (n_i2l hst.1) ?_
  exact h ((x) :: st) lc μ n H locs sl hF hH hX ⟨R32_64 hst.1, hst.2⟩ hfr hS hn
theorem go_l2i {p : Program} {l : Launch} {e : Env} {s : State} {m : MethodId} {args : Array Value} {below : List Frame} {meth : Method} {c : Code} {D : va_G} {E : Nat → ClassId} {G : amG} {cr : amC} {L : Nat} {xs : Nat → Int32} {mi d n0 : Nat} {R : Room} {r : Int × amM} {Qf : State → Prop} {pc : Nat} {ts tl : List Nat} {call : Nat → List Int → amM → amR} {rt : Nat → Nat × Nat} {k : amJ} {nx : amN} (hC : amCx p s m args meth c D E G cr L xs mi d n0 R r) {a b w : Nat} {z : List (Int × Nat)} (hd : decode (amBy mi) pc = .ok (.l2i, 1)) (h : amGo p l e s m args below meth c D E G cr L xs mi d n0 R r Qf (pc + 1) (0 :: ts) tl nx) : amGo p l e s m args below meth c D E G cr L xs mi d n0 R r Qf pc (1 :: ts) tl (stp cr call rt (.l2i, a, b, w, z) k nx) := by
  obtain ⟨hx, hb, hml, hown, hts, hK, hR, hlk, hnm, hcr, hsz⟩ := hC
  intro st lc μ n H locs sl hF hH hX hst hfr hS hn
  rcases st with _ | ⟨x, st⟩
  · exact hst.elim
  refine lv_l2i hx hb hd (n_l2i hst.1) ?_
  exact h ((w32 x) :: st) lc μ n H locs sl hF hH hX ⟨w32_R _, hst.2⟩ hfr hS hn
theorem go_i2b {p : Program} {l : Launch} {e : Env} {s : State} {m : MethodId} {args : Array Value} {below : List Frame} {meth : Method} {c : Code} {D : va_G} {E : Nat → ClassId} {G : amG} {cr : amC} {L : Nat} {xs : Nat → Int32} {mi d n0 : Nat} {R : Room} {r : Int × amM} {Qf : State → Prop} {pc : Nat} {ts tl : List Nat} {call : Nat → List Int → amM → amR} {rt : Nat → Nat × Nat} {k : amJ} {nx : amN} (hC : amCx p s m args meth c D E G cr L xs mi d n0 R r) {a b w : Nat} {z : List (Int × Nat)} (hd : decode (amBy mi) pc = .ok (.i2b, 1)) (h : amGo p l e s m args below meth c D E G cr L xs mi d n0 R r Qf (pc + 1) (0 :: ts) tl nx) : amGo p l e s m args below meth c D E G cr L xs mi d n0 R r Qf pc (0 :: ts) tl (stp cr call rt (.i2b, a, b, w, z) k nx) := by
  obtain ⟨hx, hb, hml, hown, hts, hK, hR, hlk, hnm, hcr, hsz⟩ := hC
  intro st lc μ n H locs sl hF hH hX hst hfr hS hn
  rcases st with _ | ⟨x, st⟩
  · exact hst.elim
  refine lv_i2b hx hb hd (n_i2b hst.1) ?_
  exact h ((x.bmod 256) :: st) lc μ n H locs sl hF hH hX ⟨n_i2bR _, hst.2⟩ hfr hS hn
theorem go_i2s {p : Program} {l : Launch} {e : Env} {s : State} {m : MethodId} {args : Array Value} {below : List Frame} {meth : Method} {c : Code} {D : va_G} {E : Nat → ClassId} {G : amG} {cr : amC} {L : Nat} {xs : Nat → Int32} {mi d n0 : Nat} {R : Room} {r : Int × amM} {Qf : State → Prop} {pc : Nat} {ts tl : List Nat} {call : Nat → List Int → amM → amR} {rt : Nat → Nat × Nat} {k : amJ} {nx : amN} (hC : amCx p s m args meth c D E G cr L xs mi d n0 R r) {a b w : Nat} {z : List (Int × Nat)} (hd : decode (amBy mi) pc = .ok (.i2s, 1)) (h : amGo p l e s m args below meth c D E G cr L xs mi d n0 R r Qf (pc + 1) (0 :: ts) tl nx) : amGo p l e s m args below meth c D E G cr L xs mi d n0 R r Qf pc (0 :: ts) tl (stp cr call rt (.i2s, a, b, w, z) k nx) := by
  obtain ⟨hx, hb, hml, hown, hts, hK, hR, hlk, hnm, hcr, hsz⟩ := hC
  intro st lc μ n H locs sl hF hH hX hst hfr hS hn
  rcases st with _ | ⟨x, st⟩
  · exact hst.elim
  refine lv_i2s hx hb hd (n_i2s hst.1) ?_
  exact h ((x.bmod 65536) :: st) lc μ n H locs sl hF hH hX ⟨n_i2sR _, hst.2⟩ hfr hS hn
theorem go_ineg {p : Program} {l : Launch} {e : Env} {s : State} {m : MethodId} {args : Array Value} {below : List Frame} {meth : Method} {c : Code} {D : va_G} {E : Nat → ClassId} {G : amG} {cr : amC} {L : Nat} {xs : Nat → Int32} {mi d n0 : Nat} {R : Room} {r : Int × amM} {Qf : State → Prop} {pc : Nat} {ts tl : List Nat} {call : Nat → List Int → amM → amR} {rt : Nat → Nat × Nat} {k : amJ} {nx : amN} (hC : amCx p s m args meth c D E G cr L xs mi d n0 R r) {a b w : Nat} {z : List (Int × Nat)} (hd : decode (amBy mi) pc = .ok (.ineg, 1)) (h : amGo p l e s m args below meth c D E G cr L xs mi d n0 R r Qf (pc + 1) (0 :: ts) tl nx) : amGo p l e s m args below meth c D E G cr L xs mi d n0 R r Qf pc (0 :: ts) tl (stp cr call rt (.ineg, a, b, w, z) k nx) := by
  obtain ⟨hx, hb, hml, hown, hts, hK, hR, hlk, hnm, hcr, hsz⟩ := hC
  intro st lc μ n H locs sl hF hH hX hst hfr hS hn
  rcases st with _ | ⟨x, st⟩
  · exact hst.elim
  refine lv_ineg hx hb hd ?_
  rw [n_neg]
  exact h (w32 (-x) :: st) lc μ n H locs sl hF hH hX ⟨w32_R _, hst.2⟩ hfr hS hn
theorem go_lcmp {p : Program} {l : Launch} {e : Env} {s : State} {m : MethodId} {args : Array Value} {below : List Frame} {meth : Method} {c : Code} {D : va_G} {E : Nat → ClassId} {G : amG} {cr : amC} {L : Nat} {xs : Nat → Int32} {mi d n0 : Nat} {R : Room} {r : Int × amM} {Qf : State → Prop} {pc : Nat} {ts tl : List Nat} {call : Nat → List Int → amM → amR} {rt : Nat → Nat × Nat} {k : amJ} {nx : amN} (hC : amCx p s m args meth c D E G cr L xs mi d n0 R r) {a b w : Nat} {z : List (Int × Nat)} (hd : decode (amBy mi) pc = .ok (.lcmp, 1)) (h : amGo p l e s m args below meth c D E G cr L xs mi d n0 R r Qf (pc + 1) (0 :: ts) tl nx) : amGo p l e s m args below meth c D E G cr L xs mi d n0 R r Qf pc (1 :: 1 :: ts) tl (stp cr call rt (.lcmp, a, b, w, z) k nx) := by
  obtain ⟨hx, hb, hml, hown, hts, hK, hR, hlk, hnm, hcr, hsz⟩ := hC
  intro st lc μ n H locs sl hF hH hX hst hfr hS hn
  rcases st with _ | ⟨y, _ | ⟨x, st⟩⟩
  · exact hst.elim
  · exact hst.2.elim
  refine W.lcmp hx hb hd ?_
  rw [n_cmp hst.2.1 hst.1]
  exact h ((if x < y then -1 else if x = y then 0 else 1) :: st) lc μ n H locs sl hF hH hX ⟨by unfold amOk R32; split <;> (try split) <;> omega, hst.2.2⟩ hfr hS hn
theorem amVal_cat {G : amG} {t : Nat} (x : Int) (h : t ≠ 1) : (amVal G t x).category = 1 := by
  unfold amVal
  split
  · exact absurd rfl h
  · split <;> rfl
  · rfl
theorem go_dup {p : Program} {l : Launch} {e : Env} {s : State} {m : MethodId} {args : Array Value} {below : List Frame} {meth : Method} {c : Code} {D : va_G} {E : Nat → ClassId} {G : amG} {cr : amC} {L : Nat} {xs : Nat → Int32} {mi d n0 : Nat} {R : Room} {r : Int × amM} {Qf : State → Prop} {pc : Nat} {ts tl : List Nat} {call : Nat → List Int → amM → amR} {rt : Nat → Nat × Nat} {k : amJ} {nx : amN} (hC : amCx p s m args meth c D E G cr L xs mi d n0 R r) {t a b w : Nat} {z : List (Int × Nat)} (ht : t ≠ 1) (hd : decode (amBy mi) pc = .ok (.dup, 1)) (h : amGo p l e s m args below meth c D E G cr L xs mi d n0 R r Qf (pc + 1) (t :: t :: ts) tl nx) : amGo p l e s m args below meth c D E G cr L xs mi d n0 R r Qf pc (t :: ts) tl (stp cr call rt (.dup, a, b, w, z) k nx) := by
  obtain ⟨hx, hb, hml, hown, hts, hK, hR, hlk, hnm, hcr, hsz⟩ := hC
  intro st lc μ n H locs sl hF hH hX hst hfr hS hn
  rcases st with _ | ⟨x, st⟩
  · exact hst.elim
  exact lv_dup hx hb hd (amVal_cat x ht) (h (x :: x :: st) lc μ n H locs sl hF hH hX ⟨hst.1, hst.1, hst.2⟩ hfr hS hn)
theorem go_dup2 {p : Program} {l : Launch} {e : Env} {s : State} {m : MethodId} {args : Array Value} {below : List Frame} {meth : Method} {c : Code} {D : va_G} {E : Nat → ClassId} {G : amG} {cr : amC} {L : Nat} {xs : Nat → Int32} {mi d n0 : Nat} {R : Room} {r : Int × amM} {Qf : State → Prop} {pc : Nat} {ts tl : List Nat} {call : Nat → List Int → amM → amR} {rt : Nat → Nat × Nat} {k : amJ} {nx : amN} (hC : amCx p s m args meth c D E G cr L xs mi d n0 R r) {t t2 a b w : Nat} {z : List (Int × Nat)} (ht : t ≠ 1) (ht2 : t2 ≠ 1) (hd : decode (amBy mi) pc = .ok (.dup2, 1)) (h : amGo p l e s m args below meth c D E G cr L xs mi d n0 R r Qf (pc + 1) (t :: t2 :: t :: t2 :: ts) tl nx) : amGo p l e s m args below meth c D E G cr L xs mi d n0 R r Qf pc (t :: t2 :: ts) tl (stp cr call rt (.dup2, a, b, w, z) k nx) := by
  obtain ⟨hx, hb, hml, hown, hts, hK, hR, hlk, hnm, hcr, hsz⟩ := hC
  intro st lc μ n H locs sl hF hH hX hst hfr hS hn
  rcases st with _ | ⟨y, _ | ⟨x, st⟩⟩
  · exact hst.elim
  · exact hst.2.elim
  exact lv_dup2_11 hx hb hd (amVal_cat y ht) (amVal_cat x ht2) (h (y :: x :: y :: x :: st) lc μ n H locs sl hF hH hX ⟨hst.1, hst.2.1, hst.1, hst.2.1, hst.2.2⟩ hfr hS hn)
theorem go_pop {p : Program} {l : Launch} {e : Env} {s : State} {m : MethodId} {args : Array Value} {below : List Frame} {meth : Method} {c : Code} {D : va_G} {E : Nat → ClassId} {G : amG} {cr : amC} {L : Nat} {xs : Nat → Int32} {mi d n0 : Nat} {R : Room} {r : Int × amM} {Qf : State → Prop} {pc : Nat} {ts tl : List Nat} {call : Nat → List Int → amM → amR} {rt : Nat → Nat × Nat} {k : amJ} {nx : amN} (hC : amCx p s m args meth c D E G cr L xs mi d n0 R r) {t a b w : Nat} {z : List (Int × Nat)} (ht : t ≠ 1) (hd : decode (amBy mi) pc = .ok (.pop, 1)) (h : amGo p l e s m args below meth c D E G cr L xs mi d n0 R r Qf (pc + 1) ts tl nx) : amGo p l e s m args below meth c D E G cr L xs mi d n0 R r Qf pc (t :: ts) tl (stp cr call rt (.pop, a, b, w, z) k nx) := by
  obtain ⟨hx, hb, hml, hown, hts, hK, hR, hlk, hnm, hcr, hsz⟩ := hC
  intro st lc μ n H locs sl hF hH hX hst hfr hS hn
  rcases st with _ | ⟨x, st⟩
  · exact hst.elim
  exact lv_pop hx hb hd (amVal_cat x ht) (h st lc μ n H locs sl hF hH hX hst.2 hfr hS hn)
theorem go_ldc {p : Program} {l : Launch} {e : Env} {s : State} {m : MethodId} {args : Array Value} {below : List Frame} {meth : Method} {c : Code} {D : va_G} {E : Nat → ClassId} {G : amG} {cr : amC} {L : Nat} {xs : Nat → Int32} {mi d n0 : Nat} {R : Room} {r : Int × amM} {Qf : State → Prop} {pc : Nat} {ts tl : List Nat} {call : Nat → List Int → amM → amR} {rt : Nat → Nat × Nat} {k : amJ} {nx : amN} (hC : amCx p s m args meth c D E G cr L xs mi d n0 R r) {i : Nat} {v : Int} {a b w : Nat} {z : List (Int × Nat)} (hv : (z.headD (0, 0)).1 = v) (hR32 : R32 v) (hw : Cond.constant (amNm (amYt mi).1) i (Int32.ofInt v) ∈ amTbl) (hd : decode (amBy mi) pc = .ok (.ldc i, 2)) (h : amGo p l e s m args below meth c D E G cr L xs mi d n0 R r Qf (pc + 2) (0 :: ts) tl nx) : amGo p l e s m args below meth c D E G cr L xs mi d n0 R r Qf pc ts tl (stp cr call rt (.ldc i, a, b, w, z) k nx) := by
  obtain ⟨hx, hb, hml, hown, hts, hK, hR, hlk, hnm, hcr, hsz⟩ := hC
  intro st lc μ n H locs sl hF hH hX hst hfr hS hn
  subst hv
  exact lv_ldc hx hb hown (hts _ hw) hd (h (_ :: st) lc μ n H locs sl hF hH hX ⟨hR32, hst⟩ hfr hS hn)
theorem go_ldc_w {p : Program} {l : Launch} {e : Env} {s : State} {m : MethodId} {args : Array Value} {below : List Frame} {meth : Method} {c : Code} {D : va_G} {E : Nat → ClassId} {G : amG} {cr : amC} {L : Nat} {xs : Nat → Int32} {mi d n0 : Nat} {R : Room} {r : Int × amM} {Qf : State → Prop} {pc : Nat} {ts tl : List Nat} {call : Nat → List Int → amM → amR} {rt : Nat → Nat × Nat} {k : amJ} {nx : amN} (hC : amCx p s m args meth c D E G cr L xs mi d n0 R r) {i : Nat} {v : Int} {a b w : Nat} {z : List (Int × Nat)} (hv : (z.headD (0, 0)).1 = v) (hR32 : R32 v) (hw : Cond.constant (amNm (amYt mi).1) i (Int32.ofInt v) ∈ amTbl) (hd : decode (amBy mi) pc = .ok (.ldc_w i, 3)) (h : amGo p l e s m args below meth c D E G cr L xs mi d n0 R r Qf (pc + 3) (0 :: ts) tl nx) : amGo p l e s m args below meth c D E G cr L xs mi d n0 R r Qf pc ts tl (stp cr call rt (.ldc_w i, a, b, w, z) k nx) := by
  obtain ⟨hx, hb, hml, hown, hts, hK, hR, hlk, hnm, hcr, hsz⟩ := hC
  intro st lc μ n H locs sl hF hH hX hst hfr hS hn
  subst hv
  exact lv_ldcw hx hb hown (hts _ hw) hd (h (_ :: st) lc μ n H locs sl hF hH hX ⟨hR32, hst⟩ hfr hS hn)
theorem go_ldc2_w {p : Program} {l : Launch} {e : Env} {s : State} {m : MethodId} {args : Array Value} {below : List Frame} {meth : Method} {c : Code} {D : va_G} {E : Nat → ClassId} {G : amG} {cr : amC} {L : Nat} {xs : Nat → Int32} {mi d n0 : Nat} {R : Room} {r : Int × amM} {Qf : State → Prop} {pc : Nat} {ts tl : List Nat} {call : Nat → List Int → amM → amR} {rt : Nat → Nat × Nat} {k : amJ} {nx : amN} (hC : amCx p s m args meth c D E G cr L xs mi d n0 R r) {i : Nat} {v : Int} {a b w : Nat} {z : List (Int × Nat)} (hv : (z.headD (0, 0)).1 = v) (hR64 : R64 v) (hw : Cond.constantLong (amNm (amYt mi).1) i (Int64.ofInt v) ∈ amTbl) (hd : decode (amBy mi) pc = .ok (.ldc2_w i, 3)) (h : amGo p l e s m args below meth c D E G cr L xs mi d n0 R r Qf (pc + 3) (1 :: ts) tl nx) : amGo p l e s m args below meth c D E G cr L xs mi d n0 R r Qf pc ts tl (stp cr call rt (.ldc2_w i, a, b, w, z) k nx) := by
  obtain ⟨hx, hb, hml, hown, hts, hK, hR, hlk, hnm, hcr, hsz⟩ := hC
  intro st lc μ n H locs sl hF hH hX hst hfr hS hn
  subst hv
  exact lv_ldc2 hx hb hown (hts _ hw) hd (h (_ :: st) lc μ n H locs sl hF hH hX ⟨hR64, hst⟩ hfr hS hn)
