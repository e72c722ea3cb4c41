/-! ===== jumps, references in rows, calls, new cells, ends ===== -/
theorem amVs_cat (G : amG) : ∀ {n N : Nat} {ts : List Nat} {st : List Int}, amStk n ts st → (ts.map (fun t => if t = 1 then 2 else 1)).sum ≤ N → ((amVs G ts st).map fun v => v.category).sum ≤ N := by
  intro n N ts st h hN
  have e : ∀ {ts : List Nat} {st : List Int}, amStk n ts st → (amVs G ts st).map (fun v => v.category) = ts.map (fun t => if t = 1 then 2 else 1) := by
    intro ts
    induction ts with
    | nil => intro st h; cases st with
      | nil => rfl
      | cons _ _ => exact h.elim
    | cons t ts ih => intro st h; cases st with
      | nil => exact h.elim
      | cons x st =>
        show (amVal G t x).category :: (amVs G ts st).map (fun v => v.category) = _
        rw [ih h.2]
        by_cases q : t = 1
        · subst q; rfl
        · rw [amVal_cat x q]
          simp [q]
  rw [e h]
  exact hN
theorem go_goto {p : Program} {l : Launch} {e : Env} {s : State} {m : MethodId} {args : Array Value} {below : List Frame} {meth : Method} {c : Code} {D : va_G} {E : Nat → ClassId} {G : amG} {cr : amC} {L : Nat} {xs : Nat → Int32} {mi d n0 : Nat} {R : Room} {r : Int × amM} {Qf : State → Prop} {pc : Nat} {ts tl : List Nat} {call : Nat → List Int → amM → amR} {rt : Nat → Nat × Nat} {k : amJ} {nx : amN} (hC : amCx p s m args meth c D E G cr L xs mi d n0 R r) {a b w : Nat} {z : List (Int × Nat)} {off : Int} {tgt : Nat} (hd : decode (amBy mi) pc = .ok (.goto off, 3)) (ht : (pc : Int) + off = (tgt : Int)) (hj : amGo p l e s m args below meth c D E G cr L xs mi d n0 R r Qf tgt ts tl (fun st ls μ => k a st ls μ)) : amGo p l e s m args below meth c D E G cr L xs mi d n0 R r Qf pc ts tl (stp cr call rt (.goto off, a, b, w, z) k nx) := by
  obtain ⟨hx, hb, hml, hown, hts, hK, hR, hlk, hnm, hcr, hsz⟩ := hC
  intro st lc μ n H locs sl hF hH hX hst hfr hS hn
  exact lv_goto hx hb hd ht (hj st lc μ n H locs sl hF hH hX hst hfr hS hn)
theorem go_ifCond {p : Program} {l : Launch} {e : Env} {s : State} {m : MethodId} {args : Array Value} {below : List Frame} {meth : Method} {c : Code} {D : va_G} {E : Nat → ClassId} {G : amG} {cr : amC} {L : Nat} {xs : Nat → Int32} {mi d n0 : Nat} {R : Room} {r : Int × amM} {Qf : State → Prop} {pc : Nat} {ts tl : List Nat} {call : Nat → List Int → amM → amR} {rt : Nat → Nat × Nat} {k : amJ} {nx : amN} (hC : amCx p s m args meth c D E G cr L xs mi d n0 R r) {a b w : Nat} {z : List (Int × Nat)} {cd : ClassFile.Cond} {off : Int} {tgt : Nat} (hd : decode (amBy mi) pc = .ok (.ifCond cd off, 3)) (ht : (pc : Int) + off = (tgt : Int)) (hj : amGo p l e s m args below meth c D E G cr L xs mi d n0 R r Qf tgt ts tl (fun st ls μ => k a st ls μ)) (h : amGo p l e s m args below meth c D E G cr L xs mi d n0 R r Qf (pc + 3) ts tl nx) : amGo p l e s m args below meth c D E G cr L xs mi d n0 R r Qf pc (0 :: ts) tl (stp cr call rt (.ifCond cd off, a, b, w, z) k nx) := by
  obtain ⟨hx, hb, hml, hown, hts, hK, hR, hlk, hnm, hcr, hsz⟩ := hC
  intro st lc μ n H locs sl hF hH hX hst hfr hS hn
  rcases st with _ | ⟨x, st⟩
  · exact hst.elim
  have J := fun hF => hj st lc μ n H locs sl hF hH hX hst.2 hfr hS hn
  have N := fun hF => h st lc μ n H locs sl hF hH hX hst.2 hfr hS hn
  have q0 := n_eq hst.1 R32_0
  have q1 := n_lt hst.1 R32_0
  have q2 := n_lt R32_0 hst.1
  have q3 := n_le hst.1 R32_0
  have q4 := n_le R32_0 hst.1
  cases cd
  · have hF : (if x = 0 then k a st lc μ else nx st lc μ) = some r := hF
    by_cases e : x = 0
    · rw [if_pos e] at hF
      exact lv_if_eq hx hb hd ht (fun _ => J hF) (fun g => absurd (q0.mpr e) g)
    · rw [if_neg e] at hF
      exact lv_if_eq hx hb hd ht (fun g => absurd (q0.mp g) e) (fun _ => N hF)
  · have hF : (if x = 0 then nx st lc μ else k a st lc μ) = some r := hF
    by_cases e : x = 0
    · rw [if_pos e] at hF
      exact lv_if_ne hx hb hd ht (fun g => absurd (q0.mpr e) g) (fun _ => N hF)
    · rw [if_neg e] at hF
      exact lv_if_ne hx hb hd ht (fun _ => J hF) (fun g => absurd (q0.mp g) e)
  · have hF : (if x < 0 then k a st lc μ else nx st lc μ) = some r := hF
    by_cases e : x < 0
    · rw [if_pos e] at hF
      exact lv_if_lt hx hb hd ht (fun _ => J hF) (fun g => absurd (q1.mpr e) g)
    · rw [if_neg e] at hF
      exact lv_if_lt hx hb hd ht (fun g => absurd (q1.mp g) e) (fun _ => N hF)
  · have hF : (if x < 0 then nx st lc μ else k a st lc μ) = some r := hF
    by_cases e : x < 0
    · rw [if_pos e] at hF
      exact lv_if_ge hx hb hd ht (fun g => absurd (q4.mp g) (by omega)) (fun _ => N hF)
    · rw [if_neg e] at hF
      exact lv_if_ge hx hb hd ht (fun _ => J hF) (fun g => absurd (q4.mpr (by omega)) g)
  · have hF : (if 0 < x then k a st lc μ else nx st lc μ) = some r := hF
    by_cases e : 0 < x
    · rw [if_pos e] at hF
      exact lv_if_gt hx hb hd ht (fun _ => J hF) (fun g => absurd (q2.mpr e) g)
    · rw [if_neg e] at hF
      exact lv_if_gt hx hb hd ht (fun g => absurd (q2.mp g) e) (fun _ => N hF)
  · have hF : (if 0 < x then nx st lc μ else k a st lc μ) = some r := hF
    by_cases e : 0 < x
    · rw [if_pos e] at hF
      exact lv_if_le hx hb hd ht (fun g => absurd (q3.mp g) (by omega)) (fun _ => N hF)
    · rw [if_neg e] at hF
      exact lv_if_le hx hb hd ht (fun _ => J hF) (fun g => absurd (q3.mpr (by omega)) g)
theorem go_if_icmp {p : Program} {l : Launch} {e : Env} {s : State} {m : MethodId} {args : Array Value} {below : List Frame} {meth : Method} {c : Code} {D : va_G} {E : Nat → ClassId} {G : amG} {cr : amC} {L : Nat} {xs : Nat → Int32} {mi d n0 : Nat} {R : Room} {r : Int × amM} {Qf : State → Prop} {pc : Nat} {ts tl : List Nat} {call : Nat → List Int → amM → amR} {rt : Nat → Nat × Nat} {k : amJ} {nx : amN} (hC : amCx p s m args meth c D E G cr L xs mi d n0 R r) {a b w : Nat} {z : List (Int × Nat)} {cd : ClassFile.Cond} {off : Int} {tgt : Nat} (hd : decode (amBy mi) pc = .ok (.if_icmp cd off, 3)) (ht : (pc : Int) + off = (tgt : Int)) (hj : amGo p l e s m args below meth c D E G cr L xs mi d n0 R r Qf tgt ts tl (fun st ls μ => k a st ls μ)) (h : amGo p l e s m args below meth c D E G cr L xs mi d n0 R r Qf (pc + 3) ts tl nx) : amGo p l e s m args below meth c D E G cr L xs mi d n0 R r Qf pc (0 :: 0 :: ts) tl (stp cr call rt (.if_icmp cd off, a, b, w, z) k nx) := by
  obtain ⟨hx, hb, hml, hown, hts, hK, hR, hlk, hnm, hcr, hsz⟩ := hC
  intro st lc μ n H locs sl hF hH hX hst hfr hS hn
  rcases st with _ | ⟨y, _ | ⟨x, st⟩⟩
  · exact hst.elim
  · exact hst.2.elim
  have J := fun hF => hj st lc μ n H locs sl hF hH hX hst.2.2 hfr hS hn
  have N := fun hF => h st lc μ n H locs sl hF hH hX hst.2.2 hfr hS hn
  have q0 := n_eq hst.2.1 hst.1
  have q1 := n_lt hst.2.1 hst.1
  have q2 := n_lt hst.1 hst.2.1
  have q3 := n_le hst.2.1 hst.1
  have q4 := n_le hst.1 hst.2.1
  cases cd
  · have hF : (if x = y then k a st lc μ else nx st lc μ) = some r := hF
    by_cases e : x = y
    · rw [if_pos e] at hF
      exact lv_icmp_eq hx hb hd ht (fun _ => J hF) (fun g => absurd (q0.mpr e) g)
    · rw [if_neg e] at hF
      exact lv_icmp_eq hx hb hd ht (fun g => absurd (q0.mp g) e) (fun _ => N hF)
  · have hF : (if x = y then nx st lc μ else k a st lc μ) = some r := hF
    by_cases e : x = y
    · rw [if_pos e] at hF
      exact lv_icmp_ne hx hb hd ht (fun g => absurd (q0.mpr e) g) (fun _ => N hF)
    · rw [if_neg e] at hF
      exact lv_icmp_ne hx hb hd ht (fun _ => J hF) (fun g => absurd (q0.mp g) e)
  · have hF : (if x < y then k a st lc μ else nx st lc μ) = some r := hF
    by_cases e : x < y
    · rw [if_pos e] at hF
      exact lv_icmp_lt hx hb hd ht (fun _ => J hF) (fun g => absurd (q1.mpr e) g)
    · rw [if_neg e] at hF
      exact lv_icmp_lt hx hb hd ht (fun g => absurd (q1.mp g) e) (fun _ => N hF)
  · have hF : (if x < y then nx st lc μ else k a st lc μ) = some r := hF
    by_cases e : x < y
    · rw [if_pos e] at hF
      exact lv_icmp_ge hx hb hd ht (fun g => absurd (q4.mp g) (by omega)) (fun _ => N hF)
    · rw [if_neg e] at hF
      exact lv_icmp_ge hx hb hd ht (fun _ => J hF) (fun g => absurd (q4.mpr (by omega)) g)
  · have hF : (if y < x then k a st lc μ else nx st lc μ) = some r := hF
    by_cases e : y < x
    · rw [if_pos e] at hF
      exact lv_icmp_gt hx hb hd ht (fun _ => J hF) (fun g => absurd (q2.mpr e) g)
    · rw [if_neg e] at hF
      exact lv_icmp_gt hx hb hd ht (fun g => absurd (q2.mp g) e) (fun _ => N hF)
  · have hF : (if y < x then nx st lc μ else k a st lc μ) = some r := hF
    by_cases e : y < x
    · rw [if_pos e] at hF
      exact lv_icmp_le hx hb hd ht (fun g => absurd (q3.mp g) (by omega)) (fun _ => N hF)
    · rw [if_neg e] at hF
      exact lv_icmp_le hx hb hd ht (fun _ => J hF) (fun g => absurd (q3.mpr (by omega)) g)
theorem go_fall {p : Program} {l : Launch} {e : Env} {s : State} {m : MethodId} {args : Array Value} {below : List Frame} {meth : Method} {c : Code} {D : va_G} {E : Nat → ClassId} {G : amG} {cr : amC} {L : Nat} {xs : Nat → Int32} {mi d n0 : Nat} {R : Room} {r : Int × amM} {Qf : State → Prop} {pc : Nat} {ts tl : List Nat} {call : Nat → List Int → amM → amR} {rt : Nat → Nat × Nat} {k : amJ} {nx : amN} (hC : amCx p s m args meth c D E G cr L xs mi d n0 R r) {a b w : Nat} {z : List (Int × Nat)} (hj : amGo p l e s m args below meth c D E G cr L xs mi d n0 R r Qf pc ts tl (fun st ls μ => k a st ls μ)) : amGo p l e s m args below meth c D E G cr L xs mi d n0 R r Qf pc ts tl (stp cr call rt (.nop, a, b, w, z) k nx) := by
  exact fun st lc μ n H locs sl hF => hj st lc μ n H locs sl hF
theorem amSw_look {x : Int} {d : Nat} : ∀ (l : List (Int × Nat)), ∃ b, (∀ F, amSw x l d F = F b) ∧ ((∃ q, l.find? (fun q => q.1 == x) = some q ∧ b = q.2) ∨ (l.find? (fun q => q.1 == x) = none ∧ b = d))
  | [] => ⟨d, fun _ => rfl, Or.inr ⟨rfl, rfl⟩⟩
  | (k, b) :: r => by
    by_cases e : x = k
    · exact ⟨b, fun F => if_pos e, Or.inl ⟨(k, b), by rw [List.find?_cons_of_pos (by simp [e])], rfl⟩⟩
    · obtain ⟨b', h1, h2⟩ := amSw_look (x := x) (d := d) r
      refine ⟨b', fun F => (if_neg e).trans (h1 F), ?_⟩
      rw [List.find?_cons_of_neg (by simp; exact fun q => e q.symm)]
      exact h2
theorem go_tableswitch {p : Program} {l : Launch} {e : Env} {s : State} {m : MethodId} {args : Array Value} {below : List Frame} {meth : Method} {c : Code} {D : va_G} {E : Nat → ClassId} {G : amG} {cr : amC} {L : Nat} {xs : Nat → Int32} {mi d n0 : Nat} {R : Room} {r : Int × amM} {Qf : State → Prop} {pc : Nat} {ts tl : List Nat} {call : Nat → List Int → amM → amR} {rt : Nat → Nat × Nat} {k : amJ} {nx : amN} (hC : amCx p s m args meth c D E G cr L xs mi d n0 R r) {a b w : Nat} {z : List (Int × Nat)} {dflt lo hi : Int} {offs : Array Int} {len : Nat} (hd : decode (amBy mi) pc = .ok (.tableswitch dflt lo hi offs, len)) (hz : ∀ x : Int, R32 x → (((x < lo ∨ hi < x) ∧ z.find? (fun q => q.1 == x) = none) ∨ (¬ x < lo ∧ ¬ hi < x ∧ ∃ q off tgt, z.find? (fun q => q.1 == x) = some q ∧ offs[(x - lo).toNat]? = some off ∧ (pc : Int) + off = ((tgt : Nat) : Int) ∧ amGo p l e s m args below meth c D E G cr L xs mi d n0 R r Qf tgt ts tl (fun st ls μ => k q.2 st ls μ)))) {tgt : Nat} (ht : (pc : Int) + dflt = (tgt : Int)) (hj : amGo p l e s m args below meth c D E G cr L xs mi d n0 R r Qf tgt ts tl (fun st ls μ => k a st ls μ)) : amGo p l e s m args below meth c D E G cr L xs mi d n0 R r Qf pc (0 :: ts) tl (stp cr call rt (.tableswitch dflt lo hi offs, a, b, w, z) k nx) := by
  obtain ⟨hx, hb, hml, hown, hts, hK, hR, hlk, hnm, hcr, hsz⟩ := hC
  intro st lc μ n H locs sl hF hH hX hst hfr hS hn
  rcases st with _ | ⟨x, st⟩
  · exact hst.elim
  have hG : amSw x z a (fun b => k b st lc μ) = some r := hF
  obtain ⟨b', h1, h2⟩ := amSw_look (x := x) (d := a) z
  rw [h1] at hG
  have hv : (Int32.ofInt x).toInt = x := t32 hst.1
  rcases hz x hst.1 with ⟨g1, g2⟩ | ⟨g1, g2, q, off, tgt2, g3, g4, g5, g6⟩
  · have hb' : b' = a := by
      rcases h2 with ⟨q, e, -⟩ | ⟨-, e⟩
      · rw [g2] at e; cases e
      · exact e
    subst hb'
    exact lv_tableOut hx hb hd (by rw [hv]; exact g1) ht (hj st lc μ n H locs sl hG hH hX hst.2 hfr hS hn)
  · have hb' : b' = q.2 := by
      rcases h2 with ⟨q', e, e2⟩ | ⟨e, -⟩
      · rw [g3] at e; cases e; exact e2
      · rw [g3] at e; cases e
    subst hb'
    exact lv_tableIn hx hb hd (by rw [hv]; exact g1) (by rw [hv]; exact g2) (by rw [hv]; exact g4) g5 (g6 st lc μ n H locs sl hG hH hX hst.2 hfr hS hn)
theorem go_lookupswitch {p : Program} {l : Launch} {e : Env} {s : State} {m : MethodId} {args : Array Value} {below : List Frame} {meth : Method} {c : Code} {D : va_G} {E : Nat → ClassId} {G : amG} {cr : amC} {L : Nat} {xs : Nat → Int32} {mi d n0 : Nat} {R : Room} {r : Int × amM} {Qf : State → Prop} {pc : Nat} {ts tl : List Nat} {call : Nat → List Int → amM → amR} {rt : Nat → Nat × Nat} {k : amJ} {nx : amN} (hC : amCx p s m args meth c D E G cr L xs mi d n0 R r) {a b w : Nat} {z : List (Int × Nat)} {dflt : Int} {ps : Array (Int × Int)} {len : Nat} (hd : decode (amBy mi) pc = .ok (.lookupswitch dflt ps, len)) (hp : (ps.toList.zip (ps.toList.drop 1)).all (fun (a, next) => a.1 < next.1) = true) (hz : ∀ x : Int, R32 x → (z.find? (fun q => q.1 == x) = none ∧ Op.lookupswitch.offset ps.toList dflt x = dflt) ∨ (∃ q off tgt, z.find? (fun q => q.1 == x) = some q ∧ Op.lookupswitch.offset ps.toList dflt x = off ∧ (pc : Int) + off = ((tgt : Nat) : Int) ∧ amGo p l e s m args below meth c D E G cr L xs mi d n0 R r Qf tgt ts tl (fun st ls μ => k q.2 st ls μ))) {tgt : Nat} (ht : (pc : Int) + dflt = (tgt : Int)) (hj : amGo p l e s m args below meth c D E G cr L xs mi d n0 R r Qf tgt ts tl (fun st ls μ => k a st ls μ)) : amGo p l e s m args below meth c D E G cr L xs mi d n0 R r Qf pc (0 :: ts) tl (stp cr call rt (.lookupswitch dflt ps, a, b, w, z) k nx) := by
  obtain ⟨hx, hb, hml, hown, hts, hK, hR, hlk, hnm, hcr, hsz⟩ := hC
  intro st lc μ n H locs sl hF hH hX hst hfr hS hn
  rcases st with _ | ⟨x, st⟩
  · exact hst.elim
  have hG : amSw x z a (fun b => k b st lc μ) = some r := hF
  obtain ⟨b', h1, h2⟩ := amSw_look (x := x) (d := a) z
  rw [h1] at hG
  have hv : (Int32.ofInt x).toInt = x := t32 hst.1
  rcases hz x hst.1 with ⟨g1, g2⟩ | ⟨q, off, tgt2, g3, g4, g5, g6⟩
  · have hb' : b' = a := by
      rcases h2 with ⟨q, e, -⟩ | ⟨-, e⟩
      · rw [g1] at e; cases e
      · exact e
    subst hb'
    exact lv_lookup hx hb hd hp (by rw [hv]; exact g2) ht (hj st lc μ n H locs sl hG hH hX hst.2 hfr hS hn)
  · have hb' : b' = q.2 := by
      rcases h2 with ⟨q', e, e2⟩ | ⟨e, -⟩
      · rw [g3] at e; cases e; exact e2
      · rw [g3] at e; cases e
    subst hb'
    exact lv_lookup hx hb hd hp (by rw [hv]; exact g4) g5 (g6 st lc μ n H locs sl hG hH hX hst.2 hfr hS hn)
theorem amArr_q {G : amG} {t : Nat} (f : Nat → Int) (h1 : ¬ t < 23) : amArr G t f = .inr (.inr (.inr (.inr (fun j => if f j < 0 then none else some (amAd G (f j).toNat))))) := by
  unfold amArr
  rw [if_neg (by omega), if_neg h1]
theorem va_rf_ref {G : amG} {v : Int} (h : 0 ≤ v) : va_rf (if v < 0 then none else some (amAd G v.toNat)) = .ref (amAd G v.toNat) := by
  rw [if_neg (by omega)]; rfl
theorem go_aaload {p : Program} {l : Launch} {e : Env} {s : State} {m : MethodId} {args : Array Value} {below : List Frame} {meth : Method} {c : Code} {D : va_G} {E : Nat → ClassId} {G : amG} {cr : amC} {L : Nat} {xs : Nat → Int32} {mi d n0 : Nat} {R : Room} {r : Int × amM} {Qf : State → Prop} {pc : Nat} {ts tl : List Nat} {call : Nat → List Int → amM → amR} {rt : Nat → Nat × Nat} {k : amJ} {nx : amN} (hC : amCx p s m args meth c D E G cr L xs mi d n0 R r) {t b w : Nat} {z : List (Int × Nat)} (htt : t = 23 ∨ t = 24 ∨ t = 25) (hd : decode (amBy mi) pc = .ok (.aaload, 1)) (h : amGo p l e s m args below meth c D E G cr L xs mi d n0 R r Qf (pc + 1) (2 :: ts) tl nx) : amGo p l e s m args below meth c D E G cr L xs mi d n0 R r Qf pc (0 :: 2 :: ts) tl (stp cr call rt (.aaload, t, b, w, z) k nx) := by
  obtain ⟨hx, hb, hml, hown, hts, hK, hR, hlk, hnm, hcr, hsz⟩ := hC
  intro st lc μ n H locs sl hF hH hX hst hfr hS hn
  rcases st with _ | ⟨y, _ | ⟨x, st⟩⟩
  · exact hst.elim
  · exact hst.2.elim
  have hF : amQld cr t μ x y (fun v => nx (v :: st) lc μ) = some r := hF
  obtain ⟨h20, hF⟩ := if_some hF
  obtain ⟨h1, hF⟩ := if_some hF
  obtain ⟨h0, h2⟩ := if_some hF
  have e1 : amVs G (0 :: 2 :: ts) (y :: x :: st) = .int (Int32.ofInt y) :: .ref (amAd G x.toNat) :: amVs G ts st := by
    rw [← amVal_ref hst.2.1.1]; rfl
  rw [e1]
  obtain ⟨g1, g2, g3, g4, g5, g6⟩ := tg_shp h20 (by omega)
  have hlt := amOk_lt hst.2.1 g4 g5 g6
  have he := amWs_get (E := E) (G := G) (C := amCt cr μ) hlt
  rw [amCellE_arr g2 (by omega), amArr_q _ (by omega)] at he
  rw [amLn_arr g1 g4 g5] at h1
  rw [amAd_lt g3]
  have hok := hH.2.1 x.toNat hlt y.toNat (by omega)
  rw [amSl_arr g2 (by omega), if_neg (by omega), if_neg (by omega)] at hok
  have hok2 : amOk n 2 (amCt cr μ x.toNat y.toNat) := by
    rcases hok with q | q
    · omega
    · exact q
  have h5 := h (_ :: st) lc μ n H locs sl h2 hH hX ⟨hok2, hst.2.2⟩ hfr hS hn
  rw [amVs_ref h0, ← va_rf_ref h0] at h5
  have hcl := n_clamp hst.1
  rcases htt with rfl | rfl | rfl
  · refine va_aldq hx hb hK.1 hH.1 x.toNat 3 he rfl (n_in hst.1 h1) hd ?_
    rw [hcl]; exact h5
  · refine va_aldq hx hb hK.1 hH.1 x.toNat 4 he rfl (n_in hst.1 h1) hd ?_
    rw [hcl]; exact h5
  · have hin := n_in hst.1 h1
    refine W.aald (ty := .array .int) hx hb (hH.1 x.toNat _ he) ((hK.1.2 5 _ rfl).1 _ (fun j => va_rf (if amCt cr μ x.toNat j < 0 then none else some (amAd G (amCt cr μ x.toNat j).toNat)))) rfl (fun q => by cases q) (by show ¬ (_ ∨ (arrV _ _ _).slots.size ≤ _); rw [arrV_size]; exact hin) (by show (arrV _ _ _).slots[_]? = _; rw [arrV_read _ _ (show (Int32.ofInt y).toNatClampNeg < (amShp x.toNat).2 by rw [hcl]; omega)]) rfl rfl hd ?_
    rw [hcl]; exact h5
theorem go_aastore {p : Program} {l : Launch} {e : Env} {s : State} {m : MethodId} {args : Array Value} {below : List Frame} {meth : Method} {c : Code} {D : va_G} {E : Nat → ClassId} {G : amG} {cr : amC} {L : Nat} {xs : Nat → Int32} {mi d n0 : Nat} {R : Room} {r : Int × amM} {Qf : State → Prop} {pc : Nat} {ts tl : List Nat} {call : Nat → List Int → amM → amR} {rt : Nat → Nat × Nat} {k : amJ} {nx : amN} (hC : amCx p s m args meth c D E G cr L xs mi d n0 R r) {t b w ci N : Nat} {C : String} {Tb : u_T} {z : List (Int × Nat)} (htt : (t = 23 ∧ C = "AlikeTown$Text") ∨ (t = 24 ∧ C = "AlikeTown$Sheet")) (hci : amQt t = ci) (hci2 : ci < 20) (hc : amCl[ci]? = some (C, Tb, N)) (hd : decode (amBy mi) pc = .ok (.aastore, 1)) (h : amGo p l e s m args below meth c D E G cr L xs mi d n0 R r Qf (pc + 1) ts tl nx) : amGo p l e s m args below meth c D E G cr L xs mi d n0 R r Qf pc (2 :: 0 :: 2 :: ts) tl (stp cr call rt (.aastore, t, b, w, z) k nx) := by
  obtain ⟨hx, hb, hml, hown, hts, hK, hR, hlk, hnm, hcr, hsz⟩ := hC
  intro st lc μ n H locs sl hF hH hX hst hfr hS hn
  rcases st with _ | ⟨v, _ | ⟨y, _ | ⟨x, st⟩⟩⟩
  · exact hst.elim
  · exact hst.2.elim
  · exact hst.2.2.elim
  have hF : amQst cr t μ x y v (fun μ => nx st lc μ) = some r := hF
  obtain ⟨⟨h20, -, hvt, hcn⟩, hF⟩ := if_some hF
  obtain ⟨h1, h2⟩ := if_some hF
  obtain ⟨g1, g2, g3, g4, g5, g6⟩ := tg_shp h20 (by omega)
  have hlt := amOk_lt hst.2.2.1 g4 g5 g6
  have he := amWs_get (E := E) (G := G) (C := amCt cr μ) hlt
  rw [amCellE_arr g2 (by omega), amArr_q _ (by omega)] at he
  rw [hci] at hvt
  obtain ⟨f1, f2, f3, f4, f5, f6⟩ := tg_shp hvt (by omega)
  have flt := amOk_lt hst.1 f4 f5 f6
  have fe := amWs_get (E := E) (G := G) (C := amCt cr μ) flt
  rw [amCellE_obj f2 hci2] at fe
  rw [amLn_arr g1 g4 g5] at h1
  have e1 : amVs G (2 :: 0 :: 2 :: ts) (v :: y :: x :: st) = .ref (G.1 + v.toNat) :: .int (Int32.ofInt y) :: .ref (G.1 + x.toNat) :: amVs G ts st := by
    rw [← amAd_lt (G := G) g3, ← amVal_ref hst.2.2.1.1, ← amAd_lt (G := G) f3, ← amVal_ref hst.1.1]; rfl
  rw [e1]
  have fin : ∀ (H1 : Heap) (locs1 : List Loc), va_P D amCl ((amWs E G n (amCt cr μ)).set x.toNat (G.1 + x.toNat, .inl (E t, (amShp x.toNat).2, .inr (.inr (.inr (.inr (va_up (fun j => if amCt cr μ x.toNat j < 0 then none else some (amAd G (amCt cr μ x.toNat j).toNat)) (Int32.ofInt y).toNatClampNeg (some (G.1 + v.toNat))))))))) H1 → va_S (fun q => G.1 ≤ q) s.heap H1 locs1 → W p l e R s m args below meth c H1 locs1 (n - n0) (amSs n - amSs n0) Qf (F0 m (pc + 1) sl (amVs G ts st)) := by
    intro H1 locs1 hP1 hS1
    rw [n_clamp hst.2.1] at hP1
    refine h st lc (up μ x.toNat y.toNat v) n H1 locs1 sl h2 (hH.put hcn (by omega) (Or.inr (by rw [amSl_arr g2 (by omega), if_neg (by omega), if_neg (by omega)]; exact hst.1)) ?_) (hX.put (by omega)) hst.2.2.2 hfr hS1 hn
    rw [amCellE_arr g2 (by omega), amArr_q _ (by omega), amCt_up hcn]
    have e2 : (fun j => if (if j = y.toNat then v else amCt cr μ x.toNat j) < 0 then none else some (amAd G (if j = y.toNat then v else amCt cr μ x.toNat j).toNat)) = va_up (fun j => if amCt cr μ x.toNat j < 0 then none else some (amAd G (amCt cr μ x.toNat j).toNat)) y.toNat (some (G.1 + v.toNat)) := by
      funext j
      unfold va_up
      by_cases e : j = y.toNat
      · subst e
        simp [show ¬ v < 0 by omega, amAd_lt (G := G) f3]
      · simp [e]
    rw [e2]
    exact hP1
  rcases htt with ⟨rfl, rfl⟩ | ⟨rfl, rfl⟩
  · exact va_astq hx hb hK.1 hH.1 amWs_D hS x.toNat 3 v.toNat ci he rfl fe hc (n_in hst.2.1 h1) hd (fun H1 locs1 hP1 _ hS1 => fin H1 locs1 hP1 hS1)
  · exact va_astq hx hb hK.1 hH.1 amWs_D hS x.toNat 4 v.toNat ci he rfl fe hc (n_in hst.2.1 h1) hd (fun H1 locs1 hP1 _ hS1 => fin H1 locs1 hP1 hS1)
theorem go_max {p : Program} {l : Launch} {e : Env} {s : State} {m : MethodId} {args : Array Value} {below : List Frame} {meth : Method} {c : Code} {D : va_G} {E : Nat → ClassId} {G : amG} {cr : amC} {L : Nat} {xs : Nat → Int32} {mi d n0 : Nat} {R : Room} {r : Int × amM} {Qf : State → Prop} {pc : Nat} {ts tl : List Nat} {call : Nat → List Int → amM → amR} {rt : Nat → Nat × Nat} {k : amJ} {nx : amN} (hC : amCx p s m args meth c D E G cr L xs mi d n0 R r) {i b w : Nat} {z : List (Int × Nat)} (hw1 : Cond.methodLink (amNm (amYt mi).1) i Lib.Math.max.name ∈ amTbl) (hw2 : Cond.static Lib.Math.max.name ∈ amTbl) (hw3 : Cond.initialized "java/lang/Math" ∈ amTbl) (hw4 : Cond.code Lib.Math.max.name Lib.Math.max.code 2 (some .int) ∈ amTbl) (hcat : (ts.map (fun t => if t = 1 then 2 else 1)).sum ≤ 8) (hmono : ∀ st ls μ, amMr μ (nx st ls μ)) (hd : decode (amBy mi) pc = .ok (.invokestatic i, 3)) (h : amGo p l e s m args below meth c D E G cr L xs mi d n0 R r Qf (pc + 3) (0 :: ts) tl nx) : amGo p l e s m args below meth c D E G cr L xs mi d n0 R r Qf pc (0 :: 0 :: ts) tl (stp cr call rt (.invokestatic i, 9998, b, w, z) k nx) := by
  obtain ⟨hx, hb, hml, hown, hts, hK, hR, hlk, hnm, hcr, hsz⟩ := hC
  intro st lc μ n H locs sl hF hH hX hst hfr hS hn
  rcases st with _ | ⟨y, _ | ⟨x, st⟩⟩
  · exact hst.elim
  · exact hst.2.elim
  have hF : nx (jmax x y :: st) lc μ = some r := hF
  have hle := hmono _ _ _ r hF
  have hc0 := hH.cnt
  have hss : amSs n ≤ amSs (amCnt r.2) := amSs_le (by omega)
  have hs2 := amSs_le hn
  have h5 := h (jmax x y :: st) lc μ n H locs sl hF hH hX ⟨by unfold jmax; split <;> first | exact hst.1 | exact hst.2.1, hst.2.2⟩ hfr hS hn
  refine va_mmax hx hb (hml.trans hfr.2.2.1.1.symm) hown (hts _ hw1) (hts _ hw2) (hts _ hw3) (hts _ hw4) (by omega) (by have := amVs_cat G hst.2.2 hcat; unfold amVs at this; omega) (by omega) (by omega) hd ?_
  have e : (if Int32.ofInt x < Int32.ofInt y then Int32.ofInt y else Int32.ofInt x) = Int32.ofInt (jmax x y) := by
    unfold jmax
    by_cases q : x < y
    · rw [if_pos q, if_pos ((n_lt hst.2.1 hst.1).mpr q)]
    · rw [if_neg q, if_neg (fun g => q ((n_lt hst.2.1 hst.1).mp g))]
  rw [e]
  exact h5
theorem go_min {p : Program} {l : Launch} {e : Env} {s : State} {m : MethodId} {args : Array Value} {below : List Frame} {meth : Method} {c : Code} {D : va_G} {E : Nat → ClassId} {G : amG} {cr : amC} {L : Nat} {xs : Nat → Int32} {mi d n0 : Nat} {R : Room} {r : Int × amM} {Qf : State → Prop} {pc : Nat} {ts tl : List Nat} {call : Nat → List Int → amM → amR} {rt : Nat → Nat × Nat} {k : amJ} {nx : amN} (hC : amCx p s m args meth c D E G cr L xs mi d n0 R r) {i b w : Nat} {z : List (Int × Nat)} (hw1 : Cond.methodLink (amNm (amYt mi).1) i Lib.Math.min.name ∈ amTbl) (hw2 : Cond.static Lib.Math.min.name ∈ amTbl) (hw3 : Cond.initialized "java/lang/Math" ∈ amTbl) (hw4 : Cond.code Lib.Math.min.name Lib.Math.min.code 2 (some .int) ∈ amTbl) (hcat : (ts.map (fun t => if t = 1 then 2 else 1)).sum ≤ 8) (hmono : ∀ st ls μ, amMr μ (nx st ls μ)) (hd : decode (amBy mi) pc = .ok (.invokestatic i, 3)) (h : amGo p l e s m args below meth c D E G cr L xs mi d n0 R r Qf (pc + 3) (0 :: ts) tl nx) : amGo p l e s m args below meth c D E G cr L xs mi d n0 R r Qf pc (0 :: 0 :: ts) tl (stp cr call rt (.invokestatic i, 9997, b, w, z) k nx) := by
  obtain ⟨hx, hb, hml, hown, hts, hK, hR, hlk, hnm, hcr, hsz⟩ := hC
  intro st lc μ n H locs sl hF hH hX hst hfr hS hn
  rcases st with _ | ⟨y, _ | ⟨x, st⟩⟩
  · exact hst.elim
  · exact hst.2.elim
  have hF : nx (jmin x y :: st) lc μ = some r := hF
  have hle := hmono _ _ _ r hF
  have hc0 := hH.cnt
  have hss : amSs n ≤ amSs (amCnt r.2) := amSs_le (by omega)
  have hs2 := amSs_le hn
  have h5 := h (jmin x y :: st) lc μ n H locs sl hF hH hX ⟨by unfold jmin; split <;> first | exact hst.1 | exact hst.2.1, hst.2.2⟩ hfr hS hn
  refine va_mmin hx hb (hml.trans hfr.2.2.1.1.symm) hown (hts _ hw1) (hts _ hw2) (hts _ hw3) (hts _ hw4) (by omega) (by have := amVs_cat G hst.2.2 hcat; unfold amVs at this; omega) (by omega) (by omega) hd ?_
  have e : (if Int32.ofInt y < Int32.ofInt x then Int32.ofInt y else Int32.ofInt x) = Int32.ofInt (jmin x y) := by
    unfold jmin
    by_cases q : y < x
    · rw [if_pos q, if_pos ((n_lt hst.1 hst.2.1).mpr q)]
    · rw [if_neg q, if_neg (fun g => q ((n_lt hst.1 hst.2.1).mp g))]
  rw [e]
  exact h5
theorem go_objInit {p : Program} {l : Launch} {e : Env} {s : State} {m : MethodId} {args : Array Value} {below : List Frame} {meth : Method} {c : Code} {D : va_G} {E : Nat → ClassId} {G : amG} {cr : amC} {L : Nat} {xs : Nat → Int32} {mi d n0 : Nat} {R : Room} {r : Int × amM} {Qf : State → Prop} {pc : Nat} {ts tl : List Nat} {call : Nat → List Int → amM → amR} {rt : Nat → Nat × Nat} {k : amJ} {nx : amN} (hC : amCx p s m args meth c D E G cr L xs mi d n0 R r) {i b w : Nat} {z : List (Int × Nat)} (hw1 : Cond.methodLink (amNm (amYt mi).1) i Lib.objectInit ∈ amTbl) (hw2 : Cond.instanceMethod Lib.objectInit ∈ amTbl) (hw3 : Cond.code Lib.objectInit ⟨#[0xb1]⟩ 1 none ∈ amTbl) (hcat : (ts.map (fun t => if t = 1 then 2 else 1)).sum ≤ 8) (hd : decode (amBy mi) pc = .ok (.invokespecial i, 3)) (h : amGo p l e s m args below meth c D E G cr L xs mi d n0 R r Qf (pc + 3) ts tl nx) : amGo p l e s m args below meth c D E G cr L xs mi d n0 R r Qf pc (2 :: ts) tl (stp cr call rt (.invokespecial i, 9999, b, w, z) k nx) := by
  obtain ⟨hx, hb, hml, hown, hts, hK, hR, hlk, hnm, hcr, hsz⟩ := hC
  intro st lc μ n H locs sl hF hH hX hst hfr hS hn
  rcases st with _ | ⟨x, st⟩
  · exact hst.elim
  have hF : (if 0 ≤ x then nx st lc μ else none) = some r := hF
  obtain ⟨h0, hF⟩ := if_some hF
  rw [amVs_ref h0]
  have h5 := h st lc μ n H locs sl hF hH hX hst.2 hfr hS hn
  refine W.objInit hx hb hown (hts _ hw1) (hts _ hw2) (hts _ hw3) rfl (hfr.2.2.1.1.trans hml.symm) rfl hd (by omega) ?_ h5
  have h6 := amVs_cat G hst.2 hcat
  show 2 * 0 + _ + 12 ≤ _
  omega
theorem go_copy {p : Program} {l : Launch} {e : Env} {s : State} {m : MethodId} {args : Array Value} {below : List Frame} {meth : Method} {c : Code} {D : va_G} {E : Nat → ClassId} {G : amG} {cr : amC} {L : Nat} {xs : Nat → Int32} {mi d n0 : Nat} {R : Room} {r : Int × amM} {Qf : State → Prop} {pc : Nat} {ts tl : List Nat} {call : Nat → List Int → amM → amR} {rt : Nat → Nat × Nat} {k : amJ} {nx : amN} (hC : amCx p s m args meth c D E G cr L xs mi d n0 R r) {i b w : Nat} {z : List (Int × Nat)} (hw1 : Cond.methodLink (amNm (amYt mi).1) i arraycopyName ∈ amTbl) (hw2 : Cond.native arraycopyName ∈ amTbl) (hw3 : Cond.static arraycopyName ∈ amTbl) (hw4 : Cond.initialized "java/lang/System" ∈ amTbl) (hcat : (ts.map (fun t => if t = 1 then 2 else 1)).sum ≤ 8) (hd : decode (amBy mi) pc = .ok (.invokestatic i, 3)) (h : amGo p l e s m args below meth c D E G cr L xs mi d n0 R r Qf (pc + 3) ts tl nx) : amGo p l e s m args below meth c D E G cr L xs mi d n0 R r Qf pc (0 :: 0 :: 2 :: 0 :: 2 :: ts) tl (stp cr call rt (.invokestatic i, 9999, b, w, z) k nx) := by
  obtain ⟨hx, hb, hml, hown, hts, hK, hR, hlk, hnm, hcr, hsz⟩ := hC
  intro st lc μ n H locs sl hF hH hX hst hfr hS hn
  rcases st with _ | ⟨nn, _ | ⟨j, _ | ⟨y, _ | ⟨i0, _ | ⟨x, st⟩⟩⟩⟩⟩
  · exact hst.elim
  · exact hst.2.elim
  · exact hst.2.2.elim
  · exact hst.2.2.2.elim
  · exact hst.2.2.2.2.elim
  have hF : amCpy μ x i0 y j nn (fun μ => nx st lc μ) = some r := hF
  obtain ⟨⟨hx20, hy20⟩, hF⟩ := if_some hF
  obtain ⟨⟨b1, b2, b3, b4, b5⟩, h2⟩ := if_some hF
  obtain ⟨hn1, hj1, hy1, hi1, hx1, hst⟩ := hst
  obtain ⟨g1, g2, g3, g4, g5, g6⟩ := tg_shp hx20 (by omega)
  have hlt := amOk_lt hx1 g4 g5 g6
  have he := amWs_get (E := E) (G := G) (C := amCt cr μ) hlt
  rw [amCellE_arr g2 (by omega), amCt_arr hcr μ g2 (by omega) (by omega), amArr_i _ (by decide) (by decide)] at he
  obtain ⟨f1, f2, f3, f4, f5, f6⟩ := tg_shp hy20 (by omega)
  have flt := amOk_lt hy1 f4 f5 f6
  have fe := amWs_get (E := E) (G := G) (C := amCt cr μ) flt
  rw [amCellE_arr f2 (by omega), amCt_arr hcr μ f2 (by omega) (by omega), amArr_i _ (by decide) (by decide)] at fe
  rw [amLn_arr g1 g4 g5] at b4
  rw [amLn_arr f1 f4 f5] at b5
  have e1 : amVs G (0 :: 0 :: 2 :: 0 :: 2 :: ts) (nn :: j :: y :: i0 :: x :: st) = .int (Int32.ofInt nn) :: .int (Int32.ofInt j) :: .ref (G.1 + y.toNat) :: .int (Int32.ofInt i0) :: .ref (G.1 + x.toNat) :: amVs G ts st := by
    rw [← amAd_lt (G := G) g3, ← amVal_ref hx1.1, ← amAd_lt (G := G) f3, ← amVal_ref hy1.1]; rfl
  rw [e1]
  have c1 := n_clamp hn1
  have c2 := n_clamp hj1
  have c3 := n_clamp hi1
  have nl : ∀ {a : Int}, R32 a → 0 ≤ a → ¬ Int32.ofInt a < 0 := fun ha h0 q => by
    have := (n_lt ha R32_0).mp q
    omega
  refine va_copyi hx hb (hml.trans hfr.2.2.1.1.symm) hown (hts _ hw1) (hts _ hw2) (hts _ hw3) (hts _ hw4) hK.1 hH.1 amWs_D hS x.toNat y.toNat 0 0 he fe rfl rfl rfl (nl hi1 b1) (nl hj1 b2) (nl hn1 b3) (by rw [c1, c3]; omega) (by rw [c1, c2]; omega) (fun _ _ => rfl) (by omega) (by have := amVs_cat G hst hcat; show _ + (7 + 11) ≤ _; omega) hd (fun H1 locs1 hP1 _ hS1 => ?_)
  rw [c1, c2, c3] at hP1
  have hrow : amCt cr (upr μ y.toNat (fun k => if j.toNat ≤ k ∧ k < j.toNat + nn.toNat then μ x.toNat (i0.toNat + (k - j.toNat)) else μ y.toNat k)) y.toNat = fun k => if j.toNat ≤ k ∧ k < j.toNat + nn.toNat then μ x.toNat (i0.toNat + (k - j.toNat)) else μ y.toNat k := by
    rw [amCt_arr hcr _ f2 (by omega) (by omega)]
    unfold upr
    rw [if_pos rfl]
  have hoth : ∀ c, c ≠ y.toNat → amCt cr (upr μ y.toNat (fun k => if j.toNat ≤ k ∧ k < j.toNat + nn.toNat then μ x.toNat (i0.toNat + (k - j.toNat)) else μ y.toNat k)) c = amCt cr μ c := by
    intro c hc
    funext q
    unfold amCt upr
    rw [if_neg hc]
  refine h st lc _ n H1 locs1 sl h2 ⟨?_, fun c hc q hq => ?_, ?_, hH.2.2.2⟩ ?_ hst hfr hS1 hn
  · rw [← amWs_set (C := amCt cr μ) (k := y.toNat) (fun c _ e => hoth c e), amCellE_arr f2 (by omega), hrow, amArr_i _ (by decide) (by decide)]
    have e2 : (fun k => Int32.ofInt (if j.toNat ≤ k ∧ k < j.toNat + nn.toNat then μ x.toNat (i0.toNat + (k - j.toNat)) else μ y.toNat k)) = va_cpy (fun j => Int32.ofInt (μ x.toNat j)) (fun j => Int32.ofInt (μ y.toNat j)) i0.toNat j.toNat nn.toNat := by
      funext q
      unfold va_cpy
      split <;> rfl
    rw [e2]
    exact hP1
  · by_cases ec : c = y.toNat
    · subst ec
      rw [hrow]
      have r1 := hH.2.1 y.toNat flt q hq
      rw [amCt_arr hcr μ f2 (by omega) (by omega)] at r1
      by_cases eq : j.toNat ≤ q ∧ q < j.toNat + nn.toNat
      · simp only [eq, and_self, if_true]
        have r2 := hH.2.1 x.toNat hlt (i0.toNat + (q - j.toNat)) (by omega)
        rw [amCt_arr hcr μ g2 (by omega) (by omega)] at r2
        rw [amSl_arr g2 (by omega)] at r2
        rw [amSl_arr f2 (by omega)]
        exact r2
      · simp only [eq, if_false]
        exact r1
    · rw [hoth c ec]
      exact hH.2.1 c hc q hq
  · unfold upr
    rw [if_neg (by omega)]
    exact hH.2.2.1
  · unfold amX upr
    rw [if_neg (by omega)]
    exact hX
