/-! THE REFERENCE'S DATA AND WRITES -/
theorem lt1_nm {β : Type} {x : HS} {f : HS → Option β} {y : Option β} (h : ∀ v, v = x → f v = y) : lt1 x f = y := h x rfl
theorem okI {σ : HS} {f M n k L : Nat} {x : Int32} (e : gr σ f M = n ∧ kd σ n = k ∧ ln σ n = L) (hi : inb x L) : kd σ (gr σ f M) = k ∧ inb x (ln σ (gr σ f M)) := by
  rw [e.1]; exact ⟨e.2.1, by rw [e.2.2]; exact hi⟩
theorem add_lk (A : AS) (d : Nat) (k i : Int32) : zlk (aAdd A d k i) = zlk A := rfl
theorem add_lp (A : AS) (d : Nat) (k i : Int32) : zlp (aAdd A d k i) = zlp A := rfl
theorem add_tf (A : AS) (d : Nat) (k i : Int32) : ztf (aAdd A d k i) = ztf A := rfl
theorem add_ow (A : AS) (d : Nat) (k i : Int32) : zow (aAdd A d k i) = zow A := rfl
theorem add_l (A : AS) (d : Nat) (k i : Int32) (x : Nat) : zl (aAdd A d k i) x = if x = d then (k, i) :: zl A d else zl A x := rfl
theorem add_ln (A : AS) {d : Nat} (k i : Int32) {x : Nat} (h : x ≠ d) : zl (aAdd A d k i) x = zl A x := if_neg h
theorem add_7 (A : AS) (d : Nat) (k i : Int32) : zsc (aAdd A d k i) 7 = zsc A 7 + 1 := rfl
theorem add_6 (A : AS) (d : Nat) (k i : Int32) : zsc (aAdd A d k i) 6 = zsc A 6 + 1 := rfl
theorem add_ne (A : AS) (d : Nat) (k i : Int32) {j : Nat} (h1 : j ≠ 6) (h2 : j ≠ 7) : zsc (aAdd A d k i) j = zsc A j := line_ne _ _ h1 h2
theorem rd3 (σ : HS) {p1 p2 p3 i : Nat} (v1 v2 v3 : Int32) (h12 : p1 ≠ p2) (h13 : p1 ≠ p3) (h23 : p2 ≠ p3) :
    ai (sai (sai (sai σ p1 i v1) p2 i v2) p3 i v3) p1 i = v1 ∧ ai (sai (sai (sai σ p1 i v1) p2 i v2) p3 i v3) p2 i = v2 ∧ ai (sai (sai (sai σ p1 i v1) p2 i v2) p3 i v3) p3 i = v3 := by
  refine ⟨?_, ?_, ai_eq _ _ _ _⟩
  · rw [ai_ne h13, ai_ne h12, ai_eq]
  · rw [ai_ne h23, ai_eq]
theorem rd4 (σ : HS) {p1 p2 p3 p4 i : Nat} (v1 v2 v3 v4 : Int32) (h12 : p1 ≠ p2) (h13 : p1 ≠ p3) (h14 : p1 ≠ p4) (h23 : p2 ≠ p3) (h24 : p2 ≠ p4) (h34 : p3 ≠ p4) :
    ai (sai (sai (sai (sai σ p1 i v1) p2 i v2) p3 i v3) p4 i v4) p1 i = v1 ∧ ai (sai (sai (sai (sai σ p1 i v1) p2 i v2) p3 i v3) p4 i v4) p2 i = v2 ∧ ai (sai (sai (sai (sai σ p1 i v1) p2 i v2) p3 i v3) p4 i v4) p3 i = v3 ∧ ai (sai (sai (sai (sai σ p1 i v1) p2 i v2) p3 i v3) p4 i v4) p4 i = v4 := by
  refine ⟨?_, ?_, ?_, ai_eq _ _ _ _⟩
  · rw [ai_ne h14, ai_ne h13, ai_ne h12, ai_eq]
  · rw [ai_ne h24, ai_ne h23, ai_eq]
  · rw [ai_ne h34, ai_eq]
theorem rmK_perm {s v : Int32} : ∀ {l : List (Int32 × Int32)}, (l.map (fun q => q.1)).Nodup → (s, v) ∈ l → l.Perm ((s, v) :: rmK l s)
  | [], _, h => by cases h
  | x :: l, hn, h => by
    unfold rmK
    rw [List.map_cons] at hn
    have hn' := List.nodup_cons.mp hn
    by_cases e : x.1 = s
    · have hx : (s, v) = x := by
        rcases List.mem_cons.mp h with q | q
        · exact q
        · exact absurd (List.mem_map.mpr ⟨_, q, e.symm⟩) hn'.1
      rw [List.eraseP_cons_of_pos (by simpa using e), hx]
    · rw [List.eraseP_cons_of_neg (by simpa using e)]
      have hm : (s, v) ∈ l := (List.mem_cons.mp h).resolve_left (fun q => e (by rw [← q]))
      exact ((rmK_perm hn'.2 hm).cons x).trans (List.Perm.swap _ _ _)
theorem hasK_iff {l : List (Int32 × Int32)} {s : Int32} : hasK l s = true ↔ ∃ v, (s, v) ∈ l := by
  unfold hasK
  rw [List.any_eq_true]
  constructor
  · rintro ⟨q, h1, h2⟩
    exact ⟨q.2, by rw [← of_decide_eq_true h2]; exact h1⟩
  · rintro ⟨v, h⟩
    exact ⟨_, h, decide_eq_true rfl⟩
def fD (c : Nat) (s : Int32) : Nat × Int32 × Int32 → Bool := fun q => decide (q.1 = c ∧ q.2.1 = s)
section
variable {b m : Nat} {A : AS} {σ : HS} {D : List (Nat × Int32 × Int32)} {V : List (Nat × Int32 × Int32 × Int32)}
theorem RMw.nd (h : RMw b m A σ D V) : gi σ 246 (b + 294) = nI D.length := h.2.2.2.1.2.2.2.2.2.1
theorem RMw.nv (h : RMw b m A σ D V) : gi σ 250 (b + 294) = nI V.length := h.2.2.2.1.2.2.2.2.2.2.1
theorem RMw.re (h : RMw b m A σ D V) : zsc A 6 = nI (D.length + V.length + 2 * cntL A) := h.2.2.2.1.2.2.2.2.2.2.2.2.2.2.2.2.2.1
theorem RMw.bo (h : RMw b m A σ D V) : D.length + V.length + 2 * cntL A ≤ m := h.2.2.2.1.2.2.2.2.2.2.2.2.2.2.2.2.2.2
theorem dataAt_L (h : RMw b m A σ D V) (hm : m ≤ 3001) (hD : D.length ≤ 3000) {c : Nat} (hc : c < 256) (s : Int32) : ∀ (r N i : Nat), i + r = D.length → r < N →
    L_X6_dataAt_2 N (b + 294) (nI c) s (nI i) σ = some (match (D.drop i).findIdx? (fD c s) with | none => -1 | some j => nI (i + j), σ) := by
  have e0 := h.nd
  obtain ⟨h1, h2, h3, h4, h5, h6⟩ := h
  obtain ⟨g1, g2, g3⟩ := h1.g247
  obtain ⟨g4, g5, g6⟩ := h1.g248
  intro r
  induction r with
  | zero =>
    intro N i hi hN
    obtain ⟨N, rfl⟩ : ∃ M, N = M + 1 := ⟨N - 1, by omega⟩
    simp only [L_X6_dataAt_2, B_X6_dataAt_2]
    rw [if_pos h1.2.1, e0, if_pos (nI_le (by omega) (by omega)), List.drop_of_length_le (by omega)]
    rfl
  | succ r ih =>
    intro N i hi hN
    obtain ⟨N, rfl⟩ : ∃ M, N = M + 1 := ⟨N - 1, by omega⟩
    have hil : i < D.length := by omega
    have hg : D[i]? = some D[i] := List.getElem?_eq_getElem hil
    obtain ⟨v1, v2, v3, v4⟩ := h5.1 i _ hg
    have v1' : ai σ (b + 295) (nI i).toNatClampNeg = nI D[i].1 := by rw [nI_clamp (by omega)]; exact v1
    have v2' : ai σ (b + 296) (nI i).toNatClampNeg = D[i].2.1 := by rw [nI_clamp (by omega)]; exact v2
    have next := ih N (i + 1) (by omega) (by omega)
    have fin : some (match Option.map (fun i => i + 1) ((D.drop (i + 1)).findIdx? (fD c s)) with | none => (-1 : Int32) | some j => nI (i + j), σ) = some (match (D.drop (i + 1)).findIdx? (fD c s) with | none => -1 | some j => nI (i + 1 + j), σ) := by
      cases (D.drop (i + 1)).findIdx? (fD c s) with
      | none => rfl
      | some j => simp only [Option.map_some]; rw [show i + 1 + j = i + (j + 1) by omega]
    simp only [L_X6_dataAt_2, B_X6_dataAt_2, B_X6_dataAt_32]
    rw [if_pos h1.2.1, e0, if_neg (nI_ge hil (by omega)), g1, g3, if_pos ⟨g2, inb_nI (by omega) (by decide)⟩, v1', nI_1, next, List.drop_eq_getElem_cons hil, List.findIdx?_cons]
    by_cases e : D[i].1 = c
    · rw [if_pos (by rw [e]), g4, g6, if_pos ⟨g5, inb_nI (by omega) (by decide)⟩, v2']
      by_cases e2 : D[i].2.1 = s
      · rw [if_pos e2, if_pos (decide_eq_true ⟨e, e2⟩)]
        simp
      · rw [if_neg e2, if_neg (by simp [fD, e2])]
        exact fin.symm
    · rw [if_neg (fun q => e ((nI_eq (by omega) (by omega)).mp q)), if_neg (by simp [fD, e])]
      exact fin.symm
theorem rm_dataAt (h : RMw b m A σ D V) (hm : m ≤ 3001) (hD : D.length ≤ 3000) {c : Nat} (hc : c < 256) (s : Int32) : F_X6_dataAt (b + 294) (nI c) s σ = some (match D.findIdx? (fD c s) with | none => -1 | some j => nI j, σ) := by
  have := dataAt_L h hm hD hc s D.length NF 0 (by omega) (by have : NF = 100000 := rfl; omega)
  rw [nI_0, List.drop_zero] at this
  simp only [Nat.zero_add] at this
  exact this
theorem fD_some {c : Nat} {s : Int32} {d : Nat} (h : D.findIdx? (fD c s) = some d) : ∃ v, D[d]? = some (c, s, v) ∧ d < D.length := by
  obtain ⟨hj, h1, h2⟩ := List.findIdx?_eq_some_iff_getElem.mp h
  obtain ⟨e1, e2⟩ := of_decide_eq_true h1
  refine ⟨D[d].2.2, ?_, hj⟩
  rw [List.getElem?_eq_getElem hj, ← e1, ← e2]
theorem fD_none {c : Nat} {s : Int32} (h : D.findIdx? (fD c s) = none) : ∀ q ∈ D, ¬ (q.1 = c ∧ q.2.1 = s) := by
  intro q hq
  have := List.findIdx?_eq_none_iff.mp h q hq
  simpa [fD] using this
theorem Mda.mem (h : Mda b A σ D) {c : Nat} (hc : c < 256) {s v : Int32} : (s, v) ∈ zl A (2 * c) ↔ (c, s, v) ∈ D := by
  rw [← (h.2 c hc).mem_iff]
  simp
theorem rm_addData (h : RMw b m A σ D V) (hm : m < 3000) {c : Nat} (hc : c < 256) (s v : Int32) : ∃ τ, F_X6_addData (b + 294) (nI c) s v σ = some ((), τ) ∧ RMw b (m + 1) (aAdd A (2 * c) s v) τ (D ++ [(c, s, v)]) V ∧ Mst b σ τ := by
  have e0 := h.nd
  have e1 := h.nv
  have e6 := h.re
  have eb := h.bo
  obtain ⟨h1, h2, h3, h4, h5, h6⟩ := h
  have hi : inb (nI D.length) 3000 := inb_nI (by omega) (by decide)
  have w1 : Mst b σ (sai σ (b + 295) D.length (nI c)) := Mst.rf.sai (by omega)
  refine ⟨si (si (sai (sai (sai σ (b + 295) D.length (nI c)) (b + 296) D.length s) (b + 297) D.length v) 246 (b + 294) (nI D.length + 1)) 267 (b + 294) (gi σ 267 (b + 294) + 1), ?_, ?_, ((((Mst.rf.sai (by omega)).sai (by omega)).sai (by omega)).si (by decide)).si (by decide)⟩
  · unfold F_X6_addData
    refine (if_pos h1.2.1).trans ((if_pos ?_).trans ?_)
    · rw [e0]; exact okI h1.g247 hi
    · rw [h1.g247.1, e0, nI_clamp (by omega)]
      have s1 := h1.keepM w1
      have t1 : gi (sai σ (b + 295) D.length (nI c)) 246 (b + 294) = nI D.length := by rw [gi_sai]; exact e0
      refine (if_pos (by rw [t1]; exact okI s1.g248 hi)).trans (lt1_nm (fun σ4 q4 => ?_))
      rw [s1.g248.1, t1, nI_clamp (by omega)] at q4
      have t4 : gi σ4 246 (b + 294) = nI D.length := by rw [q4, gi_sai, gi_sai]; exact e0
      have s4 : ShM b σ4 := by rw [q4]; exact s1.keepM (Mst.rf.sai (by omega))
      refine (if_pos (by rw [t4]; exact okI s4.g249 hi)).trans (lt1_nm (fun σ6 q6 => ?_))
      rw [s4.g249.1, t4, nI_clamp (by omega)] at q6
      have t4' : gi (sai σ4 (b + 297) D.length v) 246 (b + 294) = nI D.length := by rw [gi_sai]; exact t4
      rw [t4'] at q6
      rw [q6, gi_ne (by decide), gi_sai, q4, gi_sai, gi_sai]
  · refine ⟨h1.keepM (((((Mst.rf.sai (by omega)).sai (by omega)).sai (by omega)).si (by decide)).si (by decide)), h2.keep ((((SA.rf.sai (by omega)).sai (by omega)).sai (by omega)).si.si) (add_lk _ _ _ _) (add_lp _ _ _ _), h3.keep ((((SA.rf.sai (by omega)).sai (by omega)).sai (by omega)).si.si) (add_tf _ _ _ _) (add_ow _ _ _ _), ?_, ⟨fun i q hq => ?_, fun c' hc' => ?_⟩, h6.keep ((((SA.rf.sai (by omega)).sai (by omega)).sai (by omega)).si.si) (fun c' _ => add_ln _ _ _ (by omega))⟩
    · rw [cntL_cg (add_lk A (2 * c) s v), List.length_append, List.length_singleton]
      generalize cntL A = n0 at *
      refine h4.up (fun j j1 j2 => add_ne _ _ _ _ j1 j2) (add_7 _ _ _ _) ?_ (fun f f1 f2 f3 f4 => by rw [gi_ne f4, gi_ne f1, gi_sai, gi_sai, gi_sai]) (by rw [gi_ne (by decide), gi_eq]; exact nI_1 _) (by rw [gi_ne (by decide), gi_ne (by decide)]; simp only [gi_sai]; exact e1) (by rw [gi_ne (by decide), gi_ne (by decide)]; simp only [gi_sai]; exact h4.2.2.2.2.2.2.2.1) (by rw [gi_eq]) (by omega)
      rw [add_6, e6, nI_1, show D.length + V.length + 2 * n0 + 1 = D.length + 1 + V.length + 2 * n0 by omega]
    · simp only [ai_si]
      by_cases e : i = D.length
      · subst e
        rw [List.getElem?_append_right (Nat.le_refl _), Nat.sub_self] at hq
        have hq : q = (c, s, v) := by simpa using hq.symm
        subst hq
        obtain ⟨r1, r2, r3⟩ := rd3 σ (p1 := b + 295) (p2 := b + 296) (p3 := b + 297) (i := D.length) (nI c) s v (by omega) (by omega) (by omega)
        exact ⟨r1, r2, r3, hc⟩
      · have hlt : i < D.length := by
          have := (List.getElem?_eq_some_iff.mp hq).1
          simp at this; omega
        rw [List.getElem?_append_left hlt] at hq
        simp only [ai_nj e]
        exact h5.1 i q hq
    · rw [List.filter_append, List.map_append]
      rw [add_l]
      by_cases e : c' = c
      · subst e
        rw [if_pos rfl]
        simp only [List.filter_cons, decide_true, if_true, List.filter_nil, List.map_cons, List.map_nil]
        exact (List.perm_append_singleton _ _).trans ((h5.2 c' hc').cons _)
      · rw [if_neg (by omega)]
        have : ([(c, s, v)].filter (fun q => decide (q.1 = c'))) = [] := by
          simp only [List.filter_cons, List.filter_nil]
          rw [if_neg (by simpa using fun q => e q.symm)]
        rw [this, List.map_nil, List.append_nil]
        exact h5.2 c' hc'
theorem rm_addWrite (h : RMw b m A σ D V) (hm : m < 3000 + 2 * cntL A) {c : Nat} (hc : c < 256) (k s : Int32) {r : Int32} (hr : r = 0 ∨ r = 1) (hs : r = 0 → ¬ s = 0) : ∃ τ, F_X6_addWrite (b + 294) (nI c) k s r σ = some ((), τ) ∧ RMw b (m + 1) (aAdd A (2 * c + 1) k (if r = 0 then s else 0)) τ D (V ++ [(c, k, s, r)]) ∧ Mst b σ τ := by
  have e0 := h.nd
  have e1 := h.nv
  have e6 := h.re
  have eb := h.bo
  obtain ⟨h1, h2, h3, h4, h5, h6⟩ := h
  have hi : inb (nI V.length) 3000 := inb_nI (by omega) (by decide)
  have w1 : Mst b σ (sai σ (b + 298) V.length (nI c)) := Mst.rf.sai (by omega)
  refine ⟨si (si (sai (sai (sai (sai σ (b + 298) V.length (nI c)) (b + 299) V.length k) (b + 300) V.length s) (b + 301) V.length r) 250 (b + 294) (nI V.length + 1)) 267 (b + 294) (gi σ 267 (b + 294) + 1), ?_, ?_, (((((Mst.rf.sai (by omega)).sai (by omega)).sai (by omega)).sai (by omega)).si (by decide)).si (by decide)⟩
  · unfold F_X6_addWrite
    refine (if_pos h1.2.1).trans ((if_pos ?_).trans ?_)
    · rw [e1]; exact okI h1.g251 hi
    · rw [h1.g251.1, e1, nI_clamp (by omega)]
      have s1 := h1.keepM w1
      have t1 : gi (sai σ (b + 298) V.length (nI c)) 250 (b + 294) = nI V.length := by rw [gi_sai]; exact e1
      refine (if_pos (by rw [t1]; exact okI s1.g252 hi)).trans (lt1_nm (fun σ4 q4 => ?_))
      rw [s1.g252.1, t1, nI_clamp (by omega)] at q4
      have t4 : gi σ4 250 (b + 294) = nI V.length := by rw [q4, gi_sai, gi_sai]; exact e1
      have s4 : ShM b σ4 := by rw [q4]; exact s1.keepM (Mst.rf.sai (by omega))
      refine (if_pos (by rw [t4]; exact okI s4.g253 hi)).trans ?_
      rw [s4.g253.1, t4, nI_clamp (by omega)]
      have t5 : gi (sai σ4 (b + 300) V.length s) 250 (b + 294) = nI V.length := by rw [gi_sai]; exact t4
      have s5 : ShM b (sai σ4 (b + 300) V.length s) := s4.keepM (Mst.rf.sai (by omega))
      refine (if_pos (by rw [t5]; exact okI s5.g254 hi)).trans ((if_pos hr).trans (lt1_nm (fun σ8 q8 => lt1_nm (fun σ9 q9 => ?_))))
      rw [s5.g254.1, t5, nI_clamp (by omega)] at q8
      have t8 : gi σ8 250 (b + 294) = nI V.length := by rw [q8, gi_sai, gi_sai]; exact t4
      rw [t8, gi_ne (by decide)] at q9
      rw [q9, q8, gi_sai, gi_sai, q4, gi_sai, gi_sai]
  · refine ⟨h1.keepM ((((((Mst.rf.sai (by omega)).sai (by omega)).sai (by omega)).sai (by omega)).si (by decide)).si (by decide)), h2.keep (((((SA.rf.sai (by omega)).sai (by omega)).sai (by omega)).sai (by omega)).si.si) (add_lk _ _ _ _) (add_lp _ _ _ _), h3.keep (((((SA.rf.sai (by omega)).sai (by omega)).sai (by omega)).sai (by omega)).si.si) (add_tf _ _ _ _) (add_ow _ _ _ _), ?_, h5.keep (((((SA.rf.sai (by omega)).sai (by omega)).sai (by omega)).sai (by omega)).si.si) (fun c' _ => add_ln _ _ _ (by omega)), ⟨fun i q hq => ?_, fun c' hc' => ?_⟩⟩
    · rw [cntL_cg (add_lk A (2 * c + 1) k (if r = 0 then s else 0)), List.length_append, List.length_singleton]
      generalize cntL A = n0 at *
      refine h4.up (fun j j1 j2 => add_ne _ _ _ _ j1 j2) (add_7 _ _ _ _) ?_ (fun f f1 f2 f3 f4 => by rw [gi_ne f4, gi_ne f2, gi_sai, gi_sai, gi_sai, gi_sai]) (by rw [gi_ne (by decide), gi_ne (by decide)]; simp only [gi_sai]; exact e0) (by rw [gi_ne (by decide), gi_eq]; exact nI_1 _) (by rw [gi_ne (by decide), gi_ne (by decide)]; simp only [gi_sai]; exact h4.2.2.2.2.2.2.2.1) (by rw [gi_eq]) (by omega)
      rw [add_6, e6, nI_1, show D.length + V.length + 2 * n0 + 1 = D.length + (V.length + 1) + 2 * n0 by omega]
    · simp only [ai_si]
      by_cases e : i = V.length
      · subst e
        rw [List.getElem?_append_right (Nat.le_refl _), Nat.sub_self] at hq
        have hq : q = (c, k, s, r) := by simpa using hq.symm
        subst hq
        obtain ⟨r1, r2, r3, r4⟩ := rd4 σ (p1 := b + 298) (p2 := b + 299) (p3 := b + 300) (p4 := b + 301) (i := V.length) (nI c) k s r (by omega) (by omega) (by omega) (by omega) (by omega) (by omega)
        exact ⟨r1, r2, r3, r4, hc, hr, hs⟩
      · have hlt : i < V.length := by
          have := (List.getElem?_eq_some_iff.mp hq).1
          simp at this; omega
        rw [List.getElem?_append_left hlt] at hq
        simp only [ai_nj e]
        exact h6.1 i q hq
    · rw [List.filter_append, List.map_append]
      rw [add_l]
      by_cases e : c' = c
      · subst e
        rw [if_pos rfl]
        simp only [List.filter_cons, decide_true, if_true, List.filter_nil, List.map_cons, List.map_nil]
        exact (List.perm_append_singleton _ _).trans ((h6.2 c' hc').cons _)
      · rw [if_neg (by omega)]
        have : ([(c, k, s, r)].filter (fun q => decide (q.1 = c'))) = [] := by
          simp only [List.filter_cons, List.filter_nil]
          rw [if_neg (by simpa using fun q => e q.symm)]
        rw [this, List.map_nil, List.append_nil]
        exact h6.2 c' hc'
end
