/-! SWEEPING (reference) -/
section
variable {p : Nat → Nat} {m : Nat} {A B : AS} {σ : HS} {c : Nat} {X : List (Int32 × Int32)} {D : List (Nat × Int32 × Int32)} {V : List (Nat × Int32 × Int32 × Int32)}
theorem RMo.prm {C : AS} (h : RMo p m B σ) (e1 : zlk C = zlk B) (e2 : zlp C = zlp B) (e3 : ztf C = ztf B) (e4 : zow C = zow B) (e5 : zsc C = zsc B) (e6 : ∀ d, (zl B d).Perm (zl C d)) : RMo p m C σ := by
  obtain ⟨h1, h2, h3, D, V, h4, h5, h6⟩ := h
  refine ⟨h1, h2.keep SA.rf e1 e2, h3.keep SA.rf e3 e4, D, V, ?_, ⟨h5.1, fun c hc => (h5.2 c hc).trans (e6 _)⟩, ⟨h6.1, fun c hc => (h6.2 c hc).trans (e6 _)⟩⟩
  rw [cntL_cg e1]
  unfold Msc at h4 ⊢
  rw [e5]
  exact h4
def selS (c : Nat) (t : Int32) : Nat × Int32 × Int32 × Int32 → Bool := fun q => decide (q.1 = c ∧ q.2.2.2 = 0 ∧ ¬ t < q.2.1)
theorem moBest_L (h : RMw p m A σ D V) (hV : V.length ≤ 3000) (hc : c < 256) (t : Int32) : ∀ (r N i : Nat) (b : Int32), i + r = V.length → r < N →
    L_X6_sweepCell_5 N (p 294) (nI c) t b (nI i) σ = L_X6_sweepCell_90 NF (p 294) (nI c) t (bmax (((V.drop i).filter (selS c t)).map (fun q => q.2.1)) b) (nI 0) σ := by
  have S := h.1
  have e0 := h.nv
  intro r
  induction r with
  | zero =>
    intro N i b hi hN
    obtain ⟨N, rfl⟩ : ∃ M, N = M + 1 := ⟨N - 1, by omega⟩
    simp only [L_X6_sweepCell_5, B_X6_sweepCell_5]
    rw [if_pos S.km, e0, if_pos (nI_le (by omega) (by omega)), List.drop_of_length_le (by omega), nI_0]
    rfl
  | succ r ih =>
    intro N i b hi hN
    obtain ⟨N, rfl⟩ : ∃ M, N = M + 1 := ⟨N - 1, by omega⟩
    have hil : i < V.length := by omega
    obtain ⟨v1, v2, v3, v4, v5, v6, v7, v8⟩ := h.vr hil hV
    rw [List.drop_eq_getElem_cons hil]
    simp only [L_X6_sweepCell_5, B_X6_sweepCell_5, B_X6_sweepCell_50, B_X6_sweepCell_51, B_X6_sweepCell_79, B_X6_sweepCell_80]
    rw [if_pos S.km, e0, if_neg (nI_ge hil (by omega))]
    simp only [S.km, S.r251, S.k251, S.l251, S.r252, S.k252, S.l252, S.r254, S.k254, S.l254, true_and, if_true, v1, v2, v4, if_pos v8, nI_1]
    by_cases e1 : V[i].1 = c
    · rw [if_pos (by rw [e1])]
      by_cases e2 : V[i].2.2.2 = 0
      · rw [if_pos e2]
        by_cases e3 : t < V[i].2.1
        · rw [if_pos e3, List.filter_cons_of_neg (by simp [selS, e3])]
          exact ih N (i + 1) b (by omega) (by omega)
        · rw [if_neg e3, List.filter_cons_of_pos (show selS c t V[i] = true from decide_eq_true ⟨e1, e2, e3⟩), List.map_cons, bmax_cons, if_neg (show ¬ (1 : Int32) = 0 by decide)]
          by_cases e4 : V[i].2.1 ≤ b
          · rw [if_pos e4, if_pos e4]
            exact ih N (i + 1) b (by omega) (by omega)
          · rw [if_neg e4, if_neg e4]
            exact ih N (i + 1) _ (by omega) (by omega)
      · rw [if_neg e2, List.filter_cons_of_neg (by simp [selS, e2])]
        exact ih N (i + 1) b (by omega) (by omega)
    · rw [if_neg (fun q => e1 ((nI_eq (by omega) (by omega)).mp q)), List.filter_cons_of_neg (by simp [selS, e1])]
      exact ih N (i + 1) b (by omega) (by omega)
/-- the best ticket is the one whose write is the best -/
theorem best_eq (h : Mwr p A σ V) (hc : c < 256) (hP : Pce A c) (t : Int32) {q : Int32 × Int32} (hq : q ∈ zl A (2 * c + 1)) (h1 : q.1 ≤ t) (h2 : ¬ q.2 = 0) : q.1 = bmax ((V.filter (selS c t)).map (fun q => q.2.1)) (-1) ↔ bW (zl A (2 * c + 1)) t = some q := by
  obtain ⟨b1, b2, b3⟩ := bmax_ge ((V.filter (selS c t)).map (fun q => q.2.1)) (-1)
  generalize hbm : bmax ((V.filter (selS c t)).map (fun q => q.2.1)) (-1) = bm at b1 b2 b3 ⊢
  have inK : ∀ x, x ∈ zl A (2 * c + 1) → x.1 ≤ t → ¬ x.2 = 0 → x.1 ≤ bm := by
    intro x hx x1 x2
    obtain ⟨q', g1, g2, g3⟩ := (h.mem hc).mp hx
    apply b2
    refine List.mem_map.mpr ⟨q', List.mem_filter.mpr ⟨g1, decide_eq_true ⟨g2, ?_, ?_⟩⟩, by rw [← g3]; rfl⟩
    · by_cases g4 : q'.2.2.2 = 0
      · exact g4
      · exfalso; apply x2; rw [← g3]; unfold wv; simp only [g4, if_false]
    · rw [← g3] at x1; exact Int32.not_lt.mpr x1
  have mx : ∀ x, x ∈ zl A (2 * c + 1) → x.1 ≤ t → ¬ x.2 = 0 → x.1 = bm → bW (zl A (2 * c + 1)) t = some x := by
    intro x hx x1 x2 x3
    refine find_max hP.1 hx (decide_eq_true ⟨x1, x2⟩) (fun y hy hy2 => ?_)
    obtain ⟨y1, y2⟩ := of_decide_eq_true hy2
    rw [x3]; exact inK y hy y1 y2
  constructor
  · intro e; exact mx q hq h1 h2 e
  · intro e
    have hle := inK q hq h1 h2
    have hpos := (hP.2.2.1 q hq).1
    rcases b3 with g | g
    · exfalso
      rw [g] at hle
      exact absurd (Int32.lt_of_lt_of_le hpos hle) (by decide)
    · obtain ⟨q', f1, f2⟩ := List.mem_map.mp g
      obtain ⟨f3, f4⟩ := List.mem_filter.mp f1
      obtain ⟨f5, f6, f7⟩ := of_decide_eq_true f4
      have hw2 : (wv q').2 = q'.2.2.1 := by unfold wv; rw [if_pos f6]
      obtain ⟨j, hj⟩ := List.getElem?_of_mem f3
      have hx : wv q' ∈ zl A (2 * c + 1) := (h.mem hc).mpr ⟨q', f3, f5, rfl⟩
      have := mx (wv q') hx (Int32.not_lt.mp f7) (by rw [hw2]; exact (h.1 j q' hj).2.2.2.2.2.2 f6) f2
      rw [e] at this
      injection this with this
      rw [this]; exact f2
theorem moSwp_L (hP : Pce A c) (hc : c < 256) (t best : Int32) (hbest : ∀ q ∈ zl A (2 * c + 1), q.1 ≤ t → ¬ q.2 = 0 → (q.1 = best ↔ bW (zl A (2 * c + 1)) t = some q)) : ∀ (r N w : Nat) (B : AS) (σ : HS) (X : List (Int32 × Int32)) (D : List (Nat × Int32 × Int32)) (V : List (Nat × Int32 × Int32 × Int32)),
    RMw p 3000 B σ D V → SWr A B c X → (∀ x ∈ X, gG (zl A (2 * c + 1)) (zl A (2 * c)) t x = true) → (zl B (2 * c)).Sublist (zl A (2 * c)) → (∀ j q, j < w → V[j]? = some q → q.1 = c → gG (zl A (2 * c + 1)) (zl A (2 * c)) t (wv q) = false) → w + r = V.length → r < N →
    ∃ τ B' X', L_X6_sweepCell_90 N (p 294) (nI c) t best (nI w) σ = some ((), τ) ∧ RMo p 3000 B' τ ∧ SWr A B' c X' ∧ (∀ x ∈ X', gG (zl A (2 * c + 1)) (zl A (2 * c)) t x = true) ∧ (∀ x ∈ zl B' (2 * c + 1), gG (zl A (2 * c + 1)) (zl A (2 * c)) t x = false) ∧ Mst p σ τ := by
  intro r
  induction r with
  | zero =>
    intro N w B σ X D V h hS hX hsub hw hr hN
    obtain ⟨N, rfl⟩ : ∃ M, N = M + 1 := ⟨N - 1, by omega⟩
    have hb := h.bo
    refine ⟨σ, B, X, ?_, h.mo, hS, hX, fun x hx => ?_, Mst.rf⟩
    · simp only [L_X6_sweepCell_90, B_X6_sweepCell_90]
      rw [if_pos h.1.km, h.nv, if_pos (nI_le (by omega) (by omega))]
    · obtain ⟨q, g1, g2, g3⟩ := (h.2.2.2.2.2.mem hc).mp hx
      obtain ⟨j, hj⟩ := List.getElem?_of_mem g1
      rw [← g3]
      exact hw j q (by have := (List.getElem?_eq_some_iff.mp hj).1; omega) hj g2
  | succ r ih =>
    intro N w B σ X D V h hS hX hsub hw hr hN
    obtain ⟨N, rfl⟩ : ∃ M, N = M + 1 := ⟨N - 1, by omega⟩
    have S := h.1
    have hb := h.bo
    have hwl : w < V.length := by omega
    have hg : V[w]? = some V[w] := List.getElem?_eq_getElem hwl
    obtain ⟨v1, v2, v3, v4, v5, v6, v7, v8⟩ := h.vr hwl (by omega)
    have next : V[w].1 = c → gG (zl A (2 * c + 1)) (zl A (2 * c)) t (wv V[w]) = true → True := fun _ _ => trivial
    have stay : (V[w].1 = c → gG (zl A (2 * c + 1)) (zl A (2 * c)) t (wv V[w]) = false) → ∃ τ B' X', L_X6_sweepCell_90 N (p 294) (nI c) t best (nI (w + 1)) σ = some ((), τ) ∧ RMo p 3000 B' τ ∧ SWr A B' c X' ∧ (∀ x ∈ X', gG (zl A (2 * c + 1)) (zl A (2 * c)) t x = true) ∧ (∀ x ∈ zl B' (2 * c + 1), gG (zl A (2 * c + 1)) (zl A (2 * c)) t x = false) ∧ Mst p σ τ := by
      intro hn
      refine ih N (w + 1) B σ X D V h hS hX hsub (fun j q j1 j2 j3 => ?_) (by omega) (by omega)
      by_cases ej : j = w
      · subst ej
        rw [hg] at j2
        injection j2 with j2
        rw [← j2] at j3 ⊢
        exact hn j3
      · exact hw j q (by omega) j2 j3
    simp only [L_X6_sweepCell_90, B_X6_sweepCell_90, B_X6_sweepCell_125, B_X6_sweepCell_126, B_X6_sweepCell_207, B_X6_sweepCell_224, B_X6_sweepCell_183, B_X6_sweepCell_187, B_X6_sweepCell_188]
    rw [if_pos S.km, h.nv, if_neg (nI_ge hwl (by omega))]
    simp only [S.km, S.r251, S.k251, S.l251, S.r252, S.k252, S.l252, S.r253, S.k253, S.l253, S.r254, S.k254, S.l254, true_and, if_true, v1, v2, v3, v4, if_pos v8, nI_1]
    rw [if_neg (show ¬ (1 : Int32) = 0 by decide)]
    by_cases e1 : V[w].1 = c
    · rw [if_pos (by rw [e1])]
      have hmB : wv V[w] ∈ zl B (2 * c + 1) := (h.2.2.2.2.2.mem hc).mpr ⟨V[w], List.getElem_mem hwl, e1, rfl⟩
      have hmA : wv V[w] ∈ zl A (2 * c + 1) := hS.1.mem_iff.mpr (List.mem_append_right _ hmB)
      have nodB := hS.nodB hP
      have hperm : (zl B (2 * c + 1)).Perm (wv V[w] :: rmK (zl B (2 * c + 1)) V[w].2.1) := rmK_perm (s := V[w].2.1) (v := (wv V[w]).2) nodB hmB
      have hXq : gG (zl A (2 * c + 1)) (zl A (2 * c)) t (wv V[w]) = true → ∀ x ∈ wv V[w] :: X, gG (zl A (2 * c + 1)) (zl A (2 * c)) t x = true := by
        intro hg x hx
        rcases List.mem_cons.mp hx with e | e
        · rw [e]; exact hg
        · exact hX x e
      have hVw : V[w]? = some (c, V[w].2) := by rw [hg, ← e1]
      have hwv : wv (c, V[w].2) = wv V[w] := by rw [← e1]
      have keep : ∀ {x : Nat × Int32 × Int32 × Int32} {j : Nat} {q : Nat × Int32 × Int32 × Int32}, j < w → ((V.set w x).dropLast)[j]? = some q → V[j]? = some q := by
        intro x j q j1 j2
        rw [swr_get (by omega), if_neg (by omega)] at j2
        exact j2
      by_cases e2 : t < V[w].2.1
      · rw [if_pos e2]
        exact stay (fun _ => decide_eq_false (fun z => absurd e2 (Int32.not_lt.mpr z.1)))
      · rw [if_neg e2]
        have e2' : V[w].2.1 ≤ t := Int32.not_lt.mp e2
        by_cases e3 : V[w].2.2.2 = 0
        · rw [if_pos e3]
          have hw2 : (wv V[w]).2 = V[w].2.2.1 := by unfold wv; rw [if_pos e3]
          have h0 : ¬ (wv V[w]).2 = 0 := by rw [hw2]; exact v7 e3
          have hvo := hS.vo hP hsub hmB h0
          have hbb := hbest _ hmA e2' h0
          have go : gG (zl A (2 * c + 1)) (zl A (2 * c)) t (wv V[w]) = true → ∃ τ B' X', bd (F_X6_dropData (p 294) (nI c) V[w].2.2.1 σ) (fun r4 σ4 => if kd σ4 (p 294) = 7 then bd (F_X6_dropWrite (p 294) (nI w) σ4) (fun r3 σ3 => L_X6_sweepCell_90 N (p 294) (nI c) t best (nI w) σ3) else none) = some ((), τ) ∧ RMo p 3000 B' τ ∧ SWr A B' c X' ∧ (∀ x ∈ X', gG (zl A (2 * c + 1)) (zl A (2 * c)) t x = true) ∧ (∀ x ∈ zl B' (2 * c + 1), gG (zl A (2 * c + 1)) (zl A (2 * c)) t x = false) ∧ Mst p σ τ := by
            intro hgg
            have ndD : ((zl B (2 * c)).map (fun q => q.1)).Nodup := hP.nd.sublist (hsub.map _)
            obtain ⟨v, hv⟩ := (hS.dat hP hmB h0).1
            rw [hw2] at hv
            obtain ⟨σ2, D', a1, a2, a3, a4⟩ := rm_dropData h (by omega) hc V[w].2.2.1 ndD
            have hz : zl (aDropData B c V[w].2.2.1) (2 * c + 1) = zl B (2 * c + 1) := dd_zl B c V[w].2.2.1 (by omega)
            obtain ⟨σ3, x, b1, b2, b3, b4⟩ := rm_dropWrite a2 (by omega) hVw hc (l' := rmK (zl B (2 * c + 1)) V[w].2.1) (by rw [hz, hwv]; exact hperm)
            rw [bd_eq a1, if_pos a2.1.km, bd_eq b1]
            have ed : aDropData B c V[w].2.2.1 = aDel B (2 * c) (rmK (zl B (2 * c)) V[w].2.2.1) := by
              unfold aDropData
              rw [if_pos (hasK_iff.mpr ⟨v, hv⟩)]
            rw [ed] at b3
            obtain ⟨τ, B', X', c1, c2, c3, c4, c5, c6⟩ := ih N w _ σ3 (wv V[w] :: X) D' ((V.set w x).dropLast) b3 (by
              refine hS.st1 (v := v) h0 hperm ?_ ?_ (fun d d1 d2 => ?_) ⟨?_, ?_, ?_, ?_, ?_⟩ (fun j j1 j2 => ?_) ?_ ?_
              · rw [del_l, if_neg (by omega), del_l, if_pos rfl, hw2]; exact rmK_perm ndD hv
              · rw [del_l, if_pos rfl]
              · rw [del_l, if_neg d1, del_l, if_neg d2]
              · rw [del_lk, del_lk]
              · rw [del_lp, del_lp]
              · rw [del_tf, del_tf]
              · rw [del_ow, del_ow]
              · rw [del_nE, del_nE]
              · rw [del_sc _ _ _ j1 j2, del_sc _ _ _ j1 j2]
              · rw [del_6, del_6]
              · rw [del_7, del_7]) (hXq hgg) (by rw [del_l, if_neg (by omega), del_l, if_pos rfl]; exact (List.eraseP_sublist).trans hsub) (fun j q j1 j2 j3 => hw j q j1 (keep j1 j2) j3) (by rw [List.length_dropLast, List.length_set]; omega) (by omega)
            exact ⟨τ, B', X', c1, c2, c3, c4, c5, a3.tr (b4.tr c6)⟩
          rcases rm_val2 h (by omega) hc (hP.2.1.sublist hsub) V[w].2.2.1 with ⟨y1, y2, y3⟩ | ⟨d, y0, y1, y2, y3⟩
          · obtain ⟨v, hv⟩ := (hS.dat hP hmB h0).1
            rw [hw2] at hv
            exact absurd hv (y3 v)
          · have hdi : inb (nI d) 3000 := inb_nI y0 (by decide)
            have hdc : (nI d).toNatClampNeg = d := nI_clamp (by omega)
            rw [bd_eq y1]
            simp only [S.km, S.r249, S.k249, S.l249, S.r252, S.k252, S.l252, S.r253, S.k253, S.l253, true_and, if_true, v2, v3, if_pos v8, if_pos hdi, hdc]
            rw [if_neg (show ¬ nI d < 0 from Int32.not_lt.mpr (nI_pos' (by omega)))]
            simp only [if_neg (show ¬ (1 : Int32) = 0 by decide)]
            by_cases e4 : V[w].2.1 = best
            · rw [if_pos e4]
              have hbw := hbb.mp e4
              by_cases e5 : 0 ≤ ai σ (p 297) d
              · rw [if_pos e5]
                refine stay (fun _ => decide_eq_false (fun z => z.2.elim h0 (fun z => z.elim (fun z => z hbw) (fun z => ?_))))
                rw [← hvo, hw2, y2] at z
                rw [z] at e5
                exact absurd e5 (by decide)
              · rw [if_neg e5]
                refine go (decide_eq_true ⟨e2', Or.inr (Or.inr ?_)⟩)
                rw [← hvo, hw2, y2]
                exact i_neg1 (hP.2.2.2.1 _ (hsub.subset y3)).2.2 e5
            · rw [if_neg e4]
              exact go (decide_eq_true ⟨e2', Or.inr (Or.inl (fun z => e4 (hbb.mpr z)))⟩)
        · rw [if_neg e3]
          have hw2 : (wv V[w]).2 = 0 := by unfold wv; rw [if_neg e3]
          have hgg : gG (zl A (2 * c + 1)) (zl A (2 * c)) t (wv V[w]) = true := decide_eq_true ⟨e2', Or.inl hw2⟩
          obtain ⟨σ3, x, b1, b2, b3, b4⟩ := rm_dropWrite h (by omega) hVw hc (l' := rmK (zl B (2 * c + 1)) V[w].2.1) (by rw [hwv]; exact hperm)
          rw [if_neg (show ¬ (1 : Int32) = 0 by decide), bd_eq b1]
          obtain ⟨τ, B', X', c1, c2, c3, c4, c5, c6⟩ := ih N w _ σ3 (wv V[w] :: X) D ((V.set w x).dropLast) b3 (hS.st0 hw2 hperm (by rw [del_l, if_pos rfl]) (fun d hd => by rw [del_l, if_neg hd]) ⟨del_lk _ _ _, del_lp _ _ _, del_tf _ _ _, del_ow _ _ _, del_nE _ _ _⟩ (fun j j1 j2 => del_sc _ _ _ j1 j2) (del_6 _ _ _) (del_7 _ _ _)) (hXq hgg) (by rw [del_l, if_neg (by omega)]; exact hsub) (fun j q j1 j2 j3 => hw j q j1 (keep j1 j2) j3) (by rw [List.length_dropLast, List.length_set]; omega) (by omega)
          exact ⟨τ, B', X', c1, c2, c3, c4, c5, b4.tr c6⟩
    · rw [if_neg (fun q => e1 ((nI_eq (by omega) (by omega)).mp q))]
      exact stay (fun z => absurd z e1)
theorem mo_sweepCell (h : RMo p 3000 A σ) (hc : c < 256) (hP : Pce A c) (t : Int32) : ∃ τ, F_X6_sweepCell (p 294) (nI c) t σ = some ((), τ) ∧ RMo p 3000 (swp c t 0 (zl A (2 * c + 1)) A) τ ∧ Mst p σ τ := by
  obtain ⟨D, V, hw⟩ := h.wi
  have hb := hw.bo
  have b1 := moBest_L hw (by omega) hc t V.length NF 0 (-1) (by omega) (by have : NF = 100000 := rfl; omega)
  rw [List.drop_zero] at b1
  obtain ⟨τ, B', X', c1, c2, c3, c4, c5, c6⟩ := moSwp_L hP hc t _ (fun q q1 q2 q3 => best_eq hw.2.2.2.2.2 hc hP t q1 q2 q3) V.length NF 0 A σ [] D V hw SWr.rf (fun x hx => by cases hx) (List.Sublist.refl _) (fun j q hj => absurd hj (by omega)) (by omega) (by have : NF = 100000 := rfl; omega)
  refine ⟨τ, ?_, ?_, c6⟩
  · unfold F_X6_sweepCell
    rw [← nI_0, b1, c1]
  · obtain ⟨X2, s1, s2, s3, s4⟩ := swp_all hP t
    obtain ⟨u1, u2⟩ := c3.uni s1 hP (gG (zl A (2 * c + 1)) (zl A (2 * c)) t) c4 s2 c5 (fun x hx => by
      rw [s3] at hx
      have := (List.mem_filter.mp hx).2
      simpa using this)
    obtain ⟨z1, z2, z3, z4, z5⟩ := s1.2.2.2.1
    obtain ⟨y1, y2, y3, y4, y5⟩ := c3.2.2.2.1
    exact c2.prm (z1.trans y1.symm) (z2.trans y2.symm) (z3.trans y3.symm) (z4.trans y4.symm) u2 u1
end
