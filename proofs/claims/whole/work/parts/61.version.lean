/-! THE REFERENCE: VERSION -/
section
variable {p : Nat → Nat} {m : Nat} {A : AS} {σ : HS} {D : List (Nat × Int32 × Int32)} {V : List (Nat × Int32 × Int32 × Int32)}
def pV (c : Nat) (below : Int32) (q : Nat × Int32 × Int32 × Int32) : Prop := q.1 = c ∧ q.2.1 < below
theorem moVer_in (h : RMw p m A σ D V) (hV : V.length ≤ 3000) {c : Nat} (hc : c < 256) (k36 : Nat → Int32 → Int32 → Int32 → Int32 → Int32 → Int32 → HS → Option (Int32 × HS)) (x3 x4 below x8 : Int32) : ∀ (r N i : Nat) (o : Option Nat), i + r = V.length → r < N → oS (pV c below) V i o →
    ∃ o', oS (pV c below) V V.length o' ∧ (o' = none → L_X6_version_48 k36 N (p 294) x3 x4 (nI c) below (oI o) x8 (nI i) σ = some (-1, σ)) ∧ (∀ b qb, o' = some b → V[b]? = some qb → L_X6_version_48 k36 N (p 294) x3 x4 (nI c) below (oI o) x8 (nI i) σ = k36 (p 294) x3 x4 (nI c) qb.2.1 (nI b) (x8 + 1) σ) := by
  have S := h.1
  have e0 := h.nv
  intro r
  induction r with
  | zero =>
    intro N i o hi hN hb
    obtain ⟨N, rfl⟩ : ∃ M, N = M + 1 := ⟨N - 1, by omega⟩
    obtain rfl : i = V.length := by omega
    refine ⟨o, hb, fun ho => ?_, fun b qb ho hq => ?_⟩
    · subst ho
      simp only [L_X6_version_48, B_X6_version_48]
      rw [if_pos S.km, e0, if_pos (nI_le (by omega) (by omega)), if_neg (show ¬ 0 ≤ oI none by decide)]
    · subst ho
      have hbl := (List.getElem?_eq_some_iff.mp hq).1
      obtain ⟨w1, w2, w3, w4, w5, w6, w7, w8⟩ := h.vr hbl hV
      have hqb : V[b] = qb := by rw [List.getElem?_eq_getElem hbl] at hq; injection hq
      rw [show oI (some b) = nI b from rfl]
      simp only [L_X6_version_48, B_X6_version_48]
      rw [if_pos S.km, e0, if_pos (nI_le (by omega) (by omega)), if_pos (nI_pos' (by omega))]
      simp only [S.r252, S.k252, S.l252, true_and, if_pos w8, w2]
      rw [hqb]
  | succ r ih =>
    intro N i o hi hN hb
    obtain ⟨N, rfl⟩ : ∃ M, N = M + 1 := ⟨N - 1, by omega⟩
    have hil : i < V.length := by omega
    have hx : V[i]? = some V[i] := List.getElem?_eq_getElem hil
    obtain ⟨v1, v2, v3, v4, v5, v6, v7, v8⟩ := h.vr hil hV
    have step : L_X6_version_48 k36 (N + 1) (p 294) x3 x4 (nI c) below (oI o) x8 (nI i) σ = (if nI V[i].1 = nI c then (if below ≤ V[i].2.1 then L_X6_version_48 k36 N (p 294) x3 x4 (nI c) below (oI o) x8 (nI (i + 1)) σ else B_X6_version_86 k36 (L_X6_version_48 k36 N) (p 294) x3 x4 (nI c) below (oI o) x8 (nI i) 1 σ) else L_X6_version_48 k36 N (p 294) x3 x4 (nI c) below (oI o) x8 (nI (i + 1)) σ) := by
      rw [L_X6_version_48]
      unfold B_X6_version_48
      rw [if_pos S.km, e0, if_neg (nI_ge hil (by omega))]
      simp only [S.r251, S.k251, S.l251, S.r252, S.k252, S.l252, true_and, v1, v2, if_pos v8]
      simp only [B_X6_version_85, B_X6_version_86, B_X6_version_120, B_X6_version_122, if_true, nI_1]
    rw [step]
    by_cases e1 : V[i].1 = c
    · rw [if_pos (by rw [e1])]
      by_cases e3 : below ≤ V[i].2.1
      · rw [if_pos e3]
        exact ih N (i + 1) o (by omega) (by omega) (oS_skip hb hx (fun q => Int32.not_lt.mpr e3 q.2))
      · rw [if_neg e3]
        have hs : pV c below V[i] := ⟨e1, Int32.not_le.mp e3⟩
        unfold B_X6_version_86 B_X6_version_120 B_X6_version_115 B_X6_version_122
        rw [if_neg (show ¬ (1 : Int32) = 0 by decide), nI_1]
        cases o with
        | none =>
          rw [if_pos (show oI none < 0 by decide)]
          exact ih N (i + 1) (some i) (by omega) (by omega) (oS_take hb hx hs (fun b qb q => by cases q))
        | some b =>
          obtain ⟨qb, g1, g2, g3, g4⟩ := id hb
          have hbl : b < V.length := by omega
          obtain ⟨w1, w2, w3, w4, w5, w6, w7, w8⟩ := h.vr hbl hV
          have hqb : V[b] = qb := by rw [List.getElem?_eq_getElem hbl] at g2; injection g2
          rw [if_neg (show ¬ oI (some b) < 0 from Int32.not_lt.mpr (nI_pos' (by omega))), if_pos S.km]
          simp only [oI, S.r252, S.k252, S.l252, true_and, if_pos v8, if_pos w8, v2, w2]
          by_cases e4 : V[i].2.1 ≤ V[b].2.1
          · rw [if_pos e4]
            refine ih N (i + 1) (some b) (by omega) (by omega) ⟨qb, by omega, g2, g3, fun j q h1 h2 h3 => ?_⟩
            by_cases ej : j = i
            · subst ej
              rw [hx] at h2
              injection h2 with h2
              rw [← h2, ← hqb]; exact e4
            · exact g4 j q (by omega) h2 h3
          · rw [if_neg e4]
            refine ih N (i + 1) (some i) (by omega) (by omega) (oS_take hb hx hs (fun b' qb' q1 q2 => ?_))
            obtain rfl : b = b' := by injection q1
            rw [g2] at q2
            injection q2 with q2
            rw [← q2, ← hqb]
            exact Int32.le_of_lt (Int32.not_le.mp e4)
    · rw [if_neg (fun q => e1 ((nI_eq (by omega) (by omega)).mp q))]
      exact ih N (i + 1) o (by omega) (by omega) (oS_skip hb hx (fun q => e1 q.1))
theorem srt {W : List (Int32 × Int32)} (hs : W.Pairwise (fun x y => y.1 < x.1)) {i j : Nat} {x y : Int32 × Int32} (hx : W[i]? = some x) (hy : W[j]? = some y) : y.1 < x.1 ↔ i < j := by
  obtain ⟨hi, ex⟩ := List.getElem?_eq_some_iff.mp hx
  obtain ⟨hj, ey⟩ := List.getElem?_eq_some_iff.mp hy
  have h := List.pairwise_iff_getElem.mp hs
  constructor
  · intro q
    by_cases e : i < j
    · exact e
    · exfalso
      by_cases e2 : i = j
      · subst e2
        rw [hx] at hy
        injection hy with hy
        rw [hy] at q
        exact Int32.lt_irrefl q
      · have := h j i hj hi (by omega)
        rw [ex, ey] at this
        exact Int32.lt_irrefl (Int32.lt_trans q this)
  · intro q
    have := h i j hi hj q
    rw [ex, ey] at this
    exact this
def verA (A : AS) (c n : Nat) (w : Int32) : Int32 := match (zl A (2 * c + 1))[n]? with
  | none => -1
  | some q => if w = 0 then q.1 else if w = 1 then q.2 else if w = 2 then (if q.2 = 0 then 0 else vOf (zl A (2 * c)) q.2) else -2
theorem moVer_end (h : RMw p 3000 A σ D V) {c : Nat} (hc : c < 256) (hP : Pce A c) {b : Nat} {qb : Nat × Int32 × Int32 × Int32} (hb : V[b]? = some qb) (hq1 : qb.1 = c) (w : Int32) (k36 : Nat → Int32 → Int32 → Int32 → Int32 → Int32 → Int32 → HS → Option (Int32 × HS)) {x3 below x8 : Int32} (hx : x3 < x8) :
    B_X6_version_36 k36 (p 294) x3 w (nI c) below (nI b) x8 σ = some (if w = 0 then (wv qb).1 else if w = 1 then (wv qb).2 else if w = 2 then (if (wv qb).2 = 0 then 0 else vOf (zl A (2 * c)) (wv qb).2) else -2, σ) := by
  have S := h.1
  have hbo := h.bo
  have hbl := (List.getElem?_eq_some_iff.mp hb).1
  obtain ⟨w1, w2, w3, w4, w5, w6, w7, w8⟩ := h.vr hbl (by omega)
  have hqb : V[b] = qb := by rw [List.getElem?_eq_getElem hbl] at hb; injection hb
  rw [hqb] at w1 w2 w3 w4 w5 w6 w7
  have hmem : wv qb ∈ zl A (2 * c + 1) := (h.2.2.2.2.2.mem hc).mpr ⟨qb, List.mem_of_getElem? hb, hq1, rfl⟩
  unfold B_X6_version_36
  rw [if_pos hx, bd_eq (in_F w 0 2 σ)]
  by_cases e : w < 0 ∨ (2 : Int32) < w
  · rw [if_pos e, if_pos rfl]
    have n := fun j (hj : j ≤ 2) => out_ne (n := 2) (by decide) e hj
    rw [if_neg (show ¬ w = (0 : Int32) from n 0 (by decide)), if_neg (show ¬ w = (1 : Int32) from n 1 (by decide)), if_neg (show ¬ w = (2 : Int32) from n 2 (by decide))]
  · rw [if_neg e, if_neg (show ¬ (1 : Int32) = 0 by decide)]
    simp only [S.km, S.r253, S.k253, S.l253, true_and, if_true, if_pos w8, w3]
    obtain ⟨j, hj, rfl⟩ := int6 (n := 2) (by decide) e
    have tail : ∀ (r6 : Int32), ((r6 < 0 ∧ ∀ v, (qb.2.2.1, v) ∉ zl A (2 * c)) ∨ ∃ d, d < 3000 ∧ r6 = nI d ∧ vOf (zl A (2 * c)) qb.2.2.1 = ai σ (p 297) d) → (if nI j = 0 then (if kd σ (p 294) = 7 then (if kd σ (gr σ 252 (p 294)) = 100 ∧ inb (nI b) (ln σ (gr σ 252 (p 294))) then (B_X6_version_241  (ai σ (gr σ 252 (p 294)) (nI b).toNatClampNeg) σ) else none) else none) else (if kd σ (p 294) = 7 then (if kd σ (gr σ 254 (p 294)) = 101 ∧ inb (nI b) (ln σ (gr σ 254 (p 294))) then (if (ai σ (gr σ 254 (p 294)) (nI b).toNatClampNeg) = 0 then (if nI j = (1 : Int32) then (if kd σ (gr σ 253 (p 294)) = 100 ∧ inb (nI b) (ln σ (gr σ 253 (p 294))) then (B_X6_version_241  (ai σ (gr σ 253 (p 294)) (nI b).toNatClampNeg) σ) else none) else (if 0 ≤ r6 then (if kd σ (gr σ 249 (p 294)) = 100 ∧ inb r6 (ln σ (gr σ 249 (p 294))) then (B_X6_version_241  (ai σ (gr σ 249 (p 294)) r6.toNatClampNeg) σ) else none) else (B_X6_version_241  (0 : Int32) σ))) else (B_X6_version_241  (0 : Int32) σ)) else none) else none)) = some (if nI j = 0 then (wv qb).1 else if nI j = 1 then (wv qb).2 else if nI j = 2 then (if (wv qb).2 = 0 then 0 else vOf (zl A (2 * c)) (wv qb).2) else -2, σ) := by
      intro r6 hr6
      simp only [S.km, S.r249, S.k249, S.l249, S.r252, S.k252, S.l252, S.r253, S.k253, S.l253, S.r254, S.k254, S.l254, true_and, if_true, if_pos w8, w2, w3, w4, B_X6_version_241]
      have hj' : j = 0 ∨ j = 1 ∨ j = 2 := by omega
      rcases hj' with q | q | q
      · subst q; rfl
      · subst q
        rw [if_neg (show ¬ nI 1 = 0 by decide), if_neg (show ¬ nI 1 = 0 by decide), if_pos (show nI 1 = 1 from rfl), if_pos (show nI 1 = 1 from rfl)]
        unfold wv
        by_cases er : qb.2.2.2 = 0
        · rw [if_pos er, if_pos er]
        · rw [if_neg er, if_neg er]
      · subst q
        rw [if_neg (show ¬ nI 2 = 0 by decide), if_neg (show ¬ nI 2 = 0 by decide), if_neg (show ¬ nI 2 = 1 by decide), if_neg (show ¬ nI 2 = 1 by decide), if_pos (show nI 2 = 2 from rfl)]
        by_cases er : qb.2.2.2 = 0
        · have hw2 : (wv qb).2 = qb.2.2.1 := by unfold wv; rw [if_pos er]
          rw [if_pos er, hw2, if_neg (w7 er)]
          rcases hr6 with ⟨z1, z2⟩ | ⟨d, z0, z1, z2⟩
          · obtain ⟨_, _, v, hv⟩ := hP.2.2.2.2.1 _ hmem (by rw [hw2]; exact w7 er)
            rw [hw2] at hv
            exact absurd hv (z2 v)
          · subst z1
            have hdi : inb (nI d) 3000 := inb_nI z0 (by decide)
            have hdc : (nI d).toNatClampNeg = d := nI_clamp (by omega)
            rw [if_pos (nI_pos' (by omega)), if_pos hdi, hdc, z2]
        · have hw2 : (wv qb).2 = 0 := by unfold wv; rw [if_neg er]
          rw [if_neg er, hw2, if_pos rfl]
    rcases rm_val h (by omega) hc hP qb.2.2.1 with ⟨y1, y2, y3⟩ | ⟨d, y0, y1, y2, y3⟩
    · rw [bd_eq y1]
      exact tail (-1) (Or.inl ⟨by decide, y3⟩)
    · rw [bd_eq y1]
      exact tail (nI d) (Or.inr ⟨d, y0, rfl, y2⟩)
def vIn (A : AS) (V : List (Nat × Int32 × Int32 × Int32)) (c k : Nat) (below at' : Int32) : Prop := (k = 0 ∧ below = 2147483647 ∧ at' = -1) ∨ ∃ b qb, 0 < k ∧ at' = nI b ∧ V[b]? = some qb ∧ qb.1 = c ∧ (zl A (2 * c + 1))[k - 1]? = some (wv qb) ∧ below = qb.2.1
theorem vI_below {c k : Nat} {below at' : Int32} (hP : Pce A c) (h : vIn A V c k below at') {j : Nat} {x : Int32 × Int32} (hx : (zl A (2 * c + 1))[j]? = some x) : x.1 < below ↔ k ≤ j := by
  rcases h with ⟨h1, h2, h3⟩ | ⟨b, qb, h0, h1, h2, h3, h4, h5⟩
  · rw [h1, h2]
    refine ⟨fun _ => Nat.zero_le _, fun _ => ?_⟩
    refine Int32.lt_of_lt_of_le (hP.2.2.1 x (List.mem_of_getElem? hx)).2 ?_
    rw [Int32.le_iff_toInt_le]
    have := Int32.toInt_lt (zsc A 4)
    have e : (2147483647 : Int32).toInt = 2147483647 := by decide
    omega
  · have hb : below = (wv qb).1 := h5
    rw [hb, srt hP.1 h4 hx]
    omega
theorem moVer_out (h : RMw p 3000 A σ D V) {c n : Nat} (hn : n < 2 ^ 31) (hc : c < 256) (hP : Pce A c) (w : Int32) : ∀ (r N k : Nat) (below at' : Int32), k + r = (zl A (2 * c + 1)).length → r + 1 < N → k ≤ n + 1 → vIn A V c k below at' →
    L_X6_version_36 N (p 294) (nI n) w (nI c) below at' (nI k) σ = some (verA A c n w, σ) := by
  have hbo := h.bo
  have hWm := h.2.2.2.2.2
  have hlen : (zl A (2 * c + 1)).length ≤ 3000 := by
    rw [← (hWm.2 c hc).length_eq, List.length_map]
    have := List.length_filter_le (fun q => decide (q.1 = c)) V
    omega
  have main : ∀ (r N k : Nat) (below at' : Int32), k + r = (zl A (2 * c + 1)).length → k ≤ n + 1 → vIn A V c k below at' → (∀ (b : Nat) (qb : Nat × Int32 × Int32 × Int32), 0 < r → vIn A V c (k + 1) qb.2.1 (nI b) → k < n + 1 → L_X6_version_36 N (p 294) (nI n) w (nI c) qb.2.1 (nI b) (nI (k + 1)) σ = some (verA A c n w, σ)) → L_X6_version_36 (N + 1) (p 294) (nI n) w (nI c) below at' (nI k) σ = some (verA A c n w, σ) := by
    intro r N k below at' hk hkn hv nxt
    rw [L_X6_version_36]
    by_cases ek : k = n + 1
    · rcases hv with ⟨h1, _⟩ | ⟨b, qb, h0, h1, h2, h3, h4, h5⟩
      · omega
      · rw [h1, moVer_end h hc hP h2 h3 w _ (by
          rw [ek]
          exact Int32.not_le.mp (nI_ge (by omega) (by omega)))]
        unfold verA
        rw [show n = k - 1 by omega, h4]
    · have hnk : ¬ nI n < nI k := Int32.not_lt.mpr (nI_le (by omega) hn)
      have e1 : ∃ o, at' = at' ∧ (o : Option Nat) = none := ⟨none, rfl, rfl⟩
      unfold B_X6_version_36
      rw [if_neg hnk]
      obtain ⟨o, o1, o2, o3⟩ := moVer_in h (by omega) hc (L_X6_version_36 N) (nI n) w below (nI k) V.length NF 0 none (by omega) (by have : NF = 100000 := rfl; omega) (fun j q hj => absurd hj (by omega))
      rw [nI_0] at o2 o3
      rw [show oI none = (-1 : Int32) from rfl] at o2 o3
      cases o with
      | none =>
        rw [o2 rfl]
        have hkl : (zl A (2 * c + 1)).length ≤ k := by
          refine Nat.not_lt.mp (fun q => ?_)
          have hg := List.getElem?_eq_getElem q
          obtain ⟨q', g1, g2, g3⟩ := (hWm.mem hc).mp (List.mem_of_getElem? hg)
          obtain ⟨j, hj⟩ := List.getElem?_of_mem g1
          refine o1 j q' (List.getElem?_eq_some_iff.mp hj).1 hj ⟨g2, ?_⟩
          have := (vI_below hP hv hg).mpr (Nat.le_refl _)
          rw [← g3] at this
          exact this
        unfold verA
        rw [List.getElem?_eq_none (by omega)]
      | some b =>
        obtain ⟨qb, g1, g2, ⟨g3, g3'⟩, g4⟩ := o1
        rw [o3 b qb rfl g2]
        have hmem : wv qb ∈ zl A (2 * c + 1) := (hWm.mem hc).mpr ⟨qb, List.mem_of_getElem? g2, g3, rfl⟩
        obtain ⟨j, hj⟩ := List.getElem?_of_mem hmem
        have hkj := (vI_below hP hv hj).mp g3'
        have hjl := (List.getElem?_eq_some_iff.mp hj).1
        have hg := List.getElem?_eq_getElem (show k < (zl A (2 * c + 1)).length by omega)
        obtain ⟨q', f1, f2, f3⟩ := (hWm.mem hc).mp (List.mem_of_getElem? hg)
        obtain ⟨j', hj'⟩ := List.getElem?_of_mem f1
        have hlt := (vI_below hP hv hg).mpr (Nat.le_refl _)
        have hle : q'.2.1 ≤ qb.2.1 := g4 j' q' (List.getElem?_eq_some_iff.mp hj').1 hj' ⟨f2, by rw [← f3] at hlt; exact hlt⟩
        have hjk : ¬ k < j := fun z => by
          have := (srt hP.1 hg hj).mpr z
          rw [← f3] at this
          exact Int32.not_lt.mpr hle this
        have ejk : j = k := by omega
        rw [nI_1]
        refine nxt b qb (by omega) (Or.inr ⟨b, qb, by omega, rfl, g2, g3, ?_, rfl⟩) (by omega)
        rw [Nat.add_sub_cancel, ← ejk]; exact hj
  intro r
  induction r with
  | zero =>
    intro N k below at' hk hN hkn hv
    obtain ⟨N, rfl⟩ : ∃ M, N = M + 1 := ⟨N - 1, by omega⟩
    exact main 0 N k below at' hk hkn hv (fun b qb h0 => absurd h0 (by omega))
  | succ r ih =>
    intro N k below at' hk hN hkn hv
    obtain ⟨N, rfl⟩ : ∃ M, N = M + 1 := ⟨N - 1, by omega⟩
    exact main (r + 1) N k below at' hk hkn hv (fun b qb h0 hv' hkn' => ih N (k + 1) qb.2.1 (nI b) (by omega) (by omega) (by omega) hv')
theorem mo_version (h : RMo p 3000 A σ) {i j : Nat} (hi : i < 64) (hj : j < 4) (hP : Pce A (4 * i + j)) (x w : Int32) : ∃ τ, F_X6_version (p 294) (nI i) (nI j) x w σ = some (aVer A (4 * i + j) x w, τ) ∧ RMo p 3000 A τ ∧ Mst p σ τ := by
  have h0 := mo_code h 0
  have m0 : Mst p σ (si σ 240 (p 294) 0) := Mst.rf.si (by decide)
  unfold F_X6_version
  rw [if_pos h.km]
  generalize si σ 240 (p 294) 0 = σ0 at h0 m0 ⊢
  refine ⟨σ0, ?_, h0, m0⟩
  obtain ⟨D, V, hw⟩ := h0.wi
  have hbo := hw.bo
  rw [bd_eq (noCell_ok hi hj σ0), if_pos rfl, cellIx]
  have hc : 4 * i + j < 256 := by omega
  generalize 4 * i + j = c at hc hP ⊢
  unfold aVer
  by_cases e : 0 ≤ x
  · rw [if_pos e, if_pos e]
    obtain ⟨n, hn, rfl⟩ : ∃ n, n < 2 ^ 31 ∧ x = nI n := by
      refine ⟨x.toNatClampNeg, ?_, ?_⟩
      · have := Int32.toInt_lt x
        show x.toInt.toNat < 2 ^ 31
        omega
      · rw [← Int32.toInt_inj]
        rw [Int32.le_iff_toInt_le] at e
        have e2 : (0 : Int32).toInt = 0 := by decide
        have := Int32.toInt_lt x
        show x.toInt = (Int32.ofNat x.toInt.toNat).toInt
        rw [Int32.toInt_ofNat_of_lt (by omega)]
        omega
    have hlen : (zl A (2 * c + 1)).length ≤ 3000 := by
      rw [← (hw.2.2.2.2.2.2 c hc).length_eq, List.length_map]
      have := List.length_filter_le (fun q => decide (q.1 = c)) V
      omega
    have := moVer_out hw hn hc hP w (zl A (2 * c + 1)).length NF 0 2147483647 (-1) (by omega) (by have : NF = 100000 := rfl; omega) (by omega) (Or.inl ⟨rfl, rfl, rfl⟩)
    rw [nI_0] at this
    rw [this, nI_clamp hn]
    rfl
  · rw [if_neg e, if_neg e]
    rfl
end
