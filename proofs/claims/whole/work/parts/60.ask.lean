/-! THE REFERENCE: WHAT IS ASKED -/
def oS (P : Nat × Int32 × Int32 × Int32 → Prop) (V : List (Nat × Int32 × Int32 × Int32)) (i : Nat) : Option Nat → Prop
  | none => ∀ j q, j < i → V[j]? = some q → ¬ P q
  | some b => ∃ qb, b < i ∧ V[b]? = some qb ∧ P qb ∧ ∀ j q, j < i → V[j]? = some q → P q → q.2.1 ≤ qb.2.1
theorem oS_skip {P : Nat × Int32 × Int32 × Int32 → Prop} {V : List (Nat × Int32 × Int32 × Int32)} {i : Nat} {o : Option Nat} (h : oS P V i o) {x : Nat × Int32 × Int32 × Int32} (hx : V[i]? = some x) (hn : ¬ P x) : oS P V (i + 1) o := by
  have key : ∀ j q, j < i + 1 → V[j]? = some q → P q → j < i := by
    intro j q h1 h2 h3
    by_cases e : j = i
    · subst e
      rw [hx] at h2
      exact absurd h3 (by injection h2 with h2; rw [← h2]; exact hn)
    · omega
  cases o with
  | none => exact fun j q h1 h2 h3 => h j q (key j q h1 h2 h3) h2 h3
  | some b =>
    obtain ⟨qb, g1, g2, g3, g4⟩ := h
    exact ⟨qb, by omega, g2, g3, fun j q h1 h2 h3 => g4 j q (key j q h1 h2 h3) h2 h3⟩
theorem oS_take {P : Nat × Int32 × Int32 × Int32 → Prop} {V : List (Nat × Int32 × Int32 × Int32)} {i : Nat} {o : Option Nat} (h : oS P V i o) {x : Nat × Int32 × Int32 × Int32} (hx : V[i]? = some x) (hn : P x) (hb : ∀ b qb, o = some b → V[b]? = some qb → qb.2.1 ≤ x.2.1) : oS P V (i + 1) (some i) := by
  refine ⟨x, by omega, hx, hn, fun j q h1 h2 h3 => ?_⟩
  by_cases e : j = i
  · subst e
    rw [hx] at h2
    injection h2 with h2
    rw [h2]; exact Int32.le_refl _
  · cases o with
    | none => exact absurd h3 (h j q (by omega) h2)
    | some b =>
      obtain ⟨qb, g1, g2, g3, g4⟩ := h
      exact Int32.le_trans (g4 j q (by omega) h2 h3) (hb b qb rfl g2)
theorem int6 {n : Nat} {w : Int32} (hn : n < 2 ^ 31 - 1) (h : ¬ (w < 0 ∨ nI n < w)) : ∃ j, j ≤ n ∧ w = nI j := by
  rcases pk_ix w (n := n + 1) (by omega) with q | q | ⟨j, q, e⟩
  · exact absurd (Or.inl q) h
  · exact absurd (Or.inr (Int32.lt_of_lt_of_le (Int32.not_le.mp (nI_ge (by omega) (by omega))) q)) h
  · exact ⟨j, by omega, e⟩
theorem out_ne {n j : Nat} {w : Int32} (hn : n < 2 ^ 31) (h : w < 0 ∨ nI n < w) (hj : j ≤ n) : ¬ w = nI j := by
  rintro rfl
  rcases h with q | q
  · exact absurd q (nI_pos (by omega))
  · exact absurd q (Int32.not_lt.mpr (nI_le hj hn))
section
variable {p : Nat → Nat} {m : Nat} {A : AS} {σ : HS} {D : List (Nat × Int32 × Int32)} {V : List (Nat × Int32 × Int32 × Int32)}
theorem mo_state (h : RMo p m A σ) {k : Nat} (hk : k < 8) (w : Int32) (hz : ztf A 0 k = 0 → ztf A 1 k = 0 ∧ ztf A 2 k = 0 ∧ ztf A 3 k = 0 ∧ ztf A 4 k = 0 ∧ zow A k = []) (h4 : ¬ ztf A 0 k = 2 → ¬ ztf A 0 k = 3 → ztf A 4 k = 0) (h3 : ¬ ztf A 0 k = 3 → ztf A 3 k = 0) : ∃ τ, F_X6_state (p 294) (nI k) w σ = some (aState A k w, τ) ∧ RMo p m A τ ∧ Mst p σ τ := by
  have hki : inb (nI k) 8 := inb_nI hk (by decide)
  have hkc : (nI k).toNatClampNeg = k := nI_clamp (by omega)
  have h0 := mo_code h 0
  have m0 : Mst p σ (si σ 240 (p 294) 0) := Mst.rf.si (by decide)
  unfold F_X6_state
  rw [if_pos h.km]
  generalize si σ 240 (p 294) 0 = σ0 at h0 m0 ⊢
  have S := h0.1
  refine ⟨σ0, ?_, h0, m0⟩
  rw [bd_eq (noClient_ok hk σ0), if_pos rfl, bd_eq (in_F w 0 5 σ0)]
  obtain ⟨u1, u2⟩ := h0.2.2.1 k hk
  by_cases e : w < 0 ∨ (5 : Int32) < w
  · rw [if_pos e, if_pos rfl]
    unfold aState
    have n := fun j (hj : j ≤ 5) => out_ne (n := 5) (by decide) e hj
    rw [if_neg (show ¬ w = (0 : Int32) from n 0 (by decide)), if_neg (show ¬ w = (1 : Int32) from n 1 (by decide)), if_neg (show ¬ w = (2 : Int32) from n 2 (by decide)), if_neg (show ¬ w = (3 : Int32) from n 3 (by decide)), if_neg (show ¬ w = (4 : Int32) from n 4 (by decide)), if_neg (show ¬ w = (5 : Int32) from n 5 (by decide))]
  · rw [if_neg e, if_neg (show ¬ (1 : Int32) = 0 by decide)]
    obtain ⟨j, hj, rfl⟩ := int6 (n := 5) (by decide) e
    simp only [S.km, S.r259, S.k259, S.l259, S.r260, S.k260, S.l260, S.r261, S.k261, S.l261, S.r262, S.k262, S.l262, S.r266, S.k266, S.l266, true_and, if_true, if_pos hki, hkc, u1, B_X6_state_120, B_X6_state_130, B_X6_state_151, S.r265, S.k265, S.l265]
    unfold aState
    by_cases e0 : ztf A 0 k = 0
    · obtain ⟨z1, z2, z3, z4, z5⟩ := hz e0
      rw [if_pos e0, e0, z1, z2, z3, z4, z5]
      have hj' : j = 0 ∨ j = 1 ∨ j = 2 ∨ j = 3 ∨ j = 4 ∨ j = 5 := by omega
      rcases hj' with q | q | q | q | q | q <;> subst q <;> rfl
    · obtain ⟨u2, u3, u4, u5, u6, u7, u8⟩ := u2 e0
      rw [if_neg e0, u2, u3, u4]
      have hj' : j = 0 ∨ j = 1 ∨ j = 2 ∨ j = 3 ∨ j = 4 ∨ j = 5 := by omega
      rcases hj' with q | q | q | q | q | q
      · subst q; rfl
      · subst q; rfl
      · subst q; rfl
      · subst q; rfl
      · subst q
        show (if ztf A 0 k = 2 then some (ai σ0 (p 311) k, σ0) else if ztf A 0 k = 3 then some (ai σ0 (p 311) k, σ0) else some (0, σ0)) = some (ztf A 4 k, σ0)
        by_cases e2 : ztf A 0 k = 2
        · rw [if_pos e2, u7 (by rw [e2]; decide)]
        · rw [if_neg e2]
          by_cases e3 : ztf A 0 k = 3
          · rw [if_pos e3, u7 (by rw [e3]; decide)]
          · rw [if_neg e3, h4 e2 e3]
      · subst q
        show (if ztf A 0 k = 3 then some (ai σ0 (p 312) k, σ0) else some (0, σ0)) = some (ztf A 3 k, σ0)
        by_cases e3 : ztf A 0 k = 3
        · rw [if_pos e3, u8 e3]
        · rw [if_neg e3, h3 e3]
theorem mo_lockQ (h : RMo p m A σ) (hK : ∀ k, k < 8 → 0 ≤ ztf A 0 k) {i j : Nat} (hi : i < 64) (hj : j < 4) (hP : Pce A (4 * i + j)) (w : Int32) : ∃ τ, F_X6_lock (p 294) (nI i) (nI j) w σ = some (aLockQ A (4 * i + j) w, τ) ∧ RMo p m A τ ∧ Mst p σ τ := by
  have h0 := mo_code h 0
  have m0 : Mst p σ (si σ 240 (p 294) 0) := Mst.rf.si (by decide)
  unfold F_X6_lock
  rw [if_pos h.km]
  generalize si σ 240 (p 294) 0 = σ0 at h0 m0 ⊢
  have S := h0.1
  refine ⟨σ0, ?_, h0, m0⟩
  rw [bd_eq (noCell_ok hi hj σ0), if_pos rfl, bd_eq (in_F w 0 4 σ0)]
  have hc : 4 * i + j < 256 := by omega
  rw [cellIx]
  generalize 4 * i + j = c at hc hP ⊢
  have hci : inb (nI c) 256 := inb_nI hc (by decide)
  have hcc : (nI c).toNatClampNeg = c := nI_clamp (by omega)
  obtain ⟨l1, l2⟩ := h0.2.1 c hc
  by_cases e : w < 0 ∨ (4 : Int32) < w
  · rw [if_pos e, if_pos rfl]
    unfold aLockQ
    have n := fun j (hj : j ≤ 4) => out_ne (n := 4) (by decide) e hj
    rw [if_neg (show ¬ w = (0 : Int32) from n 0 (by decide)), if_neg (show ¬ w = (1 : Int32) from n 1 (by decide)), if_neg (show ¬ w = (2 : Int32) from n 2 (by decide)), if_neg (show ¬ w = (3 : Int32) from n 3 (by decide)), if_neg (show ¬ w = (4 : Int32) from n 4 (by decide))]
  · rw [if_neg e, if_neg (show ¬ (1 : Int32) = 0 by decide)]
    obtain ⟨j, hj, rfl⟩ := int6 (n := 4) (by decide) e
    simp only [S.km, S.r256, S.k256, S.l256, S.r257, S.k257, S.l257, S.r258, S.k258, S.l258, true_and, if_true, if_pos hci, hcc, l1, B_X6_lock_114, B_X6_lock_129]
    unfold aLockQ
    by_cases e0 : zlk A 0 c = 0
    · obtain ⟨z1, z2⟩ := hP.2.2.2.2.2.2.1 e0
      rw [if_pos e0, e0, z1, z2]
      have hj' : j = 0 ∨ j = 1 ∨ j = 2 ∨ j = 3 ∨ j = 4 := by omega
      rcases hj' with q | q | q | q | q <;> subst q <;> rfl
    · obtain ⟨l2, l3, l4⟩ := l2 e0
      rw [if_neg e0, l2, l3, bd_eq (mo_isLate h0 hK hc e0), bd_eq (mo_isDecided h0 hc e0), if_neg e0, if_neg e0]
      have hj' : j = 0 ∨ j = 1 ∨ j = 2 ∨ j = 3 ∨ j = 4 := by omega
      rcases hj' with q | q | q | q | q
      · subst q; rfl
      · subst q; rfl
      · subst q; rfl
      · subst q
        show (if aLate A c = 0 then some (0, σ0) else some (1, σ0)) = some (aLate A c, σ0)
        rcases late01 A c with q | q
        · rw [if_pos q, q]
        · rw [if_neg (by rw [q]; decide), q]
      · subst q
        show (if (if zlk A 0 (zlp A c) = zlk A 0 c then (0 : Int32) else 1) = 0 then some (0, σ0) else some (1, σ0)) = some (if zlk A 0 (zlp A c) = zlk A 0 c then 0 else 1, σ0)
        by_cases e3 : zlk A 0 (zlp A c) = zlk A 0 c
        · rw [if_pos e3, if_pos rfl]
        · rw [if_neg e3, if_neg (by decide)]
theorem moVers_L (h : RMw p m A σ D V) (hV : V.length ≤ 3000) {c : Nat} (hc : c < 256) {x1 x2 : Int32} (hx : (4 : Int32) * x1 + x2 = nI c) : ∀ (r N i n : Nat), i + r = V.length → r < N →
    L_X6_versions_20 N (p 294) x1 x2 (nI n) (nI i) σ = some (nI (n + ((V.drop i).filter (fun q => decide (q.1 = c))).length), σ) := by
  have S := h.1
  have e0 := h.nv
  intro r
  induction r with
  | zero =>
    intro N i n hi hN
    obtain ⟨N, rfl⟩ : ∃ M, N = M + 1 := ⟨N - 1, by omega⟩
    simp only [L_X6_versions_20, B_X6_versions_20]
    rw [if_pos S.km, e0, if_pos (nI_le (by omega) (by omega)), List.drop_of_length_le (by omega)]
    rfl
  | succ r ih =>
    intro N i n hi hN
    obtain ⟨N, rfl⟩ : ∃ M, N = M + 1 := ⟨N - 1, by omega⟩
    have hil : i < V.length := by omega
    obtain ⟨v1, v2, v3, v4, v5, v6, v7, v8⟩ := h.vr hil hV
    rw [List.drop_eq_getElem_cons hil]
    simp only [L_X6_versions_20, B_X6_versions_20, B_X6_versions_50]
    rw [if_pos S.km, e0, if_neg (nI_ge hil (by omega)), hx]
    simp only [S.r251, S.k251, S.l251, true_and, if_pos v8, v1, nI_1]
    by_cases e : V[i].1 = c
    · rw [if_pos (by rw [e]), ih N (i + 1) (n + 1) (by omega) (by omega), List.filter_cons_of_pos (by simpa using e), List.length_cons, show n + 1 + ((V.drop (i + 1)).filter (fun q => decide (q.1 = c))).length = n + (((V.drop (i + 1)).filter (fun q => decide (q.1 = c))).length + 1) by omega]
    · rw [if_neg (fun q => e ((nI_eq (by omega) (by omega)).mp q)), Int32.add_zero, ih N (i + 1) n (by omega) (by omega), List.filter_cons_of_neg (by simpa using e)]
theorem mo_versions (h : RMo p 3000 A σ) {i j : Nat} (hi : i < 64) (hj : j < 4) : ∃ τ, F_X6_versions (p 294) (nI i) (nI j) σ = some (nI (zl A (2 * (4 * i + j) + 1)).length, τ) ∧ RMo p 3000 A τ ∧ Mst p σ τ := by
  have h0 := mo_code h 0
  have m0 : Mst p σ (si σ 240 (p 294) 0) := Mst.rf.si (by decide)
  unfold F_X6_versions
  rw [if_pos h.km]
  generalize si σ 240 (p 294) 0 = σ0 at h0 m0 ⊢
  refine ⟨σ0, ?_, h0, m0⟩
  obtain ⟨D, V, hw⟩ := h0.wi
  have hb := hw.bo
  rw [bd_eq (noCell_ok hi hj σ0), if_pos rfl]
  have := moVers_L hw (by omega) (show 4 * i + j < 256 by omega) (cellIx i j) V.length NF 0 0 (by omega) (by have : NF = 100000 := rfl; omega)
  rw [nI_0, List.drop_zero, Nat.zero_add] at this
  rw [this, ← (hw.2.2.2.2.2.2 (4 * i + j) (by omega)).length_eq, List.length_map]
/-- the greatest of the keys -/
def bmax (l : List Int32) (b : Int32) : Int32 := l.foldl (fun b s => if s ≤ b then b else s) b
theorem bmax_cons (s : Int32) (l : List Int32) (b : Int32) : bmax (s :: l) b = bmax l (if s ≤ b then b else s) := rfl
theorem bmax_ge : ∀ (l : List Int32) (b : Int32), b ≤ bmax l b ∧ (∀ s ∈ l, s ≤ bmax l b) ∧ (bmax l b = b ∨ bmax l b ∈ l) := by
  intro l
  induction l with
  | nil => intro b; exact ⟨Int32.le_refl _, fun s hs => (by cases hs), Or.inl rfl⟩
  | cons x l ih =>
    intro b
    rw [bmax_cons]
    by_cases e : x ≤ b
    · rw [if_pos e]
      obtain ⟨h1, h2, h3⟩ := ih b
      refine ⟨h1, fun s hs => ?_, h3.imp id (List.mem_cons_of_mem _)⟩
      rcases List.mem_cons.mp hs with q | q
      · rw [q]; exact Int32.le_trans e h1
      · exact h2 s q
    · rw [if_neg e]
      obtain ⟨h1, h2, h3⟩ := ih x
      refine ⟨Int32.le_trans (Int32.le_of_lt (Int32.not_le.mp e)) h1, fun s hs => ?_, Or.inr ?_⟩
      · rcases List.mem_cons.mp hs with q | q
        · rw [q]; exact h1
        · exact h2 s q
      · rcases h3 with q | q
        · rw [q]; exact List.mem_cons_self
        · exact List.mem_cons_of_mem _ q
theorem moData_L (h : RMw p m A σ D V) (hD : D.length ≤ 3000) {c : Nat} (hc : c < 256) {x1 x2 x3 : Int32} (hx : (4 : Int32) * x1 + x2 = nI c) : ∀ (r N i n : Nat) (b : Int32), i + r = D.length → r < N →
    L_X6_data_36 N (p 294) x1 x2 x3 (nI n) b (nI i) σ = some (if x3 = 0 then nI (n + ((D.drop i).filter (fun q => decide (q.1 = c))).length) else bmax (((D.drop i).filter (fun q => decide (q.1 = c))).map (fun q => q.2.1)) b, σ) := by
  have S := h.1
  have e0 := h.nd
  intro r
  induction r with
  | zero =>
    intro N i n b hi hN
    obtain ⟨N, rfl⟩ : ∃ M, N = M + 1 := ⟨N - 1, by omega⟩
    simp only [L_X6_data_36, B_X6_data_36, B_X6_data_106]
    rw [if_pos S.km, e0, if_pos (nI_le (by omega) (by omega)), List.drop_of_length_le (by omega)]
    by_cases e : x3 = 0
    · rw [if_pos e, if_pos e]; rfl
    · rw [if_neg e, if_neg e]; rfl
  | succ r ih =>
    intro N i n b hi hN
    obtain ⟨N, rfl⟩ : ∃ M, N = M + 1 := ⟨N - 1, by omega⟩
    have hil : i < D.length := by omega
    obtain ⟨v1, v2, v3, v4⟩ := h.2.2.2.2.1.1 i _ (List.getElem?_eq_getElem hil)
    have hic : (nI i).toNatClampNeg = i := nI_clamp (by omega)
    have hii : inb (nI i) 3000 := inb_nI (by omega) (by decide)
    rw [List.drop_eq_getElem_cons hil]
    simp only [L_X6_data_36, B_X6_data_36, B_X6_data_87, B_X6_data_89]
    rw [if_pos S.km, e0, if_neg (nI_ge hil (by omega)), hx]
    simp only [S.r247, S.k247, S.l247, S.r248, S.k248, S.l248, true_and, if_pos hii, hic, v1, v2, nI_1]
    by_cases e : D[i].1 = c
    · rw [if_pos (by rw [e]), List.filter_cons_of_pos (by simpa using e), List.length_cons, List.map_cons, bmax_cons, show n + (((D.drop (i + 1)).filter (fun q => decide (q.1 = c))).length + 1) = n + 1 + ((D.drop (i + 1)).filter (fun q => decide (q.1 = c))).length by omega]
      by_cases e2 : D[i].2.1 ≤ b
      · rw [if_pos e2, if_pos e2, ih N (i + 1) (n + 1) b (by omega) (by omega)]
      · rw [if_neg e2, if_neg e2, ih N (i + 1) (n + 1) _ (by omega) (by omega)]
    · rw [if_neg (fun q => e ((nI_eq (by omega) (by omega)).mp q)), ih N (i + 1) n b (by omega) (by omega), List.filter_cons_of_neg (by simpa using e)]
theorem mo_data (h : RMo p 3000 A σ) {i j : Nat} (hi : i < 64) (hj : j < 4) (hP : Pce A (4 * i + j)) (w : Int32) : ∃ τ, F_X6_data (p 294) (nI i) (nI j) w σ = some (aData A (4 * i + j) w, τ) ∧ RMo p 3000 A τ ∧ Mst p σ τ := by
  have h0 := mo_code h 0
  have m0 : Mst p σ (si σ 240 (p 294) 0) := Mst.rf.si (by decide)
  unfold F_X6_data
  rw [if_pos h.km]
  generalize si σ 240 (p 294) 0 = σ0 at h0 m0 ⊢
  refine ⟨σ0, ?_, h0, m0⟩
  obtain ⟨D, V, hw⟩ := h0.wi
  have hb := hw.bo
  rw [bd_eq (noCell_ok hi hj σ0), if_pos rfl, bd_eq (in_F w 0 1 σ0)]
  have hc : 4 * i + j < 256 := by omega
  have L := moData_L hw (by omega) hc (x3 := w) (cellIx i j) D.length NF 0 0 0 (by omega) (by have : NF = 100000 := rfl; omega)
  rw [nI_0, List.drop_zero, Nat.zero_add] at L
  generalize 4 * i + j = c at hc hP L ⊢
  have hpm := hw.2.2.2.2.1.2 c hc
  by_cases e : w < 0 ∨ (1 : Int32) < w
  · rw [if_pos e, if_pos rfl]
    unfold aData
    have n := fun j (hj : j ≤ 1) => out_ne (n := 1) (by decide) e hj
    rw [if_neg (show ¬ w = (0 : Int32) from n 0 (by decide)), if_neg (show ¬ w = (1 : Int32) from n 1 (by decide))]
  · rw [if_neg e, if_neg (show ¬ (1 : Int32) = 0 by decide), L]
    obtain ⟨j, hj, rfl⟩ := int6 (n := 1) (by decide) e
    unfold aData
    have hj' : j = 0 ∨ j = 1 := by omega
    rcases hj' with q | q
    · subst q
      rw [if_pos nI_0, if_pos nI_0, ← hpm.length_eq, List.length_map]
    · subst q
      rw [if_neg (show ¬ nI 1 = 0 by decide), if_neg (show ¬ nI 1 = 0 by decide), if_pos (show nI 1 = 1 from rfl)]
      have hk : ((D.filter (fun q => decide (q.1 = c))).map (fun q => q.2.1)).Perm ((zl A (2 * c)).map (fun q => q.1)) := by
        have := hpm.map (fun q => q.1)
        rw [List.map_map] at this
        exact this
      generalize ((D.filter (fun q => decide (q.1 = c))).map (fun q => q.2.1)) = K at hk
      obtain ⟨b1, b2, b3⟩ := bmax_ge K 0
      cases ez : zl A (2 * c) with
      | nil =>
        rw [ez, List.map_nil] at hk
        rw [List.Perm.eq_nil hk]
        rfl
      | cons x l =>
        have hs := hP.2.1
        have h4 := hP.2.2.2.1
        rw [ez] at hk hs h4
        simp only []
        have hx0 := (h4 x List.mem_cons_self).1
        have hxm : x.1 ∈ K := hk.mem_iff.mpr (by simp)
        have hle := b2 _ hxm
        congr 2
        apply Int32.le_antisymm _ hle
        rcases b3 with q | q
        · rw [q] at hle
          exact absurd hx0 (Int32.not_lt.mpr hle)
        · have := hk.mem_iff.mp q
          rw [List.map_cons, List.mem_cons] at this
          rcases this with r | r
          · rw [r]; exact Int32.le_refl _
          · obtain ⟨y, y1, y2⟩ := List.mem_map.mp r
            rw [← y2]
            exact Int32.le_of_lt ((List.pairwise_cons.mp hs).1 y y1)
end
