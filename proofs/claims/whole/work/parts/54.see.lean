/-! THE REFERENCE: LATE, DECIDED, OWN, CLEAN, SEE -/
theorem i_neg1 {v : Int32} (h : -1 ≤ v) (h2 : ¬ 0 ≤ v) : v = -1 := by
  rw [← Int32.toInt_inj]
  rw [Int32.le_iff_toInt_le] at h h2
  have e1 : (-1 : Int32).toInt = -1 := by decide
  have e2 : (0 : Int32).toInt = 0 := by decide
  omega
theorem i_pos0 {v : Int32} (h : 0 ≤ v) : v ≤ 0 ↔ v = 0 := by
  rw [← Int32.toInt_inj]
  rw [Int32.le_iff_toInt_le] at h ⊢
  have e2 : (0 : Int32).toInt = 0 := by decide
  omega
/-- what holds of each cell between the calls -/
def Pce (A : AS) (c : Nat) : Prop :=
  (zl A (2 * c + 1)).Pairwise (fun x y => y.1 < x.1) ∧ (zl A (2 * c)).Pairwise (fun x y => y.1 < x.1) ∧ (∀ q ∈ zl A (2 * c + 1), 0 < q.1 ∧ q.1 < zsc A 4) ∧ (∀ q ∈ zl A (2 * c), 0 < q.1 ∧ q.1 < zsc A 4 ∧ -1 ≤ q.2) ∧
  (∀ q ∈ zl A (2 * c + 1), q.2 ≠ 0 → 0 < q.2 ∧ q.2 < q.1 ∧ ∃ v, (q.2, v) ∈ zl A (2 * c)) ∧ (zl A (2 * c + 1)).Pairwise (fun x y => x.2 = y.2 → x.2 = 0) ∧
  (zlk A 0 c = 0 → zlp A c = 0 ∧ zlk A 1 c = 0) ∧ (¬ zlk A 0 c = 0 → 0 < zlk A 0 c ∧ zlk A 0 c < zsc A 4 ∧ (∀ q ∈ zl A (2 * c + 1), q.1 < zlk A 0 c) ∧ ∃ v, (zlk A 0 c, v) ∈ zl A (2 * c)) ∧
  ∀ q ∈ zl A (2 * c), q.1 = zlk A 0 c ∨ ∃ w ∈ zl A (2 * c + 1), w.2 = q.1
theorem Pce.nd {A : AS} {c : Nat} (h : Pce A c) : ((zl A (2 * c)).map (fun q => q.1)).Nodup := by
  rw [List.Nodup, List.pairwise_map]
  exact h.2.1.imp (fun q => (Int32.ne_of_lt q).symm)
theorem Pce.l0 {A : AS} {c : Nat} (h : Pce A c) : 0 ≤ zlk A 0 c := by
  by_cases e : zlk A 0 c = 0
  · rw [e]; exact Int32.le_refl _
  · exact Int32.le_of_lt (h.2.2.2.2.2.2.2.1 e).1
section
variable {p : Nat → Nat} {m : Nat} {A : AS} {σ : HS} {D : List (Nat × Int32 × Int32)} {V : List (Nat × Int32 × Int32 × Int32)}
theorem RMw.vr (h : RMw p m A σ D V) {i : Nat} (hi : i < V.length) (hV : V.length ≤ 3000) : ai σ (p 298) (nI i).toNatClampNeg = nI V[i].1 ∧ ai σ (p 299) (nI i).toNatClampNeg = V[i].2.1 ∧ ai σ (p 300) (nI i).toNatClampNeg = V[i].2.2.1 ∧ ai σ (p 301) (nI i).toNatClampNeg = V[i].2.2.2 ∧ V[i].1 < 256 ∧ (V[i].2.2.2 = 0 ∨ V[i].2.2.2 = 1) ∧ (V[i].2.2.2 = 0 → ¬ V[i].2.2.1 = 0) ∧ inb (nI i) 3000 := by
  rw [nI_clamp (by omega)]
  obtain ⟨a1, a2, a3, a4, a5, a6, a7⟩ := h.2.2.2.2.2.1 i _ (List.getElem?_eq_getElem hi)
  exact ⟨a1, a2, a3, a4, a5, a6, a7, inb_nI (by omega) (by decide)⟩
theorem Mwr.mem (h : Mwr p A σ V) {c : Nat} (hc : c < 256) {x : Int32 × Int32} : x ∈ zl A (2 * c + 1) ↔ ∃ q ∈ V, q.1 = c ∧ wv q = x := by
  rw [← (h.2 c hc).mem_iff, List.mem_map]
  simp only [List.mem_filter, decide_eq_true_eq]
  constructor
  · rintro ⟨q, ⟨h1, h2⟩, h3⟩; exact ⟨q, h1, h2, h3⟩
  · rintro ⟨q, h1, h2, h3⟩; exact ⟨q, ⟨h1, h2⟩, h3⟩
theorem moLate_L (h : RMo p m A σ) (hK : ∀ k, k < 8 → 0 ≤ ztf A 0 k) {c : Nat} (hc : c < 256) (hl : ¬ zlk A 0 c = 0) : ∀ (r N k : Nat), k + r = 8 → r < N → L_X6_isLate_2 N (p 294) (nI c) (nI k) σ = some (lateI A c ((List.range' k r).find? (fun k => decide (¬ ztf A 0 k = 0 ∧ ztf A 1 k = zlk A 0 c))), σ) := by
  obtain ⟨l1, l2⟩ := h.2.1 c hc
  obtain ⟨l2, l3, l4⟩ := l2 hl
  have s0 := h.s0
  have s1 := h.s1
  have S := h.1
  have hci : inb (nI c) 256 := inb_nI hc (by decide)
  have hcc : (nI c).toNatClampNeg = c := nI_clamp (by omega)
  intro r
  induction r with
  | zero =>
    intro N k hk hN
    obtain ⟨N, rfl⟩ : ∃ M, N = M + 1 := ⟨N - 1, by omega⟩
    simp only [L_X6_isLate_2, B_X6_isLate_2]
    rw [if_pos (by rw [nI_8]; exact nI_le (by omega) (by omega))]
    simp only [S.km, S.r258, S.k258, S.l258, true_and, if_true, if_pos hci, hcc, s0, s1, l3]
    show _ = some (lateI A c none, σ)
    unfold lateI
    by_cases e : zsc A 0 - zlk A 1 c ≤ zsc A 1
    · simp [e, B_X6_isLate_85]
    · simp [e, B_X6_isLate_85]
  | succ r ih =>
    intro N k hk hN
    obtain ⟨N, rfl⟩ : ∃ M, N = M + 1 := ⟨N - 1, by omega⟩
    have hk8 : k < 8 := by omega
    obtain ⟨u1, u2⟩ := h.2.2.1 k hk8
    have hki : inb (nI k) 8 := inb_nI hk8 (by decide)
    have hkc : (nI k).toNatClampNeg = k := nI_clamp (by omega)
    have next := ih N (k + 1) (by omega) (by omega)
    simp only [L_X6_isLate_2, B_X6_isLate_2, B_X6_isLate_56]
    rw [if_neg (by rw [nI_8]; exact nI_ge (by omega) (by omega))]
    simp only [S.km, S.r256, S.k256, S.l256, S.r259, S.k259, S.l259, S.r260, S.k260, S.l260, S.r261, S.k261, S.l261, true_and, if_true, if_pos hci, hcc, if_pos hki, hkc, s0, s1, u1, l1, nI_1, next, i_pos0 (hK k hk8), find_r]
    by_cases e : ztf A 0 k = 0
    · rw [if_pos e, if_neg (by simp [e])]
    · obtain ⟨u2, u3, -⟩ := u2 e
      rw [if_neg e, u2, u3]
      by_cases e2 : ztf A 1 k = zlk A 0 c
      · rw [if_pos e2, if_pos (decide_eq_true ⟨e, e2⟩)]
        unfold lateI
        by_cases e3 : zsc A 0 - ztf A 2 k ≤ zsc A 1
        · simp [e3, B_X6_isLate_55]
        · simp [e3, B_X6_isLate_55]
      · rw [if_neg e2, if_neg (by simp [e2])]
theorem mo_isLate (h : RMo p m A σ) (hK : ∀ k, k < 8 → 0 ≤ ztf A 0 k) {c : Nat} (hc : c < 256) (hl : ¬ zlk A 0 c = 0) : F_X6_isLate (p 294) (nI c) σ = some (aLate A c, σ) := moLate_L h hK hc hl 8 NF 0 rfl (by decide)
theorem mo_isDecided (h : RMo p m A σ) {c : Nat} (hc : c < 256) (hl : ¬ zlk A 0 c = 0) : F_X6_isDecided (p 294) (nI c) σ = some (if zlk A 0 (zlp A c) = zlk A 0 c then 0 else 1, σ) := by
  obtain ⟨l1, l2⟩ := h.2.1 c hc
  obtain ⟨l2, l3, l4⟩ := l2 hl
  obtain ⟨l5, -⟩ := h.2.1 _ l4
  have S := h.1
  have hci : inb (nI c) 256 := inb_nI hc (by decide)
  have hcc : (nI c).toNatClampNeg = c := nI_clamp (by omega)
  have hpi : inb (nI (zlp A c)) 256 := inb_nI l4 (by decide)
  have hpc : (nI (zlp A c)).toNatClampNeg = zlp A c := nI_clamp (by omega)
  unfold F_X6_isDecided
  simp only [S.km, S.r256, S.k256, S.l256, S.r257, S.k257, S.l257, true_and, if_true, if_pos hci, hcc, if_pos hpi, hpc, l1, l2, l5]
  by_cases e : zlk A 0 (zlp A c) = zlk A 0 c
  · rw [if_pos e, if_pos e]; rfl
  · rw [if_neg e, if_neg e]; rfl
theorem own_ix {k i : Nat} : (16 : Int32) * nI k + nI i = nI (16 * k + i) := by
  rw [nI_16, ← nI_add]; congr 1; exact (Int32.ofNat_mul 16 k).symm
theorem moOwn_L (h : RMo p m A σ) {k c : Nat} (hk : k < 8) (hp : ¬ ztf A 0 k = 0) (hc : c < 256) : ∀ (r N i : Nat), i + r = (zow A k).length → r < N →
    L_X6_ownAt_2 N (p 294) (nI k) (nI c) (nI i) σ = some (match ((zow A k).drop i).findIdx? (fun q => decide (q.1 = c)) with | none => -1 | some j => nI (i + j), σ) := by
  obtain ⟨u1, u2⟩ := h.2.2.1 k hk
  obtain ⟨u2, u3, u4, u5, u6, u7⟩ := u2 hp
  have S := h.1
  have hki : inb (nI k) 8 := inb_nI hk (by decide)
  have hkc : (nI k).toNatClampNeg = k := nI_clamp (by omega)
  intro r
  induction r with
  | zero =>
    intro N i hi hN
    obtain ⟨N, rfl⟩ : ∃ M, N = M + 1 := ⟨N - 1, by omega⟩
    simp only [L_X6_ownAt_2, B_X6_ownAt_2, S.km, S.r262, S.k262, S.l262, true_and, if_true, if_pos hki, hkc, u4]
    rw [if_pos (nI_le (by omega) (by omega)), List.drop_of_length_le (by omega)]
    rfl
  | succ r ih =>
    intro N i hi hN
    obtain ⟨N, rfl⟩ : ∃ M, N = M + 1 := ⟨N - 1, by omega⟩
    have hil : i < (zow A k).length := by omega
    have hg : (zow A k)[i]? = some (zow A k)[i] := List.getElem?_eq_getElem hil
    obtain ⟨v1, v2, v3⟩ := u6 i _ hg
    have hji : inb (nI (16 * k + i)) 128 := inb_nI (by omega) (by decide)
    have hjc : (nI (16 * k + i)).toNatClampNeg = 16 * k + i := nI_clamp (by omega)
    have next := ih N (i + 1) (by omega) (by omega)
    simp only [L_X6_ownAt_2, B_X6_ownAt_2, S.km, S.r262, S.k262, S.l262, S.r263, S.k263, S.l263, true_and, if_true, if_pos hki, hkc, u4, own_ix, if_pos hji, hjc, v1, nI_1, next]
    rw [if_neg (nI_ge (by omega) (by omega)), List.drop_eq_getElem_cons hil, List.findIdx?_cons]
    by_cases e : (zow A k)[i].1 = c
    · rw [if_pos (by rw [e]), if_pos (decide_eq_true e)]
      simp
    · rw [if_neg (fun q => e ((nI_eq (by omega) (by omega)).mp q)), if_neg (by simp [e])]
      cases ((zow A k).drop (i + 1)).findIdx? (fun q => decide (q.1 = c)) with
      | none => rfl
      | some j => simp only [Option.map_some]; rw [show i + 1 + j = i + (j + 1) by omega]
theorem mo_ownAt (h : RMo p m A σ) {k c : Nat} (hk : k < 8) (hp : ¬ ztf A 0 k = 0) (hc : c < 256) : F_X6_ownAt (p 294) (nI k) (nI c) σ = some (match plc (zow A k) c with | none => -1 | some j => nI j, σ) := by
  have := moOwn_L h hk hp hc (zow A k).length NF 0 (by omega) (by have := ((h.2.2.1 k hk).2 hp).2.2.2.1; have : NF = 100000 := rfl; omega)
  rw [nI_0, List.drop_zero] at this
  simp only [Nat.zero_add] at this
  exact this
def fW (c : Nat) (s : Int32) : Nat × Int32 × Int32 × Int32 → Bool := fun q => decide (q.1 = c ∧ q.2.2.2 = 0 ∧ q.2.2.1 = s)
theorem moClean_L (h : RMw p m A σ D V) (hV : V.length ≤ 3000) {x c : Nat} (hc : c < 256) (s : Int32) : ∀ (r N i : Nat), i + r = V.length → r < N →
    L_X6_clean_57 N (p 294) (nI x) s (nI c) (nI i) σ = (match (V.drop i).find? (fW c s) with
      | none => bd (F_X6_dropLock (p 294) (nI x) σ) (fun r3 σ3 => if kd σ3 (p 294) = 7 then (bd (F_X6_dropData (p 294) (nI x) s σ3) (fun r5 σ5 => some ((), σ5))) else none)
      | some q => bd (F_X6_addWrite (p 294) (nI x) q.2.1 s (0 : Int32) σ) (fun r13 σ13 => if kd σ13 (p 294) = 7 then (bd (F_X6_dropLock (p 294) (nI x) σ13) (fun r15 σ15 => some ((), σ15))) else none)) := by
  have S := h.1
  have e0 := h.nv
  intro r
  induction r with
  | zero =>
    intro N i hi hN
    obtain ⟨N, rfl⟩ : ∃ M, N = M + 1 := ⟨N - 1, by omega⟩
    simp only [L_X6_clean_57, B_X6_clean_57]
    rw [if_pos S.km, e0, if_pos (nI_le (by omega) (by omega)), List.drop_of_length_le (by omega)]
    rfl
  | succ r ih =>
    intro N i hi hN
    obtain ⟨N, rfl⟩ : ∃ M, N = M + 1 := ⟨N - 1, by omega⟩
    have hil : i < V.length := by omega
    obtain ⟨v1, v2, v3, v4, v5, v6, v7, v8⟩ := h.vr hil hV
    have next := ih N (i + 1) (by omega) (by omega)
    rw [List.drop_eq_getElem_cons hil, List.find?_cons]
    simp only [L_X6_clean_57, B_X6_clean_57, B_X6_clean_118, nI_1, next]
    rw [if_pos S.km, e0, if_neg (nI_ge hil (by omega))]
    simp only [S.r251, S.k251, S.l251, S.r252, S.k252, S.l252, S.r253, S.k253, S.l253, S.r254, S.k254, S.l254, true_and, if_true, v1, v2, v3, v4, if_pos v8]
    by_cases e : V[i].1 = c
    · rw [if_pos (by rw [e])]
      by_cases e2 : V[i].2.2.2 = 0
      · rw [if_pos e2]
        by_cases e3 : V[i].2.2.1 = s
        · rw [if_pos e3, show fW c s V[i] = true from decide_eq_true ⟨e, e2, e3⟩]
        · rw [if_neg e3, show fW c s V[i] = false from decide_eq_false (fun q => e3 q.2.2)]
      · rw [if_neg e2, show fW c s V[i] = false from decide_eq_false (fun q => e2 q.2.1)]
    · rw [if_neg (fun q => e ((nI_eq (by omega) (by omega)).mp q)), show fW c s V[i] = false from decide_eq_false (fun q => e q.1)]
theorem cntL_pos {c : Nat} (hc : c < 256) (h : ¬ zlk A 0 c = 0) : 0 < cntL A := by
  unfold cntL
  exact List.length_pos_of_mem (List.mem_filter.mpr ⟨List.mem_range.mpr hc, decide_eq_true h⟩)
theorem pw_un2 {x y : Int32 × Int32} (e : x.2 = y.2) (h0 : ¬ x.2 = 0) : ∀ {l : List (Int32 × Int32)}, l.Pairwise (fun x y => x.2 = y.2 → x.2 = 0) → x ∈ l → y ∈ l → x = y
  | [], _, h, _ => by cases h
  | a :: l, hp, hx, hy => by
    obtain ⟨h1, h2⟩ := List.pairwise_cons.mp hp
    rcases List.mem_cons.mp hx with q | q
    · rcases List.mem_cons.mp hy with r | r
      · rw [q, r]
      · exact absurd (h1 y r (by rw [← q]; exact e)) (by rw [← q]; exact h0)
    · rcases List.mem_cons.mp hy with r | r
      · exact absurd (h1 x q (by rw [← r]; exact e.symm)) (by rw [← r, ← e]; exact h0)
      · exact pw_un2 e h0 h2 q r
theorem pw_uni {l : List (Int32 × Int32)} (h : l.Pairwise (fun x y => x.2 = y.2 → x.2 = 0)) {x y : Int32 × Int32} (hx : x ∈ l) (hy : y ∈ l) (e : x.2 = y.2) (h0 : ¬ x.2 = 0) : x = y := pw_un2 e h0 h hx hy
theorem mo_clean (h : RMo p 3000 A σ) (hP : ∀ c, c < 256 → Pce A c) {c : Nat} (hc : c < 256) (hl : ¬ zlk A 0 c = 0) : ∃ τ, F_X6_clean (p 294) (nI c) σ = some ((), τ) ∧ RMo p 3000 (aClean A c) τ ∧ Mst p σ τ := by
  obtain ⟨l1, l2⟩ := h.2.1 c hc
  obtain ⟨l2, l3, l4⟩ := l2 hl
  obtain ⟨l5, -⟩ := h.2.1 _ l4
  have S := h.1
  have hci : inb (nI c) 256 := inb_nI hc (by decide)
  have hcc : (nI c).toNatClampNeg = c := nI_clamp (by omega)
  have hpi : inb (nI (zlp A c)) 256 := inb_nI l4 (by decide)
  have hpc : (nI (zlp A c)).toNatClampNeg = zlp A c := nI_clamp (by omega)
  have s10 := h.s10
  have h1 := mo_sc10 h (zsc A 10 + 1)
  have m1 : Mst p σ (si σ 271 (p 294) (zsc A 10 + 1)) := Mst.rf.si (by decide)
  unfold F_X6_clean
  simp only [S.km, S.r256, S.k256, S.l256, S.r257, S.k257, S.l257, true_and, if_true, kd_si, gr_si, ln_si, ai_si, if_pos hci, hcc, if_pos hpi, hpc, l1, l2, l5, s10]
  unfold aClean
  generalize hA1 : usc A 10 (zsc A 10 + 1) = A1 at h1 ⊢
  generalize si σ 271 (p 294) (zsc A 10 + 1) = σ1 at h1 m1 ⊢
  have z1 : ∀ x y, zlk A1 x y = zlk A x y := fun x y => by rw [← hA1]; rfl
  have z2 : ∀ x, zl A1 x = zl A x := fun x => by rw [← hA1]; rfl
  generalize hpe : zlp A c = pc at *
  by_cases e : zlk A 0 pc = zlk A 0 c
  · rw [if_pos e, if_pos e]
    obtain ⟨σ2, a1, a2, a3⟩ := mo_dropLock h1 l4 (by rw [z1, e]; exact hl)
    obtain ⟨D, V, a2⟩ := a2.wi
    rw [bd_eq a1, if_pos a2.1.km]
    obtain ⟨σ3, D', b1, b2, b3, b4⟩ := rm_dropData a2 (by omega) l4 (zlk A 0 c) (by
      rw [show zl (aDropLock A1 pc) (2 * pc) = zl A1 (2 * pc) from rfl, z2]; exact (hP _ l4).nd)
    rw [bd_eq b1, if_pos b2.1.km]
    obtain ⟨σ4, c1, c2, c3⟩ := rm_addWrite b2 (by omega) l4 (zlk A 0 c) (zlk A 0 c) (r := 1) (Or.inr rfl) (fun q => absurd q (by decide))
    rw [bd_eq c1]
    refine ⟨σ4, rfl, ?_, m1.tr (a3.tr (b3.tr c3))⟩
    unfold aUndo
    rw [if_pos rfl, z1, e]
    rw [if_neg (by decide)] at c2
    exact c2.mo.le (by omega)
  · rw [if_neg e, if_neg e]
    obtain ⟨D, V, hw⟩ := h1.wi
    have hb := hw.bo
    have hWm := hw.2.2.2.2.2
    have := moClean_L hw (by omega) (x := c) l4 (zlk A 0 c) V.length NF 0 (by omega) (by have : NF = 100000 := rfl; omega)
    rw [nI_0, List.drop_zero] at this
    rw [this]
    cases hf : V.find? (fW pc (zlk A 0 c)) with
    | none =>
      have hn : (zl A (2 * pc + 1)).find? (fun q => decide (q.2 = zlk A 0 c)) = none := by
        rw [List.find?_eq_none]
        intro q hq hq2
        have hq2 := of_decide_eq_true hq2
        rw [← z2] at hq
        obtain ⟨q', g1, g2, g3⟩ := (hWm.mem l4).mp hq
        have := List.find?_eq_none.mp hf q' g1
        apply this
        subst g3
        unfold wv at hq2
        by_cases g4 : q'.2.2.2 = 0
        · simp only [g4, if_true] at hq2
          exact decide_eq_true ⟨g2, g4, hq2⟩
        · simp only [g4, if_false] at hq2
          exact absurd hq2.symm hl
      rw [hn]
      obtain ⟨σ2, a1, a2, a3⟩ := mo_dropLock h1 hc (by rw [z1]; exact hl)
      obtain ⟨D, V, a2⟩ := a2.wi
      obtain ⟨σ3, D', b1, b2, b3, b4⟩ := rm_dropData a2 (by omega) hc (zlk A 0 c) (by
        rw [show zl (aDropLock A1 c) (2 * c) = zl A1 (2 * c) from rfl, z2]; exact (hP _ hc).nd)
      refine ⟨σ3, ?_, ?_, m1.tr (a3.tr b3)⟩
      · simp only []
        rw [bd_eq a1, if_pos a2.1.km, bd_eq b1]
      · simp only []
        unfold aUndo
        rw [if_neg (by decide), z1]
        exact b2.mo.le (by omega)
    | some q =>
      have hfs : fW pc (zlk A 0 c) q = true := List.find?_some hf
      obtain ⟨g1, g2, g3⟩ := of_decide_eq_true hfs
      have g4 := List.mem_of_find?_eq_some hf
      have hmem : (q.2.1, zlk A 0 c) ∈ zl A (2 * pc + 1) := by
        rw [← z2]
        refine (hWm.mem l4).mpr ⟨q, g4, g1, ?_⟩
        unfold wv
        rw [if_pos g2, g3]
      have hn : (zl A (2 * pc + 1)).find? (fun q => decide (q.2 = zlk A 0 c)) = some (q.2.1, zlk A 0 c) := by
        cases hf2 : (zl A (2 * pc + 1)).find? (fun q => decide (q.2 = zlk A 0 c)) with
        | none => exact absurd (decide_eq_true rfl) (List.find?_eq_none.mp hf2 _ hmem)
        | some q2 =>
          have r0 := List.find?_some hf2
          have r1 : q2.2 = zlk A 0 c := by simpa using r0
          rw [pw_uni (hP _ l4).2.2.2.2.2.1 (List.mem_of_find?_eq_some hf2) hmem r1 (by rw [r1]; exact hl)]
      rw [hn]
      simp only []
      obtain ⟨σ2, a1, a2, a3⟩ := rm_addWrite hw (by have := cntL_pos (A := A1) hc (by rw [z1]; exact hl); omega) hc q.2.1 (zlk A 0 c) (r := 0) (Or.inl rfl) (fun _ => hl)
      obtain ⟨σ3, b1, b2, b3⟩ := mo_dropLock a2.mo hc (by rw [add_lk, z1]; exact hl)
      refine ⟨σ3, ?_, ?_, m1.tr (a3.tr b3)⟩
      · rw [bd_eq a1, if_pos a2.1.km, bd_eq b1]
      · rw [if_pos rfl] at b2
        exact b2.le (by omega)
theorem find_max {P : Int32 × Int32 → Bool} {x : Int32 × Int32} : ∀ {l : List (Int32 × Int32)}, l.Pairwise (fun x y => y.1 < x.1) → x ∈ l → P x = true → (∀ y ∈ l, P y = true → y.1 ≤ x.1) → l.find? P = some x
  | [], _, h, _, _ => by cases h
  | a :: l, hp, h, hx, hm => by
    rw [List.find?_cons]
    have hp' := List.pairwise_cons.mp hp
    by_cases e : P a = true
    · rw [e]
      rcases List.mem_cons.mp h with q | q
      · rw [q]
      · exact absurd (hp'.1 x q) (Int32.not_lt.mpr (hm a (List.mem_cons_self ..) e))
    · rw [Bool.not_eq_true] at e
      rw [e]
      rcases List.mem_cons.mp h with q | q
      · rw [q, e] at hx; cases hx
      · exact find_max hp'.2 q hx (fun y hy => hm y (List.mem_cons_of_mem _ hy))
/-- the value that a data record of the reference holds is the class's -/
theorem rm_val2 (h : RMw p m A σ D V) (hm : m ≤ 3000) {c : Nat} (hc : c < 256) (hS : (zl A (2 * c)).Pairwise (fun x y => y.1 < x.1)) (s : Int32) : (F_X6_dataAt (p 294) (nI c) s σ = some (-1, σ) ∧ vOf (zl A (2 * c)) s = -1 ∧ ∀ v, (s, v) ∉ zl A (2 * c)) ∨ ∃ d, d < 3000 ∧ F_X6_dataAt (p 294) (nI c) s σ = some (nI d, σ) ∧ vOf (zl A (2 * c)) s = ai σ (p 297) d ∧ (s, ai σ (p 297) d) ∈ zl A (2 * c) := by
  have eb := h.bo
  have h5 := h.2.2.2.2.1
  have hq := rm_dataAt h (by omega) (by omega) hc s
  cases hf : D.findIdx? (fD c s) with
  | none =>
    rw [hf] at hq
    have hno : ∀ v, (s, v) ∉ zl A (2 * c) := fun v q => fD_none hf _ ((h5.mem hc).mp q) ⟨rfl, rfl⟩
    refine Or.inl ⟨hq, ?_, hno⟩
    have : (zl A (2 * c)).find? (fun q => decide (q.1 = s)) = none := by
      rw [List.find?_eq_none]
      intro q hq hq2
      have hq2 := of_decide_eq_true hq2
      exact hno q.2 (by rw [← hq2]; exact hq)
    unfold vOf
    rw [this]
  | some d =>
    rw [hf] at hq
    obtain ⟨v, hd, hlt⟩ := fD_some hf
    obtain ⟨y1, y2, y3, y4⟩ := h5.1 d _ hd
    have hmem : (s, v) ∈ zl A (2 * c) := (h5.mem hc).mpr (List.mem_of_getElem? hd)
    refine Or.inr ⟨d, by omega, hq, ?_, by rw [y3]; exact hmem⟩
    have : (zl A (2 * c)).find? (fun q => decide (q.1 = s)) = some (s, v) := find_max hS hmem (decide_eq_true rfl) (fun y _ hy => by rw [of_decide_eq_true hy]; exact Int32.le_refl _)
    unfold vOf
    rw [this, y3]
theorem rm_val (h : RMw p m A σ D V) (hm : m ≤ 3000) {c : Nat} (hc : c < 256) (hP : Pce A c) (s : Int32) : (F_X6_dataAt (p 294) (nI c) s σ = some (-1, σ) ∧ vOf (zl A (2 * c)) s = -1 ∧ ∀ v, (s, v) ∉ zl A (2 * c)) ∨ ∃ d, d < 3000 ∧ F_X6_dataAt (p 294) (nI c) s σ = some (nI d, σ) ∧ vOf (zl A (2 * c)) s = ai σ (p 297) d ∧ (s, ai σ (p 297) d) ∈ zl A (2 * c) := rm_val2 h hm hc hP.2.1 s
def oI : Option Nat → Int32
  | none => -1
  | some j => nI j
def fS (c : Nat) (t : Int32) (q : Nat × Int32 × Int32 × Int32) : Prop := q.1 = c ∧ q.2.2.2 = 0 ∧ q.2.1 ≤ t
def bstI (V : List (Nat × Int32 × Int32 × Int32)) (c : Nat) (t : Int32) (i : Nat) : Option Nat → Prop
  | none => ∀ j q, j < i → V[j]? = some q → ¬ fS c t q
  | some b => ∃ qb, b < i ∧ V[b]? = some qb ∧ fS c t qb ∧ ∀ j q, j < i → V[j]? = some q → fS c t q → q.2.1 ≤ qb.2.1
theorem bstI_skip {c i : Nat} {t : Int32} {o : Option Nat} (h : bstI V c t i o) {x : Nat × Int32 × Int32 × Int32} (hx : V[i]? = some x) (hn : ¬ fS c t x) : bstI V c t (i + 1) o := by
  have key : ∀ j q, j < i + 1 → V[j]? = some q → fS c t q → j < i := by
    intro j q h1 h2 h3
    by_cases e : j = i
    · subst e
      rw [hx] at h2
      exact absurd h3 (by injection h2 with h2; rw [← h2]; exact hn)
    · omega
  cases o with
  | none => exact fun j q h1 h2 h3 => h j q (key j q h1 h2 h3) h2 h3
  | some b =>
    obtain ⟨qb, g1, g2, g3, g4⟩ := h
    exact ⟨qb, by omega, g2, g3, fun j q h1 h2 h3 => g4 j q (key j q h1 h2 h3) h2 h3⟩
theorem bstI_take {c i : Nat} {t : Int32} {o : Option Nat} (h : bstI V c t i o) {x : Nat × Int32 × Int32 × Int32} (hx : V[i]? = some x) (hn : fS c t x) (hb : ∀ b qb, o = some b → V[b]? = some qb → qb.2.1 ≤ x.2.1) : bstI V c t (i + 1) (some i) := by
  refine ⟨x, by omega, hx, hn, fun j q h1 h2 h3 => ?_⟩
  by_cases e : j = i
  · subst e
    rw [hx] at h2
    injection h2 with h2
    rw [h2]; exact Int32.le_refl _
  · cases o with
    | none => exact absurd h3 (h j q (by omega) h2)
    | some b =>
      obtain ⟨qb, g1, g2, g3, g4⟩ := h
      exact Int32.le_trans (g4 j q (by omega) h2 h3) (hb b qb rfl g2)
theorem moSee_L (h : RMw p m A σ D V) (hV : V.length ≤ 3000) {k c : Nat} (hk : k < 8) (hp : ¬ ztf A 0 k = 0) (hc : c < 256) : ∀ (r N i : Nat) (o : Option Nat), i + r = V.length → r < N → bstI V c (ztf A 1 k) i o →
    ∃ o', bstI V c (ztf A 1 k) V.length o' ∧ L_X6_see_99 N (p 294) (nI k) (nI c) (oI o) (nI i) σ = L_X6_see_99 1 (p 294) (nI k) (nI c) (oI o') (nI V.length) σ := by
  have S := h.1
  have e0 := h.nv
  obtain ⟨u1, u2⟩ := h.2.2.1 k hk
  obtain ⟨u2, -⟩ := u2 hp
  have hki : inb (nI k) 8 := inb_nI hk (by decide)
  have hkc : (nI k).toNatClampNeg = k := nI_clamp (by omega)
  intro r
  induction r with
  | zero =>
    intro N i o hi hN hb
    obtain ⟨N, rfl⟩ : ∃ M, N = M + 1 := ⟨N - 1, by omega⟩
    obtain rfl : i = V.length := by omega
    refine ⟨o, hb, ?_⟩
    simp only [L_X6_see_99, B_X6_see_99]
    rw [e0, if_pos (nI_le (by omega) (by omega)), if_pos (nI_le (by omega) (by omega))]
  | succ r ih =>
    intro N i o hi hN hb
    obtain ⟨N, rfl⟩ : ∃ M, N = M + 1 := ⟨N - 1, by omega⟩
    have hil : i < V.length := by omega
    have hx : V[i]? = some V[i] := List.getElem?_eq_getElem hil
    obtain ⟨v1, v2, v3, v4, v5, v6, v7, v8⟩ := h.vr hil hV
    have step : L_X6_see_99 (N + 1) (p 294) (nI k) (nI c) (oI o) (nI i) σ = (if nI V[i].1 = nI c then (if V[i].2.2.2 = 0 then (if ztf A 1 k < V[i].2.1 then L_X6_see_99 N (p 294) (nI k) (nI c) (oI o) (nI (i + 1)) σ else B_X6_see_150 (L_X6_see_99 N) (p 294) (nI k) (nI c) (oI o) (nI i) 1 σ) else L_X6_see_99 N (p 294) (nI k) (nI c) (oI o) (nI (i + 1)) σ) else L_X6_see_99 N (p 294) (nI k) (nI c) (oI o) (nI (i + 1)) σ) := by
      rw [L_X6_see_99]
      unfold B_X6_see_99
      rw [if_pos S.km, e0, if_neg (nI_ge hil (by omega))]
      simp only [S.r251, S.k251, S.l251, S.r252, S.k252, S.l252, S.r260, S.k260, S.l260, S.r254, S.k254, S.l254, true_and, if_true, v1, v2, v4, if_pos v8, if_pos hki, hkc, u2]
      simp only [B_X6_see_149, B_X6_see_150, B_X6_see_184, B_X6_see_186, if_true, nI_1]
    rw [step]
    by_cases e1 : V[i].1 = c
    · rw [if_pos (by rw [e1])]
      by_cases e2 : V[i].2.2.2 = 0
      · rw [if_pos e2]
        by_cases e3 : ztf A 1 k < V[i].2.1
        · rw [if_pos e3]
          exact ih N (i + 1) o (by omega) (by omega) (bstI_skip hb hx (fun q => Int32.not_le.mpr e3 q.2.2))
        · rw [if_neg e3]
          have hs : fS c (ztf A 1 k) V[i] := ⟨e1, e2, Int32.not_lt.mp e3⟩
          unfold B_X6_see_150 B_X6_see_184 B_X6_see_179 B_X6_see_186
          rw [if_neg (by decide), nI_1]
          cases o with
          | none =>
            rw [if_pos (show oI none < 0 by decide)]
            exact ih N (i + 1) (some i) (by omega) (by omega) (bstI_take hb hx hs (fun b qb q => by cases q))
          | some b =>
            obtain ⟨qb, g1, g2, g3, g4⟩ := id hb
            have hbl : b < V.length := by omega
            obtain ⟨w1, w2, w3, w4, w5, w6, w7, w8⟩ := h.vr hbl hV
            have hqb : V[b] = qb := by rw [List.getElem?_eq_getElem hbl] at g2; injection g2
            rw [if_neg (show ¬ oI (some b) < 0 from Int32.not_lt.mpr (nI_pos' (by omega))), if_pos S.km]
            simp only [oI, S.r252, S.k252, S.l252, true_and, if_pos v8, if_pos w8, if_true, v2, w2]
            by_cases e4 : V[i].2.1 ≤ V[b].2.1
            · rw [if_pos e4]
              refine ih N (i + 1) (some b) (by omega) (by omega) ⟨qb, by omega, g2, g3, fun j q h1 h2 h3 => ?_⟩
              by_cases ej : j = i
              · subst ej
                rw [hx] at h2
                injection h2 with h2
                rw [← h2, ← hqb]; exact e4
              · exact g4 j q (by omega) h2 h3
            · rw [if_neg e4]
              refine ih N (i + 1) (some i) (by omega) (by omega) (bstI_take hb hx hs (fun b' qb' q1 q2 => ?_))
              obtain rfl : b = b' := by injection q1
              rw [g2] at q2
              injection q2 with q2
              rw [← q2, ← hqb]
              exact Int32.le_of_lt (Int32.not_le.mp e4)
      · rw [if_neg e2]
        exact ih N (i + 1) o (by omega) (by omega) (bstI_skip hb hx (fun q => e2 q.2.1))
    · rw [if_neg (fun q => e1 ((nI_eq (by omega) (by omega)).mp q))]
      exact ih N (i + 1) o (by omega) (by omega) (bstI_skip hb hx (fun q => e1 q.1))
theorem mo_see93 (h : RMo p 3000 A σ) {k c : Nat} (hk : k < 8) (hp : ¬ ztf A 0 k = 0) (hc : c < 256) (hP : Pce A c) : B_X6_see_93 (p 294) (nI k) (nI c) σ = some (nul (vAt (zl A (2 * c + 1)) (zl A (2 * c)) (ztf A 1 k)), σ) := by
  obtain ⟨D, V, hw⟩ := h.wi
  have hb := hw.bo
  have S := h.1
  have e0 := hw.nv
  have hWm := hw.2.2.2.2.2
  obtain ⟨o, o1, o2⟩ := moSee_L hw (by omega) hk hp hc V.length NF 0 none (by omega) (by have : NF = 100000 := rfl; omega) (fun j q hj => absurd hj (by omega))
  have : B_X6_see_93 (p 294) (nI k) (nI c) σ = L_X6_see_99 NF (p 294) (nI k) (nI c) (oI none) (nI 0) σ := rfl
  rw [this, o2]
  simp only [L_X6_see_99, B_X6_see_99]
  rw [if_pos S.km, e0, if_pos (nI_le (by omega) (by omega))]
  cases o with
  | none =>
    rw [if_neg (show ¬ 0 ≤ oI none by decide)]
    have : (zl A (2 * c + 1)).find? (fun q => decide (q.1 ≤ ztf A 1 k ∧ q.2 ≠ 0)) = none := by
      rw [List.find?_eq_none]
      intro q hq hq2
      obtain ⟨r1, r2⟩ := of_decide_eq_true hq2
      obtain ⟨q', g1, g2, g3⟩ := (hWm.mem hc).mp hq
      obtain ⟨j, hj⟩ := List.getElem?_of_mem g1
      refine o1 j q' (List.getElem?_eq_some_iff.mp hj).1 hj ⟨g2, ?_, ?_⟩
      · by_cases g4 : q'.2.2.2 = 0
        · exact g4
        · exfalso; apply r2; rw [← g3]; unfold wv; simp only [g4, if_false]
      · rw [← g3] at r1; exact r1
    unfold vAt
    rw [this]
    rfl
  | some b =>
    obtain ⟨qb, g1, g2, g3, g4⟩ := o1
    obtain ⟨w1, w2, w3, w4, w5, w6, w7, w8⟩ := hw.vr g1 (by omega)
    have hqb : V[b] = qb := by rw [List.getElem?_eq_getElem g1] at g2; injection g2
    rw [hqb] at w1 w2 w3 w4 w5 w6 w7
    obtain ⟨x1, x2, x3⟩ := g3
    have hwv : wv qb = (qb.2.1, qb.2.2.1) := by unfold wv; rw [if_pos x2]
    have : (zl A (2 * c + 1)).find? (fun q => decide (q.1 ≤ ztf A 1 k ∧ q.2 ≠ 0)) = some (qb.2.1, qb.2.2.1) := by
      refine find_max hP.1 ((hWm.mem hc).mpr ⟨qb, List.mem_of_getElem? g2, x1, hwv⟩) (decide_eq_true ⟨x3, w7 x2⟩) (fun y hy hy2 => ?_)
      obtain ⟨r1, r2⟩ := of_decide_eq_true hy2
      obtain ⟨q', f1, f2, f3⟩ := (hWm.mem hc).mp hy
      obtain ⟨j, hj⟩ := List.getElem?_of_mem f1
      rw [← f3] at r1 ⊢
      refine g4 j q' (List.getElem?_eq_some_iff.mp hj).1 hj ⟨f2, ?_, r1⟩
      by_cases f4 : q'.2.2.2 = 0
      · exact f4
      · exfalso; apply r2; rw [← f3]; unfold wv; simp only [f4, if_false]
    unfold vAt
    rw [this]
    simp only [oI, S.r253, S.k253, S.l253, true_and, if_pos w8, if_true, w3]
    rw [if_pos (nI_pos' (by omega))]
    rcases rm_val hw (by omega) hc hP qb.2.2.1 with ⟨y1, y2, y3⟩ | ⟨d, y0, y1, y2, y3⟩
    · rw [bd_eq y1, y2, if_pos (by decide)]
      rfl
    · have hdi : inb (nI d) 3000 := inb_nI y0 (by decide)
      have hdc : (nI d).toNatClampNeg = d := nI_clamp (by omega)
      rw [bd_eq y1, y2, if_neg (Int32.not_lt.mpr (nI_pos' (by omega)))]
      simp only [S.km, S.r249, S.k249, S.l249, true_and, if_true, if_pos hdi, hdc]
      by_cases ev : 0 ≤ ai σ (p 297) d
      · rw [if_pos ev]
        unfold nul
        rw [if_neg (fun q => by rw [q] at ev; exact absurd ev (by decide))]
        rfl
      · rw [if_neg ev]
        have := i_neg1 (hP.2.2.2.1 _ y3).2.2 ev
        unfold nul
        rw [if_pos this]
        rfl
theorem mo_see (h : RMo p 3000 A σ) (hP : ∀ c, c < 256 → Pce A c) (hK : ∀ k, k < 8 → 0 ≤ ztf A 0 k) {k c : Nat} (hk : k < 8) (hp : ¬ ztf A 0 k = 0) (hv : ∀ q ∈ zow A k, -1 ≤ q.2) (hc : c < 256) : ∃ τ, F_X6_see (p 294) (nI k) (nI c) σ = some ((aLook A k c).1, τ) ∧ RMo p 3000 (aLook A k c).2 τ ∧ Mst p σ τ := by
  have S := h.1
  obtain ⟨l1, l2⟩ := h.2.1 c hc
  obtain ⟨u1, u2⟩ := h.2.2.1 k hk
  obtain ⟨u2, u3, u4, u5, u6, -⟩ := u2 hp
  have hki : inb (nI k) 8 := inb_nI hk (by decide)
  have hkc : (nI k).toNatClampNeg = k := nI_clamp (by omega)
  have hci : inb (nI c) 256 := inb_nI hc (by decide)
  have hcc : (nI c).toNatClampNeg = c := nI_clamp (by omega)
  unfold F_X6_see aLook ownV
  rw [if_pos S.km, bd_eq (mo_ownAt h hk hp hc)]
  cases e : plc (zow A k) c with
  | some j =>
    obtain ⟨q, q1, q2, q3, q4⟩ := plc_some e
    obtain ⟨y1, y2, y3⟩ := u6 j q q1
    have hji : inb (nI (16 * k + j)) 128 := inb_nI (by omega) (by decide)
    have hjc : (nI (16 * k + j)).toNatClampNeg = 16 * k + j := nI_clamp (by omega)
    rw [q3]
    simp only [Option.map_some]
    rw [if_neg (Int32.not_lt.mpr (nI_pos' (by omega)))]
    simp only [S.km, S.r264, S.k264, S.l264, true_and, if_true, own_ix, if_pos hji, hjc, y2]
    refine ⟨σ, ?_, h, Mst.rf⟩
    by_cases ev : 0 ≤ q.2
    · rw [if_pos ev]
      unfold nul
      rw [if_neg (fun q => by rw [q] at ev; exact absurd ev (by decide))]
      rfl
    · rw [if_neg ev]
      have := i_neg1 (hv q (List.mem_of_getElem? q1)) ev
      unfold nul
      rw [if_pos this]
      rfl
  | none =>
    rw [plc_none e]
    simp only [Option.map_none]
    rw [if_pos (by decide)]
    simp only [S.km, S.r256, S.k256, S.l256, S.r260, S.k260, S.l260, true_and, if_true, if_pos hki, hkc, if_pos hci, hcc, l1, u2, i_pos0 (hP c hc).l0]
    by_cases e1 : zlk A 0 c = 0
    · rw [if_pos e1, if_pos (Or.inl e1), mo_see93 h hk hp hc (hP c hc)]
      exact ⟨σ, rfl, h, Mst.rf⟩
    · rw [if_neg e1]
      by_cases e2 : ztf A 1 k ≤ zlk A 0 c
      · rw [if_pos e2, if_pos (Or.inr e2), mo_see93 h hk hp hc (hP c hc)]
        exact ⟨σ, rfl, h, Mst.rf⟩
      · rw [if_neg e2, if_neg (fun q => q.elim e1 e2), bd_eq (mo_isDecided h hc e1)]
        have fin : ∃ τ, B_X6_see_82 (p 294) (nI c) σ = some (-5, τ) ∧ RMo p 3000 (aClean A c) τ ∧ Mst p σ τ := by
          obtain ⟨τ, a1, a2, a3⟩ := mo_clean h hP hc e1
          refine ⟨τ, ?_, a2, a3⟩
          unfold B_X6_see_82
          rw [if_pos S.km, bd_eq a1]
        by_cases e3 : zlk A 0 (zlp A c) = zlk A 0 c
        · rw [if_pos e3, if_pos rfl, if_pos S.km, bd_eq (mo_isLate h hK hc e1)]
          by_cases e4 : aLate A c = 0
          · rw [if_pos e4, if_neg (fun q => q.elim (fun q => q e3) (fun q => q e4))]
            exact ⟨σ, rfl, h, Mst.rf⟩
          · rw [if_neg e4, if_pos (Or.inr e4)]
            exact fin
        · rw [if_neg e3, if_neg (by decide), if_pos (Or.inl e3)]
          exact fin
end
