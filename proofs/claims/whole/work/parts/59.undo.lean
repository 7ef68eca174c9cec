/-! THE REFERENCE: UNDO, STEP -/
def anyL (A : AS) (k : Nat) : Nat → Nat → Bool
  | 0, _ => false
  | r + 1, c => decide (zlk A 0 c = ztf A 1 k) || anyL A k r (c + 1)
theorem anyL_s (A : AS) (k r c : Nat) : anyL A k (r + 1) c = (decide (zlk A 0 c = ztf A 1 k) || anyL A k r (c + 1)) := rfl
theorem und_no {A : AS} {k : Nat} : ∀ (r c : Nat) (f : Int32), anyL A k r c = false → und k r c f A = (f, A) := by
  intro r
  induction r with
  | zero => intro c f _; rfl
  | succ r ih =>
    intro c f h
    unfold anyL at h
    rw [Bool.or_eq_false_iff] at h
    unfold und
    rw [if_neg (of_decide_eq_false h.1)]
    exact ih _ _ h.2
theorem und_1 {k : Nat} : ∀ (r c : Nat) (A : AS), (und k r c 1 A).1 = 1 := by
  intro r
  induction r with
  | zero => intro c A; rfl
  | succ r ih =>
    intro c A
    unfold und
    split
    · exact ih _ _
    · exact ih _ _
theorem und_yes {A : AS} {k : Nat} : ∀ (r c : Nat) (f : Int32), anyL A k r c = true → (und k r c f A).1 = 1 := by
  intro r
  induction r with
  | zero => intro c f h; cases h
  | succ r ih =>
    intro c f h
    unfold anyL at h
    unfold und
    by_cases e : zlk A 0 c = ztf A 1 k
    · rw [if_pos e]; exact und_1 _ _ _
    · rw [if_neg e]
      rw [decide_eq_false e, Bool.false_or] at h
      exact ih _ _ h
theorem dd_lk (A : AS) (c : Nat) (s : Int32) : zlk (aDropData A c s) = zlk A := by
  unfold aDropData; split <;> rfl
theorem undo_lk (A : AS) (c : Nat) (b : Bool) (x : Nat) : zlk (aUndo A c b) 0 x = if x = c then 0 else zlk A 0 x := by
  have : zlk (aUndo A c b) 0 x = zlk (aDropLock A c) 0 x := by
    unfold aUndo
    split
    · rw [add_lk, dd_lk]
    · rw [dd_lk]
  rw [this]
  exact lk_0 A c 0 0 0 x
def DN (A : AS) : Prop := ∀ c, c < 256 → ((zl A (2 * c)).map (fun q => q.1)).Nodup
theorem dd_dn {A : AS} (h : DN A) (c : Nat) (s : Int32) : DN (aDropData A c s) := by
  intro c' hc'
  unfold aDropData
  split
  · rw [del_l]
    split
    · rename_i e
      obtain rfl : c' = c := by omega
      exact (h c' hc').sublist (List.Sublist.map _ List.eraseP_sublist)
    · exact h c' hc'
  · exact h c' hc'
theorem undo_dn {A : AS} (h : DN A) (c : Nat) (b : Bool) : DN (aUndo A c b) := by
  have h1 : DN (aDropLock A c) := h
  have h2 := dd_dn h1 c (zlk A 0 c)
  unfold aUndo
  split
  · intro c' hc'
    rw [add_l, if_neg (by omega)]
    exact h2 c' hc'
  · exact h2
section
variable {p : Nat → Nat} {m : Nat} {A : AS} {σ : HS} {D : List (Nat × Int32 × Int32)} {V : List (Nat × Int32 × Int32 × Int32)}
theorem moAny_L (h : RMo p m A σ) {k row : Nat} (hk : k < 8) (hr : row < 64) (hp : ¬ ztf A 0 k = 0) (ho : ∀ c', c' < 256 → zlk A 0 c' = ztf A 1 k → plc (zow A k) c' ≠ none) (n : Int32) (k2 : Nat → Int32 → Int32 → HS → Option (Int32 × HS)) : ∀ (r N c : Nat) (f : Bool), c + r = 4 * row + 4 → r < N →
    L_X6_undo_26 k2 N (p 294) (nI k) n (nI row) (bI f) (nI c) σ = (if (f || anyL A k r c) = true then L_X6_undo_93 NF (p 294) (nI k) (nI row) (nI (4 * row)) σ else k2 (p 294) (nI k) (n + 1) σ) := by
  have hki : inb (nI k) 8 := inb_nI hk (by decide)
  have hkc : (nI k).toNatClampNeg = k := nI_clamp (by omega)
  have S := h.1
  have u2 := ((h.2.2.1 k hk).2 hp).1
  have u5 := ((h.2.2.1 k hk).2 hp).2.2.2.1
  intro r
  induction r with
  | zero =>
    intro N c f hc hN
    obtain ⟨N, rfl⟩ : ∃ M, N = M + 1 := ⟨N - 1, by omega⟩
    simp only [L_X6_undo_26, B_X6_undo_26, anyL, Bool.or_false]
    rw [row4, if_pos (nI_le (by omega) (by omega)), row0]
    cases f with
    | true => rw [if_neg (show ¬ bI true = 0 by decide), if_pos rfl]
    | false => rw [if_pos (show bI false = 0 from rfl), if_neg (by decide)]
  | succ r ih =>
    intro N c f hc hN
    obtain ⟨N, rfl⟩ : ∃ M, N = M + 1 := ⟨N - 1, by omega⟩
    have hc6 : c < 256 := by omega
    have hci : inb (nI c) 256 := inb_nI hc6 (by decide)
    have hcc : (nI c).toNatClampNeg = c := nI_clamp (by omega)
    have l1 := (h.2.1 c hc6).1
    have n1 := ih N (c + 1) true (by omega) (by omega)
    have n0 := ih N (c + 1) false (by omega) (by omega)
    rw [show bI true = (1 : Int32) from rfl] at n1
    rw [show bI false = (0 : Int32) from rfl] at n0
    simp only [L_X6_undo_26, B_X6_undo_26, B_X6_undo_67, B_X6_undo_71, B_X6_undo_72, nI_1]
    rw [row4, if_neg (nI_ge (by omega) (by omega))]
    cases f with
    | true =>
      rw [if_neg (show ¬ bI true = 0 by decide), n1, Bool.true_or, Bool.true_or]
    | false =>
      rw [if_pos (show bI false = 0 from rfl), if_pos S.km, bd_eq (mo_ownAt h hk hp hc6), Bool.false_or]
      by_cases el : zlk A 0 c = ztf A 1 k
      · have ha : anyL A k (r + 1) c = true := by rw [anyL_s, decide_eq_true el, Bool.true_or]
        rw [ha, if_pos (show true = true from rfl)]
        cases e : plc (zow A k) c with
        | none => exact absurd e (ho c hc6 el)
        | some j =>
          obtain ⟨q, q1, q2, q3, q4⟩ := plc_some e
          simp only []
          rw [if_neg (Int32.not_lt.mpr (nI_pos' (by omega)))]
          simp only [S.km, S.r256, S.k256, S.l256, S.r260, S.k260, S.l260, true_and, if_true, if_pos hki, hkc, if_pos hci, hcc, l1, u2]
          rw [if_pos el, n1, Bool.true_or, if_pos rfl]
      · have ha : anyL A k (r + 1) c = anyL A k r (c + 1) := by rw [anyL_s, decide_eq_false el, Bool.false_or]
        rw [ha]
        cases e : plc (zow A k) c with
        | none =>
          simp only []
          rw [if_pos (show (-1 : Int32) < 0 by decide), n0, Bool.false_or]
        | some j =>
          obtain ⟨q, q1, q2, q3, q4⟩ := plc_some e
          simp only []
          rw [if_neg (Int32.not_lt.mpr (nI_pos' (by omega)))]
          simp only [S.km, S.r256, S.k256, S.l256, S.r260, S.k260, S.l260, true_and, if_true, if_pos hki, hkc, if_pos hci, hcc, l1, u2]
          rw [if_neg el, n0, Bool.false_or]
theorem moUnd_L {k row : Nat} (hk : k < 8) (hr : row < 64) : ∀ (r N c : Nat) (f : Int32) (A : AS) (σ : HS), RMo p 3000 A σ → ¬ ztf A 0 k = 0 → ¬ ztf A 1 k = 0 → zow A k ≠ [] → (∀ c', c' < 256 → zlk A 0 c' = ztf A 1 k → plc (zow A k) c' ≠ none) → DN A → c + r = 4 * row + 4 → r < N →
    ∃ τ, L_X6_undo_93 N (p 294) (nI k) (nI row) (nI c) σ = some (1, τ) ∧ RMo p 3000 (und k r c f A).2 τ ∧ Mst p σ τ := by
  have hki : inb (nI k) 8 := inb_nI hk (by decide)
  have hkc : (nI k).toNatClampNeg = k := nI_clamp (by omega)
  have h0i : inb (nI (16 * k)) 128 := inb_nI (by omega) (by decide)
  have h0c : (nI (16 * k)).toNatClampNeg = 16 * k := nI_clamp (by omega)
  intro r
  induction r with
  | zero =>
    intro N c f A σ h hp hs hne ho hd hc hN
    obtain ⟨N, rfl⟩ : ∃ M, N = M + 1 := ⟨N - 1, by omega⟩
    simp only [L_X6_undo_93, B_X6_undo_93]
    rw [row4, if_pos (nI_le (by omega) (by omega))]
    exact ⟨σ, rfl, h, Mst.rf⟩
  | succ r ih =>
    intro N c f A σ h hp hs hne ho hd hc hN
    obtain ⟨N, rfl⟩ : ∃ M, N = M + 1 := ⟨N - 1, by omega⟩
    have S := h.1
    have hc6 : c < 256 := by omega
    have hci : inb (nI c) 256 := inb_nI hc6 (by decide)
    have hcc : (nI c).toNatClampNeg = c := nI_clamp (by omega)
    have l1 := (h.2.1 c hc6).1
    obtain ⟨u2, u3, u4, u5, u6, u7⟩ := (h.2.2.1 k hk).2 hp
    simp only [L_X6_undo_93, B_X6_undo_93, B_X6_undo_183]
    rw [row4, if_neg (nI_ge (by omega) (by omega)), if_pos S.km, bd_eq (mo_ownAt h hk hp hc6)]
    unfold und
    by_cases el : zlk A 0 c = ztf A 1 k
    · rw [if_pos el]
      cases e : plc (zow A k) c with
      | none => exact absurd e (ho c hc6 el)
      | some j =>
        obtain ⟨q, q1, q2, q3, q4⟩ := plc_some e
        simp only []
        rw [if_neg (Int32.not_lt.mpr (nI_pos' (by omega)))]
        simp only [S.km, S.r256, S.k256, S.l256, S.r260, S.k260, S.l260, true_and, if_true, if_pos hki, hkc, if_pos hci, hcc, l1, u2]
        rw [if_pos el]
        have hl : ¬ zlk A 0 c = 0 := by rw [el]; exact hs
        obtain ⟨σ2, a1, a2, a3⟩ := mo_dropLock h hc6 hl
        have S2 := a2.1
        have hp2 : ¬ ztf (aDropLock A c) 0 k = 0 := hp
        have v2 : ai σ2 (p 306) k = ztf A 1 k := ((a2.2.2.1 k hk).2 hp2).1
        obtain ⟨D, V, a2⟩ := a2.wi
        obtain ⟨σ3, D', b1, b2, b3, b4⟩ := rm_dropData a2 (by omega) hc6 (ztf A 1 k) (hd c hc6)
        have S3 := b2.1
        have kk := dd_k (aDropLock A c) c (ztf A 1 k)
        have hp3 : ¬ ztf (aDropData (aDropLock A c) c (ztf A 1 k)) 0 k = 0 := by rw [kk.2.1]; exact hp
        have hne3 : zow (aDropData (aDropLock A c) c (ztf A 1 k)) k ≠ [] := by rw [kk.1]; exact hne
        have v3 : ai σ3 (p 306) k = ztf A 1 k := by
          have := ((b2.mo.2.2.1 k hk).2 hp3).1
          rw [kk.2.1] at this; exact this
        obtain ⟨pm1, pm2⟩ := b2.mo.pm hk hp3 hne3
        have pe : prm (aDropData (aDropLock A c) c (ztf A 1 k)) k = prm A k := by
          unfold prm; rw [kk.1]; rfl
        rw [pe] at pm1 pm2
        rw [bd_eq a1]
        simp only [S2.km, S2.r260, S2.k260, S2.l260, true_and, if_true, if_pos hki, hkc, v2]
        rw [bd_eq b1]
        simp only [S3.km, S3.r260, S3.k260, S3.l260, S3.r263, S3.k263, S3.l263, true_and, if_true, if_pos hki, hkc, own0, if_pos h0i, h0c, v3, pm1]
        obtain ⟨z1, z2⟩ := undo_k A c (decide (c = prm A k))
        have ho' : ∀ c', c' < 256 → zlk (aUndo A c (decide (c = prm A k))) 0 c' = ztf (aUndo A c (decide (c = prm A k))) 1 k → plc (zow (aUndo A c (decide (c = prm A k))) k) c' ≠ none := by
          intro c' g1 g2
          rw [undo_lk, z2] at g2
          rw [z1]
          by_cases ec : c' = c
          · rw [if_pos ec] at g2; exact absurd g2.symm hs
          · rw [if_neg ec] at g2; exact ho c' g1 g2
        have hd' := undo_dn hd c (decide (c = prm A k))
        by_cases ep : c = prm A k
        · rw [if_pos (by rw [ep])]
          obtain ⟨σ4, c1, c2, c3⟩ := rm_addWrite b2 (by omega) hc6 (ztf A 1 k) (ztf A 1 k) (r := 1) (Or.inr rfl) (fun q => absurd q (by decide))
          rw [if_neg (by decide)] at c2
          rw [bd_eq c1, nI_1]
          have hr2 : RMo p 3000 (aUndo A c (decide (c = prm A k))) σ4 := by
            unfold aUndo
            rw [decide_eq_true ep, if_pos rfl, el]
            exact c2.mo.le (by omega)
          obtain ⟨τ, d1, d2, d3⟩ := ih N (c + 1) 1 _ σ4 hr2 (by rw [z2]; exact hp) (by rw [z2]; exact hs) (by rw [z1]; exact hne) ho' hd' (by omega) (by omega)
          exact ⟨τ, d1, d2, a3.tr (b3.tr (c3.tr d3))⟩
        · rw [if_neg (fun q => ep ((nI_eq (by omega) (by omega)).mp q)), nI_1]
          have hr2 : RMo p 3000 (aUndo A c (decide (c = prm A k))) σ3 := by
            unfold aUndo
            rw [decide_eq_false ep, if_neg (by decide), el]
            exact b2.mo.le (by omega)
          obtain ⟨τ, d1, d2, d3⟩ := ih N (c + 1) 1 _ σ3 hr2 (by rw [z2]; exact hp) (by rw [z2]; exact hs) (by rw [z1]; exact hne) ho' hd' (by omega) (by omega)
          exact ⟨τ, d1, d2, a3.tr (b3.tr d3)⟩
    · rw [if_neg el]
      obtain ⟨τ, c1, c2, c3⟩ := ih N (c + 1) f A σ h hp hs hne ho hd (by omega) (by omega)
      refine ⟨τ, ?_, c2, c3⟩
      rw [← c1]
      cases e : plc (zow A k) c with
      | none =>
        simp only []
        rw [if_pos (by decide), nI_1]
      | some j =>
        obtain ⟨q, q1, q2, q3, q4⟩ := plc_some e
        simp only []
        rw [if_neg (Int32.not_lt.mpr (nI_pos' (by omega)))]
        simp only [S.km, S.r256, S.k256, S.l256, S.r260, S.k260, S.l260, true_and, if_true, if_pos hki, hkc, if_pos hci, hcc, l1, u2]
        rw [if_neg el, nI_1]
theorem moUndo_L (h : RMo p 3000 A σ) {k : Nat} (hk : k < 8) (hp : ztf A 0 k = 4) (hs : ¬ ztf A 1 k = 0) (hne : zow A k ≠ []) (ho : ∀ c', c' < 256 → zlk A 0 c' = ztf A 1 k → plc (zow A k) c' ≠ none) (hd : DN A) : ∀ (r N i : Nat), i + r = (rws (zow A k)).length → r < N →
    ∃ τ, L_X6_undo_2 N (p 294) (nI k) (nI i) σ = some ((unr k ((rws (zow A k)).drop i) A).1, τ) ∧ RMo p 3000 (unr k ((rws (zow A k)).drop i) A).2 τ ∧ Mst p σ τ := by
  have hki : inb (nI k) 8 := inb_nI hk (by decide)
  have hkc : (nI k).toNatClampNeg = k := nI_clamp (by omega)
  have S := h.1
  have hp0 : ¬ ztf A 0 k = 0 := by rw [hp]; decide
  obtain ⟨u2, u3, u4, u5, u6, u7⟩ := (h.2.2.1 k hk).2 hp0
  have hl := rws_len (zow A k)
  have hrows : ∀ x ∈ rws (zow A k), x < 64 := rws_lt (fun q hq => by
    obtain ⟨i, hi⟩ := List.getElem?_of_mem hq
    exact (u6 i q hi).2.2)
  intro r
  induction r with
  | zero =>
    intro N i hi hN
    obtain ⟨N, rfl⟩ : ∃ M, N = M + 1 := ⟨N - 1, by omega⟩
    have ro := mo_rowOf (n := i) h hk hp0 (by omega)
    rw [List.getElem?_eq_none (by omega)] at ro
    simp only [L_X6_undo_2, B_X6_undo_2]
    rw [if_pos S.km, bd_eq ro, if_pos (by decide), List.drop_of_length_le (by omega)]
    simp only [S.km, S.r259, S.k259, S.l259, true_and, if_true, if_pos hki, hkc]
    exact ⟨_, rfl, mo_ph0 h hk, Mst.rf.sai (S.le (by decide))⟩
  | succ r ih =>
    intro N i hi hN
    obtain ⟨N, rfl⟩ : ∃ M, N = M + 1 := ⟨N - 1, by omega⟩
    have hil : i < (rws (zow A k)).length := by omega
    have hrow := hrows _ (List.getElem_mem hil)
    have ro := mo_rowOf (n := i) h hk hp0 (by omega)
    rw [List.getElem?_eq_getElem hil] at ro
    simp only [] at ro
    simp only [L_X6_undo_2, B_X6_undo_2]
    rw [if_pos S.km, bd_eq ro, if_neg (Int32.not_lt.mpr (nI_pos' (by omega))), if_pos S.km, bd_eq ro, row0, List.drop_eq_getElem_cons hil]
    have an := moAny_L h hk hrow hp0 ho (nI i) (L_X6_undo_2 N) 4 NF (4 * (rws (zow A k))[i]) false rfl (by decide)
    rw [show bI false = (0 : Int32) from rfl, Bool.false_or] at an
    rw [an]
    unfold unr
    by_cases e : anyL A k 4 (4 * (rws (zow A k))[i]) = true
    · rw [if_pos e, und_yes 4 _ 0 e, if_neg (by decide)]
      exact moUnd_L hk hrow 4 NF _ 0 A σ h hp0 hs hne ho hd rfl (by decide)
    · rw [if_neg e, und_no 4 _ 0 (by simpa using e), if_pos rfl, nI_1]
      exact ih N (i + 1) (by omega) (by omega)
theorem mo_step (h : RMo p 3000 A σ) (hP : ∀ c, c < 256 → Pce A c) (hK : ∀ k, k < 8 → 0 ≤ ztf A 0 k) (hL : ¬ 64 ≤ zsc A 7) {k : Nat} (hk : k < 8) (hPh : Ph A k) (hs : ¬ ztf A 0 k = 0 → ¬ ztf A 1 k = 0) (ho : ¬ ztf A 0 k = 0 → ∀ c', c' < 256 → zlk A 0 c' = ztf A 1 k → plc (zow A k) c' ≠ none) : ∃ τ, F_X6_step (p 294) (nI k) σ = some ((aStep A k).1, τ) ∧ RMo p 3000 (aStep A k).2 τ ∧ Mst p σ τ := by
  have hki : inb (nI k) 8 := inb_nI hk (by decide)
  have hkc : (nI k).toNatClampNeg = k := nI_clamp (by omega)
  have h0 := mo_code h 0
  have m0 : Mst p σ (si σ 240 (p 294) 0) := Mst.rf.si (by decide)
  unfold F_X6_step aStep
  rw [if_pos h.km]
  generalize si σ 240 (p 294) 0 = σ0 at h0 m0 ⊢
  have S := h0.1
  rw [bd_eq (noClient_ok hk σ0), if_pos rfl]
  have T := mo_touch h0 hk
  have m1 : Mst p σ0 (sai σ0 (p 307) k (zsc A 0)) := Mst.rf.sai (S.le (by decide))
  simp only [S.km, S.r259, S.k259, S.l259, S.r261, S.k261, S.l261, true_and, if_true, gr_sai, kd_sai, ln_sai, if_pos hki, hkc, h0.s0]
  generalize sai σ0 (p 307) k (zsc A 0) = σ1 at T m1 ⊢
  obtain ⟨w1, w2, w3⟩ := touch_k A k
  have hP1 : ∀ c, c < 256 → Pce (aTouch A k) c := fun c hc => (hP c hc).tch k
  have hK1 : ∀ x, x < 8 → 0 ≤ ztf (aTouch A k) 0 x := fun x hx => by rw [w2]; exact hK x hx
  have hPh1 := hPh.tch
  have w4 : ztf (aTouch A k) 1 k = ztf A 1 k := by
    unfold aTouch; split
    · rfl
    · rw [ztf_utf, if_neg (by omega)]
  have w5 : zlk (aTouch A k) = zlk A := by unfold aTouch; split <;> rfl
  have w7 : zsc (aTouch A k) 7 = zsc A 7 := by unfold aTouch; split <;> rfl
  have hs1 : ¬ ztf (aTouch A k) 0 k = 0 → ¬ ztf (aTouch A k) 1 k = 0 := by rw [w2, w4]; exact hs
  have ho1 : ¬ ztf (aTouch A k) 0 k = 0 → ∀ c', c' < 256 → zlk (aTouch A k) 0 c' = ztf (aTouch A k) 1 k → plc (zow (aTouch A k) k) c' ≠ none := by rw [w1, w2, w4, w5]; exact ho
  have hL1 : ¬ 64 ≤ zsc (aTouch A k) 7 := by rw [w7]; exact hL
  have hd1 : DN (aTouch A k) := fun c hc => (hP1 c hc).nd
  clear hP hK hPh hs ho hL w1 w2 w3 w4 w5 w7
  generalize aTouch A k = A1 at *
  rw [(T.2.2.1 k hk).1]
  unfold aGo
  have fin : ∀ (F : Option (Int32 × HS)) (r : Int32) (B : AS), (∃ τ, F = some (r, τ) ∧ RMo p 3000 B τ ∧ Mst p σ1 τ) → ∃ τ, bd F (fun r8 σ8 => if kd σ8 (p 294) = 7 then bd (F_X6_end (p 294) r8 σ8) (fun r10 σ10 => some (r10, σ10)) else none) = some (r, τ) ∧ RMo p 3000 (aPut B) τ ∧ Mst p σ τ := by
    rintro F r B ⟨τ, a1, a2, a3⟩
    obtain ⟨υ, b1, b2, b3⟩ := mo_end a2 r
    rw [bd_eq a1, if_pos a2.km, bd_eq b1]
    exact ⟨υ, rfl, b2, m0.tr (m1.tr (a3.tr b3))⟩
  have hrl := rws_len (zow A1 k)
  by_cases e2 : ztf A1 0 k = 2
  · rw [if_pos e2, if_pos e2]
    have hp0 : ¬ ztf A1 0 k = 0 := by rw [e2]; decide
    apply fin
    obtain ⟨hne, d, hd, hdl⟩ := hPh1.1 e2
    have S1 := T.1
    obtain ⟨u2, u3, u4, u5, u6, u7⟩ := (T.2.2.1 k hk).2 hp0
    have u7 := u7.1 (by rw [e2]; decide)
    have ro := mo_rowOf (n := d) T hk hp0 (by omega)
    unfold F_X6_lockRow
    simp only [S1.km, S1.r265, S1.k265, S1.l265, true_and, if_true, if_pos hki, hkc, u7, hd]
    rw [bd_eq ro]
    by_cases el : (rws (zow A1 k)).length ≤ d
    · rw [if_pos (nI_le el (by omega)), List.getElem?_eq_none el]
      simp only []
      rw [if_neg (by decide)]
      obtain ⟨τ, a1, a2, a3⟩ := mo_decide T hk e2 (hs1 hp0) hne (ho1 hp0)
      rw [if_pos S1.km, bd_eq a1]
      exact ⟨τ, rfl, a2, a3⟩
    · have hdl : d < (rws (zow A1 k)).length := by omega
      have hrow : (rws (zow A1 k))[d] < 64 := rws_lt (fun q hq => by
        obtain ⟨i, hi⟩ := List.getElem?_of_mem hq
        exact (u6 i q hi).2.2) _ (List.getElem_mem hdl)
      rw [if_neg (nI_ge hdl (by omega)), List.getElem?_eq_getElem hdl]
      simp only []
      rw [if_pos (nI_pos' (by omega)), row0]
      have hrd : rowD A1 k = (rws (zow A1 k))[d] := by
        unfold rowD
        rw [hd, nI_clamp (by omega), List.getD_eq_getElem?_getD, List.getElem?_eq_getElem hdl]
        rfl
      rw [hrd]
      exact mo_lockRow T hP1 hK1 hk e2 (hs1 hp0) hne hrow
  · rw [if_neg e2, if_neg e2]
    by_cases e3 : ztf A1 0 k = 3
    · rw [if_pos e3, if_pos e3]
      have hp0 : ¬ ztf A1 0 k = 0 := by rw [e3]; decide
      apply fin
      obtain ⟨hne, d, hd, hdl⟩ := hPh1.2.1 e3
      have u5 := ((T.2.2.1 k hk).2 hp0).2.2.2.1
      have hrd : rowD A1 k = (rws (zow A1 k))[d] := by
        unfold rowD
        rw [hd, nI_clamp (by omega), List.getD_eq_getElem?_getD, List.getElem?_eq_getElem hdl]
        rfl
      rw [hrd]
      exact mo_settle T hk e3 (hs1 hp0) (ho1 hp0) hd (List.getElem?_eq_getElem hdl)
    · rw [if_neg e3, if_neg e3]
      by_cases e4 : ztf A1 0 k = 4
      · rw [if_pos e4, if_pos e4]
        have hp0 : ¬ ztf A1 0 k = 0 := by rw [e4]; decide
        apply fin
        have u5 := ((T.2.2.1 k hk).2 hp0).2.2.2.1
        have := moUndo_L T hk e4 (hs1 hp0) (hPh1.2.2 e4) (ho1 hp0) hd1 (rws (zow A1 k)).length NF 0 (by omega) (by have : NF = 100000 := rfl; omega)
        rw [List.drop_zero, nI_0] at this
        exact this
      · rw [if_neg e4, if_neg e4]
        refine ⟨σ1, rfl, ?_, m0.tr m1⟩
        unfold aPut
        rw [if_neg hL1]
        exact T
end
