/-! THE REFERENCE: PUBLIC CALLS, 1 -/
theorem in_F (a lo hi : Int32) (σ : HS) : F_X6_in a lo hi σ = some (if a < lo ∨ hi < a then 0 else 1, σ) := by
  unfold F_X6_in B_X6_in_14 B_X6_in_15
  by_cases e : a < lo
  · rw [if_pos e, if_pos (Or.inl rfl), if_pos (Or.inl e)]
  · rw [if_neg e]
    by_cases e2 : hi < a
    · rw [if_pos e2, if_pos (Or.inl rfl), if_pos (Or.inr e2)]
    · rw [if_neg e2, if_pos (Or.inr rfl), if_neg (fun q => q.elim e e2)]
theorem in_ok {n k : Nat} (h : k ≤ n) (hn : n < 2 ^ 31) (σ : HS) : F_X6_in (nI k) 0 (nI n) σ = some (1, σ) := by
  rw [in_F, if_neg]
  rintro (q | q)
  · exact absurd q (nI_pos (by omega))
  · exact absurd q (Int32.not_lt.mpr (nI_le h hn))
theorem in_no {n : Nat} {x : Int32} (hn : n < 2 ^ 31 - 1) (h : ¬ ∃ k, k < n + 1 ∧ x = nI k) (σ : HS) : F_X6_in x 0 (nI n) σ = some (0, σ) := by
  rw [in_F, if_pos]
  rcases pk_ix x (n := n + 1) (by omega) with q | q | q
  · exact Or.inl q
  · refine Or.inr (Int32.lt_of_lt_of_le ?_ q)
    exact Int32.not_le.mp (nI_ge (by omega) (by omega))
  · exact absurd q h
theorem noClient_ok {k : Nat} (hk : k < 8) (σ : HS) : F_X6_noClient (nI k) σ = some (0, σ) := by
  unfold F_X6_noClient
  rw [show (7 : Int32) = nI 7 from rfl, bd_eq (in_ok (by omega) (by decide) σ)]
  rfl
theorem noClient_no {x : Int32} (h : ¬ ∃ k, k < 8 ∧ x = nI k) (σ : HS) : F_X6_noClient x σ = some (1, σ) := by
  unfold F_X6_noClient
  rw [show (7 : Int32) = nI 7 from rfl, bd_eq (in_no (by decide) h σ)]
  rfl
theorem noCell_ok {i j : Nat} (hi : i < 64) (hj : j < 4) (σ : HS) : F_X6_noCell (nI i) (nI j) σ = some (0, σ) := by
  unfold F_X6_noCell
  rw [show (63 : Int32) = nI 63 from rfl, bd_eq (in_ok (by omega) (by decide) σ), if_neg (by decide), show (3 : Int32) = nI 3 from rfl, bd_eq (in_ok (by omega) (by decide) σ)]
  rfl
theorem noCell_no {x y : Int32} (h : ¬ okCell x y) (σ : HS) : F_X6_noCell x y σ = some (1, σ) := by
  unfold F_X6_noCell
  by_cases e : ∃ k, k < 64 ∧ x = nI k
  · obtain ⟨i, hi, rfl⟩ := e
    rw [show (63 : Int32) = nI 63 from rfl, bd_eq (in_ok (by omega) (by decide) σ), if_neg (by decide), show (3 : Int32) = nI 3 from rfl, bd_eq (in_no (by decide) (fun ⟨j, hj, q⟩ => h ⟨i, j, hi, hj, rfl, q⟩) σ)]
    rfl
  · rw [show (63 : Int32) = nI 63 from rfl, bd_eq (in_no (by decide) e σ)]
    rfl
theorem ShM.ij {p : Nat → Nat} {σ : HS} (h : ShM p σ) (i j : Nat) : (p i = p j) = (i = j) := by
  rw [h.1 i, h.1 j]
  exact propext ⟨fun q => by omega, fun q => by omega⟩
theorem Pce.tch {A : AS} {c : Nat} (h : Pce A c) (k : Nat) : Pce (aTouch A k) c := by
  unfold aTouch; split
  · exact h
  · exact h
theorem utf_sc (A : AS) (j k : Nat) (v : Int32) : zsc (utf A j k v) = zsc A := rfl
theorem utf_lk (A : AS) (j k : Nat) (v : Int32) : zlk (utf A j k v) = zlk A := rfl
theorem utf_l (A : AS) (j k : Nat) (v : Int32) : zl (utf A j k v) = zl A := rfl
theorem utf_ow (A : AS) (j k : Nat) (v : Int32) : zow (utf A j k v) = zow A := rfl
theorem utf_lp (A : AS) (j k : Nat) (v : Int32) : zlp (utf A j k v) = zlp A := rfl
theorem utf_ne (A : AS) (j k : Nat) (v : Int32) : zne (utf A j k v) = zne A := rfl
theorem uow_sc (A : AS) (k : Nat) (v : List (Nat × Int32)) : zsc (uow A k v) = zsc A := rfl
theorem uow_lk (A : AS) (k : Nat) (v : List (Nat × Int32)) : zlk (uow A k v) = zlk A := rfl
theorem uow_tf (A : AS) (k : Nat) (v : List (Nat × Int32)) : ztf (uow A k v) = ztf A := rfl
theorem uow_l (A : AS) (k : Nat) (v : List (Nat × Int32)) : zl (uow A k v) = zl A := rfl
theorem uow_lp (A : AS) (k : Nat) (v : List (Nat × Int32)) : zlp (uow A k v) = zlp A := rfl
theorem uow_ne (A : AS) (k : Nat) (v : List (Nat × Int32)) : zne (uow A k v) = zne A := rfl
theorem usc_lk (A : AS) (j : Nat) (v : Int32) : zlk (usc A j v) = zlk A := rfl
theorem usc_tf (A : AS) (j : Nat) (v : Int32) : ztf (usc A j v) = ztf A := rfl
theorem usc_l (A : AS) (j : Nat) (v : Int32) : zl (usc A j v) = zl A := rfl
theorem usc_ow (A : AS) (j : Nat) (v : Int32) : zow (usc A j v) = zow A := rfl
theorem usc_lp (A : AS) (j : Nat) (v : Int32) : zlp (usc A j v) = zlp A := rfl
theorem usc_ne (A : AS) (j : Nat) (v : Int32) : zne (usc A j v) = zne A := rfl
theorem end_sc (A : AS) (k : Nat) : zsc (aEnd A k) = zsc A := by simp only [aEnd, utf_sc, uow_sc]
theorem end_lk (A : AS) (k : Nat) : zlk (aEnd A k) = zlk A := by simp only [aEnd, utf_lk, uow_lk]
theorem end_l (A : AS) (k : Nat) : zl (aEnd A k) = zl A := by simp only [aEnd, utf_l, uow_l]
theorem end_lp (A : AS) (k : Nat) : zlp (aEnd A k) = zlp A := by simp only [aEnd, utf_lp, uow_lp]
theorem end_ne (A : AS) (k : Nat) : zne (aEnd A k) = zne A := by simp only [aEnd, utf_ne, uow_ne]
theorem end_ow (A : AS) (k x : Nat) : zow (aEnd A k) x = if x = k then [] else zow A x := by simp only [aEnd, utf_ow, zow_uow]
theorem end_tf (A : AS) (k f x : Nat) : ztf (aEnd A k) f x = if x = k ∧ f ≤ 4 then 0 else ztf A f x := by
  unfold aEnd
  simp only [ztf_utf, ztf_uow]
  by_cases e : x = k ∧ f ≤ 4
  · obtain ⟨e, e4⟩ := e
    subst e
    have : f = 0 ∨ f = 1 ∨ f = 2 ∨ f = 3 ∨ f = 4 := by omega
    rcases this with q | q | q | q | q <;> simp [q]
  · have n : ∀ j, j ≤ 4 → ¬ (f = j ∧ x = k) := fun j hj q => e ⟨q.2, by omega⟩
    rw [if_neg (n 4 (by decide)), if_neg (n 3 (by decide)), if_neg (n 2 (by decide)), if_neg (n 1 (by decide)), if_neg (n 0 (by decide)), if_neg e]
section
variable {p : Nat → Nat} {m : Nat} {A : AS} {σ : HS}
theorem mo_upd (h : RMo p m A σ) {k : Nat} {A' : AS} {τ : HS} (hM : Mst p σ τ) (hsc : ∀ nd nv nl, Msc p m A σ nd nv nl → Msc p m A' τ nd nv nl) (ha : SA p 295 304 σ τ) (hb : ∀ j i, 305 ≤ j → j ≤ 312 → j ≠ 309 → j ≠ 310 → i ≠ k → ai τ (p j) i = ai σ (p j) i) (hc : ∀ j i x, 309 ≤ j → j ≤ 310 → x ≠ k → i < 16 → ai τ (p j) (16 * x + i) = ai σ (p j) (16 * x + i))
    (e2 : zlk A' = zlk A) (e3 : zl A' = zl A) (e4 : zlp A' = zlp A) (e5 : ∀ f x, x ≠ k → ztf A' f x = ztf A f x) (e6 : ∀ x, x ≠ k → zow A' x = zow A x) (ht : k < 8 → Mt1 p A' τ k) : RMo p m A' τ := by
  obtain ⟨g1, g2, g3, D, V, g4, g5, g6⟩ := h
  refine ⟨g1.keepM hM, g2.keep (fun j i j1 j2 => ha j i (by omega) (by omega)) e2 e4, fun x hx => ?_, D, V, ?_, g5.keep (fun j i j1 j2 => ha j i (by omega) (by omega)) (fun _ _ => by rw [e3]), g6.keep (fun j i j1 j2 => ha j i (by omega) (by omega)) (fun _ _ => by rw [e3])⟩
  · by_cases q : x = k
    · subst q; exact ht hx
    · exact (g3 x hx).keep (fun j j1 j2 j3 j4 => hb j x j1 j2 j3 j4 q) (fun j y j1 j2 hy => hc j y x j1 j2 q hy) (fun f => e5 f x q) (e6 x q)
  · rw [cntL_cg e2]
    exact hsc _ _ _ g4
theorem Msc.cg {A' : AS} {τ : HS} {nd nv nl : Nat} (h : Msc p m A σ nd nv nl) (e : zsc A' = zsc A) (g : ∀ f, 241 ≤ f → gi τ f (p 294) = gi σ f (p 294)) : Msc p m A' τ nd nv nl := by
  unfold Msc at h ⊢
  rw [e, g 241 (by omega), g 242 (by omega), g 243 (by omega), g 244 (by omega), g 245 (by omega), g 246 (by omega), g 250 (by omega), g 255 (by omega), g 267 (by omega), g 268 (by omega), g 269 (by omega), g 270 (by omega), g 271 (by omega)]
  exact h
theorem mo_read (h : RMo p 3000 A σ) (hP : ∀ c, c < 256 → Pce A c) (hK : ∀ k, k < 8 → 0 ≤ ztf A 0 k) {k i j : Nat} (hk : k < 8) (hv : ∀ q ∈ zow A k, -1 ≤ q.2) (hi : i < 64) (hj : j < 4) : ∃ τ, F_X6_read (p 294) (nI k) (nI i) (nI j) σ = some ((aRead A k (4 * i + j)).1, τ) ∧ RMo p 3000 (aRead A k (4 * i + j)).2 τ ∧ Mst p σ τ := by
  have hki : inb (nI k) 8 := inb_nI hk (by decide)
  have hkc : (nI k).toNatClampNeg = k := nI_clamp (by omega)
  have h0 := mo_code h 0
  have m0 : Mst p σ (si σ 240 (p 294) 0) := Mst.rf.si (by decide)
  unfold F_X6_read aRead
  rw [if_pos h.km]
  generalize si σ 240 (p 294) 0 = σ0 at h0 m0 ⊢
  have S := h0.1
  rw [bd_eq (noClient_ok hk σ0), if_pos rfl, bd_eq (noCell_ok hi hj σ0), if_pos rfl]
  have T := mo_touch h0 hk
  have m1 : Mst p σ0 (sai σ0 (p 307) k (zsc A 0)) := Mst.rf.sai (S.le (by decide))
  simp only [S.km, S.r259, S.k259, S.l259, S.r261, S.k261, S.l261, true_and, if_true, gr_sai, kd_sai, ln_sai, if_pos hki, hkc, h0.s0, cellIx]
  generalize sai σ0 (p 307) k (zsc A 0) = σ1 at T m1 ⊢
  rw [(T.2.2.1 k hk).1]
  have zk : ∀ x, 0 ≤ ztf A 0 x → 0 ≤ ztf (aTouch A k) 0 x := fun x q => by
    unfold aTouch; split
    · exact q
    · rw [ztf_utf, if_neg (by omega)]; exact q
  have zo : zow (aTouch A k) k = zow A k := by unfold aTouch; split <;> rfl
  by_cases e : ztf (aTouch A k) 0 k = 1
  · rw [if_pos e, if_pos e]
    obtain ⟨σ2, a1, a2, a3⟩ := mo_see T (fun c hc => (hP c hc).tch k) (fun x hx => zk x (hK x hx)) hk (by rw [e]; decide) (by rw [zo]; exact hv) (c := 4 * i + j) (by omega)
    obtain ⟨σ3, b1, b2, b3⟩ := mo_end a2 (aLook (aTouch A k) k (4 * i + j)).1
    rw [bd_eq a1, if_pos a2.km, bd_eq b1]
    exact ⟨σ3, rfl, b2, m0.tr (m1.tr (a3.tr b3))⟩
  · rw [if_neg e, if_neg e]
    exact ⟨σ1, rfl, T, m0.tr m1⟩
theorem moNext_L (hP : ∀ c, c < 256 → Pce A c) (hK : ∀ k, k < 8 → 0 ≤ ztf A 0 k) (hL : ¬ 64 ≤ zsc A 7) {k : Nat} (hk : k < 8) (hp : ¬ ztf A 0 k = 0) (hv : ∀ q ∈ zow A k, -1 ≤ q.2) : ∀ (r N c : Nat) (σ : HS), RMo p 3000 A σ → c + r = 256 → r < N → ∃ τ, L_X6_next_51 N (p 294) (nI k) (nI c) σ = some ((aFrom A k r c).1, τ) ∧ RMo p 3000 (aPut (aFrom A k r c).2) τ ∧ Mst p σ τ := by
  intro r
  induction r with
  | zero =>
    intro N c σ h hc hN
    obtain ⟨N, rfl⟩ : ∃ M, N = M + 1 := ⟨N - 1, by omega⟩
    simp only [L_X6_next_51, B_X6_next_51, aFrom]
    rw [if_pos (by rw [nI_256]; exact nI_le (by omega) (by omega))]
    refine ⟨σ, rfl, ?_, Mst.rf⟩
    unfold aPut
    rw [if_neg hL]
    exact h
  | succ r ih =>
    intro N c σ h hc hN
    obtain ⟨N, rfl⟩ : ∃ M, N = M + 1 := ⟨N - 1, by omega⟩
    obtain ⟨τ, l1, l2, l3⟩ := mo_see h hP hK hk hp hv (c := c) (by omega)
    simp only [L_X6_next_51, B_X6_next_51, aFrom, B_X6_next_87]
    rw [if_neg (by rw [nI_256]; exact nI_ge (by omega) (by omega)), if_pos h.km, bd_eq l1]
    by_cases e2 : (aLook A k c).1 = -7
    · rw [if_pos e2, if_pos (by rw [e2]; decide), if_pos e2, nI_1]
      rw [look7 e2] at l2
      obtain ⟨υ, m1, m2, m3⟩ := ih N (c + 1) τ l2 (by omega) (by omega)
      exact ⟨υ, m1, m2, l3.tr m3⟩
    · rw [if_neg e2]
      by_cases e1 : (aLook A k c).1 < 0
      · obtain ⟨υ, b1, b2, b3⟩ := mo_end l2 (aLook A k c).1
        rw [if_pos e1, if_neg e2, if_neg (Int32.not_le.mpr e1), if_pos l2.km, bd_eq b1]
        exact ⟨υ, rfl, b2, l3.tr b3⟩
      · obtain ⟨υ, b1, b2, b3⟩ := mo_end l2 (nI (c / 4))
        rw [if_neg e1, if_pos (Int32.not_lt.mp e1), if_pos l2.km, show (4 : Int32) = nI 4 from rfl, pk_div (by omega) (by decide) (by decide), bd_eq b1]
        exact ⟨υ, rfl, b2, l3.tr b3⟩
theorem mo_next (h : RMo p 3000 A σ) (hP : ∀ c, c < 256 → Pce A c) (hK : ∀ k, k < 8 → 0 ≤ ztf A 0 k) (hL : ¬ 64 ≤ zsc A 7) {k i : Nat} (hk : k < 8) (hv : ∀ q ∈ zow A k, -1 ≤ q.2) (hi : i < 64) : ∃ τ, F_X6_next (p 294) (nI k) (nI i) σ = some ((aNext A k i).1, τ) ∧ RMo p 3000 (aNext A k i).2 τ ∧ Mst p σ τ := by
  have hki : inb (nI k) 8 := inb_nI hk (by decide)
  have hkc : (nI k).toNatClampNeg = k := nI_clamp (by omega)
  have h0 := mo_code h 0
  have m0 : Mst p σ (si σ 240 (p 294) 0) := Mst.rf.si (by decide)
  unfold F_X6_next aNext
  rw [if_pos h.km]
  generalize si σ 240 (p 294) 0 = σ0 at h0 m0 ⊢
  have S := h0.1
  rw [bd_eq (noClient_ok hk σ0), if_pos rfl, show (63 : Int32) = nI 63 from rfl, bd_eq (in_ok (by omega) (by decide) σ0), if_neg (by decide)]
  have T := mo_touch h0 hk
  have m1 : Mst p σ0 (sai σ0 (p 307) k (zsc A 0)) := Mst.rf.sai (S.le (by decide))
  simp only [S.km, S.r259, S.k259, S.l259, S.r261, S.k261, S.l261, true_and, if_true, gr_sai, kd_sai, ln_sai, if_pos hki, hkc, h0.s0]
  generalize sai σ0 (p 307) k (zsc A 0) = σ1 at T m1 ⊢
  rw [(T.2.2.1 k hk).1]
  have zk : ∀ x, 0 ≤ ztf A 0 x → 0 ≤ ztf (aTouch A k) 0 x := fun x q => by
    unfold aTouch; split
    · exact q
    · rw [ztf_utf, if_neg (by omega)]; exact q
  have zo : zow (aTouch A k) k = zow A k := by unfold aTouch; split <;> rfl
  have z7 : zsc (aTouch A k) 7 = zsc A 7 := by unfold aTouch; split <;> rfl
  by_cases e : ztf (aTouch A k) 0 k = 1
  · rw [if_pos e, if_pos e, show (4 : Int32) * nI i = nI (4 * i) by rw [show (4 : Int32) = nI 4 from rfl, pk_mul]]
    obtain ⟨σ2, a1, a2, a3⟩ := moNext_L (fun c hc => (hP c hc).tch k) (fun x hx => zk x (hK x hx)) (by rw [z7]; exact hL) hk (by rw [e]; decide) (by rw [zo]; exact hv) (256 - 4 * i) NF (4 * i) σ1 T (by omega) (by have : NF = 100000 := rfl; omega)
    exact ⟨σ2, a1, a2, m0.tr (m1.tr a3)⟩
  · rw [if_neg e, if_neg e]
    exact ⟨σ1, rfl, T, m0.tr m1⟩
theorem ev_give {M : Nat} (km : kd σ M = 7) : ∃ τ, F_X6_give M σ = some (gi σ 243 M, τ) ∧ (kd τ = kd σ ∧ ln τ = ln σ ∧ gr τ = gr σ ∧ ar τ = ar σ ∧ hs τ = hs σ ∧ ns τ = ns σ ∧ ai τ = ai σ) ∧ (∀ f n, f ≠ 243 → f ≠ 244 → f ≠ 245 → gi τ f n = gi σ f n) ∧ gi τ 243 M = gi σ 243 M + 1 ∧ gi τ 244 M = gi σ 243 M ∧ gi τ 245 M = (if gi σ 243 M ≤ gi σ 245 M then gi σ 245 M else gi σ 245 M + 16) := by
  unfold F_X6_give B_X6_give_24
  rw [if_pos km]
  by_cases e : gi σ 243 M ≤ gi σ 245 M
  · rw [if_pos e, if_pos km, if_pos e]
    refine ⟨_, rfl, ⟨rfl, rfl, rfl, rfl, rfl, rfl, rfl⟩, fun f n f1 f2 f3 => ?_, ?_, ?_, ?_⟩
    · rw [gi_ne f2, gi_ne f1]
    · rw [gi_ne (by decide), gi_eq]
    · rw [gi_eq]
    · rw [gi_ne (by decide), gi_ne (by decide)]
  · rw [if_neg e, if_pos (show kd (si σ 245 M _) M = 7 from km), if_neg e]
    refine ⟨_, rfl, ⟨rfl, rfl, rfl, rfl, rfl, rfl, rfl⟩, fun f n f1 f2 f3 => ?_, ?_, ?_, ?_⟩
    · rw [gi_ne f2, gi_ne f1, gi_ne f3]
    · rw [gi_ne (by decide), gi_eq, gi_ne (by decide)]
    · rw [gi_eq]
    · rw [gi_ne (by decide), gi_ne (by decide), gi_eq]
theorem give_sc (A : AS) (j : Nat) : zsc (aGive A) j = if j = 4 then zsc A 4 + 1 else if j = 3 then zsc A 4 else if j = 5 then (if zsc A 4 ≤ zsc A 5 then zsc A 5 else zsc A 5 + 16) else zsc A j := by
  unfold aGive
  by_cases e : zsc A 4 ≤ zsc A 5
  · rw [if_pos e, if_pos e]
    simp only [zsc_usc]
    by_cases e4 : j = 4
    · rw [if_pos e4, if_pos e4]
    · rw [if_neg e4, if_neg e4]
      by_cases e3 : j = 3
      · rw [if_pos e3, if_pos e3]
      · rw [if_neg e3, if_neg e3]
        by_cases e5 : j = 5
        · rw [if_pos e5, e5]
        · rw [if_neg e5]
  · rw [if_neg e, if_neg e]
    simp only [zsc_usc]
theorem give_lk (A : AS) : zlk (aGive A) = zlk A := by unfold aGive; split <;> rfl
theorem give_lp (A : AS) : zlp (aGive A) = zlp A := by unfold aGive; split <;> rfl
theorem give_tf (A : AS) : ztf (aGive A) = ztf A := by unfold aGive; split <;> rfl
theorem give_l (A : AS) : zl (aGive A) = zl A := by unfold aGive; split <;> rfl
theorem give_ow (A : AS) : zow (aGive A) = zow A := by unfold aGive; split <;> rfl
theorem mo_begin (h : RMo p m A σ) (hK : ∀ k, k < 8 → 0 ≤ ztf A 0 k) {k : Nat} (hk : k < 8) (hz : ztf A 0 k = 0 → zow A k = [] ∧ ztf A 4 k = 0) : ∃ τ, F_X6_begin (p 294) (nI k) σ = some ((aBegin A k).1, τ) ∧ RMo p m (aBegin A k).2 τ ∧ Mst p σ τ := by
  have hki : inb (nI k) 8 := inb_nI hk (by decide)
  have hkc : (nI k).toNatClampNeg = k := nI_clamp (by omega)
  have h0 := mo_code h 0
  have m0 : Mst p σ (si σ 240 (p 294) 0) := Mst.rf.si (by decide)
  unfold F_X6_begin aBegin
  rw [if_pos h.km]
  generalize si σ 240 (p 294) 0 = σ0 at h0 m0 ⊢
  have S := h0.1
  rw [bd_eq (noClient_ok hk σ0), if_pos rfl]
  have T := mo_touch h0 hk
  have m1 : Mst p σ0 (sai σ0 (p 307) k (zsc A 0)) := Mst.rf.sai (S.le (by decide))
  have u1 := (h0.2.2.1 k hk).1
  simp only [S.km, S.r259, S.k259, S.l259, S.r261, S.k261, S.l261, true_and, if_true, gr_sai, kd_sai, ln_sai, if_pos hki, hkc, h0.s0, ai_ne (S.ne (show 305 ≠ 307 by decide)), u1, i_pos0 (hK k hk)]
  by_cases e : ztf A 0 k = 0
  · rw [if_pos e, if_pos e]
    obtain ⟨σ8, q8⟩ : ∃ x, x = sai (sai σ0 (p 307) k (zsc A 0)) (p 305) k 1 := ⟨_, rfl⟩
    have m8 : Mst p σ0 σ8 := by rw [q8]; exact m1.sai (S.le (by decide))
    simp only [lt1]
    rw [← q8]
    obtain ⟨σ9, g1, ⟨g2, g3, g4, g5, g6, g7, g8⟩, g9, g10, g11, g12⟩ := ev_give (S.keepM m8).km
    have e8 : ∀ f, gi σ8 f (p 294) = gi σ0 f (p 294) := fun f => by rw [q8]; rfl
    have m9 : Mst p σ8 σ9 := ⟨g2, g3, g4, g5, g6, g7, fun g n hg => g9 g n (by omega) (by omega) (by omega), fun n i _ => by rw [g8]⟩
    have S9 := S.keepM (m8.tr m9)
    have r8 : gr σ8 = gr σ0 := by rw [q8]; rfl
    rw [bd_eq g1, r8]
    have m10 : Mst p σ9 (sai (sai (sai (sai σ9 (p 306) k (gi σ8 243 (p 294))) (p 308) k 0) (p 311) k 0) (p 312) k 0) := (((Mst.rf.sai (S.le (by decide))).sai (S.le (by decide))).sai (S.le (by decide))).sai (S.le (by decide))
    simp only [S.r260, S9.km, S9.r260, S9.k260, S9.l260, S9.r262, S9.k262, S9.l262, S9.r265, S9.k265, S9.l265, S9.r266, S9.k266, S9.l266, true_and, if_true, gr_sai, kd_sai, ln_sai, if_pos hki, hkc]
    obtain ⟨a1, a2⟩ := h0.2.2.1 k hk
    have ez : zsc (utf (utf (utf (aGive A) 0 k 1) 1 k (zsc A 4)) 2 k (zsc A 0)) = zsc (aGive A) := rfl
    refine ⟨_, ?_, mo_upd (k := k) h0 (m8.tr (m9.tr m10)) (fun nd nv nl hm => ?_) (fun j i j1 j2 => ?_) (fun j i j1 j2 j3 j4 hi => ?_) (fun j i x j1 j2 hx hi => ?_) (give_lk A) (give_l A) (give_lp A) (fun f x hx => ?_) (fun x hx => ?_) (fun _ => ?_), m0.tr (m8.tr (m9.tr m10))⟩
    · rw [ai_ne (S.ne (by decide)), ai_ne (S.ne (by decide)), ai_ne (S.ne (by decide)), ai_eq, e8, h0.s4]
    · obtain ⟨a1, a2, a3, a4, a5, a6, a7, a8, a9, a10, a11, a12, a13, a14, a15⟩ := hm
      unfold Msc
      simp only [gi_sai, ez]
      rw [g9 241 _ (by decide) (by decide) (by decide), g9 242 _ (by decide) (by decide) (by decide), g9 246 _ (by decide) (by decide) (by decide), g9 250 _ (by decide) (by decide) (by decide), g9 255 _ (by decide) (by decide) (by decide), g9 267 _ (by decide) (by decide) (by decide), g9 268 _ (by decide) (by decide) (by decide), g9 269 _ (by decide) (by decide) (by decide), g9 270 _ (by decide) (by decide) (by decide), g9 271 _ (by decide) (by decide) (by decide), g10, g11, g12]
      simp only [e8, give_sc]
      rw [a1, a2, a3, a5, a6, a7, a8, a9, a10, a11, a12, a13]
      refine ⟨rfl, rfl, rfl, rfl, rfl, rfl, rfl, rfl, rfl, rfl, rfl, rfl, rfl, a14, a15⟩
    · rw [ai_ne (S.ne (by omega)), ai_ne (S.ne (by omega)), ai_ne (S.ne (by omega)), ai_ne (S.ne (by omega)), g8, q8, ai_ne (S.ne (by omega)), ai_ne (S.ne (by omega))]
    · rw [ai_nj hi, ai_nj hi, ai_nj hi, ai_nj hi, g8, q8, ai_nj hi, ai_nj hi]
    · rw [ai_ne (S.ne (by omega)), ai_ne (S.ne (by omega)), ai_ne (S.ne (by omega)), ai_ne (S.ne (by omega)), g8, q8, ai_ne (S.ne (by omega)), ai_ne (S.ne (by omega))]
    · simp only [ztf_utf]
      rw [if_neg (by omega), if_neg (by omega), if_neg (by omega), give_tf]
    · show zow (aGive A) x = zow A x
      rw [give_ow]
    · have zo : zow (utf (utf (utf (aGive A) 0 k 1) 1 k (zsc A 4)) 2 k (zsc A 0)) k = [] := by
        show zow (aGive A) k = []
        rw [give_ow]; exact (hz e).1
      have t0 : ztf (utf (utf (utf (aGive A) 0 k 1) 1 k (zsc A 4)) 2 k (zsc A 0)) 0 k = 1 := by simp [ztf_utf]
      have t1 : ztf (utf (utf (utf (aGive A) 0 k 1) 1 k (zsc A 4)) 2 k (zsc A 0)) 1 k = zsc A 4 := by simp [ztf_utf]
      have t2 : ztf (utf (utf (utf (aGive A) 0 k 1) 1 k (zsc A 4)) 2 k (zsc A 0)) 2 k = zsc A 0 := by simp [ztf_utf]
      have t4 : ztf (utf (utf (utf (aGive A) 0 k 1) 1 k (zsc A 4)) 2 k (zsc A 0)) 4 k = 0 := by
        simp only [ztf_utf]
        rw [if_neg (by omega), if_neg (by omega), if_neg (by omega), give_tf]; exact (hz e).2
      unfold Mt1
      rw [t0, t1, t2, t4, zo]
      refine ⟨?_, fun _ => ⟨?_, ?_, ?_, by decide, fun i q hq => by simp at hq, fun q => ?_, fun q => absurd q (by decide)⟩⟩
      · rw [ai_ne (S.ne (by decide)), ai_ne (S.ne (by decide)), ai_ne (S.ne (by decide)), ai_ne (S.ne (by decide)), g8, q8, ai_eq]
      · rw [ai_ne (S.ne (by decide)), ai_ne (S.ne (by decide)), ai_ne (S.ne (by decide)), ai_eq, e8, h0.s4]
      · rw [ai_ne (S.ne (by decide)), ai_ne (S.ne (by decide)), ai_ne (S.ne (by decide)), ai_ne (S.ne (by decide)), g8, q8, ai_ne (S.ne (by decide)), ai_eq]
      · rw [ai_ne (S.ne (by decide)), ai_ne (S.ne (by decide)), ai_eq]
        rfl
      · rw [ai_ne (S.ne (by decide)), ai_eq]
  · rw [if_neg e, if_neg e]
    exact ⟨_, rfl, T, m0.tr m1⟩
theorem mo_own1 (T : RMo p m A σ) {k c o : Nat} (hk : k < 8) (hc : c < 256) (hp : ¬ ztf A 0 k = 0) {q : Nat × Int32} (v : Int32) (q1 : (zow A k)[o]? = some q) : RMo p m (uow A k ((zow A k).set o (c, v))) (sai (sai σ (p 309) (16 * k + o) (nI c)) (p 310) (16 * k + o) v) := by
  have S1 := T.1
  obtain ⟨u1, U⟩ := T.2.2.1 k hk
  obtain ⟨u2, u3, u4, u5, u6, u7⟩ := U hp
  clear U
  have q4 := (List.getElem?_eq_some_iff.mp q1).1
  have m2 : Mst p σ (sai (sai σ (p 309) (16 * k + o) (nI c)) (p 310) (16 * k + o) v) := (Mst.rf.sai (S1.le (by decide))).sai (S1.le (by decide))
  refine mo_upd (k := k) T m2 (fun nd nv nl hm => hm.cg (uow_sc _ _ _) (fun f _ => by rw [sai_gi, sai_gi])) (fun j i j1 j2 => ?_) (fun j i j1 j2 j3 j4 hi => ?_) (fun j i x j1 j2 hx hi => ?_) (uow_lk _ _ _) (uow_l _ _ _) (uow_lp _ _ _) (fun _ _ _ => by rw [uow_tf]) (fun x hx => by rw [zow_uow, if_neg hx]) (fun _ => ?_)
  · rw [ai_ne (S1.ne (by omega)), ai_ne (S1.ne (by omega))]
  · rw [ai_ne (S1.ne (by omega)), ai_ne (S1.ne (by omega))]
  · rw [ai_nj (by omega), ai_nj (by omega)]
  · unfold Mt1
    rw [uow_tf, zow_uow, if_pos rfl, List.length_set]
    refine ⟨?_, fun _ => ⟨?_, ?_, ?_, u5, fun y r hr => ?_, fun q => ?_, fun q => ?_⟩⟩
    · rw [ai_ne (S1.ne (by decide)), ai_ne (S1.ne (by decide))]; exact u1
    · rw [ai_ne (S1.ne (by decide)), ai_ne (S1.ne (by decide))]; exact u2
    · rw [ai_ne (S1.ne (by decide)), ai_ne (S1.ne (by decide))]; exact u3
    · rw [ai_ne (S1.ne (by decide)), ai_ne (S1.ne (by decide))]; exact u4
    · rw [ai_ne (S1.ne (show 309 ≠ 310 by decide))]
      rw [List.getElem?_set] at hr
      by_cases ey : o = y
      · subst ey
        rw [if_pos rfl, if_pos q4] at hr
        obtain rfl : (c, v) = r := by injection hr
        rw [ai_eq, ai_eq]
        exact ⟨rfl, rfl, hc⟩
      · rw [if_neg ey] at hr
        simp only [ai_nj (show 16 * k + y ≠ 16 * k + o by omega)]
        exact u6 y r hr
    · rw [ai_ne (S1.ne (by decide)), ai_ne (S1.ne (by decide))]; exact u7.1 q
    · rw [ai_ne (S1.ne (by decide)), ai_ne (S1.ne (by decide))]; exact u7.2 q
theorem mo_own2 (T : RMo p m A σ) {k c o : Nat} (hk : k < 8) (hc : c < 256) (hp : ¬ ztf A 0 k = 0) (v : Int32) (ho : (zow A k).length = o) (h16 : o < 16) : RMo p m (uow A k (zow A k ++ [(c, v)])) (sai (sai (sai σ (p 308) k (nI o + 1)) (p 309) (16 * k + o) (nI c)) (p 310) (16 * k + o) v) := by
  have S1 := T.1
  obtain ⟨u1, U⟩ := T.2.2.1 k hk
  obtain ⟨u2, u3, u4, u5, u6, u7⟩ := U hp
  clear U
  have m2 : Mst p σ (sai (sai (sai σ (p 308) k (nI o + 1)) (p 309) (16 * k + o) (nI c)) (p 310) (16 * k + o) v) := ((Mst.rf.sai (S1.le (by decide))).sai (S1.le (by decide))).sai (S1.le (by decide))
  refine mo_upd (k := k) T m2 (fun nd nv nl hm => hm.cg (uow_sc _ _ _) (fun f _ => by rw [sai_gi, sai_gi, sai_gi])) (fun j i j1 j2 => ?_) (fun j i j1 j2 j3 j4 hi => ?_) (fun j i x j1 j2 hx hi => ?_) (uow_lk _ _ _) (uow_l _ _ _) (uow_lp _ _ _) (fun _ _ _ => by rw [uow_tf]) (fun x hx => by rw [zow_uow, if_neg hx]) (fun _ => ?_)
  · rw [ai_ne (S1.ne (by omega)), ai_ne (S1.ne (by omega)), ai_ne (S1.ne (by omega))]
  · rw [ai_ne (S1.ne (by omega)), ai_ne (S1.ne (by omega)), ai_nj hi]
  · rw [ai_nj (by omega), ai_nj (by omega), ai_ne (S1.ne (by omega))]
  · unfold Mt1
    rw [uow_tf, zow_uow, if_pos rfl, List.length_append, ho, List.length_singleton]
    refine ⟨?_, fun _ => ⟨?_, ?_, ?_, by omega, fun y r hr => ?_, fun q => ?_, fun q => ?_⟩⟩
    · rw [ai_ne (S1.ne (by decide)), ai_ne (S1.ne (by decide)), ai_ne (S1.ne (by decide))]; exact u1
    · rw [ai_ne (S1.ne (by decide)), ai_ne (S1.ne (by decide)), ai_ne (S1.ne (by decide))]; exact u2
    · rw [ai_ne (S1.ne (by decide)), ai_ne (S1.ne (by decide)), ai_ne (S1.ne (by decide))]; exact u3
    · rw [ai_ne (S1.ne (by decide)), ai_ne (S1.ne (by decide)), ai_eq]; exact nI_1 o
    · rw [ai_ne (S1.ne (show 309 ≠ 310 by decide))]
      by_cases ey : y = o
      · subst ey
        rw [List.getElem?_append_right (by omega), ho, Nat.sub_self] at hr
        obtain rfl : (c, v) = r := by simpa using hr
        rw [ai_eq, ai_eq]
        exact ⟨rfl, rfl, hc⟩
      · have hy : y < o := by
          have := (List.getElem?_eq_some_iff.mp hr).1
          simp at this; omega
        rw [List.getElem?_append_left (by omega)] at hr
        simp only [ai_nj (show 16 * k + y ≠ 16 * k + o by omega), ai_ne (S1.ne (show 309 ≠ 308 by decide)), ai_ne (S1.ne (show 310 ≠ 308 by decide))]
        exact u6 y r hr
    · rw [ai_ne (S1.ne (by decide)), ai_ne (S1.ne (by decide)), ai_ne (S1.ne (by decide))]; exact u7.1 q
    · rw [ai_ne (S1.ne (by decide)), ai_ne (S1.ne (by decide)), ai_ne (S1.ne (by decide))]; exact u7.2 q
theorem mo_w108 (S : ShM p σ) {k i j o : Nat} (hk : k < 8) (ho : o < 16) (v : Int32) : B_X6_write_108 (p 294) (nI k) (nI i) (nI j) v (nI o) σ = some (ai σ (p 308) k, sai (sai σ (p 309) (16 * k + o) (nI (4 * i + j))) (p 310) (16 * k + o) v) := by
  have hki : inb (nI k) 8 := inb_nI hk (by decide)
  have hkc : (nI k).toNatClampNeg = k := nI_clamp (by omega)
  have hji : inb (nI (16 * k + o)) 128 := inb_nI (by omega) (by decide)
  have hjc : (nI (16 * k + o)).toNatClampNeg = 16 * k + o := nI_clamp (by omega)
  unfold B_X6_write_108 lt1
  simp only [S.km, S.r262, S.k262, S.l262, S.r263, S.k263, S.l263, S.r264, S.k264, S.l264, true_and, if_true, gr_sai, kd_sai, ln_sai, if_pos hki, hkc, own_ix, if_pos hji, hjc, cellIx, ai_ne (S.ne (show 308 ≠ 310 by decide)), ai_ne (S.ne (show 308 ≠ 309 by decide))]
theorem mo_write (h : RMo p m A σ) {k i j : Nat} (hk : k < 8) (hi : i < 64) (hj : j < 4) (v : Int32) : ∃ τ, F_X6_write (p 294) (nI k) (nI i) (nI j) v σ = some ((aWrite A k (4 * i + j) v).1, τ) ∧ RMo p m (aWrite A k (4 * i + j) v).2 τ ∧ Mst p σ τ := by
  have hki : inb (nI k) 8 := inb_nI hk (by decide)
  have hkc : (nI k).toNatClampNeg = k := nI_clamp (by omega)
  have h0 := mo_code h 0
  have m0 : Mst p σ (si σ 240 (p 294) 0) := Mst.rf.si (by decide)
  unfold F_X6_write aWrite
  rw [if_pos h.km]
  generalize si σ 240 (p 294) 0 = σ0 at h0 m0 ⊢
  have S := h0.1
  rw [bd_eq (noClient_ok hk σ0), if_pos rfl, bd_eq (noCell_ok hi hj σ0), if_pos rfl]
  have T := mo_touch h0 hk
  have m1 : Mst p σ0 (sai σ0 (p 307) k (zsc A 0)) := Mst.rf.sai (S.le (by decide))
  simp only [S.km, S.r259, S.k259, S.l259, S.r261, S.k261, S.l261, true_and, if_true, gr_sai, kd_sai, ln_sai, if_pos hki, hkc, h0.s0, cellIx]
  generalize sai σ0 (p 307) k (zsc A 0) = σ1 at T m1 ⊢
  generalize hA : aTouch A k = A1 at T ⊢
  have hc' : 4 * i + j < 256 := by omega
  have S1 := T.1
  obtain ⟨u1, U⟩ := T.2.2.1 k hk
  rw [u1]
  by_cases e0 : -1 ≤ v
  · rw [if_pos e0, if_pos e0]
    by_cases e : ztf A1 0 k = 1
    · have hp : ¬ ztf A1 0 k = 0 := by rw [e]; decide
      rw [if_pos e, if_pos e, bd_eq (mo_ownAt T hk hp hc')]
      obtain ⟨u2, u3, u4, u5, u6, u7⟩ := U hp
      clear U
      unfold aOwn
      cases ep : plc (zow A1 k) (4 * i + j) with
      | some o =>
        obtain ⟨q, q1, q2, q3, q4⟩ := plc_some ep
        simp only []
        rw [if_pos (nI_pos' (by omega))]
        unfold B_X6_write_85
        rw [if_pos (nI_pos' (by omega)), mo_w108 S1 hk (by omega), u4]
        have fin := mo_own1 T hk hc' hp v q1
        have m2 : Mst p σ1 (sai (sai σ1 (p 309) (16 * k + o) (nI (4 * i + j))) (p 310) (16 * k + o) v) := (Mst.rf.sai (S1.le (by decide))).sai (S1.le (by decide))
        have el : (zow (uow A1 k ((zow A1 k).set o (4 * i + j, v))) k).length = (zow A1 k).length := by rw [zow_uow, if_pos rfl, List.length_set]
        rw [el]
        exact ⟨_, rfl, fin, m0.tr (m1.tr m2)⟩
      | none =>
        simp only []
        rw [if_neg (by decide), if_pos S1.km]
        simp only [S1.r262, S1.k262, S1.l262, if_pos hki, hkc, true_and, u4]
        by_cases e16 : (zow A1 k).length < 16
        · rw [if_pos e16, if_neg (by rw [nI_16]; exact fun q => absurd ((nI_eq (by omega) (by omega)).mp q) (by omega))]
          have m2 : Mst p σ1 (sai σ1 (p 308) k (nI (zow A1 k).length + 1)) := Mst.rf.sai (S1.le (by decide))
          unfold B_X6_write_85 lt1
          rw [if_neg (by decide)]
          simp only [S1.km, S1.r262, S1.k262, S1.l262, true_and, if_true, if_pos hki, hkc, u4]
          rw [mo_w108 (S1.keepM m2) hk e16, ai_eq]
          have fin := mo_own2 T hk hc' hp v rfl e16
          have m3 : Mst p (sai σ1 (p 308) k (nI (zow A1 k).length + 1)) (sai (sai (sai σ1 (p 308) k (nI (zow A1 k).length + 1)) (p 309) (16 * k + (zow A1 k).length) (nI (4 * i + j))) (p 310) (16 * k + (zow A1 k).length) v) := (Mst.rf.sai (S1.le (by decide))).sai (S1.le (by decide))
          have el : nI (zow (uow A1 k (zow A1 k ++ [(4 * i + j, v)])) k).length = nI (zow A1 k).length + 1 := by rw [zow_uow, if_pos rfl, List.length_append, List.length_singleton, nI_1]
          rw [el]
          exact ⟨_, rfl, fin, m0.tr (m1.tr (m2.tr m3))⟩
        · have hl : (zow A1 k).length = 16 := by omega
          rw [if_neg e16, hl, if_pos (show nI 16 = 16 from rfl)]
          exact ⟨σ1, rfl, T, m0.tr m1⟩
    · rw [if_neg e, if_neg e]
      exact ⟨σ1, rfl, T, m0.tr m1⟩
  · rw [if_neg e0, if_neg e0]
    exact ⟨σ1, rfl, T, m0.tr m1⟩
/-- the phase alone -/
theorem mt0 {A' : AS} {τ : HS} {k : Nat} (h0 : ai τ (p 305) k = 0) (t0 : ztf A' 0 k = 0) : Mt1 p A' τ k := ⟨by rw [h0, t0], fun q => absurd t0 q⟩
theorem mo_ph0 (h : RMo p m A σ) {k : Nat} (hk : k < 8) : RMo p m (aEnd A k) (sai σ (p 305) k 0) := by
  have S := h.1
  have t0 : ztf (aEnd A k) 0 k = 0 := by rw [end_tf, if_pos ⟨rfl, by decide⟩]
  have e1 := end_sc A k
  have e2 := end_lk A k
  have e3 := end_l A k
  have e4 := end_lp A k
  have e5 : ∀ f x, x ≠ k → ztf (aEnd A k) f x = ztf A f x := fun f x q => by rw [end_tf, if_neg (fun z => q z.1)]
  have e6 : ∀ x, x ≠ k → zow (aEnd A k) x = zow A x := fun x q => by rw [end_ow, if_neg q]
  generalize aEnd A k = A' at *
  exact mo_tr h (by omega) (by omega) (by omega) (by omega) e1 e2 e3 e4 e5 e6 (fun _ => mt0 (ai_eq _ _ _ _) t0)
theorem mo_ph {v : Int32} (h : RMo p m A σ) {k : Nat} (hk : k < 8) (hp : ¬ ztf A 0 k = 0) (h2 : v = 4 ∨ ¬ ztf A 0 k = 4) (h3 : v ≠ 3) : RMo p m (utf A 0 k v) (sai σ (p 305) k v) := by
  have S := h.1
  refine mo_tr h (by omega) (by omega) (by omega) (by omega) rfl rfl rfl rfl (fun f x q => ?_) (fun x q => rfl) (fun _ => ?_)
  · rw [ztf_utf, if_neg (by omega)]
  · obtain ⟨u1, u2⟩ := h.2.2.1 k hk
    obtain ⟨u2, u3, u4, u5, u6, u7⟩ := u2 hp
    have t0 : ztf (utf A 0 k v) 0 k = v := by simp [ztf_utf]
    have tj : ∀ j, j ≠ 0 → ztf (utf A 0 k v) j k = ztf A j k := fun j hj => by rw [ztf_utf, if_neg (by omega)]
    unfold Mt1
    rw [t0, tj 1 (by decide), tj 2 (by decide), tj 3 (by decide), tj 4 (by decide)]
    simp only [zow_utf]
    rw [ai_eq, ai_ne (S.ne (by decide)), ai_ne (S.ne (by decide)), ai_ne (S.ne (by decide)), ai_ne (S.ne (by decide)), ai_ne (S.ne (by decide))]
    refine ⟨rfl, fun _ => ⟨u2, u3, u4, u5, fun i q hq => ?_, fun q => ?_, fun q => absurd q h3⟩⟩
    · rw [ai_ne (S.ne (by decide)), ai_ne (S.ne (by decide))]; exact u6 i q hq
    · exact u7.1 (h2.resolve_left q)
theorem mo_commit (h : RMo p m A σ) {k : Nat} (hk : k < 8) : ∃ τ, F_X6_commit (p 294) (nI k) σ = some ((aCommit A k).1, τ) ∧ RMo p m (aCommit A k).2 τ ∧ Mst p σ τ := by
  have hki : inb (nI k) 8 := inb_nI hk (by decide)
  have hkc : (nI k).toNatClampNeg = k := nI_clamp (by omega)
  have h0 := mo_code h 0
  have m0 : Mst p σ (si σ 240 (p 294) 0) := Mst.rf.si (by decide)
  unfold F_X6_commit aCommit
  rw [if_pos h.km]
  generalize si σ 240 (p 294) 0 = σ0 at h0 m0 ⊢
  have S := h0.1
  rw [bd_eq (noClient_ok hk σ0), if_pos rfl]
  have T := mo_touch h0 hk
  have m1 : Mst p σ0 (sai σ0 (p 307) k (zsc A 0)) := Mst.rf.sai (S.le (by decide))
  simp only [S.km, S.r259, S.k259, S.l259, S.r261, S.k261, S.l261, S.r262, S.k262, S.l262, true_and, if_true, gr_sai, kd_sai, ln_sai, if_pos hki, hkc, h0.s0, lt1]
  generalize sai σ0 (p 307) k (zsc A 0) = σ1 at T m1 ⊢
  obtain ⟨u1, u2⟩ := T.2.2.1 k hk
  rw [u1]
  by_cases e : ztf (aTouch A k) 0 k = 1
  · obtain ⟨u2, u3, u4, u5, u6, u7⟩ := u2 (by rw [e]; decide)
    rw [if_pos e, if_pos e, u4]
    by_cases e2 : (zow (aTouch A k) k).length = 0
    · rw [if_pos e2, if_pos (by rw [e2]; rfl)]
      exact ⟨_, rfl, mo_ph0 T hk, m0.tr (m1.tr (Mst.rf.sai (S.le (by decide))))⟩
    · rw [if_neg e2, if_neg (nI_ne0 (by omega) (by omega))]
      exact ⟨_, rfl, mo_ph T hk (by rw [e]; decide) (Or.inr (by rw [e]; decide)) (by decide), m0.tr (m1.tr (Mst.rf.sai (S.le (by decide))))⟩
  · rw [if_neg e, if_neg e]
    exact ⟨σ1, rfl, T, m0.tr m1⟩
theorem mo_crash (h : RMo p m A σ) (hK : ∀ k, k < 8 → 0 ≤ ztf A 0 k) {k : Nat} (hk : k < 8) : ∃ τ, F_X6_crash (p 294) (nI k) σ = some ((aCrash A k).1, τ) ∧ RMo p m (aCrash A k).2 τ ∧ Mst p σ τ := by
  have hki : inb (nI k) 8 := inb_nI hk (by decide)
  have hkc : (nI k).toNatClampNeg = k := nI_clamp (by omega)
  have h0 := mo_code h 0
  have m0 : Mst p σ (si σ 240 (p 294) 0) := Mst.rf.si (by decide)
  unfold F_X6_crash aCrash B_X6_crash_28
  rw [if_pos h.km]
  generalize si σ 240 (p 294) 0 = σ0 at h0 m0 ⊢
  have S := h0.1
  obtain ⟨u1, u2⟩ := h0.2.2.1 k hk
  rw [bd_eq (noClient_ok hk σ0), if_pos rfl]
  simp only [S.km, S.r259, S.k259, S.l259, true_and, if_true, if_pos hki, hkc, u1, i_pos0 (hK k hk)]
  have T := mo_ph0 h0 hk
  have m1 : Mst p σ0 (sai σ0 (p 305) k 0) := Mst.rf.sai (S.le (by decide))
  by_cases e : ztf A 0 k = 0
  · rw [if_pos e, if_pos e]; exact ⟨_, rfl, T, m0.tr m1⟩
  · rw [if_neg e, if_neg e]; exact ⟨_, rfl, T, m0.tr m1⟩
theorem mo_tick0 (h : RMo p m A σ) {x : Int32} (hx : ¬ (okT x ∧ x ≤ 2147483647 - zsc A 0)) : ∃ τ, F_X6_tick (p 294) x σ = some (-2, τ) ∧ RMo p m A τ ∧ Mst p σ τ := by
  have h0 := mo_code h 0
  have m0 : Mst p σ (si σ 240 (p 294) 0) := Mst.rf.si (by decide)
  unfold F_X6_tick
  rw [if_pos h.km]
  generalize si σ 240 (p 294) 0 = σ0 at h0 m0 ⊢
  refine ⟨σ0, ?_, h0, m0⟩
  rw [bd_eq (in_F x 0 100000 σ0)]
  by_cases e : x < 0 ∨ (100000 : Int32) < x
  · rw [if_pos e, if_pos rfl]; rfl
  · rw [if_neg e, if_neg (by decide), if_pos h0.km, h0.s0, if_neg (fun q => hx ⟨⟨fun z => e (Or.inl z), fun z => e (Or.inr z)⟩, q⟩)]; rfl
theorem mo_tick1 (h : RMo p m A σ) {x : Int32} (hx : okT x ∧ x ≤ 2147483647 - zsc A 0) : ∃ τ, F_X6_tick (p 294) x σ = some (zsc A 0 + x, τ) ∧ RMo p m (usc A 0 (zsc A 0 + x)) τ ∧ Mst p σ τ := by
  have h0 := mo_code h 0
  have m0 : Mst p σ (si σ 240 (p 294) 0) := Mst.rf.si (by decide)
  unfold F_X6_tick
  rw [if_pos h.km]
  generalize si σ 240 (p 294) 0 = σ0 at h0 m0 ⊢
  refine ⟨_, ?_, mo_sc0 h0 (zsc A 0 + x), m0.tr (Mst.rf.si (by decide))⟩
  rw [bd_eq (in_F x 0 100000 σ0), if_neg (show ¬ (x < 0 ∨ (100000 : Int32) < x) from fun q => q.elim hx.1.1 hx.1.2), if_neg (by decide), if_pos h0.km, h0.s0, if_pos hx.2, gi_eq]
theorem mo_time0 (h : RMo p m A σ) {x : Int32} (hx : ¬ okT x) : ∃ τ, F_X6_timeout (p 294) x σ = some (-2, τ) ∧ RMo p m A τ ∧ Mst p σ τ := by
  have h0 := mo_code h 0
  have m0 : Mst p σ (si σ 240 (p 294) 0) := Mst.rf.si (by decide)
  unfold F_X6_timeout
  rw [if_pos h.km]
  generalize si σ 240 (p 294) 0 = σ0 at h0 m0 ⊢
  refine ⟨σ0, ?_, h0, m0⟩
  rw [bd_eq (in_F x 0 100000 σ0)]
  by_cases e : x < 0 ∨ (100000 : Int32) < x
  · rw [if_pos e, if_pos rfl]
  · exact absurd ⟨fun z => e (Or.inl z), fun z => e (Or.inr z)⟩ hx
theorem mo_time1 (h : RMo p m A σ) {x : Int32} (hx : okT x) : ∃ τ, F_X6_timeout (p 294) x σ = some (zsc A 1, τ) ∧ RMo p m (usc A 1 x) τ ∧ Mst p σ τ := by
  have h0 := mo_code h 0
  have m0 : Mst p σ (si σ 240 (p 294) 0) := Mst.rf.si (by decide)
  unfold F_X6_timeout
  rw [if_pos h.km]
  generalize si σ 240 (p 294) 0 = σ0 at h0 m0 ⊢
  refine ⟨_, ?_, mo_sc1 h0 x, m0.tr (Mst.rf.si (by decide))⟩
  rw [bd_eq (in_F x 0 100000 σ0), if_neg (show ¬ (x < 0 ∨ (100000 : Int32) < x) from fun q => q.elim hx.1 hx.2), if_neg (by decide), if_pos h0.km, h0.s1]
theorem mo_fallO (h : RMo p m A σ) : ∃ τ, F_X6_fallOracle (p 294) σ = some (zsc A 5 + 1, τ) ∧ RMo p m (usc A 4 (zsc A 5 + 1)) τ ∧ Mst p σ τ := by
  have h0 := mo_code h 0
  have m0 : Mst p σ (si σ 240 (p 294) 0) := Mst.rf.si (by decide)
  unfold F_X6_fallOracle lt1
  rw [if_pos h.km]
  generalize si σ 240 (p 294) 0 = σ0 at h0 m0 ⊢
  rw [h0.s5]
  exact ⟨_, by show some (gi (si σ0 243 (p 294) (zsc A 5 + 1)) 243 (p 294), _) = _; rw [gi_eq], mo_sc4 h0 (zsc A 5 + 1), m0.tr (Mst.rf.si (by decide))⟩
theorem mo_fall (h : RMo p m A σ) : ∃ τ, F_X6_fall (p 294) σ = some (zsc A 7, τ) ∧ RMo p m A τ ∧ Mst p σ τ := by
  have h0 := mo_code h 0
  have m0 : Mst p σ (si σ 240 (p 294) 0) := Mst.rf.si (by decide)
  unfold F_X6_fall
  rw [if_pos h.km]
  generalize si σ 240 (p 294) 0 = σ0 at h0 m0 ⊢
  rw [h0.s7]
  exact ⟨_, rfl, h0, m0⟩
theorem mo_told (h : RMo p m A σ) (w : Int32) : ∃ τ, F_X6_told (p 294) w σ = some (aTold A w, τ) ∧ RMo p m A τ ∧ Mst p σ τ := by
  have h0 := mo_code h 0
  have m0 : Mst p σ (si σ 240 (p 294) 0) := Mst.rf.si (by decide)
  unfold F_X6_told aTold
  rw [if_pos h.km]
  generalize si σ 240 (p 294) 0 = σ0 at h0 m0 ⊢
  refine ⟨σ0, ?_, h0, m0⟩
  rw [h0.s3, h0.s5, h0.s7, h0.s8, h0.s9, h0.s0, h0.s2, h0.s10, bd_eq (mo_records h0)]
  split <;> first | rfl | skip
  split <;> first | rfl | skip
  split <;> first | rfl | skip
  split <;> first | rfl | skip
  split <;> first | rfl | skip
  split <;> first | rfl | skip
  split <;> first | rfl | skip
  split <;> first | rfl | skip
  split <;> rfl
end
