/-! PUBLIC CALLS OF THE CLASS, 1 -/
def aFrom (A : AS) (k : Nat) : Nat → Nat → Int32 × AS
  | 0, _ => (-7, A)
  | r + 1, c => if (aLook A k c).1 < 0 then (if (aLook A k c).1 = -7 then aFrom A k r (c + 1) else aLook A k c) else (nI (c / 4), (aLook A k c).2)
theorem look7 {A : AS} {k c : Nat} (h : (aLook A k c).1 = -7) : (aLook A k c).2 = A := by
  unfold aLook at h ⊢
  cases e : ownV A k c with
  | some v => rfl
  | none =>
    rw [e] at h
    dsimp only at h ⊢
    by_cases e1 : zlk A 0 c = 0 ∨ ztf A 1 k ≤ zlk A 0 c
    · rw [if_pos e1]
    · rw [if_neg e1] at h ⊢
      by_cases e2 : aFor A c
      · rw [if_pos e2] at h; exact absurd h (show ¬ (-5 : Int32) = -7 by decide)
      · rw [if_neg e2]
theorem isClient_F (x : Int32) (σ : HS) : ∃ r, F_X5_isClient x σ = some (r, σ) ∧ (r = 0 ∨ ∃ k, k < 8 ∧ x = nI k) ∧ ((∃ k, k < 8 ∧ x = nI k) → ¬ r = 0) := by
  unfold F_X5_isClient
  by_cases e : x < 0
  · refine ⟨0, by rw [if_pos e]; rfl, Or.inl rfl, ?_⟩
    rintro ⟨k, hk, rfl⟩
    exact absurd e (nI_pos (by omega))
  · rw [if_neg e]
    by_cases e2 : (8 : Int32) ≤ x
    · refine ⟨0, by rw [if_pos e2]; rfl, Or.inl rfl, ?_⟩
      rintro ⟨k, hk, rfl⟩
      exact absurd e2 (nI_ge (b := 8) hk (by decide))
    · refine ⟨1, by rw [if_neg e2]; rfl, Or.inr ?_, fun _ => by decide⟩
      rcases pk_ix x (n := 8) (by decide) with q | q | q
      · exact absurd q e
      · exact absurd q e2
      · exact q
theorem isRow_F (x : Int32) (σ : HS) : ∃ r, F_X5_isRow x σ = some (r, σ) ∧ (r = 0 ∨ ∃ k, k < 64 ∧ x = nI k) ∧ ((∃ k, k < 64 ∧ x = nI k) → ¬ r = 0) := by
  unfold F_X5_isRow
  by_cases e : x < 0
  · refine ⟨0, by rw [if_pos e]; rfl, Or.inl rfl, ?_⟩
    rintro ⟨k, hk, rfl⟩
    exact absurd e (nI_pos (by omega))
  · rw [if_neg e]
    by_cases e2 : (64 : Int32) ≤ x
    · refine ⟨0, by rw [if_pos e2]; rfl, Or.inl rfl, ?_⟩
      rintro ⟨k, hk, rfl⟩
      exact absurd e2 (nI_ge (b := 64) hk (by decide))
    · refine ⟨1, by rw [if_neg e2]; rfl, Or.inr ?_, fun _ => by decide⟩
      rcases pk_ix x (n := 64) (by decide) with q | q | q
      · exact absurd q e
      · exact absurd q e2
      · exact q
def okCell (x y : Int32) : Prop := ∃ i j, i < 64 ∧ j < 4 ∧ x = nI i ∧ y = nI j
theorem isCell_F (x y : Int32) (σ : HS) : ∃ r, F_X5_isCell x y σ = some (r, σ) ∧ (r = 0 ∨ okCell x y) ∧ (okCell x y → ¬ r = 0) := by
  unfold F_X5_isCell
  obtain ⟨r0, h1, h2, h3⟩ := isRow_F x σ
  rw [bd_eq h1]
  by_cases e0 : r0 = 0
  · refine ⟨0, by rw [if_pos e0]; rfl, Or.inl rfl, ?_⟩
    rintro ⟨i, j, hi, hj, rfl, rfl⟩
    exact absurd e0 (h3 ⟨i, hi, rfl⟩)
  · rw [if_neg e0]
    obtain ⟨i, hi, rfl⟩ := h2.resolve_left e0
    by_cases e : y < 0
    · refine ⟨0, by rw [if_pos e]; rfl, Or.inl rfl, ?_⟩
      rintro ⟨i', j, hi', hj, -, rfl⟩
      exact absurd e (nI_pos (by omega))
    · rw [if_neg e]
      by_cases e2 : (4 : Int32) ≤ y
      · refine ⟨0, by rw [if_pos e2]; rfl, Or.inl rfl, ?_⟩
        rintro ⟨i', j, hi', hj, -, rfl⟩
        exact absurd e2 (nI_ge (b := 4) hj (by decide))
      · refine ⟨1, by rw [if_neg e2]; rfl, Or.inr ?_, fun _ => by decide⟩
        rcases pk_ix y (n := 4) (by decide) with q | q | ⟨j, q, rfl⟩
        · exact absurd q e
        · exact absurd q e2
        · exact ⟨i, j, hi, q, rfl, rfl⟩
theorem cellIx (i j : Nat) : (4 : Int32) * nI i + nI j = nI (4 * i + j) := by
  rw [show (4 : Int32) = nI 4 from rfl, pk_mul, nI_add]
section
variable {b n : Nat} {A : AS} {σ : HS}
theorem lookFrom_L {k : Nat} (hk : k < 8) : ∀ (r N c : Nat) (A : AS) (σ : HS), RC b A σ → Sm (n + 1) A → c + r = 256 → r < N → ∃ τ, L_X5_lookFrom_6 N (b + 1) (b + 262 + 4 * k) (nI c) σ = some ((aFrom A k r c).1, τ) ∧ RC b (aFrom A k r c).2 τ ∧ Cst b σ τ := by
  intro r
  induction r with
  | zero =>
    intro N c A σ h hS hc hN
    obtain ⟨N, rfl⟩ : ∃ M, N = M + 1 := ⟨N - 1, by omega⟩
    simp only [L_X5_lookFrom_6, B_X5_lookFrom_6]
    rw [if_pos (by rw [nI_256]; exact nI_le (by omega) (by omega))]
    exact ⟨σ, rfl, h, Cst.rf⟩
  | succ r ih =>
    intro N c A σ h hS hc hN
    obtain ⟨N, rfl⟩ : ∃ M, N = M + 1 := ⟨N - 1, by omega⟩
    obtain ⟨τ, l1, l2, l3⟩ := rc_look h hS hk (c := c) (by omega)
    simp only [L_X5_lookFrom_6, B_X5_lookFrom_6, aFrom]
    rw [if_neg (by rw [nI_256]; exact nI_ge (by omega) (by omega)), if_pos h.kx, bd_eq l1]
    by_cases e1 : (aLook A k c).1 < 0
    · rw [if_pos e1, if_pos e1]
      by_cases e2 : (aLook A k c).1 = -7
      · rw [if_pos e2, if_pos e2, nI_1]
        rw [look7 e2] at l2
        obtain ⟨υ, m1, m2, m3⟩ := ih N (c + 1) A τ l2 hS (by omega) (by omega)
        exact ⟨υ, m1, m2, l3.tr m3⟩
      · rw [if_neg e2, if_neg e2]
        exact ⟨τ, rfl, l2, l3⟩
    · rw [if_neg e1, if_neg e1, show (4 : Int32) = nI 4 from rfl, pk_div (by omega) (by decide) (by decide)]
      exact ⟨τ, rfl, l2, l3⟩
theorem rc_cl (h : RC b A σ) {k : Nat} (hk : k < 8) : (kd σ (b + 261) = 103 ∧ inb (nI k) (ln σ (b + 261))) ∧ (nI k).toNatClampNeg = k := ⟨⟨h.ta.1, by rw [h.ta.2]; exact inb_nI hk (by omega)⟩, nI_clamp (by omega)⟩
def aRead (A : AS) (k c : Nat) : Int32 × AS := if ztf (aTouch A k) 0 k = 1 then ((aLook (aTouch A k) k c).1, aPut (aLook (aTouch A k) k c).2) else (-3, aTouch A k)
theorem Sm.tch (hS : Sm n A) (k : Nat) : Sm n (aTouch A k) := by
  unfold aTouch; split
  · exact hS
  · exact hS
theorem rc_read (h : RC b A σ) (hS : Sm (n + 1) A) {k i j : Nat} (hk : k < 8) (hi : i < 64) (hj : j < 4) : ∃ τ, F_X5_read (b + 1) (nI k) (nI i) (nI j) σ = some ((aRead A k (4 * i + j)).1, τ) ∧ RC b (aRead A k (4 * i + j)).2 τ ∧ Cst b σ τ := by
  obtain ⟨r1, c1, -, c2⟩ := isClient_F (nI k) σ
  obtain ⟨r2, d1, -, d2⟩ := isCell_F (nI i) (nI j) σ
  obtain ⟨q1, q2⟩ := rc_cl h hk
  obtain ⟨σ1, t1, t2, t3⟩ := rc_touch h hk
  obtain ⟨σ2, l1, l2, l3⟩ := rc_look t2 (hS.tch k) hk (c := 4 * i + j) (by omega)
  obtain ⟨σ3, p1, p2, p3⟩ := rc_put l2
  unfold F_X5_read aRead
  rw [bd_eq c1, if_neg (c2 ⟨k, hk, rfl⟩), bd_eq d1, if_neg (d2 ⟨i, j, hi, hj, rfl, rfl⟩), if_pos h.kx, h.g2, if_pos q1, q2, (h.tk hk).1, if_pos (h.tk hk).2.1, bd_eq t1, if_pos (t2.tk hk).2.1, (t2.2.2.2.1 k hk).1]
  by_cases e : ztf (aTouch A k) 0 k = 1
  · rw [if_pos e, if_pos e]
    unfold F_X5_cellIndex
    rw [bd_eq rfl, cellIx, if_pos t2.kx, bd_eq l1, if_pos l2.kx, l2.g0, if_pos l2.kt, bd_eq p1]
    exact ⟨σ3, rfl, p2, (t3.tr l3).tr p3⟩
  · rw [if_neg e, if_neg e]
    exact ⟨σ1, rfl, t2, t3⟩
def aNext (A : AS) (k i : Nat) : Int32 × AS := if ztf (aTouch A k) 0 k = 1 then ((aFrom (aTouch A k) k (256 - 4 * i) (4 * i)).1, aPut (aFrom (aTouch A k) k (256 - 4 * i) (4 * i)).2) else (-3, aTouch A k)
theorem rc_next (h : RC b A σ) (hS : Sm (n + 1) A) {k i : Nat} (hk : k < 8) (hi : i < 64) : ∃ τ, F_X5_next (b + 1) (nI k) (nI i) σ = some ((aNext A k i).1, τ) ∧ RC b (aNext A k i).2 τ ∧ Cst b σ τ := by
  obtain ⟨r1, c1, -, c2⟩ := isClient_F (nI k) σ
  obtain ⟨r2, d1, -, d2⟩ := isRow_F (nI i) σ
  obtain ⟨q1, q2⟩ := rc_cl h hk
  obtain ⟨σ1, t1, t2, t3⟩ := rc_touch h hk
  obtain ⟨σ2, l1, l2, l3⟩ := lookFrom_L hk (256 - 4 * i) NF (4 * i) _ _ t2 (hS.tch k) (by omega) (by have : NF = 100000 := rfl; omega)
  obtain ⟨σ3, p1, p2, p3⟩ := rc_put l2
  unfold F_X5_next aNext
  rw [bd_eq c1, if_neg (c2 ⟨k, hk, rfl⟩), bd_eq d1, if_neg (d2 ⟨i, hi, rfl⟩), if_pos h.kx, h.g2, if_pos q1, q2, (h.tk hk).1, if_pos (h.tk hk).2.1, bd_eq t1, if_pos (t2.tk hk).2.1, (t2.2.2.2.1 k hk).1]
  by_cases e : ztf (aTouch A k) 0 k = 1
  · rw [if_pos e, if_pos e, if_pos t2.kx]
    have lf : F_X5_lookFrom (b + 1) (b + 262 + 4 * k) (nI i) σ1 = some ((aFrom (aTouch A k) k (256 - 4 * i) (4 * i)).1, σ2) := by
      unfold F_X5_lookFrom F_X5_cellIndex
      rw [bd_eq rfl, ← nI_0, cellIx, Nat.add_zero]
      exact l1
    rw [bd_eq lf, if_pos l2.kx, l2.g0, if_pos l2.kt, bd_eq p1]
    exact ⟨σ3, rfl, p2, (t3.tr l3).tr p3⟩
  · rw [if_neg e, if_neg e]
    exact ⟨σ1, rfl, t2, t3⟩
end
