/-! SWEEP, 2 (class) -/
def swA (t : Int32) : Nat → Nat → AS → AS
  | 0, _, A => A
  | r + 1, c, A => swA t r (c + 1) (swp c t 0 (zl A (2 * c + 1)) A)
def aSweep (A : AS) (t : Int32) : Int32 × AS :=
  if t < 0 then (-2, A) else if t ≤ zsc A 3 then (if (List.range' 0 8).any (bBelow A t) then (-3, A) else if (List.range' 0 256).any (bLock A t) then (-3, A) else (zsc A 6 - zsc (swA t 256 0 A) 6, aPut (swA t 256 0 A))) else (-2, A)
theorem dd_zl (A : AS) (c : Nat) (s : Int32) {d : Nat} (h : d ≠ 2 * c) : zl (aDropData A c s) d = zl A d := by
  unfold aDropData
  split
  · exact if_neg h
  · rfl
theorem del_zl (A : AS) (d : Nat) (l : List (Int32 × Int32)) {x : Nat} (h : x ≠ d) : zl (aDel A d l) x = zl A x := if_neg h
theorem Sm.del {n : Nat} {A : AS} (h : Sm n A) {d : Nat} {s : Int32} : Sm n (aDel A d (rmK (zl A d) s)) := by
  intro x
  have e : zl (aDel A d (rmK (zl A d) s)) x = if x = d then rmK (zl A d) s else zl A x := rfl
  rw [e]
  split
  · have := h d
    have := List.length_eraseP_le (p := fun q : Int32 × Int32 => decide (q.1 = s)) (l := zl A d)
    unfold rmK; omega
  · exact h x
theorem swp_k (c : Nat) (t : Int32) {n : Nat} : ∀ (R : List (Int32 × Int32)) (cov : Int32) (A : AS), (∀ d, d ≠ 2 * c → d ≠ 2 * c + 1 → zl (swp c t cov R A) d = zl A d) ∧ (Sm n A → Sm n (swp c t cov R A)) := by
  intro R
  induction R with
  | nil => intro cov A; exact ⟨fun _ _ _ => rfl, fun h => h⟩
  | cons q R ih =>
    intro cov A
    have z1 : ∀ d, d ≠ 2 * c → d ≠ 2 * c + 1 → zl (aDropData (aDel A (2 * c + 1) (rmK (zl A (2 * c + 1)) q.1)) c q.2) d = zl A d := fun d h1 h2 => by rw [dd_zl _ _ _ h1, del_zl _ _ _ h2]
    unfold swp
    split
    · split
      · obtain ⟨h1, h2⟩ := ih cov (aDel A (2 * c + 1) (rmK (zl A (2 * c + 1)) q.1))
        exact ⟨fun d g1 g2 => (h1 d g1 g2).trans (del_zl _ _ _ g2), fun h => h2 h.del⟩
      · split
        · split
          · obtain ⟨h1, h2⟩ := ih 1 (aDropData (aDel A (2 * c + 1) (rmK (zl A (2 * c + 1)) q.1)) c q.2)
            exact ⟨fun d g1 g2 => (h1 d g1 g2).trans (z1 d g1 g2), fun h => h2 h.del.dd⟩
          · exact ih 1 A
        · obtain ⟨h1, h2⟩ := ih 1 (aDropData (aDel A (2 * c + 1) (rmK (zl A (2 * c + 1)) q.1)) c q.2)
          exact ⟨fun d g1 g2 => (h1 d g1 g2).trans (z1 d g1 g2), fun h => h2 h.del.dd⟩
    · exact ih cov A
section
variable {b n : Nat} {A : AS} {σ : HS}
theorem rc_sweepOf (h : RC b A σ) (hS : Sm n A) {c : Nat} (hc : c < 256) (t : Int32) (hD : ((zl A (2 * c + 1)).map (fun q => q.1)).Nodup) : ∃ τ, F_X3_dropUnseenOf (b + 2) (b + 4 + c) t σ = some ((), τ) ∧ RC b (swp c t 0 (zl A (2 * c + 1)) A) τ ∧ Cst b σ τ := by
  obtain ⟨h1, h2, h3, h4, CL, ow, h5⟩ := id h
  obtain ⟨c1, c2, c3, c4⟩ := h5 (2 * c + 1) (by omega)
  have c1' := c1
  rw [show (2 * c + 1) % 2 = 1 by omega, show (2 * c + 1) / 2 = c by omega] at c1'
  obtain ⟨τ, e1, e2, e3⟩ := sweepOf_L (ow := ow) hc t (CL (2 * c + 1)) NF _ 0 [] A σ CL ⟨h1, h2, h3, h4, h5⟩ hS hD rfl c1' (Rcw.len h5 hS (by omega))
  rw [c2] at e2
  refine ⟨τ, ?_, e2, e3⟩
  unfold F_X3_dropUnseenOf
  rw [if_pos (h.kc hc)]
  exact e1
theorem sweep_L (t x : Int32) : ∀ (r N c : Nat) (A : AS) (σ : HS), RC b A σ → Sm n A → (∀ d, c ≤ d → d < 256 → ((zl A (2 * d + 1)).map (fun q => q.1)).Nodup) → c + r = 256 → r < N →
    ∃ τ, L_X3_dropUnseen_7 N (b + 2) t x (nI c) σ = some (x - zsc (swA t r c A) 6, τ) ∧ RC b (swA t r c A) τ ∧ Cst b σ τ := by
  intro r
  induction r with
  | zero =>
    intro N c A σ h hS hD hc hN
    obtain ⟨N, rfl⟩ : ∃ M, N = M + 1 := ⟨N - 1, by omega⟩
    simp only [L_X3_dropUnseen_7, B_X3_dropUnseen_7, swA]
    rw [if_pos (by rw [nI_256]; exact nI_le (by omega) (by omega)), if_pos h.kt, h.2.1.2.2.2.2.2.2.1]
    exact ⟨σ, rfl, h, Cst.rf⟩
  | succ r ih =>
    intro N c A σ h hS hD hc hN
    obtain ⟨N, rfl⟩ : ∃ M, N = M + 1 := ⟨N - 1, by omega⟩
    have hc8 : c < 256 := by omega
    obtain ⟨i1, i2⟩ := rc_ix h hc8
    obtain ⟨σ1, a1, a2, a3⟩ := rc_sweepOf h hS hc8 t (hD c (Nat.le_refl _) hc8)
    obtain ⟨k1, k2⟩ := swp_k c t (n := n) (zl A (2 * c + 1)) 0 A
    obtain ⟨τ, b1, b2, b3⟩ := ih N (c + 1) _ σ1 a2 (k2 hS) (fun d h1 h2 => by rw [k1 _ (by omega) (by omega)]; exact hD d (by omega) h2) (by omega) (by omega)
    simp only [L_X3_dropUnseen_7, B_X3_dropUnseen_7, swA]
    rw [if_neg (by rw [nI_256]; exact nI_ge (by omega) (by omega)), if_pos h.kt, h.ca.1, if_pos i1, i2, bd_eq a1, nI_1]
    exact ⟨τ, b1, b2, a3.tr b3⟩
theorem rc_sweep (h : RC b A σ) (hS : Sm n A) (t : Int32) (hD : ∀ d, d < 256 → ((zl A (2 * d + 1)).map (fun q => q.1)).Nodup) : ∃ τ, F_X5_sweep (b + 1) t σ = some ((aSweep A t).1, τ) ∧ RC b (aSweep A t).2 τ ∧ Cst b σ τ := by
  have f1 : F_X5_isBeginBelow (b + 1) t σ = some (if (List.range' 0 8).any (bBelow A t) then 1 else 0, σ) := below_L h t 8 NF 0 rfl (by decide)
  have f2 : F_X3_hasLockNotAbove (b + 2) t σ = some (if (List.range' 0 256).any (bLock A t) then 1 else 0, σ) := hasLock_L h t 256 NF 0 rfl (by have : NF = 100000 := rfl; omega)
  obtain ⟨σ1, s1, s2, s3⟩ := sweep_L t (zsc A 6) 256 NF 0 A σ h hS (fun d _ hd => hD d hd) rfl (by have : NF = 100000 := rfl; omega)
  have f3 : F_X3_dropUnseen (b + 2) t σ = some (zsc A 6 - zsc (swA t 256 0 A) 6, σ1) := by
    unfold F_X3_dropUnseen
    rw [if_pos h.kt, h.2.1.2.2.2.2.2.2.1]
    exact s1
  obtain ⟨σ2, p1, p2, p3⟩ := rc_put s2
  unfold F_X5_sweep aSweep
  by_cases e0 : t < 0
  · rw [if_pos e0, if_pos e0]; exact ⟨σ, rfl, h, Cst.rf⟩
  · rw [if_neg e0, if_neg e0, if_pos h.kx, h.g1, if_pos h.ko, h.2.1.2.2.2.1]
    by_cases e1 : t ≤ zsc A 3
    · rw [if_pos e1, if_pos e1, bd_eq f1]
      cases ea : (List.range' 0 8).any (bBelow A t) with
      | true => exact ⟨σ, rfl, h, Cst.rf⟩
      | false =>
        simp only [Bool.false_eq_true, if_false, if_true]
        rw [if_pos h.kx, h.g0, if_pos h.kt, bd_eq f2]
        cases eb : (List.range' 0 256).any (bLock A t) with
        | true => exact ⟨σ, rfl, h, Cst.rf⟩
        | false =>
          simp only [Bool.false_eq_true, if_false, if_true]
          rw [if_pos h.kx, h.g0, if_pos h.kt, bd_eq f3, if_pos s2.kx, s2.g0, if_pos s2.kt, bd_eq p1]
          exact ⟨σ2, rfl, p2, s3.tr p3⟩
    · rw [if_neg e1, if_neg e1]; exact ⟨σ, rfl, h, Cst.rf⟩
end
