/-! SWEEP (reference), WHOLE -/
theorem Pce.cg {A B : AS} {c : Nat} (h : Pce A c) (e1 : zl B (2 * c + 1) = zl A (2 * c + 1)) (e2 : zl B (2 * c) = zl A (2 * c)) (e3 : zsc B 4 = zsc A 4) (e4 : zlk B 0 c = zlk A 0 c) (e5 : zlp B c = zlp A c) (e6 : zlk B 1 c = zlk A 1 c) : Pce B c := by
  unfold Pce
  rw [e1, e2, e3, e4, e5, e6]
  exact h
theorem Pce.sw {A B : AS} {c c' : Nat} {X : List (Int32 × Int32)} (h : Pce A c') (hS : SWr A B c X) (hc : c' ≠ c) : Pce B c' := by
  obtain ⟨a1, a2, a4, ⟨b1, b2, b3, b4, b5⟩, a6, a7, a8⟩ := hS
  exact h.cg (a4 _ (by omega) (by omega)) (a4 _ (by omega) (by omega)) (a6 4 (by decide) (by decide)) (by rw [b1]) (by rw [b2]) (by rw [b1])
section
variable {p : Nat → Nat} {m : Nat} {A B : AS} {σ : HS}
theorem moBelow_L (h : RMo p m A σ) (hK : ∀ k, k < 8 → 0 ≤ ztf A 0 k) (t : Int32) : ∀ (r N k : Nat), k + r = 8 → r < N → L_X6_sweep_22 N (p 294) t (nI k) σ = (if (List.range' k r).any (bBelow A t) = true then some (-3, σ) else L_X6_sweep_58 NF (p 294) t (nI 0) σ) := by
  have S := h.1
  intro r
  induction r with
  | zero =>
    intro N k hk hN
    obtain ⟨N, rfl⟩ : ∃ M, N = M + 1 := ⟨N - 1, by omega⟩
    simp only [L_X6_sweep_22, B_X6_sweep_22]
    rw [if_pos (by rw [nI_8]; exact nI_le (by omega) (by omega)), nI_0]
    rfl
  | succ r ih =>
    intro N k hk hN
    obtain ⟨N, rfl⟩ : ∃ M, N = M + 1 := ⟨N - 1, by omega⟩
    have hk8 : k < 8 := by omega
    obtain ⟨u1, u2⟩ := h.2.2.1 k hk8
    have hki : inb (nI k) 8 := inb_nI hk8 (by decide)
    have hkc : (nI k).toNatClampNeg = k := nI_clamp (by omega)
    have next := ih N (k + 1) (by omega) (by omega)
    rw [any_r]
    simp only [L_X6_sweep_22, B_X6_sweep_22, B_X6_sweep_50]
    rw [if_neg (by rw [nI_8]; exact nI_ge (by omega) (by omega))]
    simp only [S.km, S.r259, S.k259, S.l259, S.r260, S.k260, S.l260, true_and, if_true, if_pos hki, hkc, u1, i_pos0 (hK k hk8), nI_1, next]
    by_cases e : ztf A 0 k = 0
    · rw [if_pos e, show bBelow A t k = false from decide_eq_false (fun z => z.1 e), Bool.false_or]
    · obtain ⟨u2, -⟩ := u2 e
      rw [if_neg e, u2]
      by_cases e2 : t ≤ ztf A 1 k
      · rw [if_pos e2, show bBelow A t k = false from decide_eq_false (fun z => z.2 e2), Bool.false_or]
      · rw [if_neg e2, show bBelow A t k = true from decide_eq_true ⟨e, e2⟩, Bool.true_or, if_pos rfl]
theorem moLocks_L (h : RMo p m A σ) (hP : ∀ c, c < 256 → Pce A c) (t : Int32) : ∀ (r N c : Nat), c + r = 256 → r < N → L_X6_sweep_58 N (p 294) t (nI c) σ = (if (List.range' c r).any (bLock A t) = true then some (-3, σ) else L_X6_sweep_100 NF (p 294) t (zsc A 6) (nI 0) σ) := by
  have S := h.1
  intro r
  induction r with
  | zero =>
    intro N c hc hN
    obtain ⟨N, rfl⟩ : ∃ M, N = M + 1 := ⟨N - 1, by omega⟩
    simp only [L_X6_sweep_58, B_X6_sweep_58]
    rw [if_pos (by rw [nI_256]; exact nI_le (by omega) (by omega)), nI_0, if_pos S.km, bd_eq (mo_records h)]
    rfl
  | succ r ih =>
    intro N c hc hN
    obtain ⟨N, rfl⟩ : ∃ M, N = M + 1 := ⟨N - 1, by omega⟩
    have hc6 : c < 256 := by omega
    have l1 := (h.2.1 c hc6).1
    have hci : inb (nI c) 256 := inb_nI hc6 (by decide)
    have hcc : (nI c).toNatClampNeg = c := nI_clamp (by omega)
    have next := ih N (c + 1) (by omega) (by omega)
    rw [any_r]
    simp only [L_X6_sweep_58, B_X6_sweep_58, B_X6_sweep_87]
    rw [if_neg (by rw [nI_256]; exact nI_ge (by omega) (by omega))]
    simp only [S.km, S.r256, S.k256, S.l256, true_and, if_true, if_pos hci, hcc, l1, i_pos0 (hP c hc6).l0, nI_1, next]
    by_cases e : zlk A 0 c = 0
    · rw [if_pos e, show bLock A t c = false from decide_eq_false (fun z => z.1 e), Bool.false_or]
    · rw [if_neg e]
      by_cases e2 : t < zlk A 0 c
      · rw [if_pos e2, show bLock A t c = false from decide_eq_false (fun z => z.2 e2), Bool.false_or]
      · rw [if_neg e2, show bLock A t c = true from decide_eq_true ⟨e, e2⟩, Bool.true_or, if_pos rfl]
theorem moCells_L (t x2 : Int32) : ∀ (r N c : Nat) (B : AS) (σ : HS), RMo p 3000 B σ → (∀ c', c ≤ c' → c' < 256 → Pce B c') → c + r = 256 → r < N →
    ∃ τ, L_X6_sweep_100 N (p 294) t x2 (nI c) σ = some (x2 - zsc (swA t r c B) 6, τ) ∧ RMo p 3000 (aPut (swA t r c B)) τ ∧ Mst p σ τ := by
  intro r
  induction r with
  | zero =>
    intro N c B σ h hP hc hN
    obtain ⟨N, rfl⟩ : ∃ M, N = M + 1 := ⟨N - 1, by omega⟩
    obtain ⟨τ, a1, a2, a3⟩ := mo_end h (x2 - zsc B 6)
    simp only [L_X6_sweep_100, B_X6_sweep_100, swA]
    rw [if_pos (by rw [nI_256]; exact nI_le (by omega) (by omega)), if_pos h.km, bd_eq (mo_records h), if_pos h.km, bd_eq a1]
    exact ⟨τ, rfl, a2, a3⟩
  | succ r ih =>
    intro N c B σ h hP hc hN
    obtain ⟨N, rfl⟩ : ∃ M, N = M + 1 := ⟨N - 1, by omega⟩
    have hc6 : c < 256 := by omega
    obtain ⟨τ, a1, a2, a3⟩ := mo_sweepCell h hc6 (hP c (by omega) hc6) t
    obtain ⟨X, s1, -⟩ := swp_all (hP c (by omega) hc6) t
    simp only [L_X6_sweep_100, B_X6_sweep_100, swA]
    rw [if_neg (by rw [nI_256]; exact nI_ge (by omega) (by omega)), if_pos h.km, bd_eq a1, nI_1]
    obtain ⟨υ, b1, b2, b3⟩ := ih N (c + 1) _ τ a2 (fun c' h1 h2 => (hP c' (by omega) h2).sw s1 (by omega)) (by omega) (by omega)
    exact ⟨υ, b1, b2, a3.tr b3⟩
theorem mo_sweep (h : RMo p 3000 A σ) (hP : ∀ c, c < 256 → Pce A c) (hK : ∀ k, k < 8 → 0 ≤ ztf A 0 k) (t : Int32) : ∃ τ, F_X6_sweep (p 294) t σ = some ((aSweep A t).1, τ) ∧ RMo p 3000 (aSweep A t).2 τ ∧ Mst p σ τ := by
  have h0 := mo_code h 0
  have m0 : Mst p σ (si σ 240 (p 294) 0) := Mst.rf.si (by decide)
  unfold F_X6_sweep aSweep B_X6_sweep_17
  rw [if_pos h.km]
  generalize si σ 240 (p 294) 0 = σ0 at h0 m0 ⊢
  rw [h0.s3]
  by_cases e1 : t < 0
  · rw [if_pos e1, if_pos e1]; exact ⟨σ0, rfl, h0, m0⟩
  · rw [if_neg e1, if_neg e1]
    by_cases e2 : t ≤ zsc A 3
    · rw [if_pos e2, if_pos e2]
      have b := moBelow_L h0 hK t 8 NF 0 rfl (by decide)
      have l := moLocks_L h0 hP t 256 NF 0 rfl (by decide)
      obtain ⟨τ, c1, c2, c3⟩ := moCells_L t (zsc A 6) 256 NF 0 A σ0 h0 (fun c' _ h2 => hP c' h2) rfl (by decide)
      rw [nI_0] at b l c1
      rw [b]
      by_cases e3 : (List.range' 0 8).any (bBelow A t) = true
      · rw [if_pos e3, if_pos e3]; exact ⟨σ0, rfl, h0, m0⟩
      · rw [if_neg e3, if_neg e3, l]
        by_cases e4 : (List.range' 0 256).any (bLock A t) = true
        · rw [if_pos e4, if_pos e4]; exact ⟨σ0, rfl, h0, m0⟩
        · rw [if_neg e4, if_neg e4]
          generalize swA t 256 0 A = B at c1 c2 ⊢
          exact ⟨τ, c1, c2, m0.tr c3⟩
    · rw [if_neg e2, if_neg e2]; exact ⟨σ0, rfl, h0, m0⟩
/-- calls with a client, a row or a column that there is not -/
theorem mo_noC (h : RMo p m A σ) : RMo p m A (si σ 240 (p 294) 0) ∧ Mst p σ (si σ 240 (p 294) 0) := ⟨mo_code h 0, Mst.rf.si (by decide)⟩
end
