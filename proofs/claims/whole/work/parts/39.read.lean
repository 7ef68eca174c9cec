/-! LOOKING, READ AND NEXT (class) -/
def nul (v : Int32) : Int32 := if v = -1 then -7 else v
def aLook (A : AS) (k c : Nat) : Int32 × AS := match ownV A k c with
  | some v => (nul v, A)
  | none => if zlk A 0 c = 0 ∨ ztf A 1 k ≤ zlk A 0 c then (nul (vAt (zl A (2 * c + 1)) (zl A (2 * c)) (ztf A 1 k)), A) else if aFor A c then (-5, aClean A c) else (-6, A)
def aPut (A : AS) : AS := if 64 ≤ zsc A 7 then (if zsc A 8 + 1 = 4 then usc (usc (usc A 7 0) 8 1) 9 (zsc A 9 + 1) else usc (usc A 7 0) 8 (zsc A 8 + 1)) else A
def aTouch (A : AS) (k : Nat) : AS := if ztf A 0 k = 0 then A else utf A 2 k (zsc A 0)
theorem usc_usc (A : AS) (j : Nat) (v w : Int32) : usc (usc A j v) j w = usc A j w := by
  have h : (fun i => if i = j then w else zsc (usc A j v) i) = (fun i => if i = j then w else zsc A i) := by
    funext i
    by_cases e : i = j
    · simp [e]
    · rw [if_neg e, if_neg e, zsc_usc, if_neg e]
  exact congrArg (fun f => ((f, zlk A, ztf A, zl A, zow A, zlp A, zne A) : AS)) h
section
variable {b n : Nat} {A : AS} {σ : HS}
theorem rc_put (h : RC b A σ) : ∃ τ, F_X3_putDownLog (b + 2) σ = some ((), τ) ∧ RC b (aPut A) τ ∧ Cst b σ τ := by
  have s7 : gi σ 122 (b + 2) = zsc A 7 := h.2.1.2.2.2.2.2.2.2.1
  have s8 : gi σ 123 (b + 2) = zsc A 8 := h.2.1.2.2.2.2.2.2.2.2.1
  have s9 : gi σ 124 (b + 2) = zsc A 9 := h.2.1.2.2.2.2.2.2.2.2.2.1
  unfold F_X3_putDownLog lt1 aPut
  rw [if_pos h.kt, s7]
  by_cases e : (64 : Int32) ≤ zsc A 7
  · rw [if_pos e, if_pos e]
    have g8 : gi (si σ 122 (b + 2) 0) 123 (b + 2) = zsc A 8 := s8
    rw [g8]
    have g8' : gi (si (si σ 122 (b + 2) 0) 123 (b + 2) (zsc A 8 + 1)) 123 (b + 2) = zsc A 8 + 1 := if_pos ⟨rfl, rfl⟩
    show ∃ τ, (if gi (si (si σ 122 (b + 2) 0) 123 (b + 2) (zsc A 8 + 1)) 123 (b + 2) = 4 then _ else _) = some ((), τ) ∧ _
    rw [g8']
    have hA := rc_sc8 (rc_sc7 h 0) (zsc A 8 + 1)
    by_cases e2 : zsc A 8 + 1 = 4
    · rw [if_pos e2, if_pos e2]
      refine ⟨_, rfl, ?_, (((Cst.rf.si (by decide)).si (by decide)).si (by decide)).si (by decide)⟩
      have g9 : gi (si (si (si σ 122 (b + 2) 0) 123 (b + 2) (zsc A 8 + 1)) 123 (b + 2) 1) 124 (b + 2) = zsc A 9 := s9
      rw [g9]
      have hB := rc_sc9 (rc_sc8 hA 1) (zsc A 9 + 1)
      have eA : usc (usc (usc (usc A 7 0) 8 (zsc A 8 + 1)) 8 1) 9 (zsc A 9 + 1) = usc (usc (usc A 7 0) 8 1) 9 (zsc A 9 + 1) := by
        rw [usc_usc]
      rw [← eA]
      exact hB
    · rw [if_neg e2, if_neg e2]
      exact ⟨_, rfl, hA, (Cst.rf.si (by decide)).si (by decide)⟩
  · rw [if_neg e, if_neg e]
    exact ⟨σ, rfl, h, Cst.rf⟩
theorem rc_touch (h : RC b A σ) {k : Nat} (hk : k < 8) : ∃ τ, F_X4_touch (b + 262 + 4 * k) (gi σ 203 (b + 1)) σ = some ((), τ) ∧ RC b (aTouch A k) τ ∧ Cst b σ τ := by
  have s0 : gi σ 203 (b + 1) = zsc A 0 := h.2.1.1
  unfold F_X4_touch aTouch
  rw [if_pos (h.tk hk).2.1, (h.2.2.2.1 k hk).1, s0]
  by_cases e : ztf A 0 k = 0
  · rw [if_pos e, if_pos e]; exact ⟨σ, rfl, h, Cst.rf⟩
  · rw [if_neg e, if_neg e]; exact ⟨_, rfl, rc_tf2 h hk _, Cst.rf.si (by decide)⟩
theorem rc_look87 (h : RC b A σ) (hS : Sm n A) {k c : Nat} (hk : k < 8) (hc : c < 256) : B_X5_look_87 (b + 262 + 4 * k) (b + 4 + c) σ = some (nul (vAt (zl A (2 * c + 1)) (zl A (2 * c)) (ztf A 1 k)), σ) := by
  obtain ⟨CL, ow, h5⟩ := h.2.2.2.2
  obtain ⟨v1, v2, v3, v4⟩ := h5 (2 * c) (by omega)
  obtain ⟨w1, w2, w3, w4⟩ := h5 (2 * c + 1) (by omega)
  rw [show 2 * c % 2 = 0 by omega, show 2 * c / 2 = c by omega] at v1
  rw [show (2 * c + 1) % 2 = 1 by omega, show (2 * c + 1) / 2 = c by omega] at w1
  have vl := Rcw.len h5 hS (d := 2 * c) (by omega)
  have wl := Rcw.len h5 hS (d := 2 * c + 1) (by omega)
  unfold B_X5_look_87
  rw [if_pos (h.tk hk).2.1, if_pos (h.kc hc), bd_eq (valueAt_F (h.kc hc) v1 vl w1 wl), (h.2.2.2.1 k hk).2.1, v2, w2]
  unfold nul
  by_cases e : vAt (zl A (2 * c + 1)) (zl A (2 * c)) (ztf A 1 k) = -1
  · rw [if_pos e, if_pos e]; rfl
  · rw [if_neg e, if_neg e]; rfl
theorem rc_look (h : RC b A σ) (hS : Sm (n + 1) A) {k c : Nat} (hk : k < 8) (hc : c < 256) : ∃ τ, F_X5_look (b + 1) (b + 262 + 4 * k) (nI c) σ = some ((aLook A k c).1, τ) ∧ RC b (aLook A k c).2 τ ∧ Cst b σ τ := by
  obtain ⟨t1, t2, t3, t4, t5, t6, t7, t8, t9, t10, t11⟩ := h.tk hk
  obtain ⟨u1, u2, u3, u4, u5, u6, u7, u8, u9, u10⟩ := h.2.2.2.1 k hk
  unfold F_X5_look aLook ownV
  rw [if_pos t2, bd_eq (rc_placeOf h hk hc)]
  cases e : plc (zow A k) c with
  | some j =>
    obtain ⟨q, p1, p2, p3, p4⟩ := plc_some e
    obtain ⟨v1, v2, v3⟩ := u8 j q p1
    refine ⟨σ, ?_, ?_, Cst.rf⟩
    · show (if nI j < 0 then _ else _) = _
      rw [if_neg (nI_pos (by omega)), if_pos t2, t4, t10, if_pos ⟨t7, inb_nI (by omega) (by omega)⟩, nI_clamp (by omega), v2, p3]
      show _ = some (nul q.2, σ)
      unfold nul
      by_cases e2 : q.2 = -1
      · rw [if_pos e2, if_pos e2]; rfl
      · rw [if_neg e2, if_neg e2]; rfl
    · rw [p3]; exact h
  | none =>
    rw [plc_none e]
    show ∃ τ, (if (-1 : Int32) < 0 then _ else _) = some ((if zlk A 0 c = 0 ∨ ztf A 1 k ≤ zlk A 0 c then (_ : Int32 × AS) else _).1, τ) ∧ RC b (if zlk A 0 c = 0 ∨ ztf A 1 k ≤ zlk A 0 c then (_ : Int32 × AS) else _).2 τ ∧ _
    have l1 := (h.2.2.1 c hc).1
    rw [if_pos (by decide), if_pos h.kx, h.g0, if_pos h.kt, h.ca.1, h.ca.2.2, if_pos ⟨h.ca.2.1, inb_nI hc (by omega)⟩, nI_clamp (by omega), h.cr hc, if_pos (h.kc hc), bd_eq (rc_isLocked h hc)]
    by_cases e1 : zlk A 0 c = 0
    · rw [if_pos e1, if_pos rfl, if_pos (Or.inl e1), rc_look87 h hS hk hc]
      exact ⟨σ, rfl, h, Cst.rf⟩
    · rw [if_neg e1, if_neg (by decide), if_pos (h.kc hc), if_pos t2, u2, l1]
      by_cases e2 : ztf A 1 k ≤ zlk A 0 c
      · rw [if_pos e2, if_pos (Or.inr e2), rc_look87 h hS hk hc]
        exact ⟨σ, rfl, h, Cst.rf⟩
      · rw [if_neg e2, if_pos h.kx, if_neg (fun (q : zlk A 0 c = 0 ∨ ztf A 1 k ≤ zlk A 0 c) => q.elim e1 e2)]
        obtain ⟨r, f1, f2⟩ := rc_isFor h hc
        rw [bd_eq f1]
        by_cases e3 : r = 0
        · rw [if_pos e3, if_neg (f2.mp e3)]
          exact ⟨σ, rfl, h, Cst.rf⟩
        · have e4 : aFor A c := Decidable.not_not.mp (fun q => e3 (f2.mpr q))
          obtain ⟨τ, g1, g2, g3⟩ := rc_clean h hS hc
          rw [if_neg e3, if_pos e4, if_pos h.kx, h.g0, if_pos h.kt, bd_eq g1]
          exact ⟨τ, rfl, g2, g3⟩
end
