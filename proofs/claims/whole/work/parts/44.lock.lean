/-! STEPS (class) -/
def aLose (A : AS) (k : Nat) : AS := utf (utf A 0 k 4) 4 k 0
def prm (A : AS) (k : Nat) : Nat := match zow A k with
  | [] => 0
  | q :: _ => q.1
def topW (l : List (Int32 × Int32)) (s : Int32) : Prop := match l with
  | [] => False
  | q :: _ => ¬ q.1 < s
def lrA (A : AS) (k : Nat) : Nat → Nat → Int32 → (Int32 × AS) ⊕ Int32
  | 0, _, x => .inr x
  | r + 1, c, x => match plc (zow A k) c with
    | none => lrA A k r (c + 1) x
    | some _ => match zl A (2 * c + 1) with
      | [] => if zlk A 0 c = 0 then lrA A k r (c + 1) (x + 1) else if aFor A c then .inl (5, aClean A c) else .inl (4, aLose A k)
      | q :: _ => if q.1 < ztf A 1 k then (if zlk A 0 c = 0 then lrA A k r (c + 1) (x + 1) else if aFor A c then .inl (5, aClean A c) else .inl (4, aLose A k)) else .inl (4, aLose A k)
def lrB (k : Nat) : Nat → Nat → AS → AS
  | 0, _, A => A
  | r + 1, c, A => match ownV A k c with
    | none => lrB k r (c + 1) A
    | some v => lrB k r (c + 1) (aAddLock (aAdd A (2 * c) (ztf A 1 k) v) c (ztf A 1 k) (prm A k) (zsc A 0))
def aLockRow (A : AS) (k row : Nat) : Int32 × AS := match lrA A k 4 (4 * row) 0 with
  | .inl q => q
  | .inr x => if zsc A 6 + x * 3 ≤ 3000 then (1, utf (lrB k 4 (4 * row) A) 4 k (ztf (lrB k 4 (4 * row) A) 4 k + 1)) else (-4, A)
theorem Sm.tf {n : Nat} {A : AS} (h : Sm n A) {j k : Nat} {v : Int32} : Sm n (utf A j k v) := h
theorem lrB_ow (k : Nat) : ∀ (r c : Nat) (A : AS), zow (lrB k r c A) = zow A ∧ ztf (lrB k r c A) = ztf A := by
  intro r
  induction r with
  | zero => intro c A; exact ⟨rfl, rfl⟩
  | succ r ih =>
    intro c A
    unfold lrB
    cases ownV A k c with
    | none => exact ih _ _
    | some v => exact ih _ _
section
variable {b n : Nat} {A : AS} {σ : HS}
theorem rc_lose (h : RC b A σ) {k : Nat} (hk : k < 8) : ∃ τ, F_X5_lose (b + 1) (b + 262 + 4 * k) σ = some (4, τ) ∧ RC b (aLose A k) τ ∧ Cst b σ τ := by
  unfold F_X5_lose
  rw [if_pos (h.tk hk).2.1]
  exact ⟨_, rfl, rc_tf4 (rc_tf0 h hk 4) hk 0, (Cst.rf.si (by decide)).si (by decide)⟩
theorem RC.pm (h : RC b A σ) {k : Nat} (hk : k < 8) (hne : zow A k ≠ []) : ai σ (b + 263 + 4 * k) 0 = nI (prm A k) ∧ prm A k < 256 := by
  obtain ⟨u1, u2, u3, u4, u5, u6, u7, u8, u9, u10⟩ := h.2.2.2.1 k hk
  unfold prm
  cases e : zow A k with
  | nil => exact absurd e hne
  | cons q l =>
    have := u8 0 q (by rw [e]; rfl)
    exact ⟨this.1, this.2.2⟩
theorem sub4 {x y : Nat} (hy : y < 1000) (hx : x < 1000) : ((nI x + 4 ≤ nI y) ↔ x + 4 ≤ y) := by
  rw [show (4 : Int32) = nI 4 from rfl, nI_add]
  exact nI_leI (by omega) (by omega)
theorem lockB_L {k : Nat} (hk : k < 8) {row : Nat} (hrow : row < 64) : ∀ (r N c : Nat) (A : AS) (σ : HS), RC b A σ → zow A k ≠ [] → c + r = 4 * row + 4 → r < N →
    ∃ τ, L_X5_lockRow_146 N (b + 1) (b + 262 + 4 * k) (nI (4 * row)) (nI c) σ = some (1, τ) ∧ RC b (utf (lrB k r c A) 4 k (ztf (lrB k r c A) 4 k + 1)) τ ∧ Cst b σ τ := by
  intro r
  induction r with
  | zero =>
    intro N c A σ h hne hc hN
    obtain ⟨N, rfl⟩ : ∃ M, N = M + 1 := ⟨N - 1, by omega⟩
    simp only [L_X5_lockRow_146, B_X5_lockRow_146, lrB]
    rw [if_pos ((sub4 (by omega) (by omega)).mpr (by omega)), if_pos (h.tk hk).2.1, (h.2.2.2.1 k hk).2.2.2.2.1]
    exact ⟨_, rfl, rc_tf4 h hk _, Cst.rf.si (by decide)⟩
  | succ r ih =>
    intro N c A σ h hne hc hN
    obtain ⟨N, rfl⟩ : ∃ M, N = M + 1 := ⟨N - 1, by omega⟩
    have hc256 : c < 256 := by omega
    obtain ⟨t1, t2, t3, t4, t5, t6, t7, t8, t9, t10, t11⟩ := h.tk hk
    obtain ⟨u1, u2, u3, u4, u5, u6, u7, u8, u9, u10⟩ := h.2.2.2.1 k hk
    simp only [L_X5_lockRow_146, B_X5_lockRow_146, B_X5_lockRow_226, lrB]
    rw [if_neg (fun q => by have := (sub4 (by omega) (by omega)).mp q; omega), if_pos t2, bd_eq (rc_placeOf h hk hc256)]
    unfold ownV
    cases e : plc (zow A k) c with
    | none =>
      rw [plc_none e]
      show ∃ τ, (if (-1 : Int32) < 0 then _ else _) = _ ∧ _
      rw [if_pos (by decide), nI_1]
      exact ih N (c + 1) A σ h hne (by omega) (by omega)
    | some j =>
      obtain ⟨q, p1, p2, p3, p4⟩ := plc_some e
      obtain ⟨v1, v2, v3⟩ := u8 j q p1
      obtain ⟨i1, i2⟩ := rc_ix h hc256
      obtain ⟨σ1, a1, a2, a3⟩ := rc_addData h hc256 (ztf A 1 k) q.2
      obtain ⟨m1, m2⟩ := a2.pm hk (show zow (aAdd A (2 * c) (ztf A 1 k) q.2) k ≠ [] from hne)
      obtain ⟨i3, i4⟩ := rc_ix a2 hc256
      obtain ⟨σ2, b1, b2, b3⟩ := rc_addLock a2 hc256 m2 (ztf A 1 k) (zsc A 0)
      obtain ⟨τ, c1, c2, c3⟩ := ih N (c + 1) _ σ2 b2 hne (by omega) (by omega)
      rw [p3]
      refine ⟨τ, ?_, c2, (a3.tr b3).tr c3⟩
      show (if nI j < 0 then _ else _) = _
      have z9 : gi σ1 161 (b + 262 + 4 * k) = ztf A 1 k := (a2.2.2.2.1 k hk).2.1
      have z0 : gi σ1 203 (b + 1) = zsc A 0 := a2.2.1.1
      rw [if_neg (nI_pos (by omega)), if_pos h.kx, h.g0, if_pos h.kt, h.ca.1, if_pos i1, if_pos t2, t4, t10, if_pos ⟨t7, inb_nI (by omega) (by omega)⟩, i2, nI_clamp (n := j) (by omega), u2, v2, bd_eq a1]
      rw [if_pos a2.kx, a2.g0, if_pos a2.kt, a2.ca.1, if_pos i3, if_pos (a2.tk hk).2.1, (a2.tk hk).2.2.1, (a2.tk hk).2.2.2.2.2.2.2.2.1, if_pos ⟨(a2.tk hk).2.2.2.2.2.1, ⟨by decide, by decide⟩⟩, i4, z9, z0, show ((0 : Int32).toNatClampNeg) = 0 from rfl, m1, bd_eq b1, nI_1]
      exact c1
theorem lockA_L (h : RC b A σ) (hS : Sm (n + 1) A) {k : Nat} (hk : k < 8) (hne : zow A k ≠ []) {row : Nat} (hrow : row < 64) : ∀ (r N c : Nat) (x : Int32), c + r = 4 * row + 4 → r < N →
    ∃ a τ, L_X5_lockRow_19 N (b + 1) (b + 262 + 4 * k) (nI (4 * row)) x (nI c) σ = some (a, τ) ∧ Cst b σ τ ∧
      (match lrA A k r c x with | .inl q => a = q.1 ∧ RC b q.2 τ | .inr y => if zsc A 6 + y * 3 ≤ 3000 then a = 1 ∧ RC b (utf (lrB k 4 (4 * row) A) 4 k (ztf (lrB k 4 (4 * row) A) 4 k + 1)) τ else a = -4 ∧ RC b A τ) := by
  obtain ⟨t1, t2, t3, t4, t5, t6, t7, t8, t9, t10, t11⟩ := h.tk hk
  obtain ⟨u1, u2, u3, u4, u5, u6, u7, u8, u9, u10⟩ := h.2.2.2.1 k hk
  intro r
  induction r with
  | zero =>
    intro N c x hc hN
    obtain ⟨N, rfl⟩ : ∃ M, N = M + 1 := ⟨N - 1, by omega⟩
    simp only [L_X5_lockRow_19, B_X5_lockRow_19, lrA]
    rw [if_pos ((sub4 (by omega) (by omega)).mpr (by omega)), if_pos h.kx, h.g0, if_pos h.kt, h.2.1.2.2.2.2.2.2.1]
    by_cases e : zsc A 6 + x * 3 ≤ 3000
    · rw [if_pos e]
      obtain ⟨τ, l1, l2, l3⟩ := lockB_L hk hrow 4 NF (4 * row) A σ h hne rfl (by decide)
      exact ⟨1, τ, l1, l3, by rw [if_pos e]; exact ⟨rfl, l2⟩⟩
    · rw [if_neg e]
      exact ⟨-4, σ, rfl, Cst.rf, by rw [if_neg e]; exact ⟨rfl, h⟩⟩
  | succ r ih =>
    intro N c x hc hN
    obtain ⟨N, rfl⟩ : ∃ M, N = M + 1 := ⟨N - 1, by omega⟩
    have hc256 : c < 256 := by omega
    simp only [L_X5_lockRow_19, B_X5_lockRow_19, B_X5_lockRow_117, lrA]
    rw [if_neg (fun q => by have := (sub4 (by omega) (by omega)).mp q; omega), if_pos t2, bd_eq (rc_placeOf h hk hc256)]
    cases e : plc (zow A k) c with
    | none =>
      show ∃ a τ, (if (0 : Int32) ≤ -1 then _ else _) = _ ∧ _
      rw [if_neg (by decide), nI_1]
      exact ih N (c + 1) x (by omega) (by omega)
    | some j =>
      obtain ⟨q, p1, p2, p3, p4⟩ := plc_some e
      obtain ⟨i1, i2⟩ := rc_ix h hc256
      obtain ⟨σ1, a1, a2, a3⟩ := rc_lose h hk
      have b83 : ∃ a τ, B_X5_lockRow_83 (L_X5_lockRow_19 N) (b + 1) (b + 262 + 4 * k) (nI (4 * row)) (x + 1) (nI c) (b + 4 + c) σ = some (a, τ) ∧ Cst b σ τ ∧
          (match (if zlk A 0 c = 0 then lrA A k r (c + 1) (x + 1) else if aFor A c then .inl (5, aClean A c) else .inl (4, aLose A k)) with | .inl q => a = q.1 ∧ RC b q.2 τ | .inr y => if zsc A 6 + y * 3 ≤ 3000 then a = 1 ∧ RC b (utf (lrB k 4 (4 * row) A) 4 k (ztf (lrB k 4 (4 * row) A) 4 k + 1)) τ else a = -4 ∧ RC b A τ) := by
        unfold B_X5_lockRow_83 B_X5_lockRow_117
        rw [if_pos (h.kc hc256), bd_eq (rc_isLocked h hc256)]
        by_cases e1 : zlk A 0 c = 0
        · rw [if_pos e1, if_pos e1, if_pos rfl, nI_1]
          exact ih N (c + 1) (x + 1) (by omega) (by omega)
        · rw [if_neg e1, if_neg e1, if_neg (by decide), if_pos h.kx]
          obtain ⟨rr, f1, f2⟩ := rc_isFor h hc256
          rw [bd_eq f1]
          by_cases e3 : rr = 0
          · rw [if_pos e3, if_neg (f2.mp e3), if_pos h.kx, bd_eq a1]
            exact ⟨4, σ1, rfl, a3, rfl, a2⟩
          · have e4 : aFor A c := Decidable.not_not.mp (fun q => e3 (f2.mpr q))
            obtain ⟨τ, g1, g2, g3⟩ := rc_clean h hS hc256
            rw [if_neg e3, if_pos e4, if_pos h.kx, h.g0, if_pos h.kt, bd_eq g1]
            exact ⟨5, τ, rfl, g3, rfl, g2⟩
      show ∃ a τ, (if 0 ≤ nI j then _ else _) = _ ∧ _
      rw [if_pos (nI_pos' (by omega)), if_pos h.kx, h.g0, if_pos h.kt, h.ca.1, if_pos i1, i2, if_pos (h.kc hc256)]
      obtain ⟨CL, ow, h5⟩ := h.2.2.2.2
      obtain ⟨w1, w2, w3, w4⟩ := h5 (2 * c + 1) (by omega)
      rw [show (2 * c + 1) % 2 = 1 by omega, show (2 * c + 1) / 2 = c by omega] at w1
      cases ec : CL (2 * c + 1) with
      | nil =>
        rw [ec] at w1 w2
        have w1 : gr σ 1 (b + 4 + c) = 0 := w1
        have w2 : zl A (2 * c + 1) = [] := w2.symm
        rw [if_pos w1, w2]
        exact b83
      | cons y L =>
        rw [ec] at w1 w2
        obtain ⟨y1, y2, y3, y4⟩ := w1
        have w2 : zl A (2 * c + 1) = kv σ y :: L.map (kv σ) := w2.symm
        rw [y1, if_neg y2, if_pos y3, if_pos t2, u2, w2]
        dsimp only [kv]
        by_cases e5 : gi σ 40 y < ztf A 1 k
        · rw [if_pos e5, if_pos e5]
          exact b83
        · rw [if_neg e5, if_neg e5, bd_eq a1]
          exact ⟨4, σ1, rfl, a3, rfl, a2⟩
theorem rc_lockRow (h : RC b A σ) (hS : Sm (n + 1) A) {k : Nat} (hk : k < 8) (hne : zow A k ≠ []) {d row : Nat} (hd : ztf A 4 k = nI d) (hr : (rws (zow A k))[d]? = some row) : ∃ τ, F_X5_lockRow (b + 1) (b + 262 + 4 * k) σ = some ((aLockRow A k row).1, τ) ∧ RC b (aLockRow A k row).2 τ ∧ Cst b σ τ := by
  obtain ⟨t1, t2, t3, t4, t5, t6, t7, t8, t9, t10, t11⟩ := h.tk hk
  obtain ⟨u1, u2, u3, u4, u5, u6, u7, u8, u9, u10⟩ := h.2.2.2.1 k hk
  have hdl := (List.getElem?_eq_some_iff.mp hr).1
  have hl16 := rws_len (zow A k)
  have hrow : row < 64 := rws_lt (fun q hq => by
    obtain ⟨i, hi⟩ := List.getElem?_of_mem hq
    exact (u8 i q hi).2.2) row (List.mem_of_getElem? hr)
  obtain ⟨a, τ, l1, l2, l3⟩ := lockA_L h hS hk hne hrow 4 NF (4 * row) 0 rfl (by decide)
  have ef : F_X5_lockRow (b + 1) (b + 262 + 4 * k) σ = some (a, τ) := by
    unfold F_X5_lockRow F_X5_cellIndex
    rw [if_pos t2, t5, u5, hd, t11, if_pos ⟨t8, inb_nI (by omega) (by omega)⟩, nI_clamp (by omega), u10 d row hr, bd_eq rfl, show (0 : Int32) = nI 0 from rfl, cellIx, Nat.add_zero]
    exact l1
  rw [ef]
  unfold aLockRow
  cases e : lrA A k 4 (4 * row) 0 with
  | inl q =>
    rw [e] at l3
    exact ⟨τ, by rw [l3.1], l3.2, l2⟩
  | inr y =>
    rw [e] at l3
    dsimp only at l3 ⊢
    by_cases e2 : zsc A 6 + y * 3 ≤ 3000
    · rw [if_pos e2] at l3 ⊢
      exact ⟨τ, by rw [l3.1], l3.2, l2⟩
    · rw [if_neg e2] at l3 ⊢
      exact ⟨τ, by rw [l3.1], l3.2, l2⟩
end
