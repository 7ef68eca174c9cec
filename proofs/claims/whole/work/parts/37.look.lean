/-! LATE, OWN WRITES, LOOKING (class) -/
def lateK (A : AS) (c : Nat) : Option Nat := (List.range' 0 8).find? (fun k => decide (¬ ztf A 0 k = 0 ∧ ztf A 1 k = zlk A 0 c))
def lateI (A : AS) (c : Nat) (o : Option Nat) : Int32 := match o with
  | none => if zsc A 0 - zlk A 1 c ≤ zsc A 1 then 0 else 1
  | some k => if zsc A 0 - ztf A 2 k ≤ zsc A 1 then 0 else 1
def aLate (A : AS) (c : Nat) : Int32 := lateI A c (lateK A c)
abbrev aFor (A : AS) (c : Nat) : Prop := ¬ zlk A 0 (zlp A c) = zlk A 0 c ∨ ¬ aLate A c = 0
def plc (l : List (Nat × Int32)) (c : Nat) : Option Nat := l.findIdx? (fun q => decide (q.1 = c))
def ownV (A : AS) (k c : Nat) : Option Int32 := ((zow A k).find? (fun q => decide (q.1 = c))).map (fun q => q.2)
theorem nI_8 : (8 : Int32) = nI 8 := rfl
theorem nI_256 : (256 : Int32) = nI 256 := rfl
theorem nI_16 : (16 : Int32) = nI 16 := rfl
theorem find_r (P : Nat → Bool) (i n : Nat) : (List.range' i (n + 1)).find? P = if P i = true then some i else (List.range' (i + 1) n).find? P := by
  rw [List.range'_succ, List.find?_cons]
  cases P i <;> rfl
section
variable {b n : Nat} {A : AS} {σ : HS}
theorem RC.kx (h : RC b A σ) : kd σ (b + 1) = 6 := h.1.2.1
theorem RC.g0 (h : RC b A σ) : gr σ 200 (b + 1) = b + 2 := h.1.2.2.1
theorem RC.g1 (h : RC b A σ) : gr σ 201 (b + 1) = b + 260 := h.1.2.2.2.1
theorem RC.g2 (h : RC b A σ) : gr σ 202 (b + 1) = b + 261 := h.1.2.2.2.2.1
theorem RC.ko (h : RC b A σ) : kd σ (b + 260) = 3 := h.1.2.2.2.2.2.2.2.2.2.2.1
theorem RC.ta (h : RC b A σ) : kd σ (b + 261) = 103 ∧ ln σ (b + 261) = 8 := ⟨h.1.2.2.2.2.2.2.2.2.2.2.2.1, h.1.2.2.2.2.2.2.2.2.2.2.2.2.1⟩
theorem RC.tk (h : RC b A σ) {k : Nat} (hk : k < 8) : ar σ (b + 261) k = b + 262 + 4 * k ∧ kd σ (b + 262 + 4 * k) = 5 ∧ gr σ 165 (b + 262 + 4 * k) = b + 263 + 4 * k ∧ gr σ 166 (b + 262 + 4 * k) = b + 264 + 4 * k ∧ gr σ 168 (b + 262 + 4 * k) = b + 265 + 4 * k ∧
    kd σ (b + 263 + 4 * k) = 100 ∧ kd σ (b + 264 + 4 * k) = 100 ∧ kd σ (b + 265 + 4 * k) = 100 ∧ ln σ (b + 263 + 4 * k) = 16 ∧ ln σ (b + 264 + 4 * k) = 16 ∧ ln σ (b + 265 + 4 * k) = 16 := h.1.2.2.2.2.2.2.2.2.2.2.2.2.2 k hk
theorem inb_nI {i N : Nat} (h : i < N) (hN : N < 2 ^ 31) : inb (nI i) N := ⟨nI_pos' (by omega), by rw [nI_clamp (by omega)]; exact h⟩
theorem isLate_L (h : RC b A σ) {c : Nat} (hc : c < 256) : ∀ (r N k : Nat), k + r = 8 → r < N → L_X5_isLate_2 N (b + 1) (b + 4 + c) (nI k) σ = some (lateI A c ((List.range' k r).find? (fun k => decide (¬ ztf A 0 k = 0 ∧ ztf A 1 k = zlk A 0 c))), σ) := by
  obtain ⟨l1, l2, l3, l4⟩ := h.2.2.1 c hc
  have s0 : gi σ 203 (b + 1) = zsc A 0 := h.2.1.1
  have s1 : gi σ 204 (b + 1) = zsc A 1 := h.2.1.2.1
  intro r
  induction r with
  | zero =>
    intro N k hk hN
    obtain ⟨N, rfl⟩ : ∃ M, N = M + 1 := ⟨N - 1, by omega⟩
    simp only [L_X5_isLate_2, B_X5_isLate_2]
    rw [if_pos (by rw [nI_8]; exact nI_le (by omega) (by omega)), if_pos h.kx, if_pos (h.kc hc), s0, s1, l3]
    show _ = some (lateI A c none, σ)
    unfold lateI
    by_cases e : zsc A 0 - zlk A 1 c ≤ zsc A 1
    · simp [e, B_X5_isLate_82]
    · simp [e, B_X5_isLate_82]
  | succ r ih =>
    intro N k hk hN
    obtain ⟨N, rfl⟩ : ∃ M, N = M + 1 := ⟨N - 1, by omega⟩
    have hk8 : k < 8 := by omega
    obtain ⟨t1, t2, -⟩ := h.tk hk8
    obtain ⟨u1, u2, u3, -⟩ := h.2.2.2.1 k hk8
    have next := ih N (k + 1) (by omega) (by omega)
    simp only [L_X5_isLate_2, B_X5_isLate_2, B_X5_isLate_55]
    rw [if_neg (by rw [nI_8]; exact nI_ge (by omega) (by omega)), if_pos h.kx, h.g2, h.ta.2, if_pos ⟨h.ta.1, inb_nI hk8 (by omega)⟩, nI_clamp (by omega), t1, if_pos t2, u1, u2, u3, l1, s0, s1, if_pos (h.kc hc), nI_1, next, find_r]
    by_cases e : ztf A 0 k = 0
    · rw [if_pos e, if_neg (by simp [e])]
    · rw [if_neg e]
      by_cases e2 : ztf A 1 k = zlk A 0 c
      · rw [if_pos e2, if_pos (decide_eq_true ⟨e, e2⟩)]
        unfold lateI
        by_cases e3 : zsc A 0 - ztf A 2 k ≤ zsc A 1
        · simp [e3, B_X5_isLate_54]
        · simp [e3, B_X5_isLate_54]
      · rw [if_neg e2, if_neg (by simp [e2])]
theorem rc_isLate (h : RC b A σ) {c : Nat} (hc : c < 256) : F_X5_isLate (b + 1) (b + 4 + c) σ = some (aLate A c, σ) := isLate_L h hc 8 NF 0 rfl (by decide)
theorem late01 (A : AS) (c : Nat) : aLate A c = 0 ∨ aLate A c = 1 := by
  unfold aLate lateI
  split <;> split <;> simp
theorem rc_isFor (h : RC b A σ) {c : Nat} (hc : c < 256) : ∃ r : Int32, F_X5_isForCleaning (b + 1) (b + 4 + c) σ = some (r, σ) ∧ (r = 0 ↔ ¬ aFor A c) := by
  unfold F_X5_isForCleaning aFor
  rw [if_pos h.kx, h.g0, if_pos h.kt, bd_eq (rc_isDecided h hc)]
  by_cases e : zlk A 0 (zlp A c) = zlk A 0 c
  · rw [if_pos e, if_pos rfl, if_pos h.kx, bd_eq (rc_isLate h hc)]
    by_cases e2 : aLate A c = 0
    · exact ⟨0, by rw [if_pos e2]; rfl, by simp [e, e2]⟩
    · exact ⟨1, by rw [if_neg e2]; rfl, by simp [e, e2]⟩
  · rw [if_neg e, if_neg (by decide)]
    exact ⟨1, rfl, by simp [e]⟩
theorem rc_isLocked (h : RC b A σ) {c : Nat} (hc : c < 256) : F_X0_isLocked (b + 4 + c) σ = some (if zlk A 0 c = 0 then 0 else 1, σ) := by
  obtain ⟨l1, l2, l3, l4⟩ := h.2.2.1 c hc
  unfold F_X0_isLocked
  rw [if_pos (h.kc hc), l1]
  by_cases e : zlk A 0 c = 0
  · rw [if_pos e, if_pos e]; rfl
  · rw [if_neg e, if_neg e]; rfl
theorem placeOf_L (h : RC b A σ) {k c : Nat} (hk : k < 8) (hc : c < 256) : ∀ (r N i : Nat), i + r = (zow A k).length → r < N →
    L_X4_placeOf_2 N (b + 262 + 4 * k) (nI c) (nI i) σ = some (match ((zow A k).drop i).findIdx? (fun q => decide (q.1 = c)) with | none => -1 | some j => nI (i + j), σ) := by
  obtain ⟨t1, t2, t3, t4, t5, t6, t7, t8, t9, t10, t11⟩ := h.tk hk
  obtain ⟨u1, u2, u3, u4, u5, u6, u7, u8, u9, u10⟩ := h.2.2.2.1 k hk
  intro r
  induction r with
  | zero =>
    intro N i hi hN
    obtain ⟨N, rfl⟩ : ∃ M, N = M + 1 := ⟨N - 1, by omega⟩
    simp only [L_X4_placeOf_2, B_X4_placeOf_2]
    rw [if_pos t2, u6, if_pos (nI_le (by omega) (by omega)), List.drop_of_length_le (by omega)]
    rfl
  | succ r ih =>
    intro N i hi hN
    obtain ⟨N, rfl⟩ : ∃ M, N = M + 1 := ⟨N - 1, by omega⟩
    have hil : i < (zow A k).length := by omega
    have hg : (zow A k)[i]? = some (zow A k)[i] := List.getElem?_eq_getElem hil
    obtain ⟨v1, v2, v3⟩ := u8 i _ hg
    have next := ih N (i + 1) (by omega) (by omega)
    simp only [L_X4_placeOf_2, B_X4_placeOf_2]
    rw [if_pos t2, u6, if_neg (nI_ge (by omega) (by omega)), t3, t9, if_pos ⟨t6, inb_nI (by omega) (by omega)⟩, nI_clamp (by omega), v1, nI_1, next, List.drop_eq_getElem_cons hil, List.findIdx?_cons]
    by_cases e : (zow A k)[i].1 = c
    · rw [if_pos (by rw [e]), if_pos (decide_eq_true e)]
      simp
    · rw [if_neg (fun q => e ((nI_eq (by omega) (by omega)).mp q)), if_neg (by simp [e])]
      cases ((zow A k).drop (i + 1)).findIdx? (fun q => decide (q.1 = c)) with
      | none => rfl
      | some j => simp only [Option.map_some]; rw [show i + 1 + j = i + (j + 1) by omega]
theorem rc_placeOf (h : RC b A σ) {k c : Nat} (hk : k < 8) (hc : c < 256) : F_X4_placeOf (b + 262 + 4 * k) (nI c) σ = some (match plc (zow A k) c with | none => -1 | some j => nI j, σ) := by
  have := placeOf_L h hk hc (zow A k).length NF 0 (by omega) (by have := (h.2.2.2.1 k hk).2.2.2.2.2.2.1; have : NF = 100000 := rfl; omega)
  rw [nI_0, List.drop_zero] at this
  simp only [Nat.zero_add] at this
  exact this
theorem plc_some {l : List (Nat × Int32)} {c j : Nat} (h : plc l c = some j) : ∃ q, l[j]? = some q ∧ q.1 = c ∧ l.find? (fun q => decide (q.1 = c)) = some q ∧ j < l.length := by
  unfold plc at h
  obtain ⟨hj, h1, h2⟩ := List.findIdx?_eq_some_iff_getElem.mp h
  refine ⟨l[j], List.getElem?_eq_getElem hj, of_decide_eq_true h1, ?_, hj⟩
  rw [List.find?_eq_some_iff_getElem]
  exact ⟨h1, j, hj, rfl, fun i hi => by simpa using h2 i hi⟩
theorem plc_none {l : List (Nat × Int32)} {c : Nat} (h : plc l c = none) : l.find? (fun q => decide (q.1 = c)) = none := by
  unfold plc at h
  rw [List.find?_eq_none]
  intro q hq
  have := List.findIdx?_eq_none_iff.mp h q hq
  simpa using this
end
