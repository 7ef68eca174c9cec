/-! BEGIN, THE CLOCK, THE ORACLE, AND WHAT IS ASKED (class) -/
def okT (x : Int32) : Prop := ¬ x < 0 ∧ ¬ (100000 : Int32) < x
theorem isTime_F (x : Int32) (σ : HS) : ∃ r, F_X5_isTime x σ = some (r, σ) ∧ (r = 0 → ¬ okT x) ∧ (¬ r = 0 → okT x) := by
  unfold F_X5_isTime okT
  by_cases e : x < 0
  · exact ⟨0, by rw [if_pos e]; rfl, fun _ q => q.1 e, fun q => absurd rfl q⟩
  · rw [if_neg e]
    by_cases e2 : (100000 : Int32) < x
    · exact ⟨0, by rw [if_pos e2]; rfl, fun _ q => q.2 e2, fun q => absurd rfl q⟩
    · exact ⟨1, by rw [if_neg e2]; rfl, fun q => absurd q (by decide), fun _ => ⟨e, e2⟩⟩
def aBegin (A : AS) (k : Nat) : Int32 × AS := if ztf A 0 k = 0 then (zsc A 4, utf (utf (utf (aGive A) 0 k 1) 1 k (zsc A 4)) 2 k (zsc A 0)) else (-3, aTouch A k)
def aState (A : AS) (k : Nat) (w : Int32) : Int32 := if w = 0 then ztf A 0 k else if w = 1 then ztf A 1 k else if w = 2 then ztf A 2 k else if w = 3 then nI (zow A k).length else if w = 4 then ztf A 4 k else if w = 5 then ztf A 3 k else -2
def aLockQ (A : AS) (c : Nat) (w : Int32) : Int32 := if w = 0 then zlk A 0 c else if w = 1 then nI (zlp A c) else if w = 2 then zlk A 1 c else if w = 3 then (if zlk A 0 c = 0 then 0 else aLate A c) else if w = 4 then (if zlk A 0 c = 0 then 0 else if zlk A 0 (zlp A c) = zlk A 0 c then 0 else 1) else -2
def aVer (A : AS) (c : Nat) (i w : Int32) : Int32 := match (if 0 ≤ i then (zl A (2 * c + 1))[i.toNatClampNeg]? else none) with
  | none => -1
  | some q => if w = 0 then q.1 else if w = 1 then q.2 else if w = 2 then (if q.2 = 0 then 0 else vOf (zl A (2 * c)) q.2) else -2
def aData (A : AS) (c : Nat) (w : Int32) : Int32 := if w = 0 then nI (zl A (2 * c)).length else if w = 1 then (match zl A (2 * c) with | [] => 0 | q :: _ => q.1) else -2
def aTold (A : AS) (w : Int32) : Int32 := if w = 0 then zsc A 3 else if w = 1 then zsc A 5 else if w = 2 then zsc A 6 else if w = 3 then zsc A 7 else if w = 4 then zsc A 8 else if w = 5 then zsc A 9 else if w = 6 then zsc A 0 else if w = 7 then zsc A 2 else if w = 8 then zsc A 10 else -2
section
variable {b n : Nat} {A : AS} {σ : HS}
theorem rc_begin (h : RC b A σ) {k : Nat} (hk : k < 8) : ∃ τ, F_X5_begin (b + 1) (nI k) σ = some ((aBegin A k).1, τ) ∧ RC b (aBegin A k).2 τ ∧ Cst b σ τ := by
  obtain ⟨r1, c1, -, c2⟩ := isClient_F (nI k) σ
  obtain ⟨q1, q2⟩ := rc_cl h hk
  obtain ⟨σ1, t1, t2, t3⟩ := rc_touch h hk
  obtain ⟨σ2, g1, g2, g3⟩ := rc_give h
  have z0 : zsc (aGive A) 0 = zsc A 0 := by
    unfold aGive; split <;> rfl
  have s0 : gi σ2 203 (b + 1) = zsc A 0 := g2.2.1.1.trans z0
  have f1 := rc_tf2 (rc_tf1 (rc_tf0 g2 hk 1) hk (zsc A 4)) hk (zsc A 0)
  unfold F_X5_begin aBegin
  rw [bd_eq c1, if_neg (c2 ⟨k, hk, rfl⟩), if_pos h.kx, h.g2, if_pos q1, q2, (h.tk hk).1, if_pos (h.tk hk).2.1, (h.2.2.2.1 k hk).1]
  by_cases e : ztf A 0 k = 0
  · rw [if_pos e, if_pos e, h.g1, if_pos h.ko, bd_eq g1, if_pos g2.kx, if_pos (g2.tk hk).2.1, s0]
    have ho : F_X4_open (b + 262 + 4 * k) (zsc A 4) (zsc A 0) σ2 = some ((), si (si (si σ2 160 (b + 262 + 4 * k) 1) 161 (b + 262 + 4 * k) (zsc A 4)) 162 (b + 262 + 4 * k) (zsc A 0)) := by
      unfold F_X4_open; rw [if_pos (g2.tk hk).2.1]
    rw [bd_eq ho, if_pos (f1.tk hk).2.1]
    refine ⟨_, ?_, f1, g3.tr (((Cst.rf.si (by decide)).si (by decide)).si (by decide))⟩
    rw [gi_si, if_neg (fun q => absurd q.1 (by decide)), gi_si, if_pos ⟨rfl, rfl⟩]
  · rw [if_neg e, if_neg e, bd_eq t1]
    exact ⟨σ1, rfl, t2, t3⟩
theorem rc_tick0 (h : RC b A σ) {x : Int32} (hx : ¬ (okT x ∧ x ≤ 2147483647 - zsc A 0)) : F_X5_tick (b + 1) x σ = some (-2, σ) := by
  obtain ⟨r, e1, e2, e3⟩ := isTime_F x σ
  unfold F_X5_tick
  rw [bd_eq e1]
  by_cases e : r = 0
  · rw [if_pos e]; rfl
  · rw [if_neg e, if_pos h.kx, h.2.1.1, if_neg (fun q => hx ⟨e3 e, q⟩)]; rfl
theorem rc_tick1 (h : RC b A σ) {x : Int32} (hx : okT x ∧ x ≤ 2147483647 - zsc A 0) : ∃ τ, F_X5_tick (b + 1) x σ = some (zsc A 0 + x, τ) ∧ RC b (usc A 0 (zsc A 0 + x)) τ ∧ Cst b σ τ := by
  obtain ⟨r, e1, e2, e3⟩ := isTime_F x σ
  unfold F_X5_tick
  rw [bd_eq e1, if_neg (fun q => e2 q hx.1), if_pos h.kx, h.2.1.1, if_pos hx.2]
  exact ⟨_, by rw [gi_si, if_pos ⟨rfl, rfl⟩], rc_sc0 h _, Cst.rf.si (by decide)⟩
theorem rc_time0 {x : Int32} (hx : ¬ okT x) : F_X5_timeout (b + 1) x σ = some (-2, σ) := by
  obtain ⟨r, e1, e2, e3⟩ := isTime_F x σ
  unfold F_X5_timeout
  rw [bd_eq e1, if_pos (Decidable.not_not.mp (fun q => hx (e3 q)))]
theorem rc_time1 (h : RC b A σ) {x : Int32} (hx : okT x) : ∃ τ, F_X5_timeout (b + 1) x σ = some (zsc A 1, τ) ∧ RC b (usc A 1 x) τ ∧ Cst b σ τ := by
  obtain ⟨r, e1, e2, e3⟩ := isTime_F x σ
  unfold F_X5_timeout
  rw [bd_eq e1, if_neg (fun q => e2 q hx), if_pos h.kx, h.2.1.2.1]
  exact ⟨_, rfl, rc_sc1 h _, Cst.rf.si (by decide)⟩
theorem rc_fallO (h : RC b A σ) : ∃ τ, F_X5_fallOracle (b + 1) σ = some (zsc A 5 + 1, τ) ∧ RC b (usc A 4 (zsc A 5 + 1)) τ ∧ Cst b σ τ := by
  unfold F_X5_fallOracle F_X2_restart
  rw [if_pos h.kx, h.g1, if_pos h.ko, h.2.1.2.2.2.2.2.1]
  exact ⟨_, by rw [if_pos h.ko, bd_eq rfl, gi_si, if_pos ⟨rfl, rfl⟩], rc_sc4 h _, Cst.rf.si (by decide)⟩
theorem rc_fall (h : RC b A σ) : F_X5_fall (b + 1) σ = some (zsc A 7, σ) := by
  unfold F_X5_fall
  rw [if_pos h.kx, h.g0, if_pos h.kt, h.2.1.2.2.2.2.2.2.2.1]
theorem rc_state (h : RC b A σ) {k : Nat} (hk : k < 8) (w : Int32) : F_X5_state (b + 1) (nI k) w σ = some (aState A k w, σ) := by
  obtain ⟨r1, c1, -, c2⟩ := isClient_F (nI k) σ
  obtain ⟨q1, q2⟩ := rc_cl h hk
  obtain ⟨u1, u2, u3, u4, u5, u6, u7, u8, u9, u10⟩ := h.2.2.2.1 k hk
  unfold F_X5_state aState
  rw [bd_eq c1, if_neg (c2 ⟨k, hk, rfl⟩), if_pos h.kx, h.g2, if_pos q1, q2, (h.tk hk).1, u1, u2, u3, u4, u5, u6]
  simp only [(h.tk hk).2.1, if_true]
  repeat' split
  all_goals first | rfl | simp_all
theorem rc_ix (h : RC b A σ) {c : Nat} (hc : c < 256) : (kd σ (b + 3) = 102 ∧ inb (nI c) (ln σ (b + 3))) ∧ ar σ (b + 3) (nI c).toNatClampNeg = b + 4 + c := ⟨⟨h.ca.2.1, by rw [h.ca.2.2]; exact inb_nI hc (by omega)⟩, by rw [nI_clamp (by omega)]; exact h.cr hc⟩
theorem rc_lockQ (h : RC b A σ) {i j : Nat} (hi : i < 64) (hj : j < 4) (w : Int32) : F_X5_lock (b + 1) (nI i) (nI j) w σ = some (aLockQ A (4 * i + j) w, σ) := by
  obtain ⟨r1, c1, -, c2⟩ := isCell_F (nI i) (nI j) σ
  have hc : 4 * i + j < 256 := by omega
  obtain ⟨q1, q2⟩ := rc_ix h hc
  obtain ⟨l1, l2, l3, l4⟩ := h.2.2.1 _ hc
  unfold F_X5_lock aLockQ F_X5_cellIndex
  rw [bd_eq c1, if_neg (c2 ⟨i, j, hi, hj, rfl, rfl⟩), if_pos h.kx, h.g0, if_pos h.kt, bd_eq rfl, cellIx, h.ca.1, if_pos q1, q2, l1, l2, l3]
  simp only [h.kc hc, if_true, bd_eq (rc_isLocked h hc), h.kx, h.kt, bd_eq (rc_isLate h hc), bd_eq (rc_isDecided h hc), B_X5_lock_99, B_X5_lock_100, B_X5_lock_125, B_X5_lock_126]
  by_cases e0 : zlk A 0 (4 * i + j) = 0
  · simp only [e0, if_true]
    repeat' split
    all_goals rfl
  · simp only [e0, if_false, h.g0, h.kt, if_true, bd_eq (rc_isDecided h hc)]
    rcases late01 A (4 * i + j) with el | el
    · simp only [el, if_true]
      repeat' split
      all_goals first | rfl | simp_all
    · simp only [el]
      repeat' split
      all_goals first | rfl | simp_all
theorem rc_versions (h : RC b A σ) (hS : Sm n A) {i j : Nat} (hi : i < 64) (hj : j < 4) : F_X5_versions (b + 1) (nI i) (nI j) σ = some (nI (zl A (2 * (4 * i + j) + 1)).length, σ) := by
  obtain ⟨r1, c1, -, c2⟩ := isCell_F (nI i) (nI j) σ
  have hc : 4 * i + j < 256 := by omega
  obtain ⟨q1, q2⟩ := rc_ix h hc
  obtain ⟨CL, ow, h5⟩ := h.2.2.2.2
  obtain ⟨w1, w2, w3, w4⟩ := h5 (2 * (4 * i + j) + 1) (by omega)
  rw [show (2 * (4 * i + j) + 1) % 2 = 1 by omega, show (2 * (4 * i + j) + 1) / 2 = 4 * i + j by omega] at w1
  have wl := Rcw.len h5 hS (d := 2 * (4 * i + j) + 1) (by omega)
  unfold F_X5_versions F_X5_cellIndex
  rw [bd_eq c1, if_neg (c2 ⟨i, j, hi, hj, rfl, rfl⟩), if_pos h.kx, h.g0, if_pos h.kt, bd_eq rfl, cellIx, h.ca.1, if_pos q1, q2, if_pos (h.kc hc), bd_eq (count_F w1 wl), ← w2, List.length_map]
theorem rc_version (h : RC b A σ) (hS : Sm n A) {i j : Nat} (hi : i < 64) (hj : j < 4) (x w : Int32) : F_X5_version (b + 1) (nI i) (nI j) x w σ = some (aVer A (4 * i + j) x w, σ) := by
  obtain ⟨r1, c1, -, c2⟩ := isCell_F (nI i) (nI j) σ
  have hc : 4 * i + j < 256 := by omega
  obtain ⟨q1, q2⟩ := rc_ix h hc
  obtain ⟨CL, ow, h5⟩ := h.2.2.2.2
  obtain ⟨w1, w2, w3, w4⟩ := h5 (2 * (4 * i + j) + 1) (by omega)
  obtain ⟨v1, v2, v3, v4⟩ := h5 (2 * (4 * i + j)) (by omega)
  rw [show (2 * (4 * i + j) + 1) % 2 = 1 by omega, show (2 * (4 * i + j) + 1) / 2 = 4 * i + j by omega] at w1
  rw [show 2 * (4 * i + j) % 2 = 0 by omega, show 2 * (4 * i + j) / 2 = 4 * i + j by omega] at v1
  have wl := Rcw.len h5 hS (d := 2 * (4 * i + j) + 1) (by omega)
  have vl := Rcw.len h5 hS (d := 2 * (4 * i + j)) (by omega)
  unfold F_X5_version F_X5_cellIndex aVer
  rw [bd_eq c1, if_neg (c2 ⟨i, j, hi, hj, rfl, rfl⟩), if_pos h.kx, h.g0, if_pos h.kt, bd_eq rfl, cellIx, h.ca.1, if_pos q1, q2, if_pos (h.kc hc), bd_eq (atPlace_F w1 wl), ← w2]
  by_cases e0 : 0 ≤ x
  · rw [if_pos e0, if_pos e0, List.getElem?_map, List.getD_eq_getElem?_getD]
    cases e : (CL (2 * (4 * i + j) + 1))[x.toNatClampNeg]? with
    | none => rfl
    | some a =>
      have ha := List.mem_of_getElem? e
      have a0 : ¬ a = 0 := by have := (w3 a ha).1; omega
      obtain ⟨f1, f2, -⟩ := find_ch w1 (P := fun y => decide (y = a)) (a := a) (by
        rw [List.find?_eq_some_iff_append]
        obtain ⟨s, t, hst⟩ := List.append_of_mem ha
        refine ⟨by simp, s, t, hst, fun y hy => ?_⟩
        have hnd := w4
        rw [hst, List.nodup_append] at hnd
        have := hnd.2.2 y hy a (by simp)
        simpa using this)
      simp only [Option.getD_some, Option.map_some, kv]
      rw [if_neg a0]
      simp only [f2, if_true, h.kc hc, bd_eq (valueOf_F (h.kc hc) v1 vl), v2, B_X5_version_106]
      repeat' split
      all_goals rfl
  · rw [if_neg e0, if_neg e0]; rfl
theorem rc_data (h : RC b A σ) (hS : Sm n A) {i j : Nat} (hi : i < 64) (hj : j < 4) (w : Int32) : F_X5_data (b + 1) (nI i) (nI j) w σ = some (aData A (4 * i + j) w, σ) := by
  obtain ⟨r1, c1, -, c2⟩ := isCell_F (nI i) (nI j) σ
  have hc : 4 * i + j < 256 := by omega
  obtain ⟨q1, q2⟩ := rc_ix h hc
  obtain ⟨CL, ow, h5⟩ := h.2.2.2.2
  obtain ⟨v1, v2, v3, v4⟩ := h5 (2 * (4 * i + j)) (by omega)
  rw [show 2 * (4 * i + j) % 2 = 0 by omega, show 2 * (4 * i + j) / 2 = 4 * i + j by omega] at v1
  have vl := Rcw.len h5 hS (d := 2 * (4 * i + j)) (by omega)
  unfold F_X5_data F_X5_cellIndex aData
  rw [bd_eq c1, if_neg (c2 ⟨i, j, hi, hj, rfl, rfl⟩), if_pos h.kx, h.g0, if_pos h.kt, bd_eq rfl, cellIx, h.ca.1, if_pos q1, q2, if_pos (h.kc hc), bd_eq (count_F v1 vl), ← v2, List.length_map]
  cases e : CL (2 * (4 * i + j)) with
  | nil =>
    rw [e] at v1
    have v1 : gr σ 0 (b + 4 + (4 * i + j)) = 0 := v1
    simp only [v1, if_true, B_X5_data_76, List.map_nil]
    repeat' split
    all_goals rfl
  | cons a L =>
    rw [e] at v1
    obtain ⟨x1, x2, x3, x4⟩ := v1
    simp only [x1, x2, x3, if_true, if_false, B_X5_data_76, List.map_cons, kv]
    repeat' split
    all_goals rfl
theorem rc_told (h : RC b A σ) (w : Int32) : F_X5_told (b + 1) w σ = some (aTold A w, σ) := by
  obtain ⟨a1, a2, a3, a4, a5, a6, a7, a8, a9, a10, a11, a12, a13⟩ := h.2.1
  unfold F_X5_told aTold
  rw [h.g0, h.g1, a1, a3, a4, a6, a7, a8, a9, a10, a11]
  simp only [h.kx, h.kt, h.ko, if_true]
  repeat' split
  all_goals rfl
end
