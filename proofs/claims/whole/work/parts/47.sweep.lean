/-! SWEEP (class) -/
theorem any_r (P : Nat → Bool) (i n : Nat) : (List.range' i (n + 1)).any P = (P i || (List.range' (i + 1) n).any P) := by
  rw [List.range'_succ, List.any_cons]
def bBelow (A : AS) (t : Int32) (k : Nat) : Bool := decide (¬ ztf A 0 k = 0 ∧ ¬ t ≤ ztf A 1 k)
def bLock (A : AS) (t : Int32) (c : Nat) : Bool := decide (¬ zlk A 0 c = 0 ∧ ¬ t < zlk A 0 c)
def swp (c : Nat) (t : Int32) : Int32 → List (Int32 × Int32) → AS → AS
  | _, [], A => A
  | cov, q :: R, A => if q.1 ≤ t then (if q.2 = 0 then swp c t cov R (aDel A (2 * c + 1) (rmK (zl A (2 * c + 1)) q.1))
      else if cov = 0 then (if vOf (zl A (2 * c)) q.2 = -1 then swp c t 1 R (aDropData (aDel A (2 * c + 1) (rmK (zl A (2 * c + 1)) q.1)) c q.2) else swp c t 1 R A)
      else swp c t 1 R (aDropData (aDel A (2 * c + 1) (rmK (zl A (2 * c + 1)) q.1)) c q.2)) else swp c t cov R A
theorem ch_hd {σ : HS} {p : Nat} : ∀ {L : List Nat}, ch σ p L → p = L.headD 0
  | [], h => h
  | _ :: _, h => h.1
theorem ch_suf {σ : HS} : ∀ {P : List Nat} {p : Nat} {L : List Nat}, ch σ p (P ++ L) → ch σ (L.headD 0) L
  | [], p, L, h => by have := ch_hd h; rw [List.nil_append] at this; rw [← this]; exact h
  | _ :: _, _, _, h => ch_suf h.2.2.2
section
variable {b n : Nat} {A : AS} {σ : HS} {CL : Nat → List Nat} {ow : Nat → Nat}
theorem below_L (h : RC b A σ) (t : Int32) : ∀ (r N k : Nat), k + r = 8 → r < N → L_X5_isBeginBelow_2 N (b + 1) t (nI k) σ = some (if (List.range' k r).any (bBelow A t) then 1 else 0, σ) := by
  intro r
  induction r with
  | zero =>
    intro N k hk hN
    obtain ⟨N, rfl⟩ : ∃ M, N = M + 1 := ⟨N - 1, by omega⟩
    simp only [L_X5_isBeginBelow_2, B_X5_isBeginBelow_2]
    rw [if_pos (by rw [nI_8]; exact nI_le (by omega) (by omega))]
    rfl
  | succ r ih =>
    intro N k hk hN
    obtain ⟨N, rfl⟩ : ∃ M, N = M + 1 := ⟨N - 1, by omega⟩
    have hk8 : k < 8 := by omega
    obtain ⟨t1, t2, -⟩ := h.tk hk8
    obtain ⟨u1, u2, u3, -⟩ := h.2.2.2.1 k hk8
    have next := ih N (k + 1) (by omega) (by omega)
    simp only [L_X5_isBeginBelow_2, B_X5_isBeginBelow_2, B_X5_isBeginBelow_35]
    rw [if_neg (by rw [nI_8]; exact nI_ge (by omega) (by omega)), if_pos h.kx, h.g2, h.ta.2, if_pos ⟨h.ta.1, inb_nI hk8 (by omega)⟩, nI_clamp (by omega), t1, if_pos t2, u1, u2, nI_1, next, any_r]
    by_cases e : ztf A 0 k = 0
    · rw [if_pos e, show bBelow A t k = false from decide_eq_false (fun q => q.1 e), Bool.false_or]
    · rw [if_neg e]
      by_cases e2 : t ≤ ztf A 1 k
      · rw [if_pos e2, show bBelow A t k = false from decide_eq_false (fun q => q.2 e2), Bool.false_or]
      · rw [if_neg e2, show bBelow A t k = true from decide_eq_true ⟨e, e2⟩, Bool.true_or, if_pos rfl]
theorem hasLock_L (h : RC b A σ) (t : Int32) : ∀ (r N c : Nat), c + r = 256 → r < N → L_X3_hasLockNotAbove_2 N (b + 2) t (nI c) σ = some (if (List.range' c r).any (bLock A t) then 1 else 0, σ) := by
  intro r
  induction r with
  | zero =>
    intro N k hk hN
    obtain ⟨N, rfl⟩ : ∃ M, N = M + 1 := ⟨N - 1, by omega⟩
    simp only [L_X3_hasLockNotAbove_2, B_X3_hasLockNotAbove_2]
    rw [if_pos (by rw [nI_256]; exact nI_le (by omega) (by omega))]
    rfl
  | succ r ih =>
    intro N c hc hN
    obtain ⟨N, rfl⟩ : ∃ M, N = M + 1 := ⟨N - 1, by omega⟩
    have hc8 : c < 256 := by omega
    obtain ⟨i1, i2⟩ := rc_ix h hc8
    have next := ih N (c + 1) (by omega) (by omega)
    simp only [L_X3_hasLockNotAbove_2, B_X3_hasLockNotAbove_2, B_X3_hasLockNotAbove_36]
    rw [if_neg (by rw [nI_256]; exact nI_ge (by omega) (by omega)), if_pos h.kt, h.ca.1, if_pos i1, i2, if_pos (h.kc hc8), bd_eq (rc_isLocked h hc8), any_r]
    by_cases e : zlk A 0 c = 0
    · rw [if_pos e, if_pos rfl, nI_1, next, show bLock A t c = false from decide_eq_false (fun q => q.1 e), Bool.false_or]
    · rw [if_neg e, if_neg (by decide), if_pos h.kt, h.ca.1, if_pos i1, i2, if_pos (h.kc hc8), (h.2.2.1 c hc8).1, nI_1, next]
      by_cases e2 : t < zlk A 0 c
      · rw [if_pos e2, show bLock A t c = false from decide_eq_false (fun q => q.2 e2), Bool.false_or]
      · rw [if_neg e2, show bLock A t c = true from decide_eq_true ⟨e, e2⟩, Bool.true_or, if_pos rfl]
theorem Rcw.keep {τ : HS} {A' : AS} (h : Rcw b A σ CL ow) (h0 : b + 312 ≤ hs σ) (hl : zl A' = zl A) (k : Ag [40, 41] σ τ) (kk : ∀ n, n ≤ hs σ → kd τ n = kd σ n) (kg : ∀ g n, g = 0 ∨ g = 1 ∨ g = 42 → n ≤ hs σ → gr τ g n = gr σ g n) : Rcw b A' τ CL ow := by
  intro d hd
  obtain ⟨a1, a2, a3, a4⟩ := h d hd
  refine ⟨?_, ?_, fun a ha => ?_, a4⟩
  · rw [kg _ _ (by omega) (by omega)]
    exact ch_same _ _ (fun a ha => ⟨kk a (a3 a ha).2.1, kg _ _ (by omega) (a3 a ha).2.1⟩) a1
  · rw [hl, ← a2]
    exact kv_same (fun a ha => ⟨k.2 _ (by decide) _ (a3 a ha).2.1, k.2 _ (by decide) _ (a3 a ha).2.1⟩)
  · obtain ⟨x1, x2, x3⟩ := a3 a ha
    exact ⟨x1, Nat.le_trans x2 k.1, x3⟩
/-- the class's state with the chains named -/
def RW (b : Nat) (A : AS) (σ : HS) (CL : Nat → List Nat) (ow : Nat → Nat) : Prop := ShC b σ ∧ Rsc b A σ ∧ Rlk b A σ ∧ Rtr b A σ ∧ Rcw b A σ CL ow
theorem RW.rc (h : RW b A σ CL ow) : RC b A σ := ⟨h.1, h.2.1, h.2.2.1, h.2.2.2.1, CL, ow, h.2.2.2.2⟩
theorem rw_line (h : RW b A σ CL ow) (r : Int32) : ∃ τ, F_X3_addLine (b + 2) r σ = some ((), τ) ∧ RW b (aLine A r) τ CL ow ∧ Cst b σ τ ∧ (∀ m, gr τ 42 m = gr σ 42 m) ∧ (∀ m, kd τ m = kd σ m) ∧ (∀ m, gi τ 40 m = gi σ 40 m ∧ gi τ 41 m = gi σ 41 m) := by
  obtain ⟨τ, e1, e2, e3⟩ := rc_line h.rc r
  have et : τ = si (si σ 121 (b + 2) (gi σ 121 (b + 2) + r)) 122 (b + 2) (gi (si σ 121 (b + 2) (gi σ 121 (b + 2) + r)) 122 (b + 2) + 1) := by
    unfold F_X3_addLine lt1 at e1
    rw [if_pos h.rc.kt] at e1
    cases e1; rfl
  refine ⟨τ, e1, ⟨e2.1, e2.2.1, e2.2.2.1, e2.2.2.2.1, ?_⟩, e3, ?_, ?_, ?_⟩
  · rw [et]
    exact h.2.2.2.2.keep h.1.1 rfl ((Ag.rf.si (by decide)).si (by decide)) (fun _ _ => rfl) (fun _ _ _ _ => rfl)
  · intro m; rw [et]; rfl
  · intro m; rw [et]; rfl
  · intro m; rw [et]; simp only [gi_si, gi_sr, gi_sai, gi_sar, gr_si, gr_sr, gr_sai, gr_sar, ai_si, ai_sr, ai_sai, ai_sar, ar_si, ar_sr, ar_sai, ar_sar, kd_si, kd_sr, kd_sai, kd_sar, ln_si, ln_sr, ln_sai, ln_sar, hs_si, hs_sr, hs_sai, hs_sar, ns_si, ns_sr, ns_sai, ns_sar]; simp
theorem rw_dropWrite (h : RW b A σ CL ow) (hS : Sm n A) {c a : Nat} (hc : c < 256) (ha : a ∈ CL (2 * c + 1)) : ∃ τ, F_X3_dropWrite (b + 2) (b + 4 + c) a σ = some ((), τ) ∧ RW b (aDel A (2 * c + 1) (((CL (2 * c + 1)).erase a).map (kv σ))) τ (va_up CL (2 * c + 1) ((CL (2 * c + 1)).erase a)) ow ∧ Cst b σ τ ∧ gr τ 42 a = gr σ 42 a ∧ (∀ m, kd τ m = kd σ m) ∧ (∀ m, gi τ 40 m = gi σ 40 m ∧ gi τ 41 m = gi σ 41 m) := by
  obtain ⟨h1, h2, h3, h4, h5⟩ := id h
  obtain ⟨r, τ, u1, u2, u3, u4, u5, -, u6, -, -, u7, u8, u9, u10, u11⟩ := rc_unl h1 h2 h3 h4 h5 hS (d := 2 * c + 1) (by omega) ha
  rw [show (2 * c + 1) % 2 = 1 by omega, show (2 * c + 1) / 2 = c by omega] at u1 u7 u8 u9 u10 u11
  have hR : RW b (ul A (2 * c + 1) (((CL (2 * c + 1)).erase a).map (kv σ))) (sr τ 1 (b + 4 + c) r) (va_up CL (2 * c + 1) ((CL (2 * c + 1)).erase a)) ow := ⟨u7, u8, u9, u10, u11⟩
  obtain ⟨υ, v1, v2, v3, v4, v5, v6⟩ := rw_line hR (-1)
  refine ⟨υ, ?_, v2, (u2.sr (by omega)).tr v3, ?_, fun m => (v5 m).trans (u4 m), fun m => ⟨(v6 m).1.trans (u3 _ _), (v6 m).2.trans (u3 _ _)⟩⟩
  · unfold F_X3_dropWrite
    rw [if_pos (h.rc.kc hc), bd_eq u1, if_pos (by rw [u4]; exact h.rc.kc hc), if_pos hR.rc.kt, bd_eq v1]
  · rw [v4, gr_sr, if_neg (by omega)]; exact u5
theorem rw_dropData (h : RW b A σ CL ow) (hS : Sm n A) {c : Nat} (hc : c < 256) (s : Int32) : ∃ (τ : HS) (CL' : Nat → List Nat), F_X3_dropData (b + 2) (b + 4 + c) s σ = some ((), τ) ∧ RW b (aDropData A c s) τ CL' ow ∧ Cst b σ τ ∧ CL' (2 * c + 1) = CL (2 * c + 1) ∧ (∀ m, m ∉ CL (2 * c) → gr τ 42 m = gr σ 42 m) ∧ (∀ m, kd τ m = kd σ m) ∧ (∀ m, gi τ 40 m = gi σ 40 m ∧ gi τ 41 m = gi σ 41 m) := by
  obtain ⟨h1, h2, h3, h4, h5⟩ := id h
  obtain ⟨c1, c2, c3, c4⟩ := h5 (2 * c) (by omega)
  have c1' := c1
  rw [show 2 * c % 2 = 0 by omega, show 2 * c / 2 = c by omega] at c1'
  have hL := h5.len hS (d := 2 * c) (by omega)
  have hh : hasK (zl A (2 * c)) s = ((CL (2 * c)).find? (fun a => decide (gi σ 40 a = s))).isSome := by
    rw [← c2, ← any_find]; unfold hasK; rw [List.any_map]; rfl
  unfold F_X3_dropData aDropData
  rw [if_pos (h.rc.kc hc), bd_eq (withKey_F c1' hL), hh]
  cases e : (CL (2 * c)).find? (fun a => decide (gi σ 40 a = s)) with
  | none => exact ⟨σ, CL, by simp [B_X3_dropData_30], by simpa using h, Cst.rf, rfl, fun _ _ => rfl, fun _ => rfl, fun _ => ⟨rfl, rfl⟩⟩
  | some a =>
    obtain ⟨q1, q2, q3⟩ := find_ch c1' e
    obtain ⟨r, τ, u1, u2, u3, u4, u5, u5b, u6, -, -, u7, u8, u9, u10, u11⟩ := rc_unl h1 h2 h3 h4 h5 hS (d := 2 * c) (by omega) q3
    rw [show 2 * c % 2 = 0 by omega, show 2 * c / 2 = c by omega] at u1 u7 u8 u9 u10 u11
    have hR : RW b (ul A (2 * c) (((CL (2 * c)).erase a).map (kv σ))) (sr τ 0 (b + 4 + c) r) (va_up CL (2 * c) ((CL (2 * c)).erase a)) ow := ⟨u7, u8, u9, u10, u11⟩
    obtain ⟨υ, v1, v2, v3, v4, v5, v6⟩ := rw_line hR (-1)
    refine ⟨υ, va_up CL (2 * c) ((CL (2 * c)).erase a), ?_, ?_, (u2.sr (by omega)).tr v3, va_up_ne _ _ (by omega), fun m hm => ?_, fun m => (v5 m).trans (u4 m), fun m => ⟨(v6 m).1.trans (u3 _ _), (v6 m).2.trans (u3 _ _)⟩⟩
    · show (if a = 0 then _ else _) = _
      rw [if_neg q1, if_pos (h.rc.kc hc), Option.getD_some, bd_eq u1, if_pos (by rw [u4]; exact h.rc.kc hc), if_pos hR.rc.kt, bd_eq v1]
      rfl
    · have el : ((CL (2 * c)).erase a).map (kv σ) = rmK (zl A (2 * c)) s := by
        unfold rmK
        rw [← c2, List.eraseP_map, ← erase_find e]
        rfl
      rw [el] at v2
      simp only [Option.isSome_some, if_true]
      exact v2
    · rw [v4, gr_sr, if_neg (by omega)]; exact u5b m hm
/-- the walk over a cell's writes: P has been passed, L is still to come -/
theorem sweepOf_L {c : Nat} (hc : c < 256) (t : Int32) : ∀ (L : List Nat) (N x : Nat) (cov : Int32) (P : List Nat) (A : AS) (σ : HS) (CL : Nat → List Nat), RW b A σ CL ow → Sm n A → ((zl A (2 * c + 1)).map (fun q => q.1)).Nodup → CL (2 * c + 1) = P ++ L → ch σ x L → L.length < N →
    ∃ τ, L_X3_dropUnseenOf_8 N (b + 2) (b + 4 + c) t cov x σ = some ((), τ) ∧ RC b (swp c t cov (L.map (kv σ)) A) τ ∧ Cst b σ τ := by
  intro L
  induction L with
  | nil =>
    intro N x cov P A σ CL h hS hD hC hx hN
    obtain ⟨N, rfl⟩ : ∃ M, N = M + 1 := ⟨N - 1, by simp at hN; omega⟩
    have hx : x = 0 := hx
    simp only [L_X3_dropUnseenOf_8, B_X3_dropUnseenOf_8]
    rw [if_pos hx]
    exact ⟨σ, rfl, h.rc, Cst.rf⟩
  | cons a L ih =>
    intro N x cov P A σ CL h hS hD hC hx hN
    obtain ⟨N, rfl⟩ : ∃ M, N = M + 1 := ⟨N - 1, by simp at hN; omega⟩
    have hN' : L.length < N := by simp at hN; omega
    obtain ⟨rfl, x2, x3, x4⟩ := hx
    obtain ⟨c1, c2, c3, c4⟩ := h.2.2.2.2 (2 * c + 1) (by omega)
    have ha : x ∈ CL (2 * c + 1) := by rw [hC]; simp
    have hnd : (P ++ x :: L).Nodup := by rw [← hC]; exact c4
    have hxP : x ∉ P := fun q => by
      rw [List.nodup_append] at hnd
      exact (hnd.2.2 x q x (by simp)) rfl
    have hxL : x ∉ L := by
      rw [List.nodup_append] at hnd
      exact (List.nodup_cons.mp hnd.2.1).1
    have her : (CL (2 * c + 1)).erase x = P ++ L := by rw [hC, List.erase_append_right _ hxP, List.erase_cons_head]
    -- the entry by its key
    have hk : ((CL (2 * c + 1)).erase x).map (kv σ) = rmK (zl A (2 * c + 1)) (gi σ 40 x) := by
      have hf : (CL (2 * c + 1)).find? (fun a => decide (gi σ 40 a = gi σ 40 x)) = some x := by
        rw [List.find?_eq_some_iff_append]
        refine ⟨by simp, P, L, hC, fun y hy => ?_⟩
        have hD' := hD
        rw [← c2, hC, List.map_map, List.map_append, List.nodup_append] at hD'
        have := hD'.2.2 (gi σ 40 y) (List.mem_map.mpr ⟨y, hy, rfl⟩) (gi σ 40 x) (by simp [kv])
        simpa using this
      unfold rmK
      rw [← c2, List.eraseP_map, ← erase_find hf]
      rfl
    -- the steps
    have stay : ∀ cov', ∃ τ, B_X3_dropUnseenOf_84 (L_X3_dropUnseenOf_8 N) (b + 2) (b + 4 + c) t cov' x σ = some ((), τ) ∧ RC b (swp c t cov' (L.map (kv σ)) A) τ ∧ Cst b σ τ := by
      intro cov'
      unfold B_X3_dropUnseenOf_84
      rw [if_pos x3]
      exact ih N _ cov' (P ++ [x]) A σ CL h hS hD (by rw [hC]; simp) x4 hN'
    obtain ⟨σ1, w1, w2, w3, w4, w5, w6⟩ := rw_dropWrite h hS hc ha
    rw [hk] at w2
    have hS1 : Sm n (aDel A (2 * c + 1) (rmK (zl A (2 * c + 1)) (gi σ 40 x))) := by
      intro d
      have e : zl (aDel A (2 * c + 1) (rmK (zl A (2 * c + 1)) (gi σ 40 x))) d = if d = 2 * c + 1 then rmK (zl A (2 * c + 1)) (gi σ 40 x) else zl A d := rfl
      rw [e]
      split
      · have := hS (2 * c + 1)
        have := List.length_eraseP_le (p := fun q : Int32 × Int32 => decide (q.1 = gi σ 40 x)) (l := zl A (2 * c + 1))
        unfold rmK; omega
      · exact hS d
    have hD1 : ((zl (aDel A (2 * c + 1) (rmK (zl A (2 * c + 1)) (gi σ 40 x))) (2 * c + 1)).map (fun q => q.1)).Nodup := by
      have e : zl (aDel A (2 * c + 1) (rmK (zl A (2 * c + 1)) (gi σ 40 x))) (2 * c + 1) = rmK (zl A (2 * c + 1)) (gi σ 40 x) := if_pos rfl
      rw [e]
      exact hD.sublist (List.Sublist.map _ List.eraseP_sublist)
    have hC1 : (va_up CL (2 * c + 1) ((CL (2 * c + 1)).erase x)) (2 * c + 1) = P ++ L := by rw [va_up_self, her]
    have key : ∀ (cov' : Int32) (A' : AS) (τ : HS) (CL' : Nat → List Nat), RW b A' τ CL' ow → Sm n A' → ((zl A' (2 * c + 1)).map (fun q => q.1)).Nodup → CL' (2 * c + 1) = P ++ L → (∀ m, kd τ m = kd σ m) → gr τ 42 x = gr σ 42 x → (∀ m, gi τ 40 m = gi σ 40 m ∧ gi τ 41 m = gi σ 41 m) →
        ∃ υ, B_X3_dropUnseenOf_84 (L_X3_dropUnseenOf_8 N) (b + 2) (b + 4 + c) t cov' x τ = some ((), υ) ∧ RC b (swp c t cov' (L.map (kv σ)) A') υ ∧ Cst b τ υ := by
      intro cov' A' τ CL' hR hS' hD' hC' hkd h42 hgi
      obtain ⟨d1, -, -, -⟩ := hR.2.2.2.2 (2 * c + 1) (by omega)
      rw [hC'] at d1
      unfold B_X3_dropUnseenOf_84
      rw [if_pos (by rw [hkd]; exact x3), h42, ch_hd x4, ← kv_same (L := L) (σ := σ) (τ := τ) (fun a _ => hgi a)]
      exact ih N _ cov' P A' τ CL' hR hS' hD' hC' (ch_suf d1) hN'
    have kt := h.rc.kt
    have b60 : ∀ R, R = L.map (kv σ) → ∃ τ, B_X3_dropUnseenOf_60 (L_X3_dropUnseenOf_8 N) (b + 2) (b + 4 + c) t x σ = some ((), τ) ∧ RC b (swp c t 1 R (aDropData (aDel A (2 * c + 1) (rmK (zl A (2 * c + 1)) (gi σ 40 x))) c (gi σ 41 x))) τ ∧ Cst b σ τ := by
      rintro R rfl
      obtain ⟨σ2, CL2, y1, y2, y3, y4, y5, y6, y7⟩ := rw_dropData w2 hS1 hc (gi σ 41 x)
      have hxv : x ∉ (va_up CL (2 * c + 1) ((CL (2 * c + 1)).erase x)) (2 * c) := by
        rw [va_up_ne _ _ (by omega)]
        intro q
        have z1 := ((h.2.2.2.2 (2 * c) (by omega)).2.2.1 x q).2.2
        have z2 := (c3 x ha).2.2
        omega
      have hD2 : ((zl (aDropData (aDel A (2 * c + 1) (rmK (zl A (2 * c + 1)) (gi σ 40 x))) c (gi σ 41 x)) (2 * c + 1)).map (fun q => q.1)).Nodup := by
        have e : ∀ B : AS, ∀ s, zl (aDropData B c s) (2 * c + 1) = zl B (2 * c + 1) := by
          intro B s
          unfold aDropData
          split
          · exact if_neg (by omega)
          · rfl
        rw [e]; exact hD1
      obtain ⟨υ, z1, z2, z3⟩ := key 1 _ σ2 CL2 y2 hS1.dd hD2 (by rw [y4]; exact hC1) (fun m => (y6 m).trans (w5 m)) (by rw [y5 x hxv]; exact w4) (fun m => ⟨(y7 m).1.trans (w6 m).1, (y7 m).2.trans (w6 m).2⟩)
      refine ⟨υ, ?_, z2, (w3.tr y3).tr z3⟩
      unfold B_X3_dropUnseenOf_60
      rw [if_pos kt, bd_eq w1, if_pos (by rw [w5]; exact x3), if_pos w2.rc.kt, (w6 x).2, bd_eq y1]
      exact z1
    obtain ⟨v1, v2, v3, v4⟩ := h.2.2.2.2 (2 * c) (by omega)
    rw [show 2 * c % 2 = 0 by omega, show 2 * c / 2 = c by omega] at v1
    have vl := h.2.2.2.2.len hS (d := 2 * c) (by omega)
    simp only [L_X3_dropUnseenOf_8, B_X3_dropUnseenOf_8, List.map_cons, swp]
    rw [if_neg x2, if_pos x3]
    show ∃ τ, (if gi σ 40 x ≤ t then _ else _) = _ ∧ RC b (if gi σ 40 x ≤ t then (if gi σ 41 x = 0 then _ else _) else _) τ ∧ _
    by_cases e1 : gi σ 40 x ≤ t
    · rw [if_pos e1, if_pos e1]
      by_cases e2 : gi σ 41 x = 0
      · rw [if_pos e2, if_pos e2, if_pos kt, bd_eq w1]
        obtain ⟨υ, z1, z2, z3⟩ := key cov _ σ1 _ w2 hS1 hD1 hC1 w5 w4 w6
        exact ⟨υ, z1, z2, w3.tr z3⟩
      · rw [if_neg e2, if_neg e2]
        by_cases e3 : cov = 0
        · rw [if_pos e3, if_pos e3, if_pos (h.rc.kc hc), bd_eq (valueOf_F (h.rc.kc hc) v1 vl), v2]
          show ∃ τ, (if vOf (zl A (2 * c)) (gi σ 41 x) = -1 then _ else _) = _ ∧ RC b (if vOf (zl A (2 * c)) (gi σ 41 x) = -1 then _ else _) τ ∧ _
          by_cases e4 : vOf (zl A (2 * c)) (gi σ 41 x) = -1
          · rw [if_pos e4, if_pos e4]
            exact b60 _ rfl
          · rw [if_neg e4, if_neg e4]
            exact stay 1
        · rw [if_neg e3, if_neg e3]
          exact b60 _ rfl
    · rw [if_neg e1, if_neg e1]
      exact stay cov
end
