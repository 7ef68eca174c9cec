/-! CLEANING (class) -/
theorem Sm.lk {n : Nat} {A : AS} (h : Sm n A) {c : Nat} : Sm n (aDropLock A c) := h
theorem Sm.alk {n : Nat} {A : AS} (h : Sm n A) {c p : Nat} {s t : Int32} : Sm n (aAddLock A c s p t) := h
theorem Sm.sc {n : Nat} {A : AS} (h : Sm n A) {j : Nat} {v : Int32} : Sm n (usc A j v) := h
theorem Sm.add {n : Nat} {A : AS} (h : Sm (n + 1) A) {d : Nat} {k i : Int32} : Sm n (aAdd A d k i) := by
  intro x
  have e : zl (aAdd A d k i) x = if x = d then (k, i) :: zl A d else zl A x := rfl
  rw [e]
  split
  · have := h d; simp; omega
  · have := h x; omega
theorem Sm.le {n m : Nat} {A : AS} (h : Sm n A) (hm : m ≤ n) : Sm m A := fun d => by have := h d; omega
theorem Sm.dd {n : Nat} {A : AS} (h : Sm n A) {c : Nat} {s : Int32} : Sm n (aDropData A c s) := by
  unfold aDropData
  split
  · intro x
    have e : zl (aDel A (2 * c) (rmK (zl A (2 * c)) s)) x = if x = 2 * c then rmK (zl A (2 * c)) s else zl A x := rfl
    rw [e]
    split
    · have := h (2 * c)
      have := List.length_eraseP_le (p := fun q : Int32 × Int32 => decide (q.1 = s)) (l := zl A (2 * c))
      unfold rmK; omega
    · exact h x
  · exact h
def aUndo (A : AS) (c : Nat) (prim : Bool) : AS := if prim = true then aAdd (aDropData (aDropLock A c) c (zlk A 0 c)) (2 * c + 1) (zlk A 0 c) 0 else aDropData (aDropLock A c) c (zlk A 0 c)
def aClean (A : AS) (c : Nat) : AS :=
  if zlk A 0 (zlp A c) = zlk A 0 c then aUndo (usc A 10 (zsc A 10 + 1)) (zlp A c) true
  else match (zl A (2 * zlp A c + 1)).find? (fun q => decide (q.2 = zlk A 0 c)) with
    | none => aUndo (usc A 10 (zsc A 10 + 1)) c false
    | some q => aDropLock (aAdd (usc A 10 (zsc A 10 + 1)) (2 * c + 1) q.1 (zlk A 0 c)) c
section
variable {b n : Nat} {A : AS} {σ : HS}
theorem rc_undo (h : RC b A σ) (hS : Sm (n + 1) A) {c : Nat} (hc : c < 256) (x : Int32) : ∃ τ, F_X3_undo (b + 2) (b + 4 + c) x σ = some ((), τ) ∧ RC b (aUndo A c (decide (¬ x = 0))) τ ∧ Cst b σ τ := by
  obtain ⟨σ1, a1, a2, a3⟩ := rc_dropLock h hc
  obtain ⟨σ2, b1, b2, b3⟩ := rc_dropData a2 hS.lk hc (zlk A 0 c)
  obtain ⟨σ3, c1, c2, c3⟩ := rc_addWrite b2 hc (zlk A 0 c) 0
  have e0 : gi σ 2 (b + 4 + c) = zlk A 0 c := (h.2.2.1 c hc).1
  unfold F_X3_undo aUndo
  rw [if_pos (h.kc hc), if_pos h.kt, bd_eq a1, if_pos a2.kt, e0, bd_eq b1]
  by_cases e : x = 0
  · refine ⟨σ2, ?_, ?_, a3.tr b3⟩
    · rw [if_pos e]; rfl
    · rw [if_neg (by simp [e])]; exact b2
  · refine ⟨σ3, ?_, ?_, (a3.tr b3).tr c3⟩
    · rw [if_neg e, if_pos b2.kt, bd_eq c1]; rfl
    · rw [if_pos (by simp [e])]; exact c2
theorem RC.pr (h : RC b A σ) {c : Nat} (hc : c < 256) : kd σ (b + 3) = 102 ∧ inb (gi σ 3 (b + 4 + c)) (ln σ (b + 3)) ∧ ar σ (b + 3) (gi σ 3 (b + 4 + c)).toNatClampNeg = b + 4 + zlp A c ∧ zlp A c < 256 := by
  obtain ⟨q1, q2, q3⟩ := h.ca
  obtain ⟨l1, l2, l3, l4⟩ := h.2.2.1 c hc
  rw [l2, q3, nI_clamp (by omega)]
  exact ⟨q2, ⟨nI_pos' (by omega), by rw [nI_clamp (by omega)]; exact l4⟩, h.cr l4, l4⟩
theorem rc_isDecided (h : RC b A σ) {c : Nat} (hc : c < 256) : F_X3_isDecided (b + 2) (b + 4 + c) σ = some (if zlk A 0 (zlp A c) = zlk A 0 c then 0 else 1, σ) := by
  obtain ⟨q1, q2, q3, q4⟩ := h.pr hc
  have e0 : gi σ 2 (b + 4 + c) = zlk A 0 c := (h.2.2.1 c hc).1
  have e1 : gi σ 2 (b + 4 + zlp A c) = zlk A 0 (zlp A c) := (h.2.2.1 _ q4).1
  unfold F_X3_isDecided
  rw [if_pos h.kt, if_pos (h.kc hc), h.ca.1, if_pos ⟨q1, q2⟩, q3, if_pos (h.kc q4), e0, e1]
  by_cases e : zlk A 0 (zlp A c) = zlk A 0 c
  · rw [if_pos e, if_pos e]; rfl
  · rw [if_neg e, if_neg e]; rfl
theorem rc_sc10 (h : RC b A σ) (v : Int32) : RC b (usc A 10 v) (si σ 125 (b + 2) v) := by
  have hz := h.sz
  obtain ⟨h1, ⟨a1, a2, a3, a4, a5, a6, a7, a8, a9, a10, a11, a12, a13⟩, h3, h4, h5⟩ := h
  refine ⟨h1.keep (Cst.rf.si (by decide)), ?_, h3.keep hz (Ag.rf.si (by decide)), h4.keep hz (Ag.rf.si (by decide)) (fun _ _ _ => rfl), h5.keep hz (Ag.rf.si (by decide)) (fun _ _ => rfl) (fun _ _ _ _ => rfl)⟩
  unfold Rsc
  simp only [gi_si, gi_sr, gi_sai, gi_sar, gr_si, gr_sr, gr_sai, gr_sar, ai_si, ai_sr, ai_sai, ai_sar, ar_si, ar_sr, ar_sai, ar_sar, kd_si, kd_sr, kd_sai, kd_sar, ln_si, ln_sr, ln_sai, ln_sar, hs_si, hs_sr, hs_sai, hs_sar, ns_si, ns_sr, ns_sai, ns_sar, zsc_usc, zlk_usc, ztf_usc, zl_usc, zow_usc, zlp_usc, zne_usc, zsc_ulk, zlk_ulk, ztf_ulk, zl_ulk, zow_ulk, zlp_ulk, zne_ulk, zsc_utf, zlk_utf, ztf_utf, zl_utf, zow_utf, zlp_utf, zne_utf, zsc_ul, zlk_ul, ztf_ul, zl_ul, zow_ul, zlp_ul, zne_ul, zsc_uow, zlk_uow, ztf_uow, zl_uow, zow_uow, zlp_uow, zne_uow, zsc_ulp, zlk_ulp, ztf_ulp, zl_ulp, zow_ulp, zlp_ulp, zne_ulp, zsc_une, zlk_une, ztf_une, zl_une, zow_une, zlp_une, zne_une]
  simp [a1, a2, a3, a4, a5, a6, a7, a8, a9, a10, a11, a12, a13]
theorem rc_clean (h : RC b A σ) (hS : Sm (n + 1) A) {c : Nat} (hc : c < 256) : ∃ τ, F_X3_clean (b + 2) (b + 4 + c) σ = some ((), τ) ∧ RC b (aClean A c) τ ∧ Cst b σ τ := by
  have e10 : gi σ 125 (b + 2) = zsc A 10 := h.2.1.2.2.2.2.2.2.2.2.2.2.1
  have hA := rc_sc10 h (zsc A 10 + 1)
  have k0 : Cst b σ (si σ 125 (b + 2) (zsc A 10 + 1)) := Cst.rf.si (by decide)
  obtain ⟨q1, q2, q3, q4⟩ := hA.pr hc
  have q4 : zlp A c < 256 := q4
  have q3 : ar (si σ 125 (b + 2) (zsc A 10 + 1)) (b + 3) (gi (si σ 125 (b + 2) (zsc A 10 + 1)) 3 (b + 4 + c)).toNatClampNeg = b + 4 + zlp A c := q3
  have hD := rc_isDecided hA hc
  unfold F_X3_clean aClean
  rw [e10, if_pos h.kt, if_pos (hA.kc hc), hA.ca.1, if_pos ⟨q1, q2⟩, bd_eq hD, q3]
  by_cases e : zlk A 0 (zlp A c) = zlk A 0 c
  · obtain ⟨τ, t1, t2, t3⟩ := rc_undo hA (n := n) hS.sc q4 1
    refine ⟨τ, ?_, ?_, k0.tr t3⟩
    · show (if (if zlk A 0 (zlp A c) = zlk A 0 c then (0 : Int32) else 1) = 0 then _ else _) = _
      rw [if_pos e, if_pos rfl, if_pos hA.kt, bd_eq t1]
    · rw [if_pos e]; exact t2
  · have er : (if zlk (usc A 10 (zsc A 10 + 1)) 0 (zlp (usc A 10 (zsc A 10 + 1)) c) = zlk (usc A 10 (zsc A 10 + 1)) 0 c then (0 : Int32) else 1) = 1 := if_neg e
    rw [er, if_neg (by decide), if_neg e, if_pos (hA.kc q4), if_pos (hA.kc hc)]
    obtain ⟨CL, ow, h5⟩ := hA.2.2.2.2
    obtain ⟨c1, c2, c3, c4⟩ := h5 (2 * zlp A c + 1) (by omega)
    rw [show (2 * zlp A c + 1) % 2 = 1 by omega, show (2 * zlp A c + 1) / 2 = zlp A c by omega] at c1
    have hL := Rcw.len h5 (hS.sc (j := 10) (v := zsc A 10 + 1)) (d := 2 * zlp A c + 1) (by omega)
    have e2 : gi (si σ 125 (b + 2) (zsc A 10 + 1)) 2 (b + 4 + c) = zlk A 0 c := (h.2.2.1 c hc).1
    rw [e2, bd_eq (withInfo_F c1 hL)]
    have ef : (zl A (2 * zlp A c + 1)).find? (fun q => decide (q.2 = zlk A 0 c)) = ((CL (2 * zlp A c + 1)).find? (fun a => decide (gi (si σ 125 (b + 2) (zsc A 10 + 1)) 41 a = zlk A 0 c))).map (kv (si σ 125 (b + 2) (zsc A 10 + 1))) := by
      rw [show zl A (2 * zlp A c + 1) = zl (usc A 10 (zsc A 10 + 1)) (2 * zlp A c + 1) from rfl, ← c2, List.find?_map]; rfl
    rw [ef]
    cases ee : (CL (2 * zlp A c + 1)).find? (fun a => decide (gi (si σ 125 (b + 2) (zsc A 10 + 1)) 41 a = zlk A 0 c)) with
    | none =>
      obtain ⟨τ, t1, t2, t3⟩ := rc_undo hA (n := n) hS.sc hc 0
      refine ⟨τ, ?_, t2, k0.tr t3⟩
      rw [Option.getD_none, if_pos rfl, if_pos hA.kt, bd_eq t1]
    | some a =>
      obtain ⟨p1, p2, p3⟩ := find_ch c1 ee
      obtain ⟨σ1, a1, a2, a3⟩ := rc_addWrite hA hc (gi (si σ 125 (b + 2) (zsc A 10 + 1)) 40 a) (zlk A 0 c)
      obtain ⟨σ2, b1, b2, b3⟩ := rc_dropLock a2 hc
      refine ⟨σ2, ?_, b2, (k0.tr a3).tr b3⟩
      rw [Option.getD_some, if_neg p1, if_pos p2, if_pos (hA.kc hc), if_pos hA.kt, e2, bd_eq a1, if_pos a2.kt, bd_eq b1]
end
