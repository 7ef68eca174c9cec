/-! THE CLASS'S SMALLEST STEPS -/
def aLine (A : AS) (r : Int32) : AS := usc (usc A 6 (zsc A 6 + r)) 7 (zsc A 7 + 1)
def aLk (A : AS) (c : Nat) (s : Int32) (p : Nat) (t : Int32) : AS := ulp (ulk (ulk A 0 c s) 1 c t) c p
def aDropLock (A : AS) (c : Nat) : AS := aLine (aLk A c 0 0 0) (-2)
def aAddLock (A : AS) (c : Nat) (s : Int32) (p : Nat) (t : Int32) : AS := aLine (aLk A c s p t) 2
def aPush (A : AS) (d : Nat) (k i : Int32) : AS := une (ul A d ((k, i) :: zl A d)) (zne A + 1)
def aAdd (A : AS) (d : Nat) (k i : Int32) : AS := aLine (aPush A d k i) 1
def aDel (A : AS) (d : Nat) (l : List (Int32 × Int32)) : AS := aLine (ul A d l) (-1)
section
variable {b : Nat} {A : AS} {σ : HS}
theorem RC.sz (h : RC b A σ) : b + 312 ≤ hs σ := h.1.1
theorem RC.kc (h : RC b A σ) {c : Nat} (hc : c < 256) : kd σ (b + 4 + c) = 1 := (h.1.2.2.2.2.2.2.2.2.2.1 c hc).2
theorem RC.kt (h : RC b A σ) : kd σ (b + 2) = 4 := h.1.2.2.2.2.2.1
theorem RC.ca (h : RC b A σ) : gr σ 120 (b + 2) = b + 3 ∧ kd σ (b + 3) = 102 ∧ ln σ (b + 3) = 256 := ⟨h.1.2.2.2.2.2.2.1, h.1.2.2.2.2.2.2.2.1, h.1.2.2.2.2.2.2.2.2.1⟩
theorem RC.cr (h : RC b A σ) {c : Nat} (hc : c < 256) : ar σ (b + 3) c = b + 4 + c := (h.1.2.2.2.2.2.2.2.2.2.1 c hc).1
theorem rc_line (h : RC b A σ) (r : Int32) : ∃ τ, F_X3_addLine (b + 2) r σ = some ((), τ) ∧ RC b (aLine A r) τ ∧ Cst b σ τ := by
  have hz := h.sz
  refine ⟨_, by unfold F_X3_addLine lt1; rw [if_pos h.kt], ?_, (Cst.rf.si (by decide)).si (by decide)⟩
  obtain ⟨h1, ⟨a1, a2, a3, a4, a5, a6, a7, a8, a9, a10, a11, a12, a13⟩, h3, h4, h5⟩ := h
  refine ⟨h1.keep ((Cst.rf.si (by decide)).si (by decide)), ?_, h3.keep hz ((Ag.rf.si (by decide)).si (by decide)), h4.keep hz ((Ag.rf.si (by decide)).si (by decide)) (fun _ _ _ => rfl), h5.keep hz ((Ag.rf.si (by decide)).si (by decide)) (fun _ _ => rfl) (fun _ _ _ _ => rfl)⟩
  unfold aLine Rsc
  simp only [gi_si, gi_sr, gi_sai, gi_sar, gr_si, gr_sr, gr_sai, gr_sar, ai_si, ai_sr, ai_sai, ai_sar, ar_si, ar_sr, ar_sai, ar_sar, kd_si, kd_sr, kd_sai, kd_sar, ln_si, ln_sr, ln_sai, ln_sar, hs_si, hs_sr, hs_sai, hs_sar, ns_si, ns_sr, ns_sai, ns_sar, zsc_usc, zlk_usc, ztf_usc, zl_usc, zow_usc, zlp_usc, zne_usc, zsc_ulk, zlk_ulk, ztf_ulk, zl_ulk, zow_ulk, zlp_ulk, zne_ulk, zsc_utf, zlk_utf, ztf_utf, zl_utf, zow_utf, zlp_utf, zne_utf, zsc_ul, zlk_ul, ztf_ul, zl_ul, zow_ul, zlp_ul, zne_ul, zsc_uow, zlk_uow, ztf_uow, zl_uow, zow_uow, zlp_uow, zne_uow, zsc_ulp, zlk_ulp, ztf_ulp, zl_ulp, zow_ulp, zlp_ulp, zne_ulp, zsc_une, zlk_une, ztf_une, zl_une, zow_une, zlp_une, zne_une]
  simp [a1, a2, a3, a4, a5, a6, a7, a8, a9, a10, a11, a12, a13]
theorem rc_lk (h : RC b A σ) {c p : Nat} (hc : c < 256) (hp : p < 256) (s t : Int32) : RC b (aLk A c s p t) (si (si (si σ 2 (b + 4 + c) s) 3 (b + 4 + c) (nI p)) 4 (b + 4 + c) t) := by
  have hz := h.sz
  obtain ⟨h1, h2, h3, h4, h5⟩ := h
  refine ⟨h1.keep (((Cst.rf.si (by decide)).si (by decide)).si (by decide)), h2.keep hz (((Ag.rf.si (by decide)).si (by decide)).si (by decide)) rfl rfl, ?_, h4.keep hz (((Ag.rf.si (by decide)).si (by decide)).si (by decide)) (fun _ _ _ => rfl), h5.keep hz (((Ag.rf.si (by decide)).si (by decide)).si (by decide)) (fun _ _ => rfl) (fun _ _ _ _ => rfl)⟩
  intro x hx
  obtain ⟨a1, a2, a3, a4⟩ := h3 x hx
  unfold aLk
  simp only [gi_si, gi_sr, gi_sai, gi_sar, gr_si, gr_sr, gr_sai, gr_sar, ai_si, ai_sr, ai_sai, ai_sar, ar_si, ar_sr, ar_sai, ar_sar, kd_si, kd_sr, kd_sai, kd_sar, ln_si, ln_sr, ln_sai, ln_sar, hs_si, hs_sr, hs_sai, hs_sar, ns_si, ns_sr, ns_sai, ns_sar, zsc_usc, zlk_usc, ztf_usc, zl_usc, zow_usc, zlp_usc, zne_usc, zsc_ulk, zlk_ulk, ztf_ulk, zl_ulk, zow_ulk, zlp_ulk, zne_ulk, zsc_utf, zlk_utf, ztf_utf, zl_utf, zow_utf, zlp_utf, zne_utf, zsc_ul, zlk_ul, ztf_ul, zl_ul, zow_ul, zlp_ul, zne_ul, zsc_uow, zlk_uow, ztf_uow, zl_uow, zow_uow, zlp_uow, zne_uow, zsc_ulp, zlk_ulp, ztf_ulp, zl_ulp, zow_ulp, zlp_ulp, zne_ulp, zsc_une, zlk_une, ztf_une, zl_une, zow_une, zlp_une, zne_une]
  by_cases e : x = c
  · subst e
    simp [hp]
  · have e2 : ¬ b + 4 + x = b + 4 + c := by omega
    simp [e, e2, a1, a2, a3, a4]
theorem lk_cst {c : Nat} {s x t : Int32} : Cst b σ (si (si (si σ 2 c s) 3 c x) 4 c t) := ((Cst.rf.si (by decide)).si (by decide)).si (by decide)
theorem rc_dropLock (h : RC b A σ) {c : Nat} (hc : c < 256) : ∃ τ, F_X3_dropLock (b + 2) (b + 4 + c) σ = some ((), τ) ∧ RC b (aDropLock A c) τ ∧ Cst b σ τ := by
  have h1 := rc_lk h hc (p := 0) (by decide) 0 0
  rw [nI_0] at h1
  obtain ⟨τ, e1, e2, e3⟩ := rc_line h1 (-2)
  refine ⟨τ, ?_, e2, lk_cst.tr e3⟩
  unfold F_X3_dropLock
  rw [if_pos (h.kc hc), if_pos h1.kt, bd_eq e1]
theorem rc_addLock (h : RC b A σ) {c p : Nat} (hc : c < 256) (hp : p < 256) (s t : Int32) : ∃ τ, F_X3_addLock (b + 2) (b + 4 + c) s (nI p) t σ = some ((), τ) ∧ RC b (aAddLock A c s p t) τ ∧ Cst b σ τ := by
  have h1 := rc_lk h hc hp s t
  obtain ⟨τ, e1, e2, e3⟩ := rc_line h1 2
  refine ⟨τ, ?_, e2, lk_cst.tr e3⟩
  unfold F_X3_addLock
  rw [if_pos (h.kc hc), if_pos h1.kt, bd_eq e1]
/-- a new entry on top of a chain -/
theorem rc_push (h : RC b A σ) {d : Nat} (hd : d < 512) (k i : Int32) :
    RC b (aPush A d k i) (sr (sr (si (si (nw σ 2 3) 40 (hs σ + 1) k) 41 (hs σ + 1) i) 42 (hs σ + 1) (gr σ (d % 2) (b + 4 + d / 2))) (d % 2) (b + 4 + d / 2) (hs σ + 1)) := by
  have hz := h.sz
  obtain ⟨h1, h2, h3, h4, h5⟩ := h
  have hm : d % 2 = 0 ∨ d % 2 = 1 := by omega
  have kc : Cst b σ (sr (sr (si (si (nw σ 2 3) 40 (hs σ + 1) k) 41 (hs σ + 1) i) 42 (hs σ + 1) (gr σ (d % 2) (b + 4 + d / 2))) (d % 2) (b + 4 + d / 2) (hs σ + 1)) := ((((Cst.rf.nw).si (by decide)).si (by decide)).sr (by omega)).sr (by omega)
  refine ⟨h1.keep kc, ?_, h3.keep hz ((((Ag.rf.nw).si (by decide)).si (by decide)).sr.sr), h4.keep hz ((((Ag.rf.nw).si (by decide)).si (by decide)).sr.sr) (fun n i hn => ?_), ?_⟩
  · obtain ⟨a1, a2, a3, a4, a5, a6, a7, a8, a9, a10, a11, a12, a13⟩ := h2
    have q1 : ¬ b + 1 = hs σ + 1 := by omega
    have q2 : ¬ b + 2 = hs σ + 1 := by omega
    have q3 : ¬ b + 260 = hs σ + 1 := by omega
    unfold aPush Rsc
    simp only [gi_si, gi_sr, gi_sai, gi_sar, gr_si, gr_sr, gr_sai, gr_sar, ai_si, ai_sr, ai_sai, ai_sar, ar_si, ar_sr, ar_sai, ar_sar, kd_si, kd_sr, kd_sai, kd_sar, ln_si, ln_sr, ln_sai, ln_sar, hs_si, hs_sr, hs_sai, hs_sar, ns_si, ns_sr, ns_sai, ns_sar, gi_nw, gr_nw, ai_nw, ar_nw, kd_nw, ln_nw, hs_nw, ns_nw, zsc_usc, zlk_usc, ztf_usc, zl_usc, zow_usc, zlp_usc, zne_usc, zsc_ulk, zlk_ulk, ztf_ulk, zl_ulk, zow_ulk, zlp_ulk, zne_ulk, zsc_utf, zlk_utf, ztf_utf, zl_utf, zow_utf, zlp_utf, zne_utf, zsc_ul, zlk_ul, ztf_ul, zl_ul, zow_ul, zlp_ul, zne_ul, zsc_uow, zlk_uow, ztf_uow, zl_uow, zow_uow, zlp_uow, zne_uow, zsc_ulp, zlk_ulp, ztf_ulp, zl_ulp, zow_ulp, zlp_ulp, zne_ulp, zsc_une, zlk_une, ztf_une, zl_une, zow_une, zlp_une, zne_une]
    simp [q1, q2, q3, a1, a2, a3, a4, a5, a6, a7, a8, a9, a10, a11]
    omega
  · simp only [gi_si, gi_sr, gi_sai, gi_sar, gr_si, gr_sr, gr_sai, gr_sar, ai_si, ai_sr, ai_sai, ai_sar, ar_si, ar_sr, ar_sai, ar_sar, kd_si, kd_sr, kd_sai, kd_sar, ln_si, ln_sr, ln_sai, ln_sar, hs_si, hs_sr, hs_sai, hs_sar, ns_si, ns_sr, ns_sai, ns_sar, gi_nw, gr_nw, ai_nw, ar_nw, kd_nw, ln_nw, hs_nw, ns_nw]
    rw [if_neg (by omega)]
  · obtain ⟨CL, ow, h5⟩ := h5
    refine ⟨va_up CL d ((hs σ + 1) :: CL d), va_up ow (hs σ + 1) d, fun x hx => ?_⟩
    obtain ⟨c1, c2, c3, c4⟩ := h5 x hx
    have ch0 : ch (sr (sr (si (si (nw σ 2 3) 40 (hs σ + 1) k) 41 (hs σ + 1) i) 42 (hs σ + 1) (gr σ (d % 2) (b + 4 + d / 2))) (d % 2) (b + 4 + d / 2) (hs σ + 1)) (gr σ (x % 2) (b + 4 + x / 2)) (CL x) := by
      refine ch_same (σ := σ) _ _ (fun a ha => ?_) c1
      obtain ⟨x1, x2, x3⟩ := c3 a ha
      simp only [gi_si, gi_sr, gi_sai, gi_sar, gr_si, gr_sr, gr_sai, gr_sar, ai_si, ai_sr, ai_sai, ai_sar, ar_si, ar_sr, ar_sai, ar_sar, kd_si, kd_sr, kd_sai, kd_sar, ln_si, ln_sr, ln_sai, ln_sar, hs_si, hs_sr, hs_sai, hs_sar, ns_si, ns_sr, ns_sai, ns_sar, gi_nw, gr_nw, ai_nw, ar_nw, kd_nw, ln_nw, hs_nw, ns_nw]
      rw [if_neg (by omega), if_neg (by omega), if_neg (by omega), if_neg (by omega)]
      exact ⟨rfl, rfl⟩
    have kv0 : (CL x).map (kv (sr (sr (si (si (nw σ 2 3) 40 (hs σ + 1) k) 41 (hs σ + 1) i) 42 (hs σ + 1) (gr σ (d % 2) (b + 4 + d / 2))) (d % 2) (b + 4 + d / 2) (hs σ + 1))) = zl A x := by
      rw [← c2]
      refine kv_same (fun a ha => ?_)
      obtain ⟨x1, x2, x3⟩ := c3 a ha
      simp only [gi_si, gi_sr, gi_sai, gi_sar, gr_si, gr_sr, gr_sai, gr_sar, ai_si, ai_sr, ai_sai, ai_sar, ar_si, ar_sr, ar_sai, ar_sar, kd_si, kd_sr, kd_sai, kd_sar, ln_si, ln_sr, ln_sai, ln_sar, hs_si, hs_sr, hs_sai, hs_sar, ns_si, ns_sr, ns_sai, ns_sar, gi_nw, gr_nw, ai_nw, ar_nw, kd_nw, ln_nw, hs_nw, ns_nw]
      have q : ¬ a = hs σ + 1 := by omega
      simp [q]
    have nin : hs σ + 1 ∉ CL x := fun q => by have := (c3 _ q).2.1; omega
    by_cases e : x = d
    · subst e
      refine ⟨?_, ?_, fun a ha => ?_, ?_⟩
      · rw [va_up_self]
        have hN : ¬ hs σ + 1 = b + 4 + x / 2 := by omega
        have h42 : ¬ (42 = x % 2) := by omega
        refine ⟨?_, by omega, ?_, ?_⟩
        · exact if_pos ⟨rfl, rfl⟩
        · exact if_pos rfl
        · have e42 : gr (sr (sr (si (si (nw σ 2 3) 40 (hs σ + 1) k) 41 (hs σ + 1) i) 42 (hs σ + 1) (gr σ (x % 2) (b + 4 + x / 2))) (x % 2) (b + 4 + x / 2) (hs σ + 1)) 42 (hs σ + 1) = gr σ (x % 2) (b + 4 + x / 2) := by
            exact (if_neg (fun (q : 42 = x % 2 ∧ hs σ + 1 = b + 4 + x / 2) => h42 q.1)).trans (if_pos ⟨rfl, rfl⟩)
          rw [e42]
          exact ch0
      · rw [va_up_self, List.map_cons, kv0]
        unfold aPush
        simp only [zsc_usc, zlk_usc, ztf_usc, zl_usc, zow_usc, zlp_usc, zne_usc, zsc_ulk, zlk_ulk, ztf_ulk, zl_ulk, zow_ulk, zlp_ulk, zne_ulk, zsc_utf, zlk_utf, ztf_utf, zl_utf, zow_utf, zlp_utf, zne_utf, zsc_ul, zlk_ul, ztf_ul, zl_ul, zow_ul, zlp_ul, zne_ul, zsc_uow, zlk_uow, ztf_uow, zl_uow, zow_uow, zlp_uow, zne_uow, zsc_ulp, zlk_ulp, ztf_ulp, zl_ulp, zow_ulp, zlp_ulp, zne_ulp, zsc_une, zlk_une, ztf_une, zl_une, zow_une, zlp_une, zne_une, if_true]
        congr 1
        unfold kv
        simp only [gi_si, gi_sr, gi_sai, gi_sar, gr_si, gr_sr, gr_sai, gr_sar, ai_si, ai_sr, ai_sai, ai_sar, ar_si, ar_sr, ar_sai, ar_sar, kd_si, kd_sr, kd_sai, kd_sar, ln_si, ln_sr, ln_sai, ln_sar, hs_si, hs_sr, hs_sai, hs_sar, ns_si, ns_sr, ns_sai, ns_sar]
        simp
      · rw [va_up_self] at ha
        show b + 312 < a ∧ a ≤ hs σ + 1 ∧ (if a = hs σ + 1 then x else ow a) = x
        rcases List.mem_cons.mp ha with rfl | ha
        · exact ⟨by omega, Nat.le_refl _, if_pos rfl⟩
        · obtain ⟨x1, x2, x3⟩ := c3 a ha
          exact ⟨x1, by omega, by rw [if_neg (by omega)]; exact x3⟩
      · rw [va_up_self]
        exact List.nodup_cons.mpr ⟨nin, c4⟩
    · refine ⟨?_, ?_, fun a ha => ?_, ?_⟩
      · rw [va_up_ne _ _ e]
        have e0 : gr (sr (sr (si (si (nw σ 2 3) 40 (hs σ + 1) k) 41 (hs σ + 1) i) 42 (hs σ + 1) (gr σ (d % 2) (b + 4 + d / 2))) (d % 2) (b + 4 + d / 2) (hs σ + 1)) (x % 2) (b + 4 + x / 2) = gr σ (x % 2) (b + 4 + x / 2) := by
          simp only [gi_si, gi_sr, gi_sai, gi_sar, gr_si, gr_sr, gr_sai, gr_sar, ai_si, ai_sr, ai_sai, ai_sar, ar_si, ar_sr, ar_sai, ar_sar, kd_si, kd_sr, kd_sai, kd_sar, ln_si, ln_sr, ln_sai, ln_sar, hs_si, hs_sr, hs_sai, hs_sar, ns_si, ns_sr, ns_sai, ns_sar, gi_nw, gr_nw, ai_nw, ar_nw, kd_nw, ln_nw, hs_nw, ns_nw]
          rw [if_neg (by omega), if_neg (by omega), if_neg (by omega)]
        rw [e0]
        exact ch0
      · rw [va_up_ne _ _ e, kv0]
        unfold aPush
        simp only [zsc_usc, zlk_usc, ztf_usc, zl_usc, zow_usc, zlp_usc, zne_usc, zsc_ulk, zlk_ulk, ztf_ulk, zl_ulk, zow_ulk, zlp_ulk, zne_ulk, zsc_utf, zlk_utf, ztf_utf, zl_utf, zow_utf, zlp_utf, zne_utf, zsc_ul, zlk_ul, ztf_ul, zl_ul, zow_ul, zlp_ul, zne_ul, zsc_uow, zlk_uow, ztf_uow, zl_uow, zow_uow, zlp_uow, zne_uow, zsc_ulp, zlk_ulp, ztf_ulp, zl_ulp, zow_ulp, zlp_ulp, zne_ulp, zsc_une, zlk_une, ztf_une, zl_une, zow_une, zlp_une, zne_une, if_neg e]
      · rw [va_up_ne _ _ e] at ha
        show b + 312 < a ∧ a ≤ hs σ + 1 ∧ (if a = hs σ + 1 then d else ow a) = x
        obtain ⟨x1, x2, x3⟩ := c3 a ha
        exact ⟨x1, by omega, by rw [if_neg (by omega)]; exact x3⟩
      · rw [va_up_ne _ _ e]; exact c4
theorem push_cst {d : Nat} (k i : Int32) (C v w : Nat) : Cst b σ (sr (sr (si (si (nw σ 2 3) 40 (hs σ + 1) k) 41 (hs σ + 1) i) 42 (hs σ + 1) v) (d % 2) C w) := ((((Cst.rf.nw).si (by decide)).si (by decide)).sr (by omega)).sr (by omega)
theorem rc_addData (h : RC b A σ) {c : Nat} (hc : c < 256) (k i : Int32) : ∃ τ, F_X3_addData (b + 2) (b + 4 + c) k i σ = some ((), τ) ∧ RC b (aAdd A (2 * c) k i) τ ∧ Cst b σ τ := by
  have hz := h.sz
  have h1 := rc_push h (d := 2 * c) (by omega) k i
  rw [show 2 * c % 2 = 0 by omega, show 2 * c / 2 = c by omega] at h1
  obtain ⟨τ, e1, e2, e3⟩ := rc_line h1 1
  refine ⟨τ, ?_, e2, (push_cst (d := 0) k i (b + 4 + c) _ _).tr e3⟩
  have q1 : ¬ b + 4 + c = hs σ + 1 := by omega
  have q2 : ¬ b + 2 = hs σ + 1 := by omega
  have g0 : gr (nw σ 2 3) 0 (b + 4 + c) = gr σ 0 (b + 4 + c) := by rw [gr_nw, if_neg q1]
  unfold F_X3_addData lt1 F_X1_init
  show (if kd (nw σ 2 3) (b + 4 + c) = 1 then _ else none) = some ((), τ)
  rw [if_pos (by rw [kd_nw, if_neg q1]; exact h.kc hc), if_pos (kd_nw_self σ 2 3)]
  show (if kd _ (b + 4 + c) = 1 then _ else none) = _
  rw [g0, if_pos (by simp only [gi_si, gi_sr, gi_sai, gi_sar, gr_si, gr_sr, gr_sai, gr_sar, ai_si, ai_sr, ai_sai, ai_sar, ar_si, ar_sr, ar_sai, ar_sar, kd_si, kd_sr, kd_sai, kd_sar, ln_si, ln_sr, ln_sai, ln_sar, hs_si, hs_sr, hs_sai, hs_sar, ns_si, ns_sr, ns_sai, ns_sar, gi_nw, gr_nw, ai_nw, ar_nw, kd_nw, ln_nw, hs_nw, ns_nw]; rw [if_neg q1]; exact h.kc hc), if_pos h1.kt, bd_eq e1]
theorem rc_addWrite (h : RC b A σ) {c : Nat} (hc : c < 256) (k i : Int32) : ∃ τ, F_X3_addWrite (b + 2) (b + 4 + c) k i σ = some ((), τ) ∧ RC b (aAdd A (2 * c + 1) k i) τ ∧ Cst b σ τ := by
  have hz := h.sz
  have h1 := rc_push h (d := 2 * c + 1) (by omega) k i
  rw [show (2 * c + 1) % 2 = 1 by omega, show (2 * c + 1) / 2 = c by omega] at h1
  obtain ⟨τ, e1, e2, e3⟩ := rc_line h1 1
  refine ⟨τ, ?_, e2, (push_cst (d := 1) k i (b + 4 + c) _ _).tr e3⟩
  have q1 : ¬ b + 4 + c = hs σ + 1 := by omega
  have q2 : ¬ b + 2 = hs σ + 1 := by omega
  have g0 : gr (nw σ 2 3) 1 (b + 4 + c) = gr σ 1 (b + 4 + c) := by rw [gr_nw, if_neg q1]
  unfold F_X3_addWrite lt1 F_X1_init
  show (if kd (nw σ 2 3) (b + 4 + c) = 1 then _ else none) = some ((), τ)
  rw [if_pos (by rw [kd_nw, if_neg q1]; exact h.kc hc), if_pos (kd_nw_self σ 2 3)]
  show (if kd _ (b + 4 + c) = 1 then _ else none) = _
  rw [g0, if_pos (by simp only [gi_si, gi_sr, gi_sai, gi_sar, gr_si, gr_sr, gr_sai, gr_sar, ai_si, ai_sr, ai_sai, ai_sar, ar_si, ar_sr, ar_sai, ar_sar, kd_si, kd_sr, kd_sai, kd_sar, ln_si, ln_sr, ln_sai, ln_sar, hs_si, hs_sr, hs_sai, hs_sar, ns_si, ns_sr, ns_sai, ns_sar, gi_nw, gr_nw, ai_nw, ar_nw, kd_nw, ln_nw, hs_nw, ns_nw]; rw [if_neg q1]; exact h.kc hc), if_pos h1.kt, bd_eq e1]
end
