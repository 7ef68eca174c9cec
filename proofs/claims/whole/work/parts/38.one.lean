/-! ONE SCALAR, ONE FIELD OF A CLIENT (class) -/
section
variable {b n : Nat} {A : AS} {σ : HS}
theorem rc_sc0 (h : RC b A σ) (v : Int32) : RC b (usc A 0 v) (si σ 203 (b + 1) v) := by
  have hz := h.sz
  obtain ⟨h1, ⟨a1, a2, a3, a4, a5, a6, a7, a8, a9, a10, a11, a12, a13⟩, h3, h4, h5⟩ := h
  refine ⟨h1.keep (Cst.rf.si (by decide)), ?_, h3.keep hz (Ag.rf.si (by decide)), h4.keep hz (Ag.rf.si (by decide)) (fun _ _ _ => rfl), h5.keep hz (Ag.rf.si (by decide)) (fun _ _ => rfl) (fun _ _ _ _ => rfl)⟩
  unfold Rsc
  simp only [gi_si, gi_sr, gi_sai, gi_sar, gr_si, gr_sr, gr_sai, gr_sar, ai_si, ai_sr, ai_sai, ai_sar, ar_si, ar_sr, ar_sai, ar_sar, kd_si, kd_sr, kd_sai, kd_sar, ln_si, ln_sr, ln_sai, ln_sar, hs_si, hs_sr, hs_sai, hs_sar, ns_si, ns_sr, ns_sai, ns_sar, zsc_usc, zlk_usc, ztf_usc, zl_usc, zow_usc, zlp_usc, zne_usc, zsc_ulk, zlk_ulk, ztf_ulk, zl_ulk, zow_ulk, zlp_ulk, zne_ulk, zsc_utf, zlk_utf, ztf_utf, zl_utf, zow_utf, zlp_utf, zne_utf, zsc_ul, zlk_ul, ztf_ul, zl_ul, zow_ul, zlp_ul, zne_ul, zsc_uow, zlk_uow, ztf_uow, zl_uow, zow_uow, zlp_uow, zne_uow, zsc_ulp, zlk_ulp, ztf_ulp, zl_ulp, zow_ulp, zlp_ulp, zne_ulp, zsc_une, zlk_une, ztf_une, zl_une, zow_une, zlp_une, zne_une]
  simp [a1, a2, a3, a4, a5, a6, a7, a8, a9, a10, a11, a12, a13]
theorem rc_sc1 (h : RC b A σ) (v : Int32) : RC b (usc A 1 v) (si σ 204 (b + 1) v) := by
  have hz := h.sz
  obtain ⟨h1, ⟨a1, a2, a3, a4, a5, a6, a7, a8, a9, a10, a11, a12, a13⟩, h3, h4, h5⟩ := h
  refine ⟨h1.keep (Cst.rf.si (by decide)), ?_, h3.keep hz (Ag.rf.si (by decide)), h4.keep hz (Ag.rf.si (by decide)) (fun _ _ _ => rfl), h5.keep hz (Ag.rf.si (by decide)) (fun _ _ => rfl) (fun _ _ _ _ => rfl)⟩
  unfold Rsc
  simp only [gi_si, gi_sr, gi_sai, gi_sar, gr_si, gr_sr, gr_sai, gr_sar, ai_si, ai_sr, ai_sai, ai_sar, ar_si, ar_sr, ar_sai, ar_sar, kd_si, kd_sr, kd_sai, kd_sar, ln_si, ln_sr, ln_sai, ln_sar, hs_si, hs_sr, hs_sai, hs_sar, ns_si, ns_sr, ns_sai, ns_sar, zsc_usc, zlk_usc, ztf_usc, zl_usc, zow_usc, zlp_usc, zne_usc, zsc_ulk, zlk_ulk, ztf_ulk, zl_ulk, zow_ulk, zlp_ulk, zne_ulk, zsc_utf, zlk_utf, ztf_utf, zl_utf, zow_utf, zlp_utf, zne_utf, zsc_ul, zlk_ul, ztf_ul, zl_ul, zow_ul, zlp_ul, zne_ul, zsc_uow, zlk_uow, ztf_uow, zl_uow, zow_uow, zlp_uow, zne_uow, zsc_ulp, zlk_ulp, ztf_ulp, zl_ulp, zow_ulp, zlp_ulp, zne_ulp, zsc_une, zlk_une, ztf_une, zl_une, zow_une, zlp_une, zne_une]
  simp [a1, a2, a3, a4, a5, a6, a7, a8, a9, a10, a11, a12, a13]
theorem rc_sc2 (h : RC b A σ) (v : Int32) : RC b (usc A 2 v) (si σ 205 (b + 1) v) := by
  have hz := h.sz
  obtain ⟨h1, ⟨a1, a2, a3, a4, a5, a6, a7, a8, a9, a10, a11, a12, a13⟩, h3, h4, h5⟩ := h
  refine ⟨h1.keep (Cst.rf.si (by decide)), ?_, h3.keep hz (Ag.rf.si (by decide)), h4.keep hz (Ag.rf.si (by decide)) (fun _ _ _ => rfl), h5.keep hz (Ag.rf.si (by decide)) (fun _ _ => rfl) (fun _ _ _ _ => rfl)⟩
  unfold Rsc
  simp only [gi_si, gi_sr, gi_sai, gi_sar, gr_si, gr_sr, gr_sai, gr_sar, ai_si, ai_sr, ai_sai, ai_sar, ar_si, ar_sr, ar_sai, ar_sar, kd_si, kd_sr, kd_sai, kd_sar, ln_si, ln_sr, ln_sai, ln_sar, hs_si, hs_sr, hs_sai, hs_sar, ns_si, ns_sr, ns_sai, ns_sar, zsc_usc, zlk_usc, ztf_usc, zl_usc, zow_usc, zlp_usc, zne_usc, zsc_ulk, zlk_ulk, ztf_ulk, zl_ulk, zow_ulk, zlp_ulk, zne_ulk, zsc_utf, zlk_utf, ztf_utf, zl_utf, zow_utf, zlp_utf, zne_utf, zsc_ul, zlk_ul, ztf_ul, zl_ul, zow_ul, zlp_ul, zne_ul, zsc_uow, zlk_uow, ztf_uow, zl_uow, zow_uow, zlp_uow, zne_uow, zsc_ulp, zlk_ulp, ztf_ulp, zl_ulp, zow_ulp, zlp_ulp, zne_ulp, zsc_une, zlk_une, ztf_une, zl_une, zow_une, zlp_une, zne_une]
  simp [a1, a2, a3, a4, a5, a6, a7, a8, a9, a10, a11, a12, a13]
theorem rc_sc3 (h : RC b A σ) (v : Int32) : RC b (usc A 3 v) (si σ 80 (b + 260) v) := by
  have hz := h.sz
  obtain ⟨h1, ⟨a1, a2, a3, a4, a5, a6, a7, a8, a9, a10, a11, a12, a13⟩, h3, h4, h5⟩ := h
  refine ⟨h1.keep (Cst.rf.si (by decide)), ?_, h3.keep hz (Ag.rf.si (by decide)), h4.keep hz (Ag.rf.si (by decide)) (fun _ _ _ => rfl), h5.keep hz (Ag.rf.si (by decide)) (fun _ _ => rfl) (fun _ _ _ _ => rfl)⟩
  unfold Rsc
  simp only [gi_si, gi_sr, gi_sai, gi_sar, gr_si, gr_sr, gr_sai, gr_sar, ai_si, ai_sr, ai_sai, ai_sar, ar_si, ar_sr, ar_sai, ar_sar, kd_si, kd_sr, kd_sai, kd_sar, ln_si, ln_sr, ln_sai, ln_sar, hs_si, hs_sr, hs_sai, hs_sar, ns_si, ns_sr, ns_sai, ns_sar, zsc_usc, zlk_usc, ztf_usc, zl_usc, zow_usc, zlp_usc, zne_usc, zsc_ulk, zlk_ulk, ztf_ulk, zl_ulk, zow_ulk, zlp_ulk, zne_ulk, zsc_utf, zlk_utf, ztf_utf, zl_utf, zow_utf, zlp_utf, zne_utf, zsc_ul, zlk_ul, ztf_ul, zl_ul, zow_ul, zlp_ul, zne_ul, zsc_uow, zlk_uow, ztf_uow, zl_uow, zow_uow, zlp_uow, zne_uow, zsc_ulp, zlk_ulp, ztf_ulp, zl_ulp, zow_ulp, zlp_ulp, zne_ulp, zsc_une, zlk_une, ztf_une, zl_une, zow_une, zlp_une, zne_une]
  simp [a1, a2, a3, a4, a5, a6, a7, a8, a9, a10, a11, a12, a13]
theorem rc_sc4 (h : RC b A σ) (v : Int32) : RC b (usc A 4 v) (si σ 81 (b + 260) v) := by
  have hz := h.sz
  obtain ⟨h1, ⟨a1, a2, a3, a4, a5, a6, a7, a8, a9, a10, a11, a12, a13⟩, h3, h4, h5⟩ := h
  refine ⟨h1.keep (Cst.rf.si (by decide)), ?_, h3.keep hz (Ag.rf.si (by decide)), h4.keep hz (Ag.rf.si (by decide)) (fun _ _ _ => rfl), h5.keep hz (Ag.rf.si (by decide)) (fun _ _ => rfl) (fun _ _ _ _ => rfl)⟩
  unfold Rsc
  simp only [gi_si, gi_sr, gi_sai, gi_sar, gr_si, gr_sr, gr_sai, gr_sar, ai_si, ai_sr, ai_sai, ai_sar, ar_si, ar_sr, ar_sai, ar_sar, kd_si, kd_sr, kd_sai, kd_sar, ln_si, ln_sr, ln_sai, ln_sar, hs_si, hs_sr, hs_sai, hs_sar, ns_si, ns_sr, ns_sai, ns_sar, zsc_usc, zlk_usc, ztf_usc, zl_usc, zow_usc, zlp_usc, zne_usc, zsc_ulk, zlk_ulk, ztf_ulk, zl_ulk, zow_ulk, zlp_ulk, zne_ulk, zsc_utf, zlk_utf, ztf_utf, zl_utf, zow_utf, zlp_utf, zne_utf, zsc_ul, zlk_ul, ztf_ul, zl_ul, zow_ul, zlp_ul, zne_ul, zsc_uow, zlk_uow, ztf_uow, zl_uow, zow_uow, zlp_uow, zne_uow, zsc_ulp, zlk_ulp, ztf_ulp, zl_ulp, zow_ulp, zlp_ulp, zne_ulp, zsc_une, zlk_une, ztf_une, zl_une, zow_une, zlp_une, zne_une]
  simp [a1, a2, a3, a4, a5, a6, a7, a8, a9, a10, a11, a12, a13]
theorem rc_sc5 (h : RC b A σ) (v : Int32) : RC b (usc A 5 v) (si σ 82 (b + 260) v) := by
  have hz := h.sz
  obtain ⟨h1, ⟨a1, a2, a3, a4, a5, a6, a7, a8, a9, a10, a11, a12, a13⟩, h3, h4, h5⟩ := h
  refine ⟨h1.keep (Cst.rf.si (by decide)), ?_, h3.keep hz (Ag.rf.si (by decide)), h4.keep hz (Ag.rf.si (by decide)) (fun _ _ _ => rfl), h5.keep hz (Ag.rf.si (by decide)) (fun _ _ => rfl) (fun _ _ _ _ => rfl)⟩
  unfold Rsc
  simp only [gi_si, gi_sr, gi_sai, gi_sar, gr_si, gr_sr, gr_sai, gr_sar, ai_si, ai_sr, ai_sai, ai_sar, ar_si, ar_sr, ar_sai, ar_sar, kd_si, kd_sr, kd_sai, kd_sar, ln_si, ln_sr, ln_sai, ln_sar, hs_si, hs_sr, hs_sai, hs_sar, ns_si, ns_sr, ns_sai, ns_sar, zsc_usc, zlk_usc, ztf_usc, zl_usc, zow_usc, zlp_usc, zne_usc, zsc_ulk, zlk_ulk, ztf_ulk, zl_ulk, zow_ulk, zlp_ulk, zne_ulk, zsc_utf, zlk_utf, ztf_utf, zl_utf, zow_utf, zlp_utf, zne_utf, zsc_ul, zlk_ul, ztf_ul, zl_ul, zow_ul, zlp_ul, zne_ul, zsc_uow, zlk_uow, ztf_uow, zl_uow, zow_uow, zlp_uow, zne_uow, zsc_ulp, zlk_ulp, ztf_ulp, zl_ulp, zow_ulp, zlp_ulp, zne_ulp, zsc_une, zlk_une, ztf_une, zl_une, zow_une, zlp_une, zne_une]
  simp [a1, a2, a3, a4, a5, a6, a7, a8, a9, a10, a11, a12, a13]
theorem rc_sc6 (h : RC b A σ) (v : Int32) : RC b (usc A 6 v) (si σ 121 (b + 2) v) := by
  have hz := h.sz
  obtain ⟨h1, ⟨a1, a2, a3, a4, a5, a6, a7, a8, a9, a10, a11, a12, a13⟩, h3, h4, h5⟩ := h
  refine ⟨h1.keep (Cst.rf.si (by decide)), ?_, h3.keep hz (Ag.rf.si (by decide)), h4.keep hz (Ag.rf.si (by decide)) (fun _ _ _ => rfl), h5.keep hz (Ag.rf.si (by decide)) (fun _ _ => rfl) (fun _ _ _ _ => rfl)⟩
  unfold Rsc
  simp only [gi_si, gi_sr, gi_sai, gi_sar, gr_si, gr_sr, gr_sai, gr_sar, ai_si, ai_sr, ai_sai, ai_sar, ar_si, ar_sr, ar_sai, ar_sar, kd_si, kd_sr, kd_sai, kd_sar, ln_si, ln_sr, ln_sai, ln_sar, hs_si, hs_sr, hs_sai, hs_sar, ns_si, ns_sr, ns_sai, ns_sar, zsc_usc, zlk_usc, ztf_usc, zl_usc, zow_usc, zlp_usc, zne_usc, zsc_ulk, zlk_ulk, ztf_ulk, zl_ulk, zow_ulk, zlp_ulk, zne_ulk, zsc_utf, zlk_utf, ztf_utf, zl_utf, zow_utf, zlp_utf, zne_utf, zsc_ul, zlk_ul, ztf_ul, zl_ul, zow_ul, zlp_ul, zne_ul, zsc_uow, zlk_uow, ztf_uow, zl_uow, zow_uow, zlp_uow, zne_uow, zsc_ulp, zlk_ulp, ztf_ulp, zl_ulp, zow_ulp, zlp_ulp, zne_ulp, zsc_une, zlk_une, ztf_une, zl_une, zow_une, zlp_une, zne_une]
  simp [a1, a2, a3, a4, a5, a6, a7, a8, a9, a10, a11, a12, a13]
theorem rc_sc7 (h : RC b A σ) (v : Int32) : RC b (usc A 7 v) (si σ 122 (b + 2) v) := by
  have hz := h.sz
  obtain ⟨h1, ⟨a1, a2, a3, a4, a5, a6, a7, a8, a9, a10, a11, a12, a13⟩, h3, h4, h5⟩ := h
  refine ⟨h1.keep (Cst.rf.si (by decide)), ?_, h3.keep hz (Ag.rf.si (by decide)), h4.keep hz (Ag.rf.si (by decide)) (fun _ _ _ => rfl), h5.keep hz (Ag.rf.si (by decide)) (fun _ _ => rfl) (fun _ _ _ _ => rfl)⟩
  unfold Rsc
  simp only [gi_si, gi_sr, gi_sai, gi_sar, gr_si, gr_sr, gr_sai, gr_sar, ai_si, ai_sr, ai_sai, ai_sar, ar_si, ar_sr, ar_sai, ar_sar, kd_si, kd_sr, kd_sai, kd_sar, ln_si, ln_sr, ln_sai, ln_sar, hs_si, hs_sr, hs_sai, hs_sar, ns_si, ns_sr, ns_sai, ns_sar, zsc_usc, zlk_usc, ztf_usc, zl_usc, zow_usc, zlp_usc, zne_usc, zsc_ulk, zlk_ulk, ztf_ulk, zl_ulk, zow_ulk, zlp_ulk, zne_ulk, zsc_utf, zlk_utf, ztf_utf, zl_utf, zow_utf, zlp_utf, zne_utf, zsc_ul, zlk_ul, ztf_ul, zl_ul, zow_ul, zlp_ul, zne_ul, zsc_uow, zlk_uow, ztf_uow, zl_uow, zow_uow, zlp_uow, zne_uow, zsc_ulp, zlk_ulp, ztf_ulp, zl_ulp, zow_ulp, zlp_ulp, zne_ulp, zsc_une, zlk_une, ztf_une, zl_une, zow_une, zlp_une, zne_une]
  simp [a1, a2, a3, a4, a5, a6, a7, a8, a9, a10, a11, a12, a13]
theorem rc_sc8 (h : RC b A σ) (v : Int32) : RC b (usc A 8 v) (si σ 123 (b + 2) v) := by
  have hz := h.sz
  obtain ⟨h1, ⟨a1, a2, a3, a4, a5, a6, a7, a8, a9, a10, a11, a12, a13⟩, h3, h4, h5⟩ := h
  refine ⟨h1.keep (Cst.rf.si (by decide)), ?_, h3.keep hz (Ag.rf.si (by decide)), h4.keep hz (Ag.rf.si (by decide)) (fun _ _ _ => rfl), h5.keep hz (Ag.rf.si (by decide)) (fun _ _ => rfl) (fun _ _ _ _ => rfl)⟩
  unfold Rsc
  simp only [gi_si, gi_sr, gi_sai, gi_sar, gr_si, gr_sr, gr_sai, gr_sar, ai_si, ai_sr, ai_sai, ai_sar, ar_si, ar_sr, ar_sai, ar_sar, kd_si, kd_sr, kd_sai, kd_sar, ln_si, ln_sr, ln_sai, ln_sar, hs_si, hs_sr, hs_sai, hs_sar, ns_si, ns_sr, ns_sai, ns_sar, zsc_usc, zlk_usc, ztf_usc, zl_usc, zow_usc, zlp_usc, zne_usc, zsc_ulk, zlk_ulk, ztf_ulk, zl_ulk, zow_ulk, zlp_ulk, zne_ulk, zsc_utf, zlk_utf, ztf_utf, zl_utf, zow_utf, zlp_utf, zne_utf, zsc_ul, zlk_ul, ztf_ul, zl_ul, zow_ul, zlp_ul, zne_ul, zsc_uow, zlk_uow, ztf_uow, zl_uow, zow_uow, zlp_uow, zne_uow, zsc_ulp, zlk_ulp, ztf_ulp, zl_ulp, zow_ulp, zlp_ulp, zne_ulp, zsc_une, zlk_une, ztf_une, zl_une, zow_une, zlp_une, zne_une]
  simp [a1, a2, a3, a4, a5, a6, a7, a8, a9, a10, a11, a12, a13]
theorem rc_sc9 (h : RC b A σ) (v : Int32) : RC b (usc A 9 v) (si σ 124 (b + 2) v) := by
  have hz := h.sz
  obtain ⟨h1, ⟨a1, a2, a3, a4, a5, a6, a7, a8, a9, a10, a11, a12, a13⟩, h3, h4, h5⟩ := h
  refine ⟨h1.keep (Cst.rf.si (by decide)), ?_, h3.keep hz (Ag.rf.si (by decide)), h4.keep hz (Ag.rf.si (by decide)) (fun _ _ _ => rfl), h5.keep hz (Ag.rf.si (by decide)) (fun _ _ => rfl) (fun _ _ _ _ => rfl)⟩
  unfold Rsc
  simp only [gi_si, gi_sr, gi_sai, gi_sar, gr_si, gr_sr, gr_sai, gr_sar, ai_si, ai_sr, ai_sai, ai_sar, ar_si, ar_sr, ar_sai, ar_sar, kd_si, kd_sr, kd_sai, kd_sar, ln_si, ln_sr, ln_sai, ln_sar, hs_si, hs_sr, hs_sai, hs_sar, ns_si, ns_sr, ns_sai, ns_sar, zsc_usc, zlk_usc, ztf_usc, zl_usc, zow_usc, zlp_usc, zne_usc, zsc_ulk, zlk_ulk, ztf_ulk, zl_ulk, zow_ulk, zlp_ulk, zne_ulk, zsc_utf, zlk_utf, ztf_utf, zl_utf, zow_utf, zlp_utf, zne_utf, zsc_ul, zlk_ul, ztf_ul, zl_ul, zow_ul, zlp_ul, zne_ul, zsc_uow, zlk_uow, ztf_uow, zl_uow, zow_uow, zlp_uow, zne_uow, zsc_ulp, zlk_ulp, ztf_ulp, zl_ulp, zow_ulp, zlp_ulp, zne_ulp, zsc_une, zlk_une, ztf_une, zl_une, zow_une, zlp_une, zne_une]
  simp [a1, a2, a3, a4, a5, a6, a7, a8, a9, a10, a11, a12, a13]
theorem rc_tf0 (h : RC b A σ) {k : Nat} (hk : k < 8) (v : Int32) : RC b (utf A 0 k v) (si σ 160 (b + 262 + 4 * k) v) := by
  have hz := h.sz
  obtain ⟨h1, h2, h3, h4, h5⟩ := h
  refine ⟨h1.keep (Cst.rf.si (by decide)), h2.keep hz (Ag.rf.si (by decide)) rfl rfl, h3.keep hz (Ag.rf.si (by decide)), fun x hx => ?_, h5.keep hz (Ag.rf.si (by decide)) (fun _ _ => rfl) (fun _ _ _ _ => rfl)⟩
  obtain ⟨a1, a2, a3, a4, a5, a6, a7, a8, a9, a10⟩ := h4 x hx
  simp only [gi_si, gi_sr, gi_sai, gi_sar, gr_si, gr_sr, gr_sai, gr_sar, ai_si, ai_sr, ai_sai, ai_sar, ar_si, ar_sr, ar_sai, ar_sar, kd_si, kd_sr, kd_sai, kd_sar, ln_si, ln_sr, ln_sai, ln_sar, hs_si, hs_sr, hs_sai, hs_sar, ns_si, ns_sr, ns_sai, ns_sar, zsc_usc, zlk_usc, ztf_usc, zl_usc, zow_usc, zlp_usc, zne_usc, zsc_ulk, zlk_ulk, ztf_ulk, zl_ulk, zow_ulk, zlp_ulk, zne_ulk, zsc_utf, zlk_utf, ztf_utf, zl_utf, zow_utf, zlp_utf, zne_utf, zsc_ul, zlk_ul, ztf_ul, zl_ul, zow_ul, zlp_ul, zne_ul, zsc_uow, zlk_uow, ztf_uow, zl_uow, zow_uow, zlp_uow, zne_uow, zsc_ulp, zlk_ulp, ztf_ulp, zl_ulp, zow_ulp, zlp_ulp, zne_ulp, zsc_une, zlk_une, ztf_une, zl_une, zow_une, zlp_une, zne_une]
  by_cases e : x = k
  · subst e
    simp [a1, a2, a3, a4, a5, a6, a7, a9]
    exact ⟨fun i q w hq => a8 i (q, w) hq, a10⟩
  · have e2 : ¬ 4 * x = 4 * k := by omega
    simp [e, e2, a1, a2, a3, a4, a5, a6, a7, a9]
    exact ⟨fun i q w hq => a8 i (q, w) hq, a10⟩
theorem rc_tf1 (h : RC b A σ) {k : Nat} (hk : k < 8) (v : Int32) : RC b (utf A 1 k v) (si σ 161 (b + 262 + 4 * k) v) := by
  have hz := h.sz
  obtain ⟨h1, h2, h3, h4, h5⟩ := h
  refine ⟨h1.keep (Cst.rf.si (by decide)), h2.keep hz (Ag.rf.si (by decide)) rfl rfl, h3.keep hz (Ag.rf.si (by decide)), fun x hx => ?_, h5.keep hz (Ag.rf.si (by decide)) (fun _ _ => rfl) (fun _ _ _ _ => rfl)⟩
  obtain ⟨a1, a2, a3, a4, a5, a6, a7, a8, a9, a10⟩ := h4 x hx
  simp only [gi_si, gi_sr, gi_sai, gi_sar, gr_si, gr_sr, gr_sai, gr_sar, ai_si, ai_sr, ai_sai, ai_sar, ar_si, ar_sr, ar_sai, ar_sar, kd_si, kd_sr, kd_sai, kd_sar, ln_si, ln_sr, ln_sai, ln_sar, hs_si, hs_sr, hs_sai, hs_sar, ns_si, ns_sr, ns_sai, ns_sar, zsc_usc, zlk_usc, ztf_usc, zl_usc, zow_usc, zlp_usc, zne_usc, zsc_ulk, zlk_ulk, ztf_ulk, zl_ulk, zow_ulk, zlp_ulk, zne_ulk, zsc_utf, zlk_utf, ztf_utf, zl_utf, zow_utf, zlp_utf, zne_utf, zsc_ul, zlk_ul, ztf_ul, zl_ul, zow_ul, zlp_ul, zne_ul, zsc_uow, zlk_uow, ztf_uow, zl_uow, zow_uow, zlp_uow, zne_uow, zsc_ulp, zlk_ulp, ztf_ulp, zl_ulp, zow_ulp, zlp_ulp, zne_ulp, zsc_une, zlk_une, ztf_une, zl_une, zow_une, zlp_une, zne_une]
  by_cases e : x = k
  · subst e
    simp [a1, a2, a3, a4, a5, a6, a7, a9]
    exact ⟨fun i q w hq => a8 i (q, w) hq, a10⟩
  · have e2 : ¬ 4 * x = 4 * k := by omega
    simp [e, e2, a1, a2, a3, a4, a5, a6, a7, a9]
    exact ⟨fun i q w hq => a8 i (q, w) hq, a10⟩
theorem rc_tf2 (h : RC b A σ) {k : Nat} (hk : k < 8) (v : Int32) : RC b (utf A 2 k v) (si σ 162 (b + 262 + 4 * k) v) := by
  have hz := h.sz
  obtain ⟨h1, h2, h3, h4, h5⟩ := h
  refine ⟨h1.keep (Cst.rf.si (by decide)), h2.keep hz (Ag.rf.si (by decide)) rfl rfl, h3.keep hz (Ag.rf.si (by decide)), fun x hx => ?_, h5.keep hz (Ag.rf.si (by decide)) (fun _ _ => rfl) (fun _ _ _ _ => rfl)⟩
  obtain ⟨a1, a2, a3, a4, a5, a6, a7, a8, a9, a10⟩ := h4 x hx
  simp only [gi_si, gi_sr, gi_sai, gi_sar, gr_si, gr_sr, gr_sai, gr_sar, ai_si, ai_sr, ai_sai, ai_sar, ar_si, ar_sr, ar_sai, ar_sar, kd_si, kd_sr, kd_sai, kd_sar, ln_si, ln_sr, ln_sai, ln_sar, hs_si, hs_sr, hs_sai, hs_sar, ns_si, ns_sr, ns_sai, ns_sar, zsc_usc, zlk_usc, ztf_usc, zl_usc, zow_usc, zlp_usc, zne_usc, zsc_ulk, zlk_ulk, ztf_ulk, zl_ulk, zow_ulk, zlp_ulk, zne_ulk, zsc_utf, zlk_utf, ztf_utf, zl_utf, zow_utf, zlp_utf, zne_utf, zsc_ul, zlk_ul, ztf_ul, zl_ul, zow_ul, zlp_ul, zne_ul, zsc_uow, zlk_uow, ztf_uow, zl_uow, zow_uow, zlp_uow, zne_uow, zsc_ulp, zlk_ulp, ztf_ulp, zl_ulp, zow_ulp, zlp_ulp, zne_ulp, zsc_une, zlk_une, ztf_une, zl_une, zow_une, zlp_une, zne_une]
  by_cases e : x = k
  · subst e
    simp [a1, a2, a3, a4, a5, a6, a7, a9]
    exact ⟨fun i q w hq => a8 i (q, w) hq, a10⟩
  · have e2 : ¬ 4 * x = 4 * k := by omega
    simp [e, e2, a1, a2, a3, a4, a5, a6, a7, a9]
    exact ⟨fun i q w hq => a8 i (q, w) hq, a10⟩
theorem rc_tf3 (h : RC b A σ) {k : Nat} (hk : k < 8) (v : Int32) : RC b (utf A 3 k v) (si σ 163 (b + 262 + 4 * k) v) := by
  have hz := h.sz
  obtain ⟨h1, h2, h3, h4, h5⟩ := h
  refine ⟨h1.keep (Cst.rf.si (by decide)), h2.keep hz (Ag.rf.si (by decide)) rfl rfl, h3.keep hz (Ag.rf.si (by decide)), fun x hx => ?_, h5.keep hz (Ag.rf.si (by decide)) (fun _ _ => rfl) (fun _ _ _ _ => rfl)⟩
  obtain ⟨a1, a2, a3, a4, a5, a6, a7, a8, a9, a10⟩ := h4 x hx
  simp only [gi_si, gi_sr, gi_sai, gi_sar, gr_si, gr_sr, gr_sai, gr_sar, ai_si, ai_sr, ai_sai, ai_sar, ar_si, ar_sr, ar_sai, ar_sar, kd_si, kd_sr, kd_sai, kd_sar, ln_si, ln_sr, ln_sai, ln_sar, hs_si, hs_sr, hs_sai, hs_sar, ns_si, ns_sr, ns_sai, ns_sar, zsc_usc, zlk_usc, ztf_usc, zl_usc, zow_usc, zlp_usc, zne_usc, zsc_ulk, zlk_ulk, ztf_ulk, zl_ulk, zow_ulk, zlp_ulk, zne_ulk, zsc_utf, zlk_utf, ztf_utf, zl_utf, zow_utf, zlp_utf, zne_utf, zsc_ul, zlk_ul, ztf_ul, zl_ul, zow_ul, zlp_ul, zne_ul, zsc_uow, zlk_uow, ztf_uow, zl_uow, zow_uow, zlp_uow, zne_uow, zsc_ulp, zlk_ulp, ztf_ulp, zl_ulp, zow_ulp, zlp_ulp, zne_ulp, zsc_une, zlk_une, ztf_une, zl_une, zow_une, zlp_une, zne_une]
  by_cases e : x = k
  · subst e
    simp [a1, a2, a3, a4, a5, a6, a7, a9]
    exact ⟨fun i q w hq => a8 i (q, w) hq, a10⟩
  · have e2 : ¬ 4 * x = 4 * k := by omega
    simp [e, e2, a1, a2, a3, a4, a5, a6, a7, a9]
    exact ⟨fun i q w hq => a8 i (q, w) hq, a10⟩
theorem rc_tf4 (h : RC b A σ) {k : Nat} (hk : k < 8) (v : Int32) : RC b (utf A 4 k v) (si σ 169 (b + 262 + 4 * k) v) := by
  have hz := h.sz
  obtain ⟨h1, h2, h3, h4, h5⟩ := h
  refine ⟨h1.keep (Cst.rf.si (by decide)), h2.keep hz (Ag.rf.si (by decide)) rfl rfl, h3.keep hz (Ag.rf.si (by decide)), fun x hx => ?_, h5.keep hz (Ag.rf.si (by decide)) (fun _ _ => rfl) (fun _ _ _ _ => rfl)⟩
  obtain ⟨a1, a2, a3, a4, a5, a6, a7, a8, a9, a10⟩ := h4 x hx
  simp only [gi_si, gi_sr, gi_sai, gi_sar, gr_si, gr_sr, gr_sai, gr_sar, ai_si, ai_sr, ai_sai, ai_sar, ar_si, ar_sr, ar_sai, ar_sar, kd_si, kd_sr, kd_sai, kd_sar, ln_si, ln_sr, ln_sai, ln_sar, hs_si, hs_sr, hs_sai, hs_sar, ns_si, ns_sr, ns_sai, ns_sar, zsc_usc, zlk_usc, ztf_usc, zl_usc, zow_usc, zlp_usc, zne_usc, zsc_ulk, zlk_ulk, ztf_ulk, zl_ulk, zow_ulk, zlp_ulk, zne_ulk, zsc_utf, zlk_utf, ztf_utf, zl_utf, zow_utf, zlp_utf, zne_utf, zsc_ul, zlk_ul, ztf_ul, zl_ul, zow_ul, zlp_ul, zne_ul, zsc_uow, zlk_uow, ztf_uow, zl_uow, zow_uow, zlp_uow, zne_uow, zsc_ulp, zlk_ulp, ztf_ulp, zl_ulp, zow_ulp, zlp_ulp, zne_ulp, zsc_une, zlk_une, ztf_une, zl_une, zow_une, zlp_une, zne_une]
  by_cases e : x = k
  · subst e
    simp [a1, a2, a3, a4, a5, a6, a7, a9]
    exact ⟨fun i q w hq => a8 i (q, w) hq, a10⟩
  · have e2 : ¬ 4 * x = 4 * k := by omega
    simp [e, e2, a1, a2, a3, a4, a5, a6, a7, a9]
    exact ⟨fun i q w hq => a8 i (q, w) hq, a10⟩
end
