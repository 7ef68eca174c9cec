/-! READS BEHIND WRITES -/
theorem gi_si (σ : HS) (f n : Nat) (v : Int32) (g m : Nat) : gi (si σ f n v) g m = if g = f ∧ m = n then v else gi σ g m := rfl
theorem gr_si (σ : HS) (f n : Nat) (v : Int32) (g m : Nat) : gr (si σ f n v) g m = gr σ g m := rfl
theorem ai_si (σ : HS) (f n : Nat) (v : Int32) (g m : Nat) : ai (si σ f n v) g m = ai σ g m := rfl
theorem ar_si (σ : HS) (f n : Nat) (v : Int32) (g m : Nat) : ar (si σ f n v) g m = ar σ g m := rfl
theorem kd_si (σ : HS) (f n : Nat) (v : Int32) (m : Nat) : kd (si σ f n v) m = kd σ m := rfl
theorem ln_si (σ : HS) (f n : Nat) (v : Int32) (m : Nat) : ln (si σ f n v) m = ln σ m := rfl
theorem hs_si (σ : HS) (f n : Nat) (v : Int32) : hs (si σ f n v) = hs σ := rfl
theorem ns_si (σ : HS) (f n : Nat) (v : Int32) : ns (si σ f n v) = ns σ := rfl
theorem gi_sr (σ : HS) (f n : Nat) (v : Nat) (g m : Nat) : gi (sr σ f n v) g m = gi σ g m := rfl
theorem gr_sr (σ : HS) (f n : Nat) (v : Nat) (g m : Nat) : gr (sr σ f n v) g m = if g = f ∧ m = n then v else gr σ g m := rfl
theorem ai_sr (σ : HS) (f n : Nat) (v : Nat) (g m : Nat) : ai (sr σ f n v) g m = ai σ g m := rfl
theorem ar_sr (σ : HS) (f n : Nat) (v : Nat) (g m : Nat) : ar (sr σ f n v) g m = ar σ g m := rfl
theorem kd_sr (σ : HS) (f n : Nat) (v : Nat) (m : Nat) : kd (sr σ f n v) m = kd σ m := rfl
theorem ln_sr (σ : HS) (f n : Nat) (v : Nat) (m : Nat) : ln (sr σ f n v) m = ln σ m := rfl
theorem hs_sr (σ : HS) (f n : Nat) (v : Nat) : hs (sr σ f n v) = hs σ := rfl
theorem ns_sr (σ : HS) (f n : Nat) (v : Nat) : ns (sr σ f n v) = ns σ := rfl
theorem gi_sai (σ : HS) (f n : Nat) (v : Int32) (g m : Nat) : gi (sai σ f n v) g m = gi σ g m := rfl
theorem gr_sai (σ : HS) (f n : Nat) (v : Int32) (g m : Nat) : gr (sai σ f n v) g m = gr σ g m := rfl
theorem ai_sai (σ : HS) (f n : Nat) (v : Int32) (g m : Nat) : ai (sai σ f n v) g m = if g = f ∧ m = n then v else ai σ g m := rfl
theorem ar_sai (σ : HS) (f n : Nat) (v : Int32) (g m : Nat) : ar (sai σ f n v) g m = ar σ g m := rfl
theorem kd_sai (σ : HS) (f n : Nat) (v : Int32) (m : Nat) : kd (sai σ f n v) m = kd σ m := rfl
theorem ln_sai (σ : HS) (f n : Nat) (v : Int32) (m : Nat) : ln (sai σ f n v) m = ln σ m := rfl
theorem hs_sai (σ : HS) (f n : Nat) (v : Int32) : hs (sai σ f n v) = hs σ := rfl
theorem ns_sai (σ : HS) (f n : Nat) (v : Int32) : ns (sai σ f n v) = ns σ := rfl
theorem gi_sar (σ : HS) (f n : Nat) (v : Nat) (g m : Nat) : gi (sar σ f n v) g m = gi σ g m := rfl
theorem gr_sar (σ : HS) (f n : Nat) (v : Nat) (g m : Nat) : gr (sar σ f n v) g m = gr σ g m := rfl
theorem ai_sar (σ : HS) (f n : Nat) (v : Nat) (g m : Nat) : ai (sar σ f n v) g m = ai σ g m := rfl
theorem ar_sar (σ : HS) (f n : Nat) (v : Nat) (g m : Nat) : ar (sar σ f n v) g m = if g = f ∧ m = n then v else ar σ g m := rfl
theorem kd_sar (σ : HS) (f n : Nat) (v : Nat) (m : Nat) : kd (sar σ f n v) m = kd σ m := rfl
theorem ln_sar (σ : HS) (f n : Nat) (v : Nat) (m : Nat) : ln (sar σ f n v) m = ln σ m := rfl
theorem hs_sar (σ : HS) (f n : Nat) (v : Nat) : hs (sar σ f n v) = hs σ := rfl
theorem ns_sar (σ : HS) (f n : Nat) (v : Nat) : ns (sar σ f n v) = ns σ := rfl
theorem gi_nw (σ : HS) (k L g m : Nat) : gi (nw σ k L) g m = if m = hs σ + 1 then 0 else gi σ g m := rfl
theorem gr_nw (σ : HS) (k L g m : Nat) : gr (nw σ k L) g m = if m = hs σ + 1 then 0 else gr σ g m := rfl
theorem ai_nw (σ : HS) (k L g m : Nat) : ai (nw σ k L) g m = if g = hs σ + 1 then 0 else ai σ g m := rfl
theorem ar_nw (σ : HS) (k L g m : Nat) : ar (nw σ k L) g m = if g = hs σ + 1 then 0 else ar σ g m := rfl
theorem kd_nw (σ : HS) (k L m : Nat) : kd (nw σ k L) m = if m = hs σ + 1 then k else kd σ m := rfl
theorem ln_nw (σ : HS) (k L m : Nat) : ln (nw σ k L) m = if m = hs σ + 1 then L else ln σ m := rfl
theorem hs_nw (σ : HS) (k L : Nat) : hs (nw σ k L) = hs σ + 1 := rfl
theorem ns_nw (σ : HS) (k L : Nat) : ns (nw σ k L) = ns σ + L := rfl
