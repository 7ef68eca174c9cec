/-! ENTRIES THAT GO -/
def Sm (n : Nat) (A : AS) : Prop := ∀ d, (zl A d).length + n < NF
def Rcw (b : Nat) (A : AS) (σ : HS) (CL : Nat → List Nat) (ow : Nat → Nat) : Prop := ∀ d, d < 512 →
  ch σ (gr σ (d % 2) (b + 4 + d / 2)) (CL d) ∧ (CL d).map (kv σ) = zl A d ∧ (∀ a ∈ CL d, b + 312 < a ∧ a ≤ hs σ ∧ ow a = d) ∧ (CL d).Nodup
def hasK (l : List (Int32 × Int32)) (s : Int32) : Bool := l.any (fun q => decide (q.1 = s))
def rmK (l : List (Int32 × Int32)) (s : Int32) : List (Int32 × Int32) := l.eraseP (fun q => decide (q.1 = s))
def aDropData (A : AS) (c : Nat) (s : Int32) : AS := if hasK (zl A (2 * c)) s = true then aDel A (2 * c) (rmK (zl A (2 * c)) s) else A
theorem erase_find {P : Nat → Bool} : ∀ {L : List Nat} {a : Nat}, L.find? P = some a → L.eraseP P = L.erase a
  | [], a, h => by cases h
  | x :: L, a, h => by
    rw [List.find?_cons] at h
    cases e : P x with
    | true => rw [e] at h; cases h; rw [List.eraseP_cons_of_pos e, List.erase_cons_head]
    | false =>
      rw [e] at h
      have hP : P a = true := List.find?_some h
      have hxa : ¬ x = a := fun q => by rw [q, hP] at e; cases e
      rw [List.eraseP_cons_of_neg (by rw [e]; decide), List.erase_cons_tail (by simpa using hxa), erase_find h]
theorem any_find {P : Nat → Bool} {L : List Nat} : L.any P = (L.find? P).isSome := by
  induction L with
  | nil => rfl
  | cons x L ih => rw [List.any_cons, List.find?_cons]; cases P x <;> simp [ih]
section
variable {b n : Nat} {A : AS} {σ : HS} {CL : Nat → List Nat} {ow : Nat → Nat}
theorem Rcw.len (h : Rcw b A σ CL ow) (hS : Sm n A) {d : Nat} (hd : d < 512) : (CL d).length < NF := by
  have := hS d
  rw [← (h d hd).2.1, List.length_map] at this
  omega
theorem rc_unl (h1 : ShC b σ) (h2 : Rsc b A σ) (h3 : Rlk b A σ) (h4 : Rtr b A σ) (h5 : Rcw b A σ CL ow) (hS : Sm n A) {d a : Nat} (hd : d < 512) (ha : a ∈ CL d) :
    ∃ (r : Nat) (τ : HS), F_X1_without (gr σ (d % 2) (b + 4 + d / 2)) a σ = some (r, τ) ∧ Cst b σ τ ∧ (∀ g m, gi τ g m = gi σ g m) ∧ (∀ m, kd τ m = kd σ m) ∧ (gr τ 42 a = gr σ 42 a) ∧ (∀ m, m ∉ CL d → gr τ 42 m = gr σ 42 m) ∧ hs τ = hs σ ∧ ns τ = ns σ ∧ (∀ n i, ai τ n i = ai σ n i) ∧
      ShC b (sr τ (d % 2) (b + 4 + d / 2) r) ∧ Rsc b (ul A d (((CL d).erase a).map (kv σ))) (sr τ (d % 2) (b + 4 + d / 2) r) ∧ Rlk b (ul A d (((CL d).erase a).map (kv σ))) (sr τ (d % 2) (b + 4 + d / 2) r) ∧ Rtr b (ul A d (((CL d).erase a).map (kv σ))) (sr τ (d % 2) (b + 4 + d / 2) r) ∧
      Rcw b (ul A d (((CL d).erase a).map (kv σ))) (sr τ (d % 2) (b + 4 + d / 2) r) (va_up CL d ((CL d).erase a)) ow := by
  obtain ⟨c1, c2, c3, c4⟩ := h5 d hd
  obtain ⟨r, τ, e1, e2, e3⟩ := without_F c1 ha c4 (h5.len hS hd)
  have hz := h1.1
  have kc : Cst b σ τ := by
    rcases e3 with rfl | ⟨x, -, -, rfl⟩
    · exact Cst.rf
    · exact Cst.rf.sr (by omega)
  have kg : ∀ g m, gi τ g m = gi σ g m := by
    rcases e3 with rfl | ⟨x, -, -, rfl⟩ <;> exact fun _ _ => rfl
  have kk : ∀ m, kd τ m = kd σ m := by
    rcases e3 with rfl | ⟨x, -, -, rfl⟩ <;> exact fun _ => rfl
  have kh : hs τ = hs σ := by
    rcases e3 with rfl | ⟨x, -, -, rfl⟩ <;> rfl
  have kn : ns τ = ns σ := by
    rcases e3 with rfl | ⟨x, -, -, rfl⟩ <;> rfl
  have ka : ∀ n i, ai τ n i = ai σ n i := by
    rcases e3 with rfl | ⟨x, -, -, rfl⟩ <;> exact fun _ _ => rfl
  have k42 : gr τ 42 a = gr σ 42 a := by
    rcases e3 with rfl | ⟨x, -, hx, rfl⟩
    · rfl
    · exact if_neg (fun (q : 42 = 42 ∧ a = x) => hx q.2.symm)
  have k43 : ∀ m, m ∉ CL d → gr τ 42 m = gr σ 42 m := by
    rcases e3 with rfl | ⟨x, hx1, hx, rfl⟩
    · exact fun _ _ => rfl
    · exact fun m hm => if_neg (fun (q : 42 = 42 ∧ m = x) => hm (q.2 ▸ hx1))
  have kg2 : ∀ g m, g ≠ 42 → gr τ g m = gr σ g m := by
    rcases e3 with rfl | ⟨x, -, -, rfl⟩
    · exact fun _ _ _ => rfl
    · exact fun g m hg => if_neg (fun (q : g = 42 ∧ m = x) => hg q.1)
  have k2 : Cst b σ (sr τ (d % 2) (b + 4 + d / 2) r) := kc.sr (by omega)
  have ag : ∀ S, Ag S σ (sr τ (d % 2) (b + 4 + d / 2) r) := fun S => ⟨by rw [hs_sr, kh]; exact Nat.le_refl _, fun g _ m _ => kg g m⟩
  refine ⟨r, τ, e1, kc, kg, kk, k42, k43, kh, kn, ka, h1.keep k2, h2.keep hz (ag _) kh kn, h3.keep hz (ag _), h4.keep hz (ag _) (fun n i _ => ka n i), fun x hx => ?_⟩
  obtain ⟨d1, d2, d3, d4⟩ := h5 x hx
  have kvs : ∀ L : List Nat, L.map (kv (sr τ (d % 2) (b + 4 + d / 2) r)) = L.map (kv σ) := fun L => kv_same (fun a _ => ⟨kg _ _, kg _ _⟩)
  by_cases e : x = d
  · subst e
    refine ⟨?_, ?_, fun y hy => ?_, ?_⟩
    · rw [va_up_self, show gr (sr τ (x % 2) (b + 4 + x / 2) r) (x % 2) (b + 4 + x / 2) = r from if_pos ⟨rfl, rfl⟩]
      refine ch_same (σ := τ) _ _ (fun y hy => ⟨rfl, if_neg (fun (q : 42 = x % 2 ∧ y = _) => by omega)⟩) e2
    · rw [va_up_self, kvs]
      simp only [zsc_usc, zlk_usc, ztf_usc, zl_usc, zow_usc, zlp_usc, zne_usc, zsc_ulk, zlk_ulk, ztf_ulk, zl_ulk, zow_ulk, zlp_ulk, zne_ulk, zsc_utf, zlk_utf, ztf_utf, zl_utf, zow_utf, zlp_utf, zne_utf, zsc_ul, zlk_ul, ztf_ul, zl_ul, zow_ul, zlp_ul, zne_ul, zsc_uow, zlk_uow, ztf_uow, zl_uow, zow_uow, zlp_uow, zne_uow, zsc_ulp, zlk_ulp, ztf_ulp, zl_ulp, zow_ulp, zlp_ulp, zne_ulp, zsc_une, zlk_une, ztf_une, zl_une, zow_une, zlp_une, zne_une, if_true]
    · rw [va_up_self] at hy
      rw [hs_sr, kh]
      exact d3 y (List.mem_of_mem_erase hy)
    · rw [va_up_self]
      exact d4.erase a
  · refine ⟨?_, ?_, fun y hy => ?_, ?_⟩
    · rw [va_up_ne _ _ e, show gr (sr τ (d % 2) (b + 4 + d / 2) r) (x % 2) (b + 4 + x / 2) = gr τ (x % 2) (b + 4 + x / 2) from if_neg (fun (q : x % 2 = d % 2 ∧ b + 4 + x / 2 = b + 4 + d / 2) => by omega), kg2 _ _ (by omega)]
      refine ch_same (σ := σ) _ _ (fun y hy => ⟨kk y, ?_⟩) d1
      rw [gr_sr, if_neg (by omega)]
      rcases e3 with rfl | ⟨z, hz1, -, rfl⟩
      · rfl
      · refine if_neg (fun (q : 42 = 42 ∧ y = z) => ?_)
        have w1 := (d3 y hy).2.2
        have w2 := (c3 z hz1).2.2
        rw [q.2] at w1
        exact e (w1.symm.trans w2)
    · rw [va_up_ne _ _ e, kvs]
      simp only [zsc_usc, zlk_usc, ztf_usc, zl_usc, zow_usc, zlp_usc, zne_usc, zsc_ulk, zlk_ulk, ztf_ulk, zl_ulk, zow_ulk, zlp_ulk, zne_ulk, zsc_utf, zlk_utf, ztf_utf, zl_utf, zow_utf, zlp_utf, zne_utf, zsc_ul, zlk_ul, ztf_ul, zl_ul, zow_ul, zlp_ul, zne_ul, zsc_uow, zlk_uow, ztf_uow, zl_uow, zow_uow, zlp_uow, zne_uow, zsc_ulp, zlk_ulp, ztf_ulp, zl_ulp, zow_ulp, zlp_ulp, zne_ulp, zsc_une, zlk_une, ztf_une, zl_une, zow_une, zlp_une, zne_une, if_neg e]
      exact d2
    · rw [va_up_ne _ _ e] at hy
      rw [hs_sr, kh]
      exact d3 y hy
    · rw [va_up_ne _ _ e]; exact d4
theorem rc_dropData (h : RC b A σ) (hS : Sm n A) {c : Nat} (hc : c < 256) (s : Int32) : ∃ τ, F_X3_dropData (b + 2) (b + 4 + c) s σ = some ((), τ) ∧ RC b (aDropData A c s) τ ∧ Cst b σ τ := by
  have h0 := h
  obtain ⟨h1, h2, h3, h4, CL, ow, h5⟩ := h
  have h5 : Rcw b A σ CL ow := h5
  obtain ⟨c1, c2, c3, c4⟩ := h5 (2 * c) (by omega)
  have c1' := c1
  rw [show 2 * c % 2 = 0 by omega, show 2 * c / 2 = c by omega] at c1'
  have hL := h5.len hS (d := 2 * c) (by omega)
  have hh : hasK (zl A (2 * c)) s = ((CL (2 * c)).find? (fun a => decide (gi σ 40 a = s))).isSome := by
    rw [← c2, ← any_find]; unfold hasK; rw [List.any_map]; rfl
  unfold F_X3_dropData aDropData
  rw [if_pos (h0.kc hc), bd_eq (withKey_F c1' hL), hh]
  cases e : (CL (2 * c)).find? (fun a => decide (gi σ 40 a = s)) with
  | none => exact ⟨σ, by simp [B_X3_dropData_30], by simpa using h0, Cst.rf⟩
  | some a =>
    obtain ⟨q1, q2, q3⟩ := find_ch c1' e
    obtain ⟨r, τ, u1, u2, u3, u4, u5, -, u6, -, -, u7, u8, u9, u10, u11⟩ := rc_unl h1 h2 h3 h4 h5 hS (d := 2 * c) (by omega) q3
    rw [show 2 * c % 2 = 0 by omega, show 2 * c / 2 = c by omega] at u1 u7 u8 u9 u10 u11
    have hR : RC b (ul A (2 * c) (((CL (2 * c)).erase a).map (kv σ))) (sr τ 0 (b + 4 + c) r) := ⟨u7, u8, u9, u10, _, _, u11⟩
    obtain ⟨υ, v1, v2, v3⟩ := rc_line hR (-1)
    refine ⟨υ, ?_, ?_, (u2.sr (by omega)).tr v3⟩
    · show (if a = 0 then _ else _) = _
      rw [if_neg q1, if_pos (h0.kc hc), Option.getD_some, bd_eq u1, if_pos (by rw [u4]; exact h0.kc hc), if_pos hR.kt, bd_eq v1]
      rfl
    · have el : ((CL (2 * c)).erase a).map (kv σ) = rmK (zl A (2 * c)) s := by
        unfold rmK
        rw [← c2, List.eraseP_map, ← erase_find e]
        rfl
      rw [el] at v2
      simp only [Option.isSome_some, if_true]
      exact v2
end
