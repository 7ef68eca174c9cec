/-! TICKETS, ENDS, OWN WRITES (class) -/
def aGive (A : AS) : AS := usc (usc (if zsc A 4 ≤ zsc A 5 then A else usc A 5 (zsc A 5 + 16)) 3 (zsc A 4)) 4 (zsc A 4 + 1)
def aEnd (A : AS) (k : Nat) : AS := utf (uow (utf (utf (utf (utf A 0 k 0) 1 k 0) 2 k 0) 3 k 0) k []) 4 k 0
theorem rws_set {l : List (Nat × Int32)} {j c : Nat} {v : Int32} {q : Nat × Int32} (h : l[j]? = some q) (hc : q.1 = c) : rws (l.set j (c, v)) = rws l := by
  have e : ∀ l : List (Nat × Int32), rws l = (l.map (fun q => q.1)).foldl (fun acc x => if x / 4 ∈ acc then acc else acc ++ [x / 4]) [] := fun l => by
    unfold rws; rw [List.foldl_map]
  rw [e, e, List.map_set]
  congr 1
  apply List.ext_getElem?
  intro i
  rw [List.getElem?_set]
  split
  · rename_i hj
    subst hj
    split
    · rw [List.getElem?_map, h]; simp [hc]
    · rename_i hn
      rw [List.length_map] at hn
      exact absurd (List.getElem?_eq_some_iff.mp h).1 hn
  · rfl
theorem rws_add (l : List (Nat × Int32)) (c : Nat) (v : Int32) : rws (l ++ [(c, v)]) = if c / 4 ∈ rws l then rws l else rws l ++ [c / 4] := by
  unfold rws; rw [List.foldl_append]; rfl
theorem rws_gen (l : List (Nat × Int32)) : ∀ acc : List Nat, (l.foldl (fun acc q => if q.1 / 4 ∈ acc then acc else acc ++ [q.1 / 4]) acc).length ≤ acc.length + l.length ∧ ∀ r ∈ l.foldl (fun acc q => if q.1 / 4 ∈ acc then acc else acc ++ [q.1 / 4]) acc, r ∈ acc ∨ ∃ q ∈ l, r = q.1 / 4 := by
  induction l with
  | nil => intro acc; exact ⟨Nat.le_refl _, fun r hr => Or.inl hr⟩
  | cons q l ih =>
    intro acc
    rw [List.foldl_cons]
    split
    · obtain ⟨h1, h2⟩ := ih acc
      refine ⟨by simp; omega, fun r hr => ?_⟩
      rcases h2 r hr with h3 | ⟨p, h3, h4⟩
      · exact Or.inl h3
      · exact Or.inr ⟨p, List.mem_cons_of_mem _ h3, h4⟩
    · obtain ⟨h1, h2⟩ := ih (acc ++ [q.1 / 4])
      refine ⟨by simp at h1 ⊢; omega, fun r hr => ?_⟩
      rcases h2 r hr with h3 | ⟨p, h3, h4⟩
      · rcases List.mem_append.mp h3 with h3 | h3
        · exact Or.inl h3
        · exact Or.inr ⟨q, List.mem_cons_self, List.mem_singleton.mp h3⟩
      · exact Or.inr ⟨p, List.mem_cons_of_mem _ h3, h4⟩
theorem rws_len (l : List (Nat × Int32)) : (rws l).length ≤ l.length := by
  have := (rws_gen l []).1
  simp at this
  exact this
theorem rws_lt {l : List (Nat × Int32)} (h : ∀ q ∈ l, q.1 < 256) : ∀ r ∈ rws l, r < 64 := by
  intro r hr
  rcases (rws_gen l []).2 r hr with h1 | ⟨q, h1, h2⟩
  · cases h1
  · have := h q h1; omega
section
variable {b n : Nat} {A : AS} {σ : HS}
theorem rc_give (h : RC b A σ) : ∃ τ, F_X2_give (b + 260) σ = some (zsc A 4, τ) ∧ RC b (aGive A) τ ∧ Cst b σ τ := by
  have s4 : gi σ 81 (b + 260) = zsc A 4 := h.2.1.2.2.2.2.1
  have s5 : gi σ 82 (b + 260) = zsc A 5 := h.2.1.2.2.2.2.2.1
  have key : ∀ (A' : AS) (σ' : HS), RC b A' σ' → ∃ τ, B_X2_give_22 (b + 260) σ' = some (zsc A' 4, τ) ∧ RC b (usc (usc A' 3 (zsc A' 4)) 4 (zsc A' 4 + 1)) τ ∧ Cst b σ' τ := by
    intro A' σ' h'
    have t4 : gi σ' 81 (b + 260) = zsc A' 4 := h'.2.1.2.2.2.2.1
    have t4' : gi (si σ' 80 (b + 260) (zsc A' 4)) 81 (b + 260) = zsc A' 4 := t4
    unfold B_X2_give_22
    have t3 : gi (si (si σ' 80 (b + 260) (zsc A' 4)) 81 (b + 260) (zsc A' 4 + 1)) 80 (b + 260) = zsc A' 4 := by
      rw [gi_si, if_neg (fun q => absurd q.1 (by decide)), gi_si, if_pos ⟨rfl, rfl⟩]
    rw [if_pos h'.ko, t4, t4', t3]
    exact ⟨_, rfl, rc_sc4 (rc_sc3 h' _) _, (Cst.rf.si (by decide)).si (by decide)⟩
  unfold F_X2_give aGive
  rw [if_pos h.ko, s4, s5]
  by_cases e : zsc A 4 ≤ zsc A 5
  · rw [if_pos e, if_pos e]
    exact key A σ h
  · rw [if_neg e, if_neg e]
    obtain ⟨τ, a1, a2, a3⟩ := key _ _ (rc_sc5 h (zsc A 5 + 16))
    exact ⟨τ, a1, a2, (Cst.rf.si (by decide)).tr a3⟩
theorem rc_ow0 (h : RC b A σ) {k : Nat} (hk : k < 8) : RC b (uow A k []) (si (si σ 164 (b + 262 + 4 * k) 0) 167 (b + 262 + 4 * k) 0) := by
  have hz := h.sz
  obtain ⟨h1, h2, h3, h4, h5⟩ := h
  refine ⟨h1.keep ((Cst.rf.si (by decide)).si (by decide)), h2.keep hz ((Ag.rf.si (by decide)).si (by decide)) rfl rfl, h3.keep hz ((Ag.rf.si (by decide)).si (by decide)), fun x hx => ?_, h5.keep hz ((Ag.rf.si (by decide)).si (by decide)) (fun _ _ => rfl) (fun _ _ _ _ => rfl)⟩
  obtain ⟨a1, a2, a3, a4, a5, a6, a7, a8, a9, a10⟩ := h4 x hx
  simp only [gi_si, gi_sr, gi_sai, gi_sar, gr_si, gr_sr, gr_sai, gr_sar, ai_si, ai_sr, ai_sai, ai_sar, ar_si, ar_sr, ar_sai, ar_sar, kd_si, kd_sr, kd_sai, kd_sar, ln_si, ln_sr, ln_sai, ln_sar, hs_si, hs_sr, hs_sai, hs_sar, ns_si, ns_sr, ns_sai, ns_sar, zsc_usc, zlk_usc, ztf_usc, zl_usc, zow_usc, zlp_usc, zne_usc, zsc_ulk, zlk_ulk, ztf_ulk, zl_ulk, zow_ulk, zlp_ulk, zne_ulk, zsc_utf, zlk_utf, ztf_utf, zl_utf, zow_utf, zlp_utf, zne_utf, zsc_ul, zlk_ul, ztf_ul, zl_ul, zow_ul, zlp_ul, zne_ul, zsc_uow, zlk_uow, ztf_uow, zl_uow, zow_uow, zlp_uow, zne_uow, zsc_ulp, zlk_ulp, ztf_ulp, zl_ulp, zow_ulp, zlp_ulp, zne_ulp, zsc_une, zlk_une, ztf_une, zl_une, zow_une, zlp_une, zne_une]
  by_cases e : x = k
  · subst e
    simp [a1, a2, a3, a4, a5, rws, nI_0]
  · have e2 : ¬ 4 * x = 4 * k := by omega
    simp [e, e2, a1, a2, a3, a4, a5, a6, a7, a9]
    exact ⟨fun i q w hq => a8 i (q, w) hq, a10⟩
theorem rc_end (h : RC b A σ) {k : Nat} (hk : k < 8) : ∃ τ, F_X4_end (b + 262 + 4 * k) σ = some ((), τ) ∧ RC b (aEnd A k) τ ∧ Cst b σ τ := by
  unfold F_X4_end lt1 aEnd
  rw [if_pos (h.tk hk).2.1]
  exact ⟨_, rfl, rc_tf4 (rc_ow0 (rc_tf3 (rc_tf2 (rc_tf1 (rc_tf0 h hk 0) hk 0) hk 0) hk 0) hk) hk 0, ((((((Cst.rf.si (by decide)).si (by decide)).si (by decide)).si (by decide)).si (by decide)).si (by decide)).si (by decide)⟩
theorem ShC.tk (h : ShC b σ) {k : Nat} (hk : k < 8) : ar σ (b + 261) k = b + 262 + 4 * k ∧ kd σ (b + 262 + 4 * k) = 5 ∧ gr σ 165 (b + 262 + 4 * k) = b + 263 + 4 * k ∧ gr σ 166 (b + 262 + 4 * k) = b + 264 + 4 * k ∧ gr σ 168 (b + 262 + 4 * k) = b + 265 + 4 * k ∧
    kd σ (b + 263 + 4 * k) = 100 ∧ kd σ (b + 264 + 4 * k) = 100 ∧ kd σ (b + 265 + 4 * k) = 100 ∧ ln σ (b + 263 + 4 * k) = 16 ∧ ln σ (b + 264 + 4 * k) = 16 ∧ ln σ (b + 265 + 4 * k) = 16 := h.2.2.2.2.2.2.2.2.2.2.2.2.2 k hk
theorem putRow_L (h : ShC b σ) {k row : Nat} (hk : k < 8) (hr : row < 64) {L : List Nat} (hL : L.length < 16) (g : gi σ 167 (b + 262 + 4 * k) = nI L.length) (ha : ∀ i r, L[i]? = some r → ai σ (b + 265 + 4 * k) i = nI r) (hb : ∀ r ∈ L, r < 64) : ∀ (r N i : Nat), i + r = L.length → r < N →
    L_X4_putRow_2 N (b + 262 + 4 * k) (nI row) (nI i) σ = some ((), if row ∈ L.drop i then σ else si (sai σ (b + 265 + 4 * k) L.length (nI row)) 167 (b + 262 + 4 * k) (nI (L.length + 1))) := by
  obtain ⟨t1, t2, t3, t4, t5, t6, t7, t8, t9, t10, t11⟩ := h.tk hk
  intro r
  induction r with
  | zero =>
    intro N i hi hN
    obtain ⟨N, rfl⟩ : ∃ M, N = M + 1 := ⟨N - 1, by omega⟩
    simp only [L_X4_putRow_2, B_X4_putRow_2, lt1, B_X4_putRow_56]
    have g' : gi (sai σ (b + 265 + 4 * k) L.length (nI row)) 167 (b + 262 + 4 * k) = nI L.length := g
    rw [if_pos t2, g, if_pos (nI_le (by omega) (by omega)), if_neg (by rw [nI_16]; exact nI_ge hL (by decide)), t5, t11, if_pos ⟨t8, inb_nI hL (by decide)⟩, nI_clamp (by omega), g', nI_1, List.drop_of_length_le (by omega)]
    rw [if_neg (by simp)]
  | succ r ih =>
    intro N i hi hN
    obtain ⟨N, rfl⟩ : ∃ M, N = M + 1 := ⟨N - 1, by omega⟩
    have hil : i < L.length := by omega
    have hg : L[i]? = some L[i] := List.getElem?_eq_getElem hil
    have v1 := ha i _ hg
    have v2 := hb _ (List.mem_of_getElem? hg)
    have next := ih N (i + 1) (by omega) (by omega)
    simp only [L_X4_putRow_2, B_X4_putRow_2]
    rw [if_pos t2, g, if_neg (nI_ge (by omega) (by omega)), t5, t11, if_pos ⟨t8, inb_nI (by omega) (by decide)⟩, nI_clamp (by omega), v1, nI_1, next, List.drop_eq_getElem_cons hil]
    by_cases e : L[i] = row
    · rw [if_pos (by rw [e]), if_pos (by rw [e]; exact List.mem_cons_self)]
    · rw [if_neg (fun q => e ((nI_eq (by omega) (by omega)).mp q))]
      congr 2
      have : (row ∈ L[i] :: L.drop (i + 1)) ↔ row ∈ L.drop (i + 1) := by
        rw [List.mem_cons]
        exact ⟨fun q => q.resolve_left (fun z => e z.symm), Or.inr⟩
      simp only [this]
def aOwn (A : AS) (k c : Nat) (v : Int32) : Option AS := match plc (zow A k) c with
  | some j => some (uow A k ((zow A k).set j (c, v)))
  | none => if (zow A k).length < 16 then some (uow A k (zow A k ++ [(c, v)])) else none
theorem rc_put1 (h : RC b A σ) {k c j : Nat} (hk : k < 8) (hc : c < 256) {v : Int32} {q : Nat × Int32} (hj : (zow A k)[j]? = some q) (hq : q.1 = c) : RC b (uow A k ((zow A k).set j (c, v))) (sai σ (b + 264 + 4 * k) j v) := by
  have hz := h.sz
  obtain ⟨h1, h2, h3, h4, h5⟩ := h
  have hjl := (List.getElem?_eq_some_iff.mp hj).1
  refine ⟨h1.keep (Cst.rf.sai (by omega)), h2.keep hz Ag.rf.sai rfl rfl, h3.keep hz Ag.rf.sai, fun x hx => ?_, h5.keep hz Ag.rf.sai (fun _ _ => rfl) (fun _ _ _ _ => rfl)⟩
  obtain ⟨a1, a2, a3, a4, a5, a6, a7, a8, a9, a10⟩ := h4 x hx
  by_cases e : x = k
  · subst e
    have er := rws_set (v := v) hj hq
    simp only [gi_si, gi_sr, gi_sai, gi_sar, gr_si, gr_sr, gr_sai, gr_sar, ai_si, ai_sr, ai_sai, ai_sar, ar_si, ar_sr, ar_sai, ar_sar, kd_si, kd_sr, kd_sai, kd_sar, ln_si, ln_sr, ln_sai, ln_sar, hs_si, hs_sr, hs_sai, hs_sar, ns_si, ns_sr, ns_sai, ns_sar, zsc_usc, zlk_usc, ztf_usc, zl_usc, zow_usc, zlp_usc, zne_usc, zsc_ulk, zlk_ulk, ztf_ulk, zl_ulk, zow_ulk, zlp_ulk, zne_ulk, zsc_utf, zlk_utf, ztf_utf, zl_utf, zow_utf, zlp_utf, zne_utf, zsc_ul, zlk_ul, ztf_ul, zl_ul, zow_ul, zlp_ul, zne_ul, zsc_uow, zlk_uow, ztf_uow, zl_uow, zow_uow, zlp_uow, zne_uow, zsc_ulp, zlk_ulp, ztf_ulp, zl_ulp, zow_ulp, zlp_ulp, zne_ulp, zsc_une, zlk_une, ztf_une, zl_une, zow_une, zlp_une, zne_une, if_true, List.length_set, er]
    refine ⟨a1, a2, a3, a4, a5, a6, a7, fun i p hp => ?_, a9, fun i r hr => ?_⟩
    · rw [List.getElem?_set] at hp
      by_cases ei : j = i
      · subst ei
        rw [if_pos rfl, if_pos hjl] at hp
        cases hp
        have := a8 j q hj
        rw [hq] at this
        exact ⟨by rw [if_neg (by omega)]; exact this.1, by simp, hc⟩
      · rw [if_neg ei] at hp
        rw [if_neg (by omega), if_neg (fun z => ei z.2.symm)]
        exact a8 i p hp
    · rw [if_neg (by omega)]; exact a10 i r hr
  · simp only [gi_si, gi_sr, gi_sai, gi_sar, gr_si, gr_sr, gr_sai, gr_sar, ai_si, ai_sr, ai_sai, ai_sar, ar_si, ar_sr, ar_sai, ar_sar, kd_si, kd_sr, kd_sai, kd_sar, ln_si, ln_sr, ln_sai, ln_sar, hs_si, hs_sr, hs_sai, hs_sar, ns_si, ns_sr, ns_sai, ns_sar, zsc_usc, zlk_usc, ztf_usc, zl_usc, zow_usc, zlp_usc, zne_usc, zsc_ulk, zlk_ulk, ztf_ulk, zl_ulk, zow_ulk, zlp_ulk, zne_ulk, zsc_utf, zlk_utf, ztf_utf, zl_utf, zow_utf, zlp_utf, zne_utf, zsc_ul, zlk_ul, ztf_ul, zl_ul, zow_ul, zlp_ul, zne_ul, zsc_uow, zlk_uow, ztf_uow, zl_uow, zow_uow, zlp_uow, zne_uow, zsc_ulp, zlk_ulp, ztf_ulp, zl_ulp, zow_ulp, zlp_ulp, zne_ulp, zsc_une, zlk_une, ztf_une, zl_une, zow_une, zlp_une, zne_une, if_neg e]
    refine ⟨a1, a2, a3, a4, a5, a6, a7, fun i p hp => ?_, a9, fun i r hr => ?_⟩
    · rw [if_neg (by omega), if_neg (by omega)]; exact a8 i p hp
    · rw [if_neg (by omega)]; exact a10 i r hr
end
