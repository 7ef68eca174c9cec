/-! THE REFERENCE'S DATA AND WRITES -/
theorem lt1_nm {β : Type} {x : HS} {f : HS → Option β} {y : Option β} (h : ∀ v, v = x → f v = y) : lt1 x f = y := h x rfl
theorem okI {σ : HS} {f M n k L : Nat} {x : Int32} (e : gr σ f M = n ∧ kd σ n = k ∧ ln σ n = L) (hi : inb x L) : kd σ (gr σ f M) = k ∧ inb x (ln σ (gr σ f M)) := by
  rw [e.1]; exact ⟨e.2.1, by rw [e.2.2]; exact hi⟩
theorem add_lk (A : AS) (d : Nat) (k i : Int32) : zlk (aAdd A d k i) = zlk A := rfl
theorem add_lp (A : AS) (d : Nat) (k i : Int32) : zlp (aAdd A d k i) = zlp A := rfl
theorem add_tf (A : AS) (d : Nat) (k i : Int32) : ztf (aAdd A d k i) = ztf A := rfl
theorem add_ow (A : AS) (d : Nat) (k i : Int32) : zow (aAdd A d k i) = zow A := rfl
theorem add_l (A : AS) (d : Nat) (k i : Int32) (x : Nat) : zl (aAdd A d k i) x = if x = d then (k, i) :: zl A d else zl A x := rfl
theorem add_ln (A : AS) {d : Nat} (k i : Int32) {x : Nat} (h : x ≠ d) : zl (aAdd A d k i) x = zl A x := if_neg h
theorem add_7 (A : AS) (d : Nat) (k i : Int32) : zsc (aAdd A d k i) 7 = zsc A 7 + 1 := rfl
theorem add_6 (A : AS) (d : Nat) (k i : Int32) : zsc (aAdd A d k i) 6 = zsc A 6 + 1 := rfl
theorem add_ne (A : AS) (d : Nat) (k i : Int32) {j : Nat} (h1 : j ≠ 6) (h2 : j ≠ 7) : zsc (aAdd A d k i) j = zsc A j := line_ne _ _ h1 h2
theorem si_kd (σ : HS) (f n : Nat) (v : Int32) : kd (si σ f n v) = kd σ := rfl
theorem sai_kd (σ : HS) (n i : Nat) (v : Int32) : kd (sai σ n i v) = kd σ := rfl
theorem si_ln (σ : HS) (f n : Nat) (v : Int32) : ln (si σ f n v) = ln σ := rfl
theorem sai_ln (σ : HS) (n i : Nat) (v : Int32) : ln (sai σ n i v) = ln σ := rfl
theorem si_gr (σ : HS) (f n : Nat) (v : Int32) : gr (si σ f n v) = gr σ := rfl
theorem sai_gr (σ : HS) (n i : Nat) (v : Int32) : gr (sai σ n i v) = gr σ := rfl
theorem si_ar (σ : HS) (f n : Nat) (v : Int32) : ar (si σ f n v) = ar σ := rfl
theorem sai_ar (σ : HS) (n i : Nat) (v : Int32) : ar (sai σ n i v) = ar σ := rfl
theorem si_hs (σ : HS) (f n : Nat) (v : Int32) : hs (si σ f n v) = hs σ := rfl
theorem sai_hs (σ : HS) (n i : Nat) (v : Int32) : hs (sai σ n i v) = hs σ := rfl
theorem si_ns (σ : HS) (f n : Nat) (v : Int32) : ns (si σ f n v) = ns σ := rfl
theorem sai_ns (σ : HS) (n i : Nat) (v : Int32) : ns (sai σ n i v) = ns σ := rfl
theorem sai_gi (σ : HS) (n i : Nat) (v : Int32) : gi (sai σ n i v) = gi σ := rfl
theorem si_ai (σ : HS) (f n : Nat) (v : Int32) : ai (si σ f n v) = ai σ := rfl
/-- a record put at place i of three arrays, one count set, one line more -/
def W3 (σ τ : HS) (M p1 p2 p3 i f : Nat) (x1 x2 x3 v : Int32) : Prop :=
  (kd τ = kd σ ∧ ln τ = ln σ ∧ gr τ = gr σ ∧ ar τ = ar σ ∧ hs τ = hs σ ∧ ns τ = ns σ) ∧ (∀ g n, g ≠ f → g ≠ 267 → gi τ g n = gi σ g n) ∧ gi τ f M = v ∧ gi τ 267 M = gi σ 267 M + 1 ∧ (∀ n j, n ≠ p1 → n ≠ p2 → n ≠ p3 → ai τ n j = ai σ n j) ∧ (∀ n j, j ≠ i → ai τ n j = ai σ n j) ∧ ai τ p1 i = x1 ∧ ai τ p2 i = x2 ∧ ai τ p3 i = x3
def W4 (σ τ : HS) (M p1 p2 p3 p4 i f : Nat) (x1 x2 x3 x4 v : Int32) : Prop :=
  (kd τ = kd σ ∧ ln τ = ln σ ∧ gr τ = gr σ ∧ ar τ = ar σ ∧ hs τ = hs σ ∧ ns τ = ns σ) ∧ (∀ g n, g ≠ f → g ≠ 267 → gi τ g n = gi σ g n) ∧ gi τ f M = v ∧ gi τ 267 M = gi σ 267 M + 1 ∧ (∀ n j, n ≠ p1 → n ≠ p2 → n ≠ p3 → n ≠ p4 → ai τ n j = ai σ n j) ∧ (∀ n j, j ≠ i → ai τ n j = ai σ n j) ∧ ai τ p1 i = x1 ∧ ai τ p2 i = x2 ∧ ai τ p3 i = x3 ∧ ai τ p4 i = x4
section
variable {σ : HS} {M p1 p2 p3 p4 : Nat}
theorem sai3 (σ : HS) {i : Nat} (x1 x2 x3 : Int32) (h12 : p1 ≠ p2) (h13 : p1 ≠ p3) (h23 : p2 ≠ p3) : (∀ n j, n ≠ p1 → n ≠ p2 → n ≠ p3 → ai (sai (sai (sai σ p1 i x1) p2 i x2) p3 i x3) n j = ai σ n j) ∧ (∀ n j, j ≠ i → ai (sai (sai (sai σ p1 i x1) p2 i x2) p3 i x3) n j = ai σ n j) ∧ ai (sai (sai (sai σ p1 i x1) p2 i x2) p3 i x3) p1 i = x1 ∧ ai (sai (sai (sai σ p1 i x1) p2 i x2) p3 i x3) p2 i = x2 ∧ ai (sai (sai (sai σ p1 i x1) p2 i x2) p3 i x3) p3 i = x3 :=
  ⟨fun n j q1 q2 q3 => by rw [ai_ne q3, ai_ne q2, ai_ne q1], fun n j q => by rw [ai_nj q, ai_nj q, ai_nj q], by rw [ai_ne h13, ai_ne h12, ai_eq], by rw [ai_ne h23, ai_eq], by rw [ai_eq]⟩
theorem sai4 (σ : HS) {i : Nat} (x1 x2 x3 x4 : Int32) (h12 : p1 ≠ p2) (h13 : p1 ≠ p3) (h14 : p1 ≠ p4) (h23 : p2 ≠ p3) (h24 : p2 ≠ p4) (h34 : p3 ≠ p4) : (∀ n j, n ≠ p1 → n ≠ p2 → n ≠ p3 → n ≠ p4 → ai (sai (sai (sai (sai σ p1 i x1) p2 i x2) p3 i x3) p4 i x4) n j = ai σ n j) ∧ (∀ n j, j ≠ i → ai (sai (sai (sai (sai σ p1 i x1) p2 i x2) p3 i x3) p4 i x4) n j = ai σ n j) ∧ ai (sai (sai (sai (sai σ p1 i x1) p2 i x2) p3 i x3) p4 i x4) p1 i = x1 ∧ ai (sai (sai (sai (sai σ p1 i x1) p2 i x2) p3 i x3) p4 i x4) p2 i = x2 ∧ ai (sai (sai (sai (sai σ p1 i x1) p2 i x2) p3 i x3) p4 i x4) p3 i = x3 ∧ ai (sai (sai (sai (sai σ p1 i x1) p2 i x2) p3 i x3) p4 i x4) p4 i = x4 :=
  ⟨fun n j q1 q2 q3 q4 => by rw [ai_ne q4, ai_ne q3, ai_ne q2, ai_ne q1], fun n j q => by rw [ai_nj q, ai_nj q, ai_nj q, ai_nj q], by rw [ai_ne h14, ai_ne h13, ai_ne h12, ai_eq], by rw [ai_ne h24, ai_ne h23, ai_eq], by rw [ai_ne h34, ai_eq], by rw [ai_eq]⟩
theorem w3a (σ : HS) {i f : Nat} (hf : f ≠ 267) (x1 x2 x3 v : Int32) (h12 : p1 ≠ p2) (h13 : p1 ≠ p3) (h23 : p2 ≠ p3) : W3 σ (si (si (sai (sai (sai σ p1 i x1) p2 i x2) p3 i x3) f M v) 267 M (gi σ 267 M + 1)) M p1 p2 p3 i f x1 x2 x3 v :=
  ⟨⟨by simp only [si_kd, sai_kd], by simp only [si_ln, sai_ln], by simp only [si_gr, sai_gr], by simp only [si_ar, sai_ar], by simp only [si_hs, sai_hs], by simp only [si_ns, sai_ns]⟩, fun g n q1 q2 => by rw [gi_ne q2, gi_ne q1]; simp only [sai_gi], by rw [gi_ne hf, gi_eq], by rw [gi_eq], by rw [si_ai, si_ai]; exact sai3 σ x1 x2 x3 h12 h13 h23⟩
theorem w3b (σ : HS) {i f : Nat} (hf : f ≠ 267) (x1 x2 x3 v : Int32) (h12 : p1 ≠ p2) (h13 : p1 ≠ p3) (h23 : p2 ≠ p3) : W3 σ (si (sai (sai (sai (si σ f M v) p1 i x1) p2 i x2) p3 i x3) 267 M (gi σ 267 M + 1)) M p1 p2 p3 i f x1 x2 x3 v :=
  ⟨⟨by simp only [si_kd, sai_kd], by simp only [si_ln, sai_ln], by simp only [si_gr, sai_gr], by simp only [si_ar, sai_ar], by simp only [si_hs, sai_hs], by simp only [si_ns, sai_ns]⟩, fun g n q1 q2 => by rw [gi_ne q2, gi_sai, gi_sai, gi_sai, gi_ne q1], by rw [gi_ne hf, gi_sai, gi_sai, gi_sai, gi_eq], by rw [gi_eq], by rw [si_ai]; have := sai3 (si σ f M v) (i := i) x1 x2 x3 h12 h13 h23; rw [si_ai σ f M v] at this; exact this⟩
theorem w4a (σ : HS) {i f : Nat} (hf : f ≠ 267) (x1 x2 x3 x4 v : Int32) (h12 : p1 ≠ p2) (h13 : p1 ≠ p3) (h14 : p1 ≠ p4) (h23 : p2 ≠ p3) (h24 : p2 ≠ p4) (h34 : p3 ≠ p4) : W4 σ (si (si (sai (sai (sai (sai σ p1 i x1) p2 i x2) p3 i x3) p4 i x4) f M v) 267 M (gi σ 267 M + 1)) M p1 p2 p3 p4 i f x1 x2 x3 x4 v :=
  ⟨⟨by simp only [si_kd, sai_kd], by simp only [si_ln, sai_ln], by simp only [si_gr, sai_gr], by simp only [si_ar, sai_ar], by simp only [si_hs, sai_hs], by simp only [si_ns, sai_ns]⟩, fun g n q1 q2 => by rw [gi_ne q2, gi_ne q1]; simp only [sai_gi], by rw [gi_ne hf, gi_eq], by rw [gi_eq], by rw [si_ai, si_ai]; exact sai4 σ x1 x2 x3 x4 h12 h13 h14 h23 h24 h34⟩
theorem w4b (σ : HS) {i f : Nat} (hf : f ≠ 267) (x1 x2 x3 x4 v : Int32) (h12 : p1 ≠ p2) (h13 : p1 ≠ p3) (h14 : p1 ≠ p4) (h23 : p2 ≠ p3) (h24 : p2 ≠ p4) (h34 : p3 ≠ p4) : W4 σ (si (sai (sai (sai (sai (si σ f M v) p1 i x1) p2 i x2) p3 i x3) p4 i x4) 267 M (gi σ 267 M + 1)) M p1 p2 p3 p4 i f x1 x2 x3 x4 v :=
  ⟨⟨by simp only [si_kd, sai_kd], by simp only [si_ln, sai_ln], by simp only [si_gr, sai_gr], by simp only [si_ar, sai_ar], by simp only [si_hs, sai_hs], by simp only [si_ns, sai_ns]⟩, fun g n q1 q2 => by rw [gi_ne q2, gi_sai, gi_sai, gi_sai, gi_sai, gi_ne q1], by rw [gi_ne hf, gi_sai, gi_sai, gi_sai, gi_sai, gi_eq], by rw [gi_eq], by rw [si_ai]; have := sai4 (si σ f M v) (i := i) x1 x2 x3 x4 h12 h13 h14 h23 h24 h34; rw [si_ai σ f M v] at this; exact this⟩
theorem ev_addData {n : Nat} (a1 a2 a3 : Int32) (km : kd σ M = 7) (g1 : gr σ 247 M = p1 ∧ kd σ p1 = 100 ∧ ln σ p1 = 3000) (g2 : gr σ 248 M = p2 ∧ kd σ p2 = 100 ∧ ln σ p2 = 3000) (g3 : gr σ 249 M = p3 ∧ kd σ p3 = 100 ∧ ln σ p3 = 3000) (e : gi σ 246 M = nI n) (hn : n < 3000)
    (h12 : p1 ≠ p2) (h13 : p1 ≠ p3) (h23 : p2 ≠ p3) : ∃ τ, F_X6_addData M a1 a2 a3 σ = some ((), τ) ∧ W3 σ τ M p1 p2 p3 n 246 a1 a2 a3 (nI n + 1) := by
  have hi : inb (nI n) 3000 := inb_nI hn (by decide)
  refine ⟨_, ?_, w3a σ (by decide) a1 a2 a3 (nI n + 1) h12 h13 h23⟩
  unfold F_X6_addData lt1
  simp only [gr_sai, kd_sai, ln_sai, gi_sai, gr_si, kd_si, ln_si, ai_si, km, g1.1, g1.2.1, g1.2.2, g2.1, g2.2.1, g2.2.2, g3.1, g3.2.1, g3.2.2, e, if_pos hi, and_self, true_and, if_true, nI_clamp (show n < 2 ^ 31 by omega), gi_ne (show 267 ≠ 246 by decide)]
theorem ev_addWrite {n : Nat} (a1 a2 a3 a4 : Int32) (h4 : a4 = 0 ∨ a4 = 1) (km : kd σ M = 7) (g1 : gr σ 251 M = p1 ∧ kd σ p1 = 100 ∧ ln σ p1 = 3000) (g2 : gr σ 252 M = p2 ∧ kd σ p2 = 100 ∧ ln σ p2 = 3000) (g3 : gr σ 253 M = p3 ∧ kd σ p3 = 100 ∧ ln σ p3 = 3000) (g4 : gr σ 254 M = p4 ∧ kd σ p4 = 101 ∧ ln σ p4 = 3000) (e : gi σ 250 M = nI n) (hn : n < 3000)
    (h12 : p1 ≠ p2) (h13 : p1 ≠ p3) (h14 : p1 ≠ p4) (h23 : p2 ≠ p3) (h24 : p2 ≠ p4) (h34 : p3 ≠ p4) : ∃ τ, F_X6_addWrite M a1 a2 a3 a4 σ = some ((), τ) ∧ W4 σ τ M p1 p2 p3 p4 n 250 a1 a2 a3 a4 (nI n + 1) := by
  have hi : inb (nI n) 3000 := inb_nI hn (by decide)
  refine ⟨_, ?_, w4a σ (by decide) a1 a2 a3 a4 (nI n + 1) h12 h13 h14 h23 h24 h34⟩
  unfold F_X6_addWrite lt1
  simp only [gr_sai, kd_sai, ln_sai, gi_sai, gr_si, kd_si, ln_si, ai_si, km, g1.1, g1.2.1, g1.2.2, g2.1, g2.2.1, g2.2.2, g3.1, g3.2.1, g3.2.2, g4.1, g4.2.1, g4.2.2, e, if_pos hi, if_pos h4, and_self, true_and, if_true, nI_clamp (show n < 2 ^ 31 by omega), gi_ne (show 267 ≠ 250 by decide)]
theorem ev_dropData {n d : Nat} (a1 a2 : Int32) (km : kd σ M = 7) (g1 : gr σ 247 M = p1 ∧ kd σ p1 = 100 ∧ ln σ p1 = 3000) (g2 : gr σ 248 M = p2 ∧ kd σ p2 = 100 ∧ ln σ p2 = 3000) (g3 : gr σ 249 M = p3 ∧ kd σ p3 = 100 ∧ ln σ p3 = 3000) (e : gi σ 246 M = nI (n + 1)) (hn : n < 3000) (hd : d < 3000)
    (hq : F_X6_dataAt M a1 a2 σ = some (nI d, σ)) (h12 : p1 ≠ p2) (h13 : p1 ≠ p3) (h23 : p2 ≠ p3) : ∃ τ, F_X6_dropData M a1 a2 σ = some ((), τ) ∧ W3 σ τ M p1 p2 p3 d 246 (ai σ p1 n) (ai σ p2 n) (ai σ p3 n) (nI n) := by
  have hi : inb (nI n) 3000 := inb_nI hn (by decide)
  have hj : inb (nI d) 3000 := inb_nI hd (by decide)
  have h0 : (0 : Int32) ≤ nI d := nI_pos' (by omega)
  refine ⟨_, ?_, w3b σ (by decide) (ai σ p1 n) (ai σ p2 n) (ai σ p3 n) (nI n) h12 h13 h23⟩
  unfold F_X6_dropData
  rw [if_pos km, bd_eq hq, if_pos h0]
  unfold lt1
  simp only [gr_sai, kd_sai, ln_sai, gi_sai, gr_si, kd_si, ln_si, ai_si, gi_eq, km, g1.1, g1.2.1, g1.2.2, g2.1, g2.2.1, g2.2.2, g3.1, g3.2.1, g3.2.2, e, nI_pred, if_pos hi, if_pos hj, and_self, true_and, if_true, nI_clamp (show n < 2 ^ 31 by omega), nI_clamp (show d < 2 ^ 31 by omega), gi_ne (show 267 ≠ 246 by decide), ai_ne h12.symm, ai_ne h13.symm, ai_ne h23.symm]
theorem ev_dropWrite {n d : Nat} (km : kd σ M = 7) (g1 : gr σ 251 M = p1 ∧ kd σ p1 = 100 ∧ ln σ p1 = 3000) (g2 : gr σ 252 M = p2 ∧ kd σ p2 = 100 ∧ ln σ p2 = 3000) (g3 : gr σ 253 M = p3 ∧ kd σ p3 = 100 ∧ ln σ p3 = 3000) (g4 : gr σ 254 M = p4 ∧ kd σ p4 = 101 ∧ ln σ p4 = 3000) (e : gi σ 250 M = nI (n + 1)) (hn : n < 3000) (hd : d < 3000) (h4 : ai σ p4 n = 0 ∨ ai σ p4 n = 1)
    (h12 : p1 ≠ p2) (h13 : p1 ≠ p3) (h14 : p1 ≠ p4) (h23 : p2 ≠ p3) (h24 : p2 ≠ p4) (h34 : p3 ≠ p4) : ∃ τ, F_X6_dropWrite M (nI d) σ = some ((), τ) ∧ W4 σ τ M p1 p2 p3 p4 d 250 (ai σ p1 n) (ai σ p2 n) (ai σ p3 n) (ai σ p4 n) (nI n) := by
  have hi : inb (nI n) 3000 := inb_nI hn (by decide)
  have hj : inb (nI d) 3000 := inb_nI hd (by decide)
  refine ⟨_, ?_, w4b σ (by decide) (ai σ p1 n) (ai σ p2 n) (ai σ p3 n) (ai σ p4 n) (nI n) h12 h13 h14 h23 h24 h34⟩
  unfold F_X6_dropWrite lt1
  simp only [gr_sai, kd_sai, ln_sai, gi_sai, gr_si, kd_si, ln_si, ai_si, gi_eq, km, g1.1, g1.2.1, g1.2.2, g2.1, g2.2.1, g2.2.2, g3.1, g3.2.1, g3.2.2, g4.1, g4.2.1, g4.2.2, e, nI_pred, if_pos hi, if_pos hj, if_pos h4, and_self, true_and, if_true, nI_clamp (show n < 2 ^ 31 by omega), nI_clamp (show d < 2 ^ 31 by omega), gi_ne (show 267 ≠ 250 by decide), ai_ne h12.symm, ai_ne h13.symm, ai_ne h23.symm, ai_ne h14.symm, ai_ne h24.symm, ai_ne h34.symm]
end
theorem rmK_perm {s v : Int32} : ∀ {l : List (Int32 × Int32)}, (l.map (fun q => q.1)).Nodup → (s, v) ∈ l → l.Perm ((s, v) :: rmK l s)
  | [], _, h => by cases h
  | x :: l, hn, h => by
    unfold rmK
    rw [List.map_cons] at hn
    have hn' := List.nodup_cons.mp hn
    by_cases e : x.1 = s
    · have hx : (s, v) = x := by
        rcases List.mem_cons.mp h with q | q
        · exact q
        · exact absurd (List.mem_map.mpr ⟨_, q, e.symm⟩) hn'.1
      rw [List.eraseP_cons_of_pos (by simpa using e), hx]
    · rw [List.eraseP_cons_of_neg (by simpa using e)]
      have hm : (s, v) ∈ l := (List.mem_cons.mp h).resolve_left (fun q => e (by rw [← q]))
      exact ((rmK_perm hn'.2 hm).cons x).trans (List.Perm.swap _ _ _)
theorem hasK_iff {l : List (Int32 × Int32)} {s : Int32} : hasK l s = true ↔ ∃ v, (s, v) ∈ l := by
  unfold hasK
  rw [List.any_eq_true]
  constructor
  · rintro ⟨q, h1, h2⟩
    exact ⟨q.2, by rw [← of_decide_eq_true h2]; exact h1⟩
  · rintro ⟨v, h⟩
    exact ⟨_, h, decide_eq_true rfl⟩
def fD (c : Nat) (s : Int32) : Nat × Int32 × Int32 → Bool := fun q => decide (q.1 = c ∧ q.2.1 = s)
section
variable {p : Nat → Nat} {m : Nat} {A : AS} {σ : HS} {D : List (Nat × Int32 × Int32)} {V : List (Nat × Int32 × Int32 × Int32)}
theorem RMw.nd (h : RMw p m A σ D V) : gi σ 246 (p 294) = nI D.length := h.2.2.2.1.2.2.2.2.2.1
theorem RMw.nv (h : RMw p m A σ D V) : gi σ 250 (p 294) = nI V.length := h.2.2.2.1.2.2.2.2.2.2.1
theorem RMw.re (h : RMw p m A σ D V) : zsc A 6 = nI (D.length + V.length + 2 * cntL A) := h.2.2.2.1.2.2.2.2.2.2.2.2.2.2.2.2.2.1
theorem RMw.bo (h : RMw p m A σ D V) : D.length + V.length + 2 * cntL A ≤ m := h.2.2.2.1.2.2.2.2.2.2.2.2.2.2.2.2.2.2
theorem dataAt_L (h : RMw p m A σ D V) (hm : m ≤ 3001) (hD : D.length ≤ 3000) {c : Nat} (hc : c < 256) (s : Int32) : ∀ (r N i : Nat), i + r = D.length → r < N →
    L_X6_dataAt_2 N (p 294) (nI c) s (nI i) σ = some (match (D.drop i).findIdx? (fD c s) with | none => -1 | some j => nI (i + j), σ) := by
  have e0 := h.nd
  obtain ⟨h1, h2, h3, h4, h5, h6⟩ := h
  obtain ⟨g1, g2, g3⟩ := h1.g247
  obtain ⟨g4, g5, g6⟩ := h1.g248
  intro r
  induction r with
  | zero =>
    intro N i hi hN
    obtain ⟨N, rfl⟩ : ∃ M, N = M + 1 := ⟨N - 1, by omega⟩
    simp only [L_X6_dataAt_2, B_X6_dataAt_2]
    rw [if_pos h1.km, e0, if_pos (nI_le (by omega) (by omega)), List.drop_of_length_le (by omega)]
    rfl
  | succ r ih =>
    intro N i hi hN
    obtain ⟨N, rfl⟩ : ∃ M, N = M + 1 := ⟨N - 1, by omega⟩
    have hil : i < D.length := by omega
    have hg : D[i]? = some D[i] := List.getElem?_eq_getElem hil
    obtain ⟨v1, v2, v3, v4⟩ := h5.1 i _ hg
    have v1' : ai σ (p 295) (nI i).toNatClampNeg = nI D[i].1 := by rw [nI_clamp (by omega)]; exact v1
    have v2' : ai σ (p 296) (nI i).toNatClampNeg = D[i].2.1 := by rw [nI_clamp (by omega)]; exact v2
    have next := ih N (i + 1) (by omega) (by omega)
    have fin : some (match Option.map (fun i => i + 1) ((D.drop (i + 1)).findIdx? (fD c s)) with | none => (-1 : Int32) | some j => nI (i + j), σ) = some (match (D.drop (i + 1)).findIdx? (fD c s) with | none => -1 | some j => nI (i + 1 + j), σ) := by
      cases (D.drop (i + 1)).findIdx? (fD c s) with
      | none => rfl
      | some j => simp only [Option.map_some]; rw [show i + 1 + j = i + (j + 1) by omega]
    have hi : inb (nI i) 3000 := inb_nI (by omega) (by decide)
    simp only [L_X6_dataAt_2, B_X6_dataAt_2, B_X6_dataAt_32, h1.km, h1.r247, h1.k247, h1.l247, h1.r248, h1.k248, h1.l248, true_and, if_true, if_pos hi, v1', v2', e0, if_neg (nI_ge hil (show D.length < 2 ^ 31 by omega)), nI_1, next]
    rw [List.drop_eq_getElem_cons hil, List.findIdx?_cons]
    by_cases e : D[i].1 = c
    · rw [if_pos (by rw [e])]
      by_cases e2 : D[i].2.1 = s
      · rw [if_pos e2, if_pos (show fD c s D[i] = true from decide_eq_true ⟨e, e2⟩)]
        simp
      · rw [if_neg e2, if_neg (by simp [fD, e2])]
        exact fin.symm
    · rw [if_neg (fun q => e ((nI_eq (by omega) (by omega)).mp q)), if_neg (by simp [fD, e])]
      exact fin.symm
theorem rm_dataAt (h : RMw p m A σ D V) (hm : m ≤ 3001) (hD : D.length ≤ 3000) {c : Nat} (hc : c < 256) (s : Int32) : F_X6_dataAt (p 294) (nI c) s σ = some (match D.findIdx? (fD c s) with | none => -1 | some j => nI j, σ) := by
  have := dataAt_L h hm hD hc s D.length NF 0 (by omega) (by have : NF = 100000 := rfl; omega)
  rw [nI_0, List.drop_zero] at this
  simp only [Nat.zero_add] at this
  exact this
theorem fD_some {c : Nat} {s : Int32} {d : Nat} (h : D.findIdx? (fD c s) = some d) : ∃ v, D[d]? = some (c, s, v) ∧ d < D.length := by
  obtain ⟨hj, h1, h2⟩ := List.findIdx?_eq_some_iff_getElem.mp h
  obtain ⟨e1, e2⟩ := of_decide_eq_true h1
  refine ⟨D[d].2.2, ?_, hj⟩
  rw [List.getElem?_eq_getElem hj, ← e1, ← e2]
theorem fD_none {c : Nat} {s : Int32} (h : D.findIdx? (fD c s) = none) : ∀ q ∈ D, ¬ (q.1 = c ∧ q.2.1 = s) := by
  intro q hq
  have := List.findIdx?_eq_none_iff.mp h q hq
  simpa [fD] using this
theorem Mda.mem (h : Mda p A σ D) {c : Nat} (hc : c < 256) {s v : Int32} : (s, v) ∈ zl A (2 * c) ↔ (c, s, v) ∈ D := by
  rw [← (h.2 c hc).mem_iff]
  simp
theorem RMw.w3 {τ : HS} {i m' : Nat} {x1 x2 x3 : Int32} {D' : List (Nat × Int32 × Int32)} {A' : AS} (h : RMw p m A σ D V) (w : W3 σ τ (p 294) (p 295) (p 296) (p 297) i 246 x1 x2 x3 (nI D'.length)) (e1 : zlk A' = zlk A) (e2 : zlp A' = zlp A) (e3 : ztf A' = ztf A) (e4 : zow A' = zow A) (e5 : ∀ c, zl A' (2 * c + 1) = zl A (2 * c + 1))
    (z : ∀ j, j ≠ 6 → j ≠ 7 → zsc A' j = zsc A j) (z7 : zsc A' 7 = zsc A 7 + 1) (z6 : zsc A' 6 = nI (D'.length + V.length + 2 * cntL A)) (hm : D'.length + V.length + 2 * cntL A ≤ m') (hD : Mda p A' τ D') : RMw p m' A' τ D' V ∧ Mst p σ τ := by
  have e0 := h.nv
  obtain ⟨h1, h2, h3, h4, h5, h6⟩ := h
  obtain ⟨⟨w1, w2, w3, w4, w5, w6⟩, w7, w8, w9, w10, w11, w12⟩ := w
  have q1 := h1.le (show 295 ≤ 296 by decide)
  have q2 := h1.le (show 295 ≤ 297 by decide)
  have hM : Mst p σ τ := ⟨w1, w2, w3, w4, w5, w6, fun g n hg => w7 g n (by omega) (by omega), fun n y hn => w10 n y (by omega) (by omega) (by omega)⟩
  have sa : ∀ lo hi, 297 < lo → SA p lo hi σ τ := fun lo hi hl j y j1 _ => w10 (p j) y (h1.ne (by omega)) (h1.ne (by omega)) (h1.ne (by omega))
  refine ⟨⟨h1.keepM hM, h2.keep (sa _ _ (by decide)) e1 e2, h3.keep (sa _ _ (by decide)) e3 e4, ?_, hD, h6.keep (sa _ _ (by decide)) (fun c _ => e5 c)⟩, hM⟩
  rw [cntL_cg e1]
  exact h4.up z z7 z6 (fun f f1 f2 f3 f4 => w7 f _ f1 f4) w8 (by rw [w7 _ _ (by decide) (by decide)]; exact e0) (by rw [w7 _ _ (by decide) (by decide)]; exact h4.2.2.2.2.2.2.2.1) w9 hm
theorem RMw.w4 {τ : HS} {i m' : Nat} {x1 x2 x3 x4 : Int32} {V' : List (Nat × Int32 × Int32 × Int32)} {A' : AS} (h : RMw p m A σ D V) (w : W4 σ τ (p 294) (p 298) (p 299) (p 300) (p 301) i 250 x1 x2 x3 x4 (nI V'.length)) (e1 : zlk A' = zlk A) (e2 : zlp A' = zlp A) (e3 : ztf A' = ztf A) (e4 : zow A' = zow A) (e5 : ∀ c, zl A' (2 * c) = zl A (2 * c))
    (z : ∀ j, j ≠ 6 → j ≠ 7 → zsc A' j = zsc A j) (z7 : zsc A' 7 = zsc A 7 + 1) (z6 : zsc A' 6 = nI (D.length + V'.length + 2 * cntL A)) (hm : D.length + V'.length + 2 * cntL A ≤ m') (hV : Mwr p A' τ V') : RMw p m' A' τ D V' ∧ Mst p σ τ := by
  have e0 := h.nd
  obtain ⟨h1, h2, h3, h4, h5, h6⟩ := h
  obtain ⟨⟨w1, w2, w3, w4, w5, w6⟩, w7, w8, w9, w10, w11, w12⟩ := w
  have q1 := h1.le (show 295 ≤ 298 by decide)
  have q2 := h1.le (show 295 ≤ 299 by decide)
  have q3 := h1.le (show 295 ≤ 300 by decide)
  have q4 := h1.le (show 295 ≤ 301 by decide)
  have hM : Mst p σ τ := ⟨w1, w2, w3, w4, w5, w6, fun g n hg => w7 g n (by omega) (by omega), fun n y hn => w10 n y (by omega) (by omega) (by omega) (by omega)⟩
  have sa : ∀ lo hi, 301 < lo ∨ hi < 298 → SA p lo hi σ τ := fun lo hi hl j y j1 j2 => w10 (p j) y (h1.ne (by omega)) (h1.ne (by omega)) (h1.ne (by omega)) (h1.ne (by omega))
  refine ⟨⟨h1.keepM hM, h2.keep (sa _ _ (by decide)) e1 e2, h3.keep (sa _ _ (by decide)) e3 e4, ?_, h5.keep (sa _ _ (by decide)) (fun c _ => e5 c), hV⟩, hM⟩
  rw [cntL_cg e1]
  exact h4.up z z7 z6 (fun f f1 f2 f3 f4 => w7 f _ f2 f4) (by rw [w7 _ _ (by decide) (by decide)]; exact e0) w8 (by rw [w7 _ _ (by decide) (by decide)]; exact h4.2.2.2.2.2.2.2.1) w9 hm
theorem rm_addData (h : RMw p m A σ D V) (hm : m < 3000) {c : Nat} (hc : c < 256) (s v : Int32) : ∃ τ, F_X6_addData (p 294) (nI c) s v σ = some ((), τ) ∧ RMw p (m + 1) (aAdd A (2 * c) s v) τ (D ++ [(c, s, v)]) V ∧ Mst p σ τ := by
  have e0 := h.nd
  have e6 := h.re
  have eb := h.bo
  have h1 := h.1
  have h5 := h.2.2.2.2.1
  obtain ⟨τ, t1, t2⟩ := ev_addData (nI c) s v h1.km h1.g247 h1.g248 h1.g249 e0 (by omega) (h1.ne (by decide)) (h1.ne (by decide)) (h1.ne (by decide))
  rw [nI_1, show D.length + 1 = (D ++ [(c, s, v)]).length by simp] at t2
  have hl : (D ++ [(c, s, v)]).length = D.length + 1 := by simp
  refine ⟨τ, t1, h.w3 t2 (add_lk _ _ _ _) (add_lp _ _ _ _) (add_tf _ _ _ _) (add_ow _ _ _ _) (fun c' => add_ln _ _ _ (by omega)) (fun j j1 j2 => add_ne _ _ _ _ j1 j2) (add_7 _ _ _ _) ?_ (by omega) ⟨fun i q hq => ?_, fun c' hc' => ?_⟩⟩
  · rw [add_6, e6, nI_1, hl]; congr 1; omega
  · obtain ⟨_, _, _, _, _, w11, w12, w13, w14⟩ := t2
    by_cases e : i = D.length
    · subst e
      rw [List.getElem?_append_right (Nat.le_refl _), Nat.sub_self] at hq
      have hq : q = (c, s, v) := by simpa using hq.symm
      subst hq
      exact ⟨w12, w13, w14, hc⟩
    · have hlt : i < D.length := by
        have := (List.getElem?_eq_some_iff.mp hq).1
        omega
      rw [List.getElem?_append_left hlt] at hq
      rw [w11 _ _ e, w11 _ _ e, w11 _ _ e]
      exact h5.1 i q hq
  · rw [List.filter_append, List.map_append, add_l]
    by_cases e : c' = c
    · subst e
      rw [if_pos rfl]
      simp only [List.filter_cons, decide_true, if_true, List.filter_nil, List.map_cons, List.map_nil]
      exact (List.perm_append_singleton _ _).trans ((h5.2 c' hc').cons _)
    · rw [if_neg (by omega)]
      have : ([(c, s, v)].filter (fun q => decide (q.1 = c'))) = [] := by
        simp only [List.filter_cons, List.filter_nil]
        rw [if_neg (by simpa using fun q => e q.symm)]
      rw [this, List.map_nil, List.append_nil]
      exact h5.2 c' hc'
theorem rm_addWrite (h : RMw p m A σ D V) (hm : m < 3000 + 2 * cntL A) {c : Nat} (hc : c < 256) (k s : Int32) {r : Int32} (hr : r = 0 ∨ r = 1) (hs : r = 0 → ¬ s = 0) : ∃ τ, F_X6_addWrite (p 294) (nI c) k s r σ = some ((), τ) ∧ RMw p (m + 1) (aAdd A (2 * c + 1) k (if r = 0 then s else 0)) τ D (V ++ [(c, k, s, r)]) ∧ Mst p σ τ := by
  have e0 := h.nv
  have e6 := h.re
  have eb := h.bo
  have h1 := h.1
  have h5 := h.2.2.2.2.2
  obtain ⟨τ, t1, t2⟩ := ev_addWrite (nI c) k s r hr h1.km h1.g251 h1.g252 h1.g253 h1.g254 e0 (by omega) (h1.ne (by decide)) (h1.ne (by decide)) (h1.ne (by decide)) (h1.ne (by decide)) (h1.ne (by decide)) (h1.ne (by decide))
  have hl : (V ++ [(c, k, s, r)]).length = V.length + 1 := by simp
  rw [nI_1, ← hl] at t2
  refine ⟨τ, t1, h.w4 t2 (add_lk _ _ _ _) (add_lp _ _ _ _) (add_tf _ _ _ _) (add_ow _ _ _ _) (fun c' => add_ln _ _ _ (by omega)) (fun j j1 j2 => add_ne _ _ _ _ j1 j2) (add_7 _ _ _ _) ?_ (by omega) ⟨fun i q hq => ?_, fun c' hc' => ?_⟩⟩
  · rw [add_6, e6, nI_1, hl]; congr 1; omega
  · obtain ⟨_, _, _, _, _, w11, w12, w13, w14, w15⟩ := t2
    by_cases e : i = V.length
    · subst e
      rw [List.getElem?_append_right (Nat.le_refl _), Nat.sub_self] at hq
      have hq : q = (c, k, s, r) := by simpa using hq.symm
      subst hq
      exact ⟨w12, w13, w14, w15, hc, hr, hs⟩
    · have hlt : i < V.length := by
        have := (List.getElem?_eq_some_iff.mp hq).1
        omega
      rw [List.getElem?_append_left hlt] at hq
      rw [w11 _ _ e, w11 _ _ e, w11 _ _ e, w11 _ _ e]
      exact h5.1 i q hq
  · rw [List.filter_append, List.map_append, add_l]
    by_cases e : c' = c
    · subst e
      rw [if_pos rfl]
      simp only [List.filter_cons, decide_true, if_true, List.filter_nil, List.map_cons, List.map_nil]
      exact (List.perm_append_singleton _ _).trans ((h5.2 c' hc').cons _)
    · rw [if_neg (by omega)]
      have : ([(c, k, s, r)].filter (fun q => decide (q.1 = c'))) = [] := by
        simp only [List.filter_cons, List.filter_nil]
        rw [if_neg (by simpa using fun q => e q.symm)]
      rw [this, List.map_nil, List.append_nil]
      exact h5.2 c' hc'
theorem del_l (A : AS) (d : Nat) (l : List (Int32 × Int32)) (x : Nat) : zl (aDel A d l) x = if x = d then l else zl A x := rfl
theorem del_6 (A : AS) (d : Nat) (l : List (Int32 × Int32)) : zsc (aDel A d l) 6 = zsc A 6 + (-1) := rfl
theorem del_7 (A : AS) (d : Nat) (l : List (Int32 × Int32)) : zsc (aDel A d l) 7 = zsc A 7 + 1 := rfl
theorem del_lk (A : AS) (d : Nat) (l : List (Int32 × Int32)) : zlk (aDel A d l) = zlk A := rfl
theorem del_lp (A : AS) (d : Nat) (l : List (Int32 × Int32)) : zlp (aDel A d l) = zlp A := rfl
theorem del_tf (A : AS) (d : Nat) (l : List (Int32 × Int32)) : ztf (aDel A d l) = ztf A := rfl
theorem del_ow (A : AS) (d : Nat) (l : List (Int32 × Int32)) : zow (aDel A d l) = zow A := rfl
theorem flt_ne {α : Type} {f : α → Nat} {q : α} {c : Nat} (l : List α) (h : f q ≠ c) : (q :: l).filter (fun q => decide (f q = c)) = l.filter (fun q => decide (f q = c)) := List.filter_cons_of_neg (by simpa using h)
theorem flt_eq {α : Type} {f : α → Nat} {q : α} {c : Nat} (l : List α) (h : f q = c) : (q :: l).filter (fun q => decide (f q = c)) = q :: l.filter (fun q => decide (f q = c)) := List.filter_cons_of_pos (by simpa using h)
theorem rm_dropData (h : RMw p m A σ D V) (hm : m ≤ 3000) {c : Nat} (hc : c < 256) (s : Int32) (hn : ((zl A (2 * c)).map (fun q => q.1)).Nodup) : ∃ τ D', F_X6_dropData (p 294) (nI c) s σ = some ((), τ) ∧ RMw p m (aDropData A c s) τ D' V ∧ Mst p σ τ ∧ D'.length ≤ D.length := by
  have e0 := h.nd
  have e6 := h.re
  have eb := h.bo
  have h1 := h.1
  have h5 := h.2.2.2.2.1
  have hq := rm_dataAt h (by omega) (by omega) hc s
  unfold aDropData
  cases hf : D.findIdx? (fD c s) with
  | none =>
    rw [hf] at hq
    refine ⟨σ, D, ?_, ?_, Mst.rf, Nat.le_refl _⟩
    · unfold F_X6_dropData
      rw [if_pos h1.km, bd_eq hq]
      rfl
    · rw [if_neg]
      · exact h
      · intro q
        obtain ⟨v, hv⟩ := hasK_iff.mp q
        exact fD_none hf _ ((h5.mem hc).mp hv) ⟨rfl, rfl⟩
  | some d =>
    rw [hf] at hq
    obtain ⟨v, hd, hlt⟩ := fD_some hf
    obtain ⟨n, hN⟩ : ∃ n, D.length = n + 1 := ⟨D.length - 1, by omega⟩
    obtain ⟨x, hx⟩ : ∃ x, D[n]? = some x := ⟨D[n]'(by omega), List.getElem?_eq_getElem (by omega)⟩
    have hlast : D.getLast? = some x := by rw [List.getLast?_eq_getElem?, hN, Nat.add_sub_cancel]; exact hx
    have hmem : (s, v) ∈ zl A (2 * c) := (h5.mem hc).mpr (List.mem_of_getElem? hd)
    have hp := swr_perm hlast hd
    have hl' : ((D.set d x).dropLast).length = n := by rw [List.length_dropLast, List.length_set]; omega
    obtain ⟨τ, t1, t2⟩ := ev_dropData (nI c) s h1.km h1.g247 h1.g248 h1.g249 (by rw [e0, hN]) (show n < 3000 by omega) (show d < 3000 by omega) hq (h1.ne (by decide)) (h1.ne (by decide)) (h1.ne (by decide))
    rw [← hl'] at t2
    rw [if_pos (hasK_iff.mpr ⟨v, hmem⟩)]
    obtain ⟨r1, r2⟩ := h.w3 (m' := m) t2 (del_lk A (2 * c) (rmK (zl A (2 * c)) s)) (del_lp _ _ _) (del_tf _ _ _) (del_ow _ _ _) (fun c' => by rw [del_l, if_neg (by omega)]) (fun j j1 j2 => line_ne _ _ j1 j2) (del_7 _ _ _) (by
        rw [del_6, e6, hl', hN, show n + 1 + V.length + 2 * cntL A = (n + V.length + 2 * cntL A) + 1 by omega, nI_m1]) (by omega) ⟨fun i q hq' => by
        obtain ⟨_, _, _, _, _, w11, w12, w13, w14⟩ := t2
        have hi : i < n := by
          have := (List.getElem?_eq_some_iff.mp hq').1
          omega
        rw [swr_get (by omega)] at hq'
        by_cases e : i = d
        · subst e
          rw [if_pos rfl] at hq'
          obtain rfl : x = q := by simpa using hq'
          rw [hl'] at w12 w13 w14
          rw [w12, w13, w14]
          exact h5.1 n x hx
        · rw [if_neg e] at hq'
          rw [w11 _ _ e, w11 _ _ e, w11 _ _ e]
          exact h5.1 i q hq', fun c' hc' => by
        have hp' := ((hp.filter (fun q => decide (q.1 = c'))).map (fun q => q.2)).symm.trans (h5.2 c' hc')
        rw [del_l]
        by_cases e : c' = c
        · subst e
          rw [if_pos rfl]
          rw [List.filter_cons_of_pos (by simp), List.map_cons] at hp'
          exact (hp'.trans (rmK_perm hn hmem)).cons_inv
        · rw [if_neg (by omega)]
          rw [List.filter_cons_of_neg (by simpa using fun q => e q.symm)] at hp'
          exact hp'⟩
    exact ⟨τ, _, t1, r1, r2, by omega⟩
theorem rm_dropWrite (h : RMw p m A σ D V) (hV : V.length ≤ 3000) {w c : Nat} {q0 : Int32 × Int32 × Int32} (hw : V[w]? = some (c, q0)) (hc : c < 256) {l' : List (Int32 × Int32)} (hl0 : (zl A (2 * c + 1)).Perm (wv (c, q0) :: l')) : ∃ τ x, F_X6_dropWrite (p 294) (nI w) σ = some ((), τ) ∧ V.getLast? = some x ∧ RMw p m (aDel A (2 * c + 1) l') τ D ((V.set w x).dropLast) ∧ Mst p σ τ := by
  have e0 := h.nv
  have e6 := h.re
  have eb := h.bo
  have h1 := h.1
  have h5 := h.2.2.2.2.2
  have hlt : w < V.length := (List.getElem?_eq_some_iff.mp hw).1
  obtain ⟨n, hN⟩ : ∃ n, V.length = n + 1 := ⟨V.length - 1, by omega⟩
  obtain ⟨x, hx⟩ : ∃ x, V[n]? = some x := ⟨V[n]'(by omega), List.getElem?_eq_getElem (by omega)⟩
  have hlast : V.getLast? = some x := by rw [List.getLast?_eq_getElem?, hN, Nat.add_sub_cancel]; exact hx
  have hp := swr_perm hlast hw
  have hl' : ((V.set w x).dropLast).length = n := by rw [List.length_dropLast, List.length_set]; omega
  have hxx := h5.1 n x hx
  obtain ⟨τ, t1, t2⟩ := ev_dropWrite (σ := σ) (d := w) h1.km h1.g251 h1.g252 h1.g253 h1.g254 (by rw [e0, hN]) (show n < 3000 by omega) (by omega) (by rw [hxx.2.2.2.1]; exact hxx.2.2.2.2.2.1) (h1.ne (by decide)) (h1.ne (by decide)) (h1.ne (by decide)) (h1.ne (by decide)) (h1.ne (by decide)) (h1.ne (by decide))
  rw [← hl'] at t2
  obtain ⟨r1, r2⟩ := h.w4 (m' := m) t2 (del_lk A (2 * c + 1) l') (del_lp _ _ _) (del_tf _ _ _) (del_ow _ _ _) (fun c' => by rw [del_l, if_neg (by omega)]) (fun j j1 j2 => line_ne _ _ j1 j2) (del_7 _ _ _) (by
      rw [del_6, e6, hl', hN, show D.length + (n + 1) + 2 * cntL A = (D.length + n + 2 * cntL A) + 1 by omega, nI_m1]) (by omega) ⟨fun i q hq' => by
      obtain ⟨_, _, _, _, _, w11, w12, w13, w14, w15⟩ := t2
      have hi : i < n := by
        have := (List.getElem?_eq_some_iff.mp hq').1
        omega
      rw [swr_get (by omega)] at hq'
      by_cases e : i = w
      · subst e
        rw [if_pos rfl] at hq'
        obtain rfl : x = q := by simpa using hq'
        rw [hl'] at w12 w13 w14 w15
        rw [w12, w13, w14, w15]
        exact hxx
      · rw [if_neg e] at hq'
        rw [w11 _ _ e, w11 _ _ e, w11 _ _ e, w11 _ _ e]
        exact h5.1 i q hq', fun c' hc' => by
      have hp' := ((hp.filter (fun q => decide (q.1 = c'))).map wv).symm.trans (h5.2 c' hc')
      rw [del_l]
      by_cases e : c' = c
      · subst e
        rw [if_pos rfl]
        rw [List.filter_cons_of_pos (by simp), List.map_cons] at hp'
        exact (hp'.trans hl0).cons_inv
      · rw [if_neg (by omega)]
        rw [List.filter_cons_of_neg (by simpa using fun q => e q.symm)] at hp'
        exact hp'⟩
  exact ⟨τ, x, t1, hlast, r1, r2⟩
end
