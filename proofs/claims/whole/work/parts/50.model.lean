/-! THE REFERENCE'S OBJECTS AND THE ABSTRACT STATE -/
def SML : List (Nat × Nat × Nat × Nat) := [(247, 295, 100, 3000), (248, 296, 100, 3000), (249, 297, 100, 3000), (251, 298, 100, 3000), (252, 299, 100, 3000), (253, 300, 100, 3000), (254, 301, 101, 3000), (256, 302, 100, 256), (257, 303, 100, 256), (258, 304, 100, 256), (259, 305, 100, 8), (260, 306, 100, 8), (261, 307, 100, 8), (262, 308, 100, 8), (263, 309, 100, 128), (264, 310, 100, 128), (265, 311, 100, 8), (266, 312, 100, 8)]
def ShM (b : Nat) (σ : HS) : Prop := b + 312 ≤ hs σ ∧ kd σ (b + 294) = 7 ∧ ∀ q ∈ SML, gr σ q.1 (b + 294) = b + q.2.1 ∧ kd σ (b + q.2.1) = q.2.2.1 ∧ ln σ (b + q.2.1) = q.2.2.2
theorem SML_ok : ∀ q ∈ SML, 240 ≤ q.1 ∧ q.2.1 ≤ 312 := by decide
theorem ShM.g247 {b : Nat} {σ : HS} (h : ShM b σ) : gr σ 247 (b + 294) = b + 295 ∧ kd σ (b + 295) = 100 ∧ ln σ (b + 295) = 3000 := h.2.2 (247, 295, 100, 3000) (by decide)
theorem ShM.g248 {b : Nat} {σ : HS} (h : ShM b σ) : gr σ 248 (b + 294) = b + 296 ∧ kd σ (b + 296) = 100 ∧ ln σ (b + 296) = 3000 := h.2.2 (248, 296, 100, 3000) (by decide)
theorem ShM.g249 {b : Nat} {σ : HS} (h : ShM b σ) : gr σ 249 (b + 294) = b + 297 ∧ kd σ (b + 297) = 100 ∧ ln σ (b + 297) = 3000 := h.2.2 (249, 297, 100, 3000) (by decide)
theorem ShM.g251 {b : Nat} {σ : HS} (h : ShM b σ) : gr σ 251 (b + 294) = b + 298 ∧ kd σ (b + 298) = 100 ∧ ln σ (b + 298) = 3000 := h.2.2 (251, 298, 100, 3000) (by decide)
theorem ShM.g252 {b : Nat} {σ : HS} (h : ShM b σ) : gr σ 252 (b + 294) = b + 299 ∧ kd σ (b + 299) = 100 ∧ ln σ (b + 299) = 3000 := h.2.2 (252, 299, 100, 3000) (by decide)
theorem ShM.g253 {b : Nat} {σ : HS} (h : ShM b σ) : gr σ 253 (b + 294) = b + 300 ∧ kd σ (b + 300) = 100 ∧ ln σ (b + 300) = 3000 := h.2.2 (253, 300, 100, 3000) (by decide)
theorem ShM.g254 {b : Nat} {σ : HS} (h : ShM b σ) : gr σ 254 (b + 294) = b + 301 ∧ kd σ (b + 301) = 101 ∧ ln σ (b + 301) = 3000 := h.2.2 (254, 301, 101, 3000) (by decide)
theorem ShM.g256 {b : Nat} {σ : HS} (h : ShM b σ) : gr σ 256 (b + 294) = b + 302 ∧ kd σ (b + 302) = 100 ∧ ln σ (b + 302) = 256 := h.2.2 (256, 302, 100, 256) (by decide)
theorem ShM.g257 {b : Nat} {σ : HS} (h : ShM b σ) : gr σ 257 (b + 294) = b + 303 ∧ kd σ (b + 303) = 100 ∧ ln σ (b + 303) = 256 := h.2.2 (257, 303, 100, 256) (by decide)
theorem ShM.g258 {b : Nat} {σ : HS} (h : ShM b σ) : gr σ 258 (b + 294) = b + 304 ∧ kd σ (b + 304) = 100 ∧ ln σ (b + 304) = 256 := h.2.2 (258, 304, 100, 256) (by decide)
theorem ShM.g259 {b : Nat} {σ : HS} (h : ShM b σ) : gr σ 259 (b + 294) = b + 305 ∧ kd σ (b + 305) = 100 ∧ ln σ (b + 305) = 8 := h.2.2 (259, 305, 100, 8) (by decide)
theorem ShM.g260 {b : Nat} {σ : HS} (h : ShM b σ) : gr σ 260 (b + 294) = b + 306 ∧ kd σ (b + 306) = 100 ∧ ln σ (b + 306) = 8 := h.2.2 (260, 306, 100, 8) (by decide)
theorem ShM.g261 {b : Nat} {σ : HS} (h : ShM b σ) : gr σ 261 (b + 294) = b + 307 ∧ kd σ (b + 307) = 100 ∧ ln σ (b + 307) = 8 := h.2.2 (261, 307, 100, 8) (by decide)
theorem ShM.g262 {b : Nat} {σ : HS} (h : ShM b σ) : gr σ 262 (b + 294) = b + 308 ∧ kd σ (b + 308) = 100 ∧ ln σ (b + 308) = 8 := h.2.2 (262, 308, 100, 8) (by decide)
theorem ShM.g263 {b : Nat} {σ : HS} (h : ShM b σ) : gr σ 263 (b + 294) = b + 309 ∧ kd σ (b + 309) = 100 ∧ ln σ (b + 309) = 128 := h.2.2 (263, 309, 100, 128) (by decide)
theorem ShM.g264 {b : Nat} {σ : HS} (h : ShM b σ) : gr σ 264 (b + 294) = b + 310 ∧ kd σ (b + 310) = 100 ∧ ln σ (b + 310) = 128 := h.2.2 (264, 310, 100, 128) (by decide)
theorem ShM.g265 {b : Nat} {σ : HS} (h : ShM b σ) : gr σ 265 (b + 294) = b + 311 ∧ kd σ (b + 311) = 100 ∧ ln σ (b + 311) = 8 := h.2.2 (265, 311, 100, 8) (by decide)
theorem ShM.g266 {b : Nat} {σ : HS} (h : ShM b σ) : gr σ 266 (b + 294) = b + 312 ∧ kd σ (b + 312) = 100 ∧ ln σ (b + 312) = 8 := h.2.2 (266, 312, 100, 8) (by decide)
def Mst (b : Nat) (σ τ : HS) : Prop := kd τ = kd σ ∧ ln τ = ln σ ∧ gr τ = gr σ ∧ ar τ = ar σ ∧ hs τ = hs σ ∧ ns τ = ns σ ∧ (∀ g n, g < 240 → gi τ g n = gi σ g n) ∧ ∀ n i, n < b + 295 → ai τ n i = ai σ n i
theorem Mst.rf {b : Nat} {σ : HS} : Mst b σ σ := ⟨rfl, rfl, rfl, rfl, rfl, rfl, fun _ _ _ => rfl, fun _ _ _ => rfl⟩
theorem Mst.tr {b : Nat} {σ τ υ : HS} (h : Mst b σ τ) (k : Mst b τ υ) : Mst b σ υ := by
  obtain ⟨a1, a2, a3, a4, a5, a6, a7, a8⟩ := h
  obtain ⟨b1, b2, b3, b4, b5, b6, b7, b8⟩ := k
  exact ⟨b1.trans a1, b2.trans a2, b3.trans a3, b4.trans a4, b5.trans a5, b6.trans a6, fun g n hg => (b7 g n hg).trans (a7 g n hg), fun n i hn => (b8 n i hn).trans (a8 n i hn)⟩
theorem Mst.si {b : Nat} {σ τ : HS} (h : Mst b σ τ) {f n : Nat} {v : Int32} (hf : 240 ≤ f) : Mst b σ (si τ f n v) := by
  obtain ⟨a1, a2, a3, a4, a5, a6, a7, a8⟩ := h
  exact ⟨a1, a2, a3, a4, a5, a6, fun g m hg => by rw [gi_si, if_neg (by omega)]; exact a7 g m hg, a8⟩
theorem Mst.sai {b : Nat} {σ τ : HS} (h : Mst b σ τ) {n i : Nat} {v : Int32} (hn : b + 295 ≤ n) : Mst b σ (sai τ n i v) := by
  obtain ⟨a1, a2, a3, a4, a5, a6, a7, a8⟩ := h
  exact ⟨a1, a2, a3, a4, a5, a6, a7, fun m j hm => by rw [ai_sai, if_neg (by omega)]; exact a8 m j hm⟩
theorem ShM.keep {b : Nat} {σ τ : HS} (h : ShM b σ) (k : Cst b σ τ) : ShM b τ := by
  obtain ⟨z0, z1, z2⟩ := h
  obtain ⟨a1, a2, a3, a4, a5⟩ := k
  refine ⟨Nat.le_trans z0 a1, by rw [(a2 _ (by omega)).1]; exact z1, fun q hq => ?_⟩
  obtain ⟨x1, x2, x3⟩ := z2 q hq
  obtain ⟨o1, o2⟩ := SML_ok q hq
  rw [a3 _ _ (by omega) (by omega) (by omega) (by omega), (a2 _ (by omega)).1, (a2 _ (by omega)).2.1]
  exact ⟨x1, x2, x3⟩
theorem ShM.keepM {b : Nat} {σ τ : HS} (h : ShM b σ) (k : Mst b σ τ) : ShM b τ := by
  obtain ⟨a1, a2, a3, a4, a5, a6, a7, a8⟩ := k
  unfold ShM at h ⊢
  rw [a1, a2, a3, a5]
  exact h
theorem RC.keepM {b : Nat} {A : AS} {σ τ : HS} (h : RC b A σ) (k : Mst b σ τ) : RC b A τ := by
  have hz := h.sz
  obtain ⟨h1, h2, h3, h4, h5⟩ := h
  obtain ⟨a1, a2, a3, a4, a5, a6, a7, a8⟩ := k
  have ag : ∀ S : List Nat, (∀ g ∈ S, g < 240) → Ag S σ τ := fun S hS => ⟨by rw [a5]; exact Nat.le_refl _, fun g hg m _ => a7 g m (hS g hg)⟩
  refine ⟨?_, h2.keep hz (ag _ (by decide)) a5 a6, h3.keep hz (ag _ (by decide)), h4.keep hz (ag _ (by decide)) (fun n i hn => a8 n i (by omega)), h5.keep hz (ag _ (by decide)) (fun n _ => by rw [a1]) (fun g n _ _ => by rw [a3])⟩
  unfold ShC at h1 ⊢
  rw [a1, a2, a3, a4, a5]
  exact h1
/-- locks -/
def cntL (A : AS) : Nat := ((List.range 256).filter (fun c => decide (¬ zlk A 0 c = 0))).length
theorem cntL_cg {A A' : AS} (h : zlk A' = zlk A) : cntL A' = cntL A := by unfold cntL; rw [h]
def wv (q : Nat × Int32 × Int32 × Int32) : Int32 × Int32 := (q.2.1, if q.2.2.2 = 0 then q.2.2.1 else 0)
/-- scalars of the reference; nd, nv: how many data, writes; at most m records -/
def Msc (b m : Nat) (A : AS) (σ : HS) (nd nv nl : Nat) : Prop :=
  gi σ 241 (b + 294) = zsc A 0 ∧ gi σ 242 (b + 294) = zsc A 1 ∧ gi σ 243 (b + 294) = zsc A 4 ∧ gi σ 244 (b + 294) = zsc A 3 ∧ gi σ 245 (b + 294) = zsc A 5 ∧ gi σ 246 (b + 294) = nI nd ∧ gi σ 250 (b + 294) = nI nv ∧ gi σ 255 (b + 294) = nI nl ∧
  gi σ 267 (b + 294) = zsc A 7 ∧ gi σ 268 (b + 294) = zsc A 8 ∧ gi σ 269 (b + 294) = zsc A 9 ∧ gi σ 270 (b + 294) = zsc A 2 ∧ gi σ 271 (b + 294) = zsc A 10 ∧ zsc A 6 = nI (nd + nv + 2 * nl) ∧ nd + nv + 2 * nl ≤ m
def Mlk (b : Nat) (A : AS) (σ : HS) : Prop := ∀ c, c < 256 → ai σ (b + 302) c = zlk A 0 c ∧ (¬ zlk A 0 c = 0 → ai σ (b + 303) c = nI (zlp A c) ∧ ai σ (b + 304) c = zlk A 1 c ∧ zlp A c < 256)
def Mda (b : Nat) (A : AS) (σ : HS) (D : List (Nat × Int32 × Int32)) : Prop :=
  (∀ i q, D[i]? = some q → ai σ (b + 295) i = nI q.1 ∧ ai σ (b + 296) i = q.2.1 ∧ ai σ (b + 297) i = q.2.2 ∧ q.1 < 256) ∧ ∀ c, c < 256 → ((D.filter (fun q => decide (q.1 = c))).map (fun q => q.2)).Perm (zl A (2 * c))
def Mwr (b : Nat) (A : AS) (σ : HS) (V : List (Nat × Int32 × Int32 × Int32)) : Prop :=
  (∀ i q, V[i]? = some q → ai σ (b + 298) i = nI q.1 ∧ ai σ (b + 299) i = q.2.1 ∧ ai σ (b + 300) i = q.2.2.1 ∧ ai σ (b + 301) i = q.2.2.2 ∧ q.1 < 256 ∧ (q.2.2.2 = 0 ∨ q.2.2.2 = 1) ∧ (q.2.2.2 = 0 → ¬ q.2.2.1 = 0)) ∧ ∀ c, c < 256 → ((V.filter (fun q => decide (q.1 = c))).map wv).Perm (zl A (2 * c + 1))
def Mt1 (b : Nat) (A : AS) (σ : HS) (k : Nat) : Prop := ai σ (b + 305) k = ztf A 0 k ∧ (¬ ztf A 0 k = 0 → ai σ (b + 306) k = ztf A 1 k ∧ ai σ (b + 307) k = ztf A 2 k ∧ ai σ (b + 308) k = nI (zow A k).length ∧ (zow A k).length ≤ 16 ∧
  (∀ i q, (zow A k)[i]? = some q → ai σ (b + 309) (16 * k + i) = nI q.1 ∧ ai σ (b + 310) (16 * k + i) = q.2 ∧ q.1 < 256) ∧ (ztf A 0 k = 2 ∨ ztf A 0 k = 3 → ai σ (b + 311) k = ztf A 4 k) ∧ (ztf A 0 k = 3 → ai σ (b + 312) k = ztf A 3 k))
theorem Mt1.keep {b : Nat} {A A' : AS} {σ τ : HS} {k : Nat} (h : Mt1 b A σ k) (k1 : ∀ j, 305 ≤ j → j ≤ 312 → j ≠ 309 → j ≠ 310 → ai τ (b + j) k = ai σ (b + j) k) (k2 : ∀ j i, 309 ≤ j → j ≤ 310 → i < 16 → ai τ (b + j) (16 * k + i) = ai σ (b + j) (16 * k + i)) (e1 : ∀ j, ztf A' j k = ztf A j k) (e2 : zow A' k = zow A k) : Mt1 b A' τ k := by
  unfold Mt1
  rw [e1, e1, e1, e1, e1, e2, k1 305 (by omega) (by omega) (by omega) (by omega), k1 306 (by omega) (by omega) (by omega) (by omega), k1 307 (by omega) (by omega) (by omega) (by omega), k1 308 (by omega) (by omega) (by omega) (by omega), k1 311 (by omega) (by omega) (by omega) (by omega), k1 312 (by omega) (by omega) (by omega) (by omega)]
  refine ⟨h.1, fun hp => ?_⟩
  obtain ⟨y1, y2, y3, y4, y5, y6⟩ := h.2 hp
  refine ⟨y1, y2, y3, y4, fun i q hq => ?_, y6⟩
  have hi : i < 16 := by
    have := (List.getElem?_eq_some_iff.mp hq).1
    omega
  rw [k2 309 i (by omega) (by omega) hi, k2 310 i (by omega) (by omega) hi]
  exact y5 i q hq
def Mtr (b : Nat) (A : AS) (σ : HS) : Prop := ∀ k, k < 8 → Mt1 b A σ k
def RMo (b m : Nat) (A : AS) (σ : HS) : Prop := ShM b σ ∧ Mlk b A σ ∧ Mtr b A σ ∧ ∃ (D : List (Nat × Int32 × Int32)) (V : List (Nat × Int32 × Int32 × Int32)), Msc b m A σ D.length V.length (cntL A) ∧ Mda b A σ D ∧ Mwr b A σ V
theorem RMo.keep {b m : Nat} {A : AS} {σ τ : HS} (h : RMo b m A σ) (k : Cst b σ τ) : RMo b m A τ := by
  obtain ⟨h1, h2, h3, D, V, h4, h5, h6⟩ := h
  have hz := h1.1
  obtain ⟨a1, a2, a3, a4, a5⟩ := id k
  have ka : ∀ n i, b + 294 ≤ n → n ≤ b + 312 → ai τ n i = ai σ n i := fun n i q1 q2 => a5 n i q1 q2 (by omega)
  refine ⟨h1.keep k, fun c hc => ?_, fun x hx => ?_, D, V, ?_, ⟨fun i q hq => ?_, h5.2⟩, ⟨fun i q hq => ?_, h6.2⟩⟩
  · obtain ⟨x1, x2⟩ := h2 c hc
    rw [ka _ _ (by omega) (by omega), ka _ _ (by omega) (by omega), ka _ _ (by omega) (by omega)]
    exact ⟨x1, x2⟩
  · exact (h3 x hx).keep (fun j _ _ _ _ => ka _ _ (by omega) (by omega)) (fun j i _ _ _ => ka _ _ (by omega) (by omega)) (fun _ => rfl) rfl
  · obtain ⟨s1, s2, s3, s4, s5, s6, s7, s8, s9, s10, s11, s12, s13, s14, s15⟩ := h4
    have q := fun g hg => a4 g (b + 294) hg (by omega)
    refine ⟨?_, ?_, ?_, ?_, ?_, ?_, ?_, ?_, ?_, ?_, ?_, ?_, ?_, s14, s15⟩
    all_goals (rw [q _ (by decide)]; assumption)
  · rw [ka _ _ (by omega) (by omega), ka _ _ (by omega) (by omega), ka _ _ (by omega) (by omega)]
    exact h5.1 i q hq
  · rw [ka _ _ (by omega) (by omega), ka _ _ (by omega) (by omega), ka _ _ (by omega) (by omega), ka _ _ (by omega) (by omega)]
    exact h6.1 i q hq
theorem Msc.up {b m m' nd nv nl nd' nv' nl' : Nat} {A A' : AS} {σ τ : HS} (h : Msc b m A σ nd nv nl) (z : ∀ j, j ≠ 6 → j ≠ 7 → zsc A' j = zsc A j) (z7 : zsc A' 7 = zsc A 7 + 1) (z6 : zsc A' 6 = nI (nd' + nv' + 2 * nl')) (g : ∀ f, f ≠ 246 → f ≠ 250 → f ≠ 255 → f ≠ 267 → gi τ f (b + 294) = gi σ f (b + 294))
    (g1 : gi τ 246 (b + 294) = nI nd') (g2 : gi τ 250 (b + 294) = nI nv') (g3 : gi τ 255 (b + 294) = nI nl') (g4 : gi τ 267 (b + 294) = gi σ 267 (b + 294) + 1) (hm : nd' + nv' + 2 * nl' ≤ m') : Msc b m' A' τ nd' nv' nl' := by
  obtain ⟨a1, a2, a3, a4, a5, a6, a7, a8, a9, a10, a11, a12, a13, a14, a15⟩ := h
  refine ⟨?_, ?_, ?_, ?_, ?_, g1, g2, g3, by rw [g4, z7, a9], ?_, ?_, ?_, ?_, z6, hm⟩
  all_goals (rw [g _ (by decide) (by decide) (by decide) (by decide), z _ (by decide) (by decide)]; assumption)
