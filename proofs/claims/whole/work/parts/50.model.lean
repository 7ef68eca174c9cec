/-! THE REFERENCE'S OBJECTS AND THE ABSTRACT STATE -/
def SML : List (Nat × Nat × Nat × Nat) := [(247, 295, 100, 3000), (248, 296, 100, 3000), (249, 297, 100, 3000), (251, 298, 100, 3000), (252, 299, 100, 3000), (253, 300, 100, 3000), (254, 301, 101, 3000), (256, 302, 100, 256), (257, 303, 100, 256), (258, 304, 100, 256), (259, 305, 100, 8), (260, 306, 100, 8), (261, 307, 100, 8), (262, 308, 100, 8), (263, 309, 100, 128), (264, 310, 100, 128), (265, 311, 100, 8), (266, 312, 100, 8)]
def ShM (p : Nat → Nat) (σ : HS) : Prop := (∀ j, p j = p 0 + j) ∧ p 312 ≤ hs σ ∧ kd σ (p 294) = 7 ∧ ∀ q ∈ SML, gr σ q.1 (p 294) = p q.2.1 ∧ kd σ (p q.2.1) = q.2.2.1 ∧ ln σ (p q.2.1) = q.2.2.2
theorem SML_ok : ∀ q ∈ SML, 240 ≤ q.1 ∧ q.2.1 ≤ 312 := by decide
theorem ShM.g247 {p : Nat → Nat} {σ : HS} (h : ShM p σ) : gr σ 247 (p 294) = p 295 ∧ kd σ (p 295) = 100 ∧ ln σ (p 295) = 3000 := h.2.2.2 (247, 295, 100, 3000) (by decide)
theorem ShM.g248 {p : Nat → Nat} {σ : HS} (h : ShM p σ) : gr σ 248 (p 294) = p 296 ∧ kd σ (p 296) = 100 ∧ ln σ (p 296) = 3000 := h.2.2.2 (248, 296, 100, 3000) (by decide)
theorem ShM.g249 {p : Nat → Nat} {σ : HS} (h : ShM p σ) : gr σ 249 (p 294) = p 297 ∧ kd σ (p 297) = 100 ∧ ln σ (p 297) = 3000 := h.2.2.2 (249, 297, 100, 3000) (by decide)
theorem ShM.g251 {p : Nat → Nat} {σ : HS} (h : ShM p σ) : gr σ 251 (p 294) = p 298 ∧ kd σ (p 298) = 100 ∧ ln σ (p 298) = 3000 := h.2.2.2 (251, 298, 100, 3000) (by decide)
theorem ShM.g252 {p : Nat → Nat} {σ : HS} (h : ShM p σ) : gr σ 252 (p 294) = p 299 ∧ kd σ (p 299) = 100 ∧ ln σ (p 299) = 3000 := h.2.2.2 (252, 299, 100, 3000) (by decide)
theorem ShM.g253 {p : Nat → Nat} {σ : HS} (h : ShM p σ) : gr σ 253 (p 294) = p 300 ∧ kd σ (p 300) = 100 ∧ ln σ (p 300) = 3000 := h.2.2.2 (253, 300, 100, 3000) (by decide)
theorem ShM.g254 {p : Nat → Nat} {σ : HS} (h : ShM p σ) : gr σ 254 (p 294) = p 301 ∧ kd σ (p 301) = 101 ∧ ln σ (p 301) = 3000 := h.2.2.2 (254, 301, 101, 3000) (by decide)
theorem ShM.g256 {p : Nat → Nat} {σ : HS} (h : ShM p σ) : gr σ 256 (p 294) = p 302 ∧ kd σ (p 302) = 100 ∧ ln σ (p 302) = 256 := h.2.2.2 (256, 302, 100, 256) (by decide)
theorem ShM.g257 {p : Nat → Nat} {σ : HS} (h : ShM p σ) : gr σ 257 (p 294) = p 303 ∧ kd σ (p 303) = 100 ∧ ln σ (p 303) = 256 := h.2.2.2 (257, 303, 100, 256) (by decide)
theorem ShM.g258 {p : Nat → Nat} {σ : HS} (h : ShM p σ) : gr σ 258 (p 294) = p 304 ∧ kd σ (p 304) = 100 ∧ ln σ (p 304) = 256 := h.2.2.2 (258, 304, 100, 256) (by decide)
theorem ShM.g259 {p : Nat → Nat} {σ : HS} (h : ShM p σ) : gr σ 259 (p 294) = p 305 ∧ kd σ (p 305) = 100 ∧ ln σ (p 305) = 8 := h.2.2.2 (259, 305, 100, 8) (by decide)
theorem ShM.g260 {p : Nat → Nat} {σ : HS} (h : ShM p σ) : gr σ 260 (p 294) = p 306 ∧ kd σ (p 306) = 100 ∧ ln σ (p 306) = 8 := h.2.2.2 (260, 306, 100, 8) (by decide)
theorem ShM.g261 {p : Nat → Nat} {σ : HS} (h : ShM p σ) : gr σ 261 (p 294) = p 307 ∧ kd σ (p 307) = 100 ∧ ln σ (p 307) = 8 := h.2.2.2 (261, 307, 100, 8) (by decide)
theorem ShM.g262 {p : Nat → Nat} {σ : HS} (h : ShM p σ) : gr σ 262 (p 294) = p 308 ∧ kd σ (p 308) = 100 ∧ ln σ (p 308) = 8 := h.2.2.2 (262, 308, 100, 8) (by decide)
theorem ShM.g263 {p : Nat → Nat} {σ : HS} (h : ShM p σ) : gr σ 263 (p 294) = p 309 ∧ kd σ (p 309) = 100 ∧ ln σ (p 309) = 128 := h.2.2.2 (263, 309, 100, 128) (by decide)
theorem ShM.g264 {p : Nat → Nat} {σ : HS} (h : ShM p σ) : gr σ 264 (p 294) = p 310 ∧ kd σ (p 310) = 100 ∧ ln σ (p 310) = 128 := h.2.2.2 (264, 310, 100, 128) (by decide)
theorem ShM.g265 {p : Nat → Nat} {σ : HS} (h : ShM p σ) : gr σ 265 (p 294) = p 311 ∧ kd σ (p 311) = 100 ∧ ln σ (p 311) = 8 := h.2.2.2 (265, 311, 100, 8) (by decide)
theorem ShM.g266 {p : Nat → Nat} {σ : HS} (h : ShM p σ) : gr σ 266 (p 294) = p 312 ∧ kd σ (p 312) = 100 ∧ ln σ (p 312) = 8 := h.2.2.2 (266, 312, 100, 8) (by decide)
theorem ShM.hp {p : Nat → Nat} {σ : HS} (h : ShM p σ) : ∀ j, p j = p 0 + j := h.1
theorem ShM.km {p : Nat → Nat} {σ : HS} (h : ShM p σ) : kd σ (p 294) = 7 := h.2.2.1
theorem ShM.ne {p : Nat → Nat} {σ : HS} (h : ShM p σ) {i j : Nat} (hij : i ≠ j) : p i ≠ p j := by
  rw [h.1 i, h.1 j]; omega
theorem ShM.le {p : Nat → Nat} {σ : HS} (h : ShM p σ) {i j : Nat} (hij : i ≤ j) : p i ≤ p j := by
  rw [h.1 i, h.1 j]; omega
theorem ShM.r247 {p : Nat → Nat} {σ : HS} (h : ShM p σ) : gr σ 247 (p 294) = p 295 := h.g247.1
theorem ShM.k247 {p : Nat → Nat} {σ : HS} (h : ShM p σ) : kd σ (p 295) = 100 := h.g247.2.1
theorem ShM.l247 {p : Nat → Nat} {σ : HS} (h : ShM p σ) : ln σ (p 295) = 3000 := h.g247.2.2
theorem ShM.r248 {p : Nat → Nat} {σ : HS} (h : ShM p σ) : gr σ 248 (p 294) = p 296 := h.g248.1
theorem ShM.k248 {p : Nat → Nat} {σ : HS} (h : ShM p σ) : kd σ (p 296) = 100 := h.g248.2.1
theorem ShM.l248 {p : Nat → Nat} {σ : HS} (h : ShM p σ) : ln σ (p 296) = 3000 := h.g248.2.2
theorem ShM.r249 {p : Nat → Nat} {σ : HS} (h : ShM p σ) : gr σ 249 (p 294) = p 297 := h.g249.1
theorem ShM.k249 {p : Nat → Nat} {σ : HS} (h : ShM p σ) : kd σ (p 297) = 100 := h.g249.2.1
theorem ShM.l249 {p : Nat → Nat} {σ : HS} (h : ShM p σ) : ln σ (p 297) = 3000 := h.g249.2.2
theorem ShM.r251 {p : Nat → Nat} {σ : HS} (h : ShM p σ) : gr σ 251 (p 294) = p 298 := h.g251.1
theorem ShM.k251 {p : Nat → Nat} {σ : HS} (h : ShM p σ) : kd σ (p 298) = 100 := h.g251.2.1
theorem ShM.l251 {p : Nat → Nat} {σ : HS} (h : ShM p σ) : ln σ (p 298) = 3000 := h.g251.2.2
theorem ShM.r252 {p : Nat → Nat} {σ : HS} (h : ShM p σ) : gr σ 252 (p 294) = p 299 := h.g252.1
theorem ShM.k252 {p : Nat → Nat} {σ : HS} (h : ShM p σ) : kd σ (p 299) = 100 := h.g252.2.1
theorem ShM.l252 {p : Nat → Nat} {σ : HS} (h : ShM p σ) : ln σ (p 299) = 3000 := h.g252.2.2
theorem ShM.r253 {p : Nat → Nat} {σ : HS} (h : ShM p σ) : gr σ 253 (p 294) = p 300 := h.g253.1
theorem ShM.k253 {p : Nat → Nat} {σ : HS} (h : ShM p σ) : kd σ (p 300) = 100 := h.g253.2.1
theorem ShM.l253 {p : Nat → Nat} {σ : HS} (h : ShM p σ) : ln σ (p 300) = 3000 := h.g253.2.2
theorem ShM.r254 {p : Nat → Nat} {σ : HS} (h : ShM p σ) : gr σ 254 (p 294) = p 301 := h.g254.1
theorem ShM.k254 {p : Nat → Nat} {σ : HS} (h : ShM p σ) : kd σ (p 301) = 101 := h.g254.2.1
theorem ShM.l254 {p : Nat → Nat} {σ : HS} (h : ShM p σ) : ln σ (p 301) = 3000 := h.g254.2.2
theorem ShM.r256 {p : Nat → Nat} {σ : HS} (h : ShM p σ) : gr σ 256 (p 294) = p 302 := h.g256.1
theorem ShM.k256 {p : Nat → Nat} {σ : HS} (h : ShM p σ) : kd σ (p 302) = 100 := h.g256.2.1
theorem ShM.l256 {p : Nat → Nat} {σ : HS} (h : ShM p σ) : ln σ (p 302) = 256 := h.g256.2.2
theorem ShM.r257 {p : Nat → Nat} {σ : HS} (h : ShM p σ) : gr σ 257 (p 294) = p 303 := h.g257.1
theorem ShM.k257 {p : Nat → Nat} {σ : HS} (h : ShM p σ) : kd σ (p 303) = 100 := h.g257.2.1
theorem ShM.l257 {p : Nat → Nat} {σ : HS} (h : ShM p σ) : ln σ (p 303) = 256 := h.g257.2.2
theorem ShM.r258 {p : Nat → Nat} {σ : HS} (h : ShM p σ) : gr σ 258 (p 294) = p 304 := h.g258.1
theorem ShM.k258 {p : Nat → Nat} {σ : HS} (h : ShM p σ) : kd σ (p 304) = 100 := h.g258.2.1
theorem ShM.l258 {p : Nat → Nat} {σ : HS} (h : ShM p σ) : ln σ (p 304) = 256 := h.g258.2.2
theorem ShM.r259 {p : Nat → Nat} {σ : HS} (h : ShM p σ) : gr σ 259 (p 294) = p 305 := h.g259.1
theorem ShM.k259 {p : Nat → Nat} {σ : HS} (h : ShM p σ) : kd σ (p 305) = 100 := h.g259.2.1
theorem ShM.l259 {p : Nat → Nat} {σ : HS} (h : ShM p σ) : ln σ (p 305) = 8 := h.g259.2.2
theorem ShM.r260 {p : Nat → Nat} {σ : HS} (h : ShM p σ) : gr σ 260 (p 294) = p 306 := h.g260.1
theorem ShM.k260 {p : Nat → Nat} {σ : HS} (h : ShM p σ) : kd σ (p 306) = 100 := h.g260.2.1
theorem ShM.l260 {p : Nat → Nat} {σ : HS} (h : ShM p σ) : ln σ (p 306) = 8 := h.g260.2.2
theorem ShM.r261 {p : Nat → Nat} {σ : HS} (h : ShM p σ) : gr σ 261 (p 294) = p 307 := h.g261.1
theorem ShM.k261 {p : Nat → Nat} {σ : HS} (h : ShM p σ) : kd σ (p 307) = 100 := h.g261.2.1
theorem ShM.l261 {p : Nat → Nat} {σ : HS} (h : ShM p σ) : ln σ (p 307) = 8 := h.g261.2.2
theorem ShM.r262 {p : Nat → Nat} {σ : HS} (h : ShM p σ) : gr σ 262 (p 294) = p 308 := h.g262.1
theorem ShM.k262 {p : Nat → Nat} {σ : HS} (h : ShM p σ) : kd σ (p 308) = 100 := h.g262.2.1
theorem ShM.l262 {p : Nat → Nat} {σ : HS} (h : ShM p σ) : ln σ (p 308) = 8 := h.g262.2.2
theorem ShM.r263 {p : Nat → Nat} {σ : HS} (h : ShM p σ) : gr σ 263 (p 294) = p 309 := h.g263.1
theorem ShM.k263 {p : Nat → Nat} {σ : HS} (h : ShM p σ) : kd σ (p 309) = 100 := h.g263.2.1
theorem ShM.l263 {p : Nat → Nat} {σ : HS} (h : ShM p σ) : ln σ (p 309) = 128 := h.g263.2.2
theorem ShM.r264 {p : Nat → Nat} {σ : HS} (h : ShM p σ) : gr σ 264 (p 294) = p 310 := h.g264.1
theorem ShM.k264 {p : Nat → Nat} {σ : HS} (h : ShM p σ) : kd σ (p 310) = 100 := h.g264.2.1
theorem ShM.l264 {p : Nat → Nat} {σ : HS} (h : ShM p σ) : ln σ (p 310) = 128 := h.g264.2.2
theorem ShM.r265 {p : Nat → Nat} {σ : HS} (h : ShM p σ) : gr σ 265 (p 294) = p 311 := h.g265.1
theorem ShM.k265 {p : Nat → Nat} {σ : HS} (h : ShM p σ) : kd σ (p 311) = 100 := h.g265.2.1
theorem ShM.l265 {p : Nat → Nat} {σ : HS} (h : ShM p σ) : ln σ (p 311) = 8 := h.g265.2.2
theorem ShM.r266 {p : Nat → Nat} {σ : HS} (h : ShM p σ) : gr σ 266 (p 294) = p 312 := h.g266.1
theorem ShM.k266 {p : Nat → Nat} {σ : HS} (h : ShM p σ) : kd σ (p 312) = 100 := h.g266.2.1
theorem ShM.l266 {p : Nat → Nat} {σ : HS} (h : ShM p σ) : ln σ (p 312) = 8 := h.g266.2.2
def Mst (p : Nat → Nat) (σ τ : HS) : Prop := kd τ = kd σ ∧ ln τ = ln σ ∧ gr τ = gr σ ∧ ar τ = ar σ ∧ hs τ = hs σ ∧ ns τ = ns σ ∧ (∀ g n, g < 240 → gi τ g n = gi σ g n) ∧ ∀ n i, n < p 295 → ai τ n i = ai σ n i
theorem Mst.rf {p : Nat → Nat} {σ : HS} : Mst p σ σ := ⟨rfl, rfl, rfl, rfl, rfl, rfl, fun _ _ _ => rfl, fun _ _ _ => rfl⟩
theorem Mst.tr {p : Nat → Nat} {σ τ υ : HS} (h : Mst p σ τ) (k : Mst p τ υ) : Mst p σ υ := by
  obtain ⟨a1, a2, a3, a4, a5, a6, a7, a8⟩ := h
  obtain ⟨b1, b2, b3, b4, b5, b6, b7, b8⟩ := k
  exact ⟨b1.trans a1, b2.trans a2, b3.trans a3, b4.trans a4, b5.trans a5, b6.trans a6, fun g n hg => (b7 g n hg).trans (a7 g n hg), fun n i hn => (b8 n i hn).trans (a8 n i hn)⟩
theorem Mst.si {p : Nat → Nat} {σ τ : HS} (h : Mst p σ τ) {f n : Nat} {v : Int32} (hf : 240 ≤ f) : Mst p σ (si τ f n v) := by
  obtain ⟨a1, a2, a3, a4, a5, a6, a7, a8⟩ := h
  exact ⟨a1, a2, a3, a4, a5, a6, fun g m hg => by rw [gi_si, if_neg (by omega)]; exact a7 g m hg, a8⟩
theorem Mst.sai {p : Nat → Nat} {σ τ : HS} (h : Mst p σ τ) {n i : Nat} {v : Int32} (hn : p 295 ≤ n) : Mst p σ (sai τ n i v) := by
  obtain ⟨a1, a2, a3, a4, a5, a6, a7, a8⟩ := h
  exact ⟨a1, a2, a3, a4, a5, a6, a7, fun m j hm => by rw [ai_sai, if_neg (by omega)]; exact a8 m j hm⟩
theorem ShM.keep {p : Nat → Nat} {b : Nat} {σ τ : HS} (h : ShM p σ) (hb : p 0 = b) (k : Cst b σ τ) : ShM p τ := by
  obtain ⟨hp, z0, z1, z2⟩ := h
  obtain ⟨a1, a2, a3, a4, a5⟩ := k
  have e1 := hp 294
  have e2 := hp 312
  refine ⟨hp, Nat.le_trans z0 a1, by rw [(a2 _ (by omega)).1]; exact z1, fun q hq => ?_⟩
  obtain ⟨x1, x2, x3⟩ := z2 q hq
  obtain ⟨o1, o2⟩ := SML_ok q hq
  have e3 := hp q.2.1
  rw [a3 _ _ (by omega) (by omega) (by omega) (by omega), (a2 _ (by omega)).1, (a2 _ (by omega)).2.1]
  exact ⟨x1, x2, x3⟩
theorem ShM.keepM {p : Nat → Nat} {σ τ : HS} (h : ShM p σ) (k : Mst p σ τ) : ShM p τ := by
  obtain ⟨a1, a2, a3, a4, a5, a6, a7, a8⟩ := k
  unfold ShM at h ⊢
  rw [a1, a2, a3, a5]
  exact h
theorem RC.keepM {p : Nat → Nat} {b : Nat} {A : AS} {σ τ : HS} (h : RC b A σ) (hb : p 295 = b + 295) (k : Mst p σ τ) : RC b A τ := by
  have hz := h.sz
  obtain ⟨h1, h2, h3, h4, h5⟩ := h
  obtain ⟨a1, a2, a3, a4, a5, a6, a7, a8⟩ := k
  have ag : ∀ S : List Nat, (∀ g ∈ S, g < 240) → Ag S σ τ := fun S hS => ⟨by rw [a5]; exact Nat.le_refl _, fun g hg m _ => a7 g m (hS g hg)⟩
  refine ⟨?_, h2.keep hz (ag _ (by decide)) a5 a6, h3.keep hz (ag _ (by decide)), h4.keep hz (ag _ (by decide)) (fun n i hn => a8 n i (by omega)), h5.keep hz (ag _ (by decide)) (fun n _ => by rw [a1]) (fun g n _ _ => by rw [a3])⟩
  unfold ShC at h1 ⊢
  rw [a1, a2, a3, a4, a5]
  exact h1
/-- locks -/
def cntL (A : AS) : Nat := ((List.range 256).filter (fun c => decide (¬ zlk A 0 c = 0))).length
theorem cntL_cg {A A' : AS} (h : zlk A' = zlk A) : cntL A' = cntL A := by unfold cntL; rw [h]
def wv (q : Nat × Int32 × Int32 × Int32) : Int32 × Int32 := (q.2.1, if q.2.2.2 = 0 then q.2.2.1 else 0)
/-- scalars of the reference; nd, nv: how many data, writes; at most m records -/
def Msc (p : Nat → Nat) (m : Nat) (A : AS) (σ : HS) (nd nv nl : Nat) : Prop :=
  gi σ 241 (p 294) = zsc A 0 ∧ gi σ 242 (p 294) = zsc A 1 ∧ gi σ 243 (p 294) = zsc A 4 ∧ gi σ 244 (p 294) = zsc A 3 ∧ gi σ 245 (p 294) = zsc A 5 ∧ gi σ 246 (p 294) = nI nd ∧ gi σ 250 (p 294) = nI nv ∧ gi σ 255 (p 294) = nI nl ∧
  gi σ 267 (p 294) = zsc A 7 ∧ gi σ 268 (p 294) = zsc A 8 ∧ gi σ 269 (p 294) = zsc A 9 ∧ gi σ 270 (p 294) = zsc A 2 ∧ gi σ 271 (p 294) = zsc A 10 ∧ zsc A 6 = nI (nd + nv + 2 * nl) ∧ nd + nv + 2 * nl ≤ m
def Mlk (p : Nat → Nat) (A : AS) (σ : HS) : Prop := ∀ c, c < 256 → ai σ (p 302) c = zlk A 0 c ∧ (¬ zlk A 0 c = 0 → ai σ (p 303) c = nI (zlp A c) ∧ ai σ (p 304) c = zlk A 1 c ∧ zlp A c < 256)
def Mda (p : Nat → Nat) (A : AS) (σ : HS) (D : List (Nat × Int32 × Int32)) : Prop :=
  (∀ i q, D[i]? = some q → ai σ (p 295) i = nI q.1 ∧ ai σ (p 296) i = q.2.1 ∧ ai σ (p 297) i = q.2.2 ∧ q.1 < 256) ∧ ∀ c, c < 256 → ((D.filter (fun q => decide (q.1 = c))).map (fun q => q.2)).Perm (zl A (2 * c))
def Mwr (p : Nat → Nat) (A : AS) (σ : HS) (V : List (Nat × Int32 × Int32 × Int32)) : Prop :=
  (∀ i q, V[i]? = some q → ai σ (p 298) i = nI q.1 ∧ ai σ (p 299) i = q.2.1 ∧ ai σ (p 300) i = q.2.2.1 ∧ ai σ (p 301) i = q.2.2.2 ∧ q.1 < 256 ∧ (q.2.2.2 = 0 ∨ q.2.2.2 = 1) ∧ (q.2.2.2 = 0 → ¬ q.2.2.1 = 0)) ∧ ∀ c, c < 256 → ((V.filter (fun q => decide (q.1 = c))).map wv).Perm (zl A (2 * c + 1))
def Mt1 (p : Nat → Nat) (A : AS) (σ : HS) (k : Nat) : Prop := ai σ (p 305) k = ztf A 0 k ∧ (¬ ztf A 0 k = 0 → ai σ (p 306) k = ztf A 1 k ∧ ai σ (p 307) k = ztf A 2 k ∧ ai σ (p 308) k = nI (zow A k).length ∧ (zow A k).length ≤ 16 ∧
  (∀ i q, (zow A k)[i]? = some q → ai σ (p 309) (16 * k + i) = nI q.1 ∧ ai σ (p 310) (16 * k + i) = q.2 ∧ q.1 < 256) ∧ (¬ ztf A 0 k = 4 → ai σ (p 311) k = ztf A 4 k) ∧ (ztf A 0 k = 3 → ai σ (p 312) k = ztf A 3 k))
theorem Mt1.keep {p : Nat → Nat} {A A' : AS} {σ τ : HS} {k : Nat} (h : Mt1 p A σ k) (k1 : ∀ j, 305 ≤ j → j ≤ 312 → j ≠ 309 → j ≠ 310 → ai τ (p j) k = ai σ (p j) k) (k2 : ∀ j i, 309 ≤ j → j ≤ 310 → i < 16 → ai τ (p j) (16 * k + i) = ai σ (p j) (16 * k + i)) (e1 : ∀ j, ztf A' j k = ztf A j k) (e2 : zow A' k = zow A k) : Mt1 p A' τ k := by
  unfold Mt1
  rw [e1, e1, e1, e1, e1, e2, k1 305 (by omega) (by omega) (by omega) (by omega), k1 306 (by omega) (by omega) (by omega) (by omega), k1 307 (by omega) (by omega) (by omega) (by omega), k1 308 (by omega) (by omega) (by omega) (by omega), k1 311 (by omega) (by omega) (by omega) (by omega), k1 312 (by omega) (by omega) (by omega) (by omega)]
  refine ⟨h.1, fun hp => ?_⟩
  obtain ⟨y1, y2, y3, y4, y5, y6⟩ := h.2 hp
  refine ⟨y1, y2, y3, y4, fun i q hq => ?_, y6⟩
  have hi : i < 16 := by
    have := (List.getElem?_eq_some_iff.mp hq).1
    omega
  rw [k2 309 i (by omega) (by omega) hi, k2 310 i (by omega) (by omega) hi]
  exact y5 i q hq
def Mtr (p : Nat → Nat) (A : AS) (σ : HS) : Prop := ∀ k, k < 8 → Mt1 p A σ k
def RMo (p : Nat → Nat) (m : Nat) (A : AS) (σ : HS) : Prop := ShM p σ ∧ Mlk p A σ ∧ Mtr p A σ ∧ ∃ (D : List (Nat × Int32 × Int32)) (V : List (Nat × Int32 × Int32 × Int32)), Msc p m A σ D.length V.length (cntL A) ∧ Mda p A σ D ∧ Mwr p A σ V
theorem RMo.keep {p : Nat → Nat} {b m : Nat} {A : AS} {σ τ : HS} (h : RMo p m A σ) (hb : p 0 = b) (k : Cst b σ τ) : RMo p m A τ := by
  obtain ⟨h1, h2, h3, D, V, h4, h5, h6⟩ := h
  have hz := h1.2.1
  have hp := h1.1
  obtain ⟨a1, a2, a3, a4, a5⟩ := id k
  have e2 := hp 312
  have e3 := hp 294
  have ka : ∀ j i, 294 ≤ j → j ≤ 312 → ai τ (p j) i = ai σ (p j) i := fun j i q1 q2 => by
    have e1 := hp j
    exact a5 (p j) i (by omega) (by omega) (by omega)
  refine ⟨h1.keep hb k, fun c hc => ?_, fun x hx => ?_, D, V, ?_, ⟨fun i q hq => ?_, h5.2⟩, ⟨fun i q hq => ?_, h6.2⟩⟩
  · obtain ⟨x1, x2⟩ := h2 c hc
    rw [ka 302 _ (by omega) (by omega), ka 303 _ (by omega) (by omega), ka 304 _ (by omega) (by omega)]
    exact ⟨x1, x2⟩
  · exact (h3 x hx).keep (fun j _ _ _ _ => ka _ _ (by omega) (by omega)) (fun j i _ _ _ => ka _ _ (by omega) (by omega)) (fun _ => rfl) rfl
  · obtain ⟨s1, s2, s3, s4, s5, s6, s7, s8, s9, s10, s11, s12, s13, s14, s15⟩ := h4
    have q := fun g hg => a4 g (p 294) hg (by omega)
    refine ⟨?_, ?_, ?_, ?_, ?_, ?_, ?_, ?_, ?_, ?_, ?_, ?_, ?_, s14, s15⟩
    all_goals (rw [q _ (by decide)]; assumption)
  · rw [ka 295 _ (by omega) (by omega), ka 296 _ (by omega) (by omega), ka 297 _ (by omega) (by omega)]
    exact h5.1 i q hq
  · rw [ka 298 _ (by omega) (by omega), ka 299 _ (by omega) (by omega), ka 300 _ (by omega) (by omega), ka 301 _ (by omega) (by omega)]
    exact h6.1 i q hq
theorem Msc.up {p : Nat → Nat} {m m' nd nv nl nd' nv' nl' : Nat} {A A' : AS} {σ τ : HS} (h : Msc p m A σ nd nv nl) (z : ∀ j, j ≠ 6 → j ≠ 7 → zsc A' j = zsc A j) (z7 : zsc A' 7 = zsc A 7 + 1) (z6 : zsc A' 6 = nI (nd' + nv' + 2 * nl')) (g : ∀ f, f ≠ 246 → f ≠ 250 → f ≠ 255 → f ≠ 267 → gi τ f (p 294) = gi σ f (p 294))
    (g1 : gi τ 246 (p 294) = nI nd') (g2 : gi τ 250 (p 294) = nI nv') (g3 : gi τ 255 (p 294) = nI nl') (g4 : gi τ 267 (p 294) = gi σ 267 (p 294) + 1) (hm : nd' + nv' + 2 * nl' ≤ m') : Msc p m' A' τ nd' nv' nl' := by
  obtain ⟨a1, a2, a3, a4, a5, a6, a7, a8, a9, a10, a11, a12, a13, a14, a15⟩ := h
  refine ⟨?_, ?_, ?_, ?_, ?_, g1, g2, g3, by rw [g4, z7, a9], ?_, ?_, ?_, ?_, z6, hm⟩
  all_goals (rw [g _ (by decide) (by decide) (by decide) (by decide), z _ (by decide) (by decide)]; assumption)
