/-! THE CLASS'S OBJECTS AND THE ABSTRACT STATE; b: the heap's size at the law's start -/
def N0 : Nat := 24127
def rws (l : List (Nat × Int32)) : List Nat := l.foldl (fun acc q => if q.1 / 4 ∈ acc then acc else acc ++ [q.1 / 4]) []
/-- the fixed shape of the class's objects -/
def ShC (b : Nat) (σ : HS) : Prop :=
  b + 312 ≤ hs σ ∧ kd σ (b + 1) = 6 ∧ gr σ 200 (b + 1) = b + 2 ∧ gr σ 201 (b + 1) = b + 260 ∧ gr σ 202 (b + 1) = b + 261 ∧
  kd σ (b + 2) = 4 ∧ gr σ 120 (b + 2) = b + 3 ∧ kd σ (b + 3) = 102 ∧ ln σ (b + 3) = 256 ∧ (∀ c, c < 256 → ar σ (b + 3) c = b + 4 + c ∧ kd σ (b + 4 + c) = 1) ∧
  kd σ (b + 260) = 3 ∧ kd σ (b + 261) = 103 ∧ ln σ (b + 261) = 8 ∧
  ∀ k, k < 8 → ar σ (b + 261) k = b + 262 + 4 * k ∧ kd σ (b + 262 + 4 * k) = 5 ∧ gr σ 165 (b + 262 + 4 * k) = b + 263 + 4 * k ∧ gr σ 166 (b + 262 + 4 * k) = b + 264 + 4 * k ∧ gr σ 168 (b + 262 + 4 * k) = b + 265 + 4 * k ∧
    kd σ (b + 263 + 4 * k) = 100 ∧ kd σ (b + 264 + 4 * k) = 100 ∧ kd σ (b + 265 + 4 * k) = 100 ∧ ln σ (b + 263 + 4 * k) = 16 ∧ ln σ (b + 264 + 4 * k) = 16 ∧ ln σ (b + 265 + 4 * k) = 16
def Rsc (b : Nat) (A : AS) (σ : HS) : Prop :=
  gi σ 203 (b + 1) = zsc A 0 ∧ gi σ 204 (b + 1) = zsc A 1 ∧ gi σ 205 (b + 1) = zsc A 2 ∧ gi σ 80 (b + 260) = zsc A 3 ∧ gi σ 81 (b + 260) = zsc A 4 ∧ gi σ 82 (b + 260) = zsc A 5 ∧
  gi σ 121 (b + 2) = zsc A 6 ∧ gi σ 122 (b + 2) = zsc A 7 ∧ gi σ 123 (b + 2) = zsc A 8 ∧ gi σ 124 (b + 2) = zsc A 9 ∧ gi σ 125 (b + 2) = zsc A 10 ∧ hs σ = b + 312 + zne A ∧ ns σ = N0 + 3 * zne A
def Rlk (b : Nat) (A : AS) (σ : HS) : Prop := ∀ c, c < 256 → gi σ 2 (b + 4 + c) = zlk A 0 c ∧ gi σ 3 (b + 4 + c) = nI (zlp A c) ∧ gi σ 4 (b + 4 + c) = zlk A 1 c ∧ zlp A c < 256
def Rtr (b : Nat) (A : AS) (σ : HS) : Prop := ∀ k, k < 8 →
  gi σ 160 (b + 262 + 4 * k) = ztf A 0 k ∧ gi σ 161 (b + 262 + 4 * k) = ztf A 1 k ∧ gi σ 162 (b + 262 + 4 * k) = ztf A 2 k ∧ gi σ 163 (b + 262 + 4 * k) = ztf A 3 k ∧ gi σ 169 (b + 262 + 4 * k) = ztf A 4 k ∧
  gi σ 164 (b + 262 + 4 * k) = nI (zow A k).length ∧ (zow A k).length ≤ 16 ∧ (∀ i q, (zow A k)[i]? = some q → ai σ (b + 263 + 4 * k) i = nI q.1 ∧ ai σ (b + 264 + 4 * k) i = q.2 ∧ q.1 < 256) ∧
  gi σ 167 (b + 262 + 4 * k) = nI (rws (zow A k)).length ∧ ∀ i r, (rws (zow A k))[i]? = some r → ai σ (b + 265 + 4 * k) i = nI r
/-- chains: d = 2c the data of cell c, 2c + 1 its writes -/
def Rch (b : Nat) (A : AS) (σ : HS) : Prop := ∃ (CL : Nat → List Nat) (ow : Nat → Nat), ∀ d, d < 512 →
  ch σ (gr σ (d % 2) (b + 4 + d / 2)) (CL d) ∧ (CL d).map (kv σ) = zl A d ∧ (∀ a ∈ CL d, b + 312 < a ∧ a ≤ hs σ ∧ ow a = d) ∧ (CL d).Nodup
def RC (b : Nat) (A : AS) (σ : HS) : Prop := ShC b σ ∧ Rsc b A σ ∧ Rlk b A σ ∧ Rtr b A σ ∧ Rch b A σ
/-- what a call of the class leaves as it was -/
def Cst (b : Nat) (σ τ : HS) : Prop :=
  hs σ ≤ hs τ ∧ (∀ n, n ≤ hs σ → kd τ n = kd σ n ∧ ln τ n = ln σ n ∧ ∀ i, ar τ n i = ar σ n i) ∧ (∀ g n, g ≠ 0 → g ≠ 1 → g ≠ 42 → n ≤ hs σ → gr τ g n = gr σ g n) ∧
  (∀ g n, 240 ≤ g → n ≤ hs σ → gi τ g n = gi σ g n) ∧ ∀ n i, b + 294 ≤ n → n ≤ b + 312 → n ≤ hs σ → ai τ n i = ai σ n i
theorem Cst.rf {b : Nat} {σ : HS} : Cst b σ σ := ⟨Nat.le_refl _, fun _ _ => ⟨rfl, rfl, fun _ => rfl⟩, fun _ _ _ _ _ _ => rfl, fun _ _ _ _ => rfl, fun _ _ _ _ _ => rfl⟩
theorem Cst.tr {b : Nat} {σ τ υ : HS} (h : Cst b σ τ) (k : Cst b τ υ) : Cst b σ υ := by
  obtain ⟨a1, a2, a3, a4, a5⟩ := h
  obtain ⟨b1, b2, b3, b4, b5⟩ := k
  refine ⟨Nat.le_trans a1 b1, fun n hn => ?_, fun g n h1 h2 h3 hn => ?_, fun g n hg hn => ?_, fun n i h1 h2 h3 => ?_⟩
  · obtain ⟨x1, x2, x3⟩ := a2 n hn
    obtain ⟨y1, y2, y3⟩ := b2 n (Nat.le_trans hn a1)
    exact ⟨y1.trans x1, y2.trans x2, fun i => (y3 i).trans (x3 i)⟩
  · exact (b3 g n h1 h2 h3 (Nat.le_trans hn a1)).trans (a3 g n h1 h2 h3 hn)
  · exact (b4 g n hg (Nat.le_trans hn a1)).trans (a4 g n hg hn)
  · exact (b5 n i h1 h2 (Nat.le_trans h3 a1)).trans (a5 n i h1 h2 h3)
theorem Cst.si {b : Nat} {σ τ : HS} (h : Cst b σ τ) {f n : Nat} {v : Int32} (hf : f < 240) : Cst b σ (si τ f n v) := by
  obtain ⟨a1, a2, a3, a4, a5⟩ := h
  refine ⟨a1, a2, a3, fun g m hg hm => ?_, a5⟩
  rw [gi_si, if_neg (by omega)]
  exact a4 g m hg hm
theorem Cst.sr {b : Nat} {σ τ : HS} (h : Cst b σ τ) {f n v : Nat} (hf : f = 0 ∨ f = 1 ∨ f = 42) : Cst b σ (sr τ f n v) := by
  obtain ⟨a1, a2, a3, a4, a5⟩ := h
  refine ⟨a1, a2, fun g m h1 h2 h3 hm => ?_, a4, a5⟩
  rw [gr_sr, if_neg (by omega)]
  exact a3 g m h1 h2 h3 hm
theorem Cst.sai {b : Nat} {σ τ : HS} (h : Cst b σ τ) {n i : Nat} {v : Int32} (hn : n < b + 294) : Cst b σ (sai τ n i v) := by
  obtain ⟨a1, a2, a3, a4, a5⟩ := h
  refine ⟨a1, a2, a3, a4, fun m j h1 h2 h3 => ?_⟩
  rw [ai_sai, if_neg (by omega)]
  exact a5 m j h1 h2 h3
theorem Cst.nw {b : Nat} {σ τ : HS} (h : Cst b σ τ) {k L : Nat} : Cst b σ (nw τ k L) := by
  obtain ⟨a1, a2, a3, a4, a5⟩ := h
  refine ⟨Nat.le_succ_of_le a1, fun n hn => ?_, fun g n h1 h2 h3 hn => ?_, fun g n hg hn => ?_, fun n i h1 h2 h3 => ?_⟩
  · rw [kd_nw, ln_nw, if_neg (by omega), if_neg (by omega)]
    exact ⟨(a2 n hn).1, (a2 n hn).2.1, fun i => by rw [ar_nw, if_neg (by omega)]; exact (a2 n hn).2.2 i⟩
  · rw [gr_nw, if_neg (by omega)]; exact a3 g n h1 h2 h3 hn
  · rw [gi_nw, if_neg (by omega)]; exact a4 g n hg hn
  · rw [ai_nw, if_neg (by omega)]; exact a5 n i h1 h2 h3
theorem ShC.keep {b : Nat} {σ τ : HS} (h : ShC b σ) (k : Cst b σ τ) : ShC b τ := by
  obtain ⟨s0, s1, s2, s3, s4, s5, s6, s7, s8, s9, s10, s11, s12, s13⟩ := h
  obtain ⟨a1, a2, a3, a4, a5⟩ := k
  refine ⟨Nat.le_trans s0 a1, ?_, ?_, ?_, ?_, ?_, ?_, ?_, ?_, fun c hc => ⟨?_, ?_⟩, ?_, ?_, ?_, fun k hk => ?_⟩
  · rw [(a2 _ (by omega)).1]; exact s1
  · rw [a3 _ _ (by decide) (by decide) (by decide) (by omega)]; exact s2
  · rw [a3 _ _ (by decide) (by decide) (by decide) (by omega)]; exact s3
  · rw [a3 _ _ (by decide) (by decide) (by decide) (by omega)]; exact s4
  · rw [(a2 _ (by omega)).1]; exact s5
  · rw [a3 _ _ (by decide) (by decide) (by decide) (by omega)]; exact s6
  · rw [(a2 _ (by omega)).1]; exact s7
  · rw [(a2 _ (by omega)).2.1]; exact s8
  · rw [(a2 _ (by omega)).2.2]; exact (s9 c hc).1
  · rw [(a2 _ (by omega)).1]; exact (s9 c hc).2
  · rw [(a2 _ (by omega)).1]; exact s10
  · rw [(a2 _ (by omega)).1]; exact s11
  · rw [(a2 _ (by omega)).2.1]; exact s12
  · obtain ⟨t1, t2, t3, t4, t5, t6, t7, t8, t9, t10, t11⟩ := s13 k hk
    refine ⟨?_, ?_, ?_, ?_, ?_, ?_, ?_, ?_, ?_, ?_, ?_⟩
    · rw [(a2 _ (by omega)).2.2]; exact t1
    · rw [(a2 _ (by omega)).1]; exact t2
    · rw [a3 _ _ (by decide) (by decide) (by decide) (by omega)]; exact t3
    · rw [a3 _ _ (by decide) (by decide) (by decide) (by omega)]; exact t4
    · rw [a3 _ _ (by decide) (by decide) (by decide) (by omega)]; exact t5
    · rw [(a2 _ (by omega)).1]; exact t6
    · rw [(a2 _ (by omega)).1]; exact t7
    · rw [(a2 _ (by omega)).1]; exact t8
    · rw [(a2 _ (by omega)).2.1]; exact t9
    · rw [(a2 _ (by omega)).2.1]; exact t10
    · rw [(a2 _ (by omega)).2.1]; exact t11
/-- int fields that are as they were, on the cells that were there -/
def Ag (S : List Nat) (σ τ : HS) : Prop := hs σ ≤ hs τ ∧ ∀ g ∈ S, ∀ m, m ≤ hs σ → gi τ g m = gi σ g m
theorem Ag.rf {S : List Nat} {σ : HS} : Ag S σ σ := ⟨Nat.le_refl _, fun _ _ _ _ => rfl⟩
theorem Ag.si {S : List Nat} {σ τ : HS} (h : Ag S σ τ) {f n : Nat} {v : Int32} (hf : f ∉ S) : Ag S σ (si τ f n v) := ⟨h.1, fun g hg m hm => by
  rw [gi_si, if_neg (fun (q : g = f ∧ m = n) => hf (q.1 ▸ hg))]; exact h.2 g hg m hm⟩
theorem Ag.sr {S : List Nat} {σ τ : HS} (h : Ag S σ τ) {f n v : Nat} : Ag S σ (sr τ f n v) := h
theorem Ag.sai {S : List Nat} {σ τ : HS} (h : Ag S σ τ) {n i : Nat} {v : Int32} : Ag S σ (sai τ n i v) := h
theorem Ag.nw {S : List Nat} {σ τ : HS} (h : Ag S σ τ) {k L : Nat} : Ag S σ (nw τ k L) := ⟨Nat.le_succ_of_le h.1, fun g hg m hm => by
  have := h.1
  rw [gi_nw, if_neg (by omega)]; exact h.2 g hg m hm⟩
theorem Rsc.keep {b : Nat} {A : AS} {σ τ : HS} (h : Rsc b A σ) (h0 : b + 312 ≤ hs σ) (k : Ag [203, 204, 205, 80, 81, 82, 121, 122, 123, 124, 125] σ τ) (e1 : hs τ = hs σ) (e2 : ns τ = ns σ) : Rsc b A τ := by
  obtain ⟨a1, a2, a3, a4, a5, a6, a7, a8, a9, a10, a11, a12, a13⟩ := h
  have q := k.2
  refine ⟨?_, ?_, ?_, ?_, ?_, ?_, ?_, ?_, ?_, ?_, ?_, by rw [e1]; exact a12, by rw [e2]; exact a13⟩
  all_goals (rw [q _ (by decide) _ (by omega)]; assumption)
theorem Rlk.keep {b : Nat} {A : AS} {σ τ : HS} (h : Rlk b A σ) (h0 : b + 312 ≤ hs σ) (k : Ag [2, 3, 4] σ τ) : Rlk b A τ := by
  intro c hc
  obtain ⟨a1, a2, a3, a4⟩ := h c hc
  have q := k.2
  refine ⟨?_, ?_, ?_, a4⟩
  all_goals (rw [q _ (by decide) _ (by omega)]; assumption)
theorem Rtr.keep {b : Nat} {A : AS} {σ τ : HS} (h : Rtr b A σ) (h0 : b + 312 ≤ hs σ) (k : Ag [160, 161, 162, 163, 164, 167, 169] σ τ) (ka : ∀ n i, n < b + 294 → ai τ n i = ai σ n i) : Rtr b A τ := by
  intro c hc
  obtain ⟨a1, a2, a3, a4, a5, a6, a7, a8, a9, a10⟩ := h c hc
  have q := k.2
  refine ⟨?_, ?_, ?_, ?_, ?_, ?_, a7, fun i q hq => ?_, ?_, fun i r hr => ?_⟩
  case refine_7 => rw [ka _ _ (by omega), ka _ _ (by omega)]; exact a8 i q hq
  case refine_9 => rw [ka _ _ (by omega)]; exact a10 i r hr
  all_goals (rw [q _ (by decide) _ (by omega)]; assumption)
theorem Rch.keep {b : Nat} {A : AS} {σ τ : HS} (h : Rch b A σ) (h0 : b + 312 ≤ hs σ) (k : Ag [40, 41] σ τ) (kk : ∀ n, n ≤ hs σ → kd τ n = kd σ n) (kg : ∀ g n, g = 0 ∨ g = 1 ∨ g = 42 → n ≤ hs σ → gr τ g n = gr σ g n) : Rch b A τ := by
  obtain ⟨CL, ow, h⟩ := h
  refine ⟨CL, ow, fun d hd => ?_⟩
  obtain ⟨a1, a2, a3, a4⟩ := h d hd
  refine ⟨?_, ?_, fun a ha => ?_, a4⟩
  · rw [kg _ _ (by omega) (by omega)]
    exact ch_same _ _ (fun a ha => ⟨kk a (a3 a ha).2.1, kg _ _ (by omega) (a3 a ha).2.1⟩) a1
  · rw [← a2]
    exact kv_same (fun a ha => ⟨k.2 _ (by decide) _ (a3 a ha).2.1, k.2 _ (by decide) _ (a3 a ha).2.1⟩)
  · obtain ⟨x1, x2, x3⟩ := a3 a ha
    exact ⟨x1, Nat.le_trans x2 k.1, x3⟩
