/-! THE CLASS'S CONSTRUCTOR -/
theorem lt1_ex {P : HS → Prop} {x : HS} {f : HS → Option (Unit × HS)} (h : ∀ v, v = x → ∃ τ, f v = some ((), τ) ∧ P τ) : ∃ τ, lt1 x f = some ((), τ) ∧ P τ := h x rfl
/-- what stays while new cells are made: all of the cells n ≤ h but the fields of a and the elements of q -/
def Fx (h a q : Nat) (σ τ : HS) : Prop := ∀ n, n ≤ h → kd τ n = kd σ n ∧ ln τ n = ln σ n ∧ (n ≠ q → ∀ i, ar τ n i = ar σ n i) ∧ (n ≠ a → ∀ f, gr τ f n = gr σ f n ∧ gi τ f n = gi σ f n)
theorem Fx.rf {h a q : Nat} {σ : HS} : Fx h a q σ σ := fun _ _ => ⟨rfl, rfl, fun _ _ => rfl, fun _ _ => ⟨rfl, rfl⟩⟩
theorem Fx.tr {h h' a q : Nat} {σ τ υ : HS} (x : Fx h a q σ τ) (y : Fx h' a q τ υ) (hh : h ≤ h') : Fx h a q σ υ := fun n hn => by
  obtain ⟨a1, a2, a3, a4⟩ := x n hn
  obtain ⟨b1, b2, b3, b4⟩ := y n (Nat.le_trans hn hh)
  exact ⟨b1.trans a1, b2.trans a2, fun e i => (b3 e i).trans (a3 e i), fun e f => ⟨((b4 e f).1).trans (a4 e f).1, ((b4 e f).2).trans (a4 e f).2⟩⟩
theorem fx_nw {h a q : Nat} {σ τ : HS} (x : Fx h a q σ τ) (hh : h ≤ hs τ) {k L : Nat} : Fx h a q σ (nw τ k L) := fun n hn => by
  obtain ⟨a1, a2, a3, a4⟩ := x n hn
  rw [kd_nw, ln_nw, if_neg (by omega), if_neg (by omega)]
  refine ⟨a1, a2, fun e i => ?_, fun e f => ⟨?_, ?_⟩⟩
  · rw [ar_nw, if_neg (by omega)]; exact a3 e i
  · rw [gr_nw, if_neg (by omega)]; exact (a4 e f).1
  · rw [gi_nw, if_neg (by omega)]; exact (a4 e f).2
theorem fx_sr {h a q : Nat} {σ τ : HS} (x : Fx h a q σ τ) {f v : Nat} : Fx h a q σ (sr τ f a v) := fun n hn => by
  obtain ⟨a1, a2, a3, a4⟩ := x n hn
  refine ⟨a1, a2, a3, fun e g => ⟨?_, (a4 e g).2⟩⟩
  rw [gr_sr, if_neg (fun z => e z.2)]; exact (a4 e g).1
theorem fx_srn {h a q m : Nat} {σ τ : HS} (x : Fx h a q σ τ) (hm : h < m) {f v : Nat} : Fx h a q σ (sr τ f m v) := fun n hn => by
  obtain ⟨a1, a2, a3, a4⟩ := x n hn
  refine ⟨a1, a2, a3, fun e g => ⟨?_, (a4 e g).2⟩⟩
  rw [gr_sr, if_neg (by omega)]; exact (a4 e g).1
theorem fx_sar {h a q : Nat} {σ τ : HS} (x : Fx h a q σ τ) {i v : Nat} : Fx h a q σ (sar τ q i v) := fun n hn => by
  obtain ⟨a1, a2, a3, a4⟩ := x n hn
  refine ⟨a1, a2, fun e j => ?_, a4⟩
  rw [ar_sar, if_neg (fun z => e z.1)]; exact a3 e j
theorem fx_si {h a q m : Nat} {σ τ : HS} (x : Fx h a q σ τ) (hm : h < m ∨ m = a) {f : Nat} {v : Int32} : Fx h a q σ (si τ f m v) := fun n hn => by
  obtain ⟨a1, a2, a3, a4⟩ := x n hn
  refine ⟨a1, a2, a3, fun e g => ⟨(a4 e g).1, ?_⟩⟩
  rw [gi_si, if_neg (by omega)]; exact (a4 e g).2
/-- nothing is set yet -/
def Z0 (σ : HS) : Prop := (∀ f n, gi σ f n = 0) ∧ ∀ n, gr σ 0 n = 0 ∧ gr σ 1 n = 0
theorem z0_nw {σ : HS} (h : Z0 σ) {k L : Nat} : Z0 (nw σ k L) := by
  refine ⟨fun f n => ?_, fun n => ⟨?_, ?_⟩⟩
  · rw [gi_nw]; split
    · rfl
    · exact h.1 f n
  · rw [gr_nw]; split
    · rfl
    · exact (h.2 n).1
  · rw [gr_nw]; split
    · rfl
    · exact (h.2 n).2
theorem z0_sr {σ : HS} (h : Z0 σ) {f n v : Nat} (hf : 1 < f) : Z0 (sr σ f n v) := by
  refine ⟨h.1, fun m => ⟨?_, ?_⟩⟩
  · rw [gr_sr, if_neg (by omega)]; exact (h.2 m).1
  · rw [gr_sr, if_neg (by omega)]; exact (h.2 m).2
theorem z0_sar {σ : HS} (h : Z0 σ) {n i v : Nat} : Z0 (sar σ n i v) := h
theorem tab_L {a q : Nat} : ∀ (r N c : Nat) (σ : HS), c + r = 256 → r < N → kd σ a = 4 → gr σ 120 a = q → kd σ q = 102 → ln σ q = 256 → a ≤ hs σ → q ≤ hs σ → Z0 σ →
    ∃ τ, L_X3_init_16 N a (nI c) σ = some ((), τ) ∧ hs τ = hs σ + r ∧ ns τ = ns σ + 5 * r ∧ (∀ i, i < r → ar τ q (c + i) = hs σ + 1 + i ∧ kd τ (hs σ + 1 + i) = 1) ∧ (∀ i, i < c → ar τ q i = ar σ q i) ∧ Fx (hs σ) (hs σ + 1) q σ τ ∧ Z0 τ := by
  intro r
  induction r with
  | zero =>
    intro N c σ hc hN _ _ _ _ _ _ hz
    obtain ⟨N, rfl⟩ : ∃ M, N = M + 1 := ⟨N - 1, by omega⟩
    simp only [L_X3_init_16, B_X3_init_16]
    rw [if_pos (by rw [nI_256]; exact nI_le (by omega) (by omega))]
    exact ⟨σ, rfl, rfl, by omega, fun i hi => absurd hi (by omega), fun _ _ => rfl, Fx.rf, hz⟩
  | succ r ih =>
    intro N c σ hc hN h1 h2 h3 h4 h5 h6 hz
    obtain ⟨N, rfl⟩ : ∃ M, N = M + 1 := ⟨N - 1, by omega⟩
    simp only [L_X3_init_16, B_X3_init_16]
    rw [if_neg (by rw [nI_256]; exact nI_ge (by omega) (by omega)), if_pos h1]
    refine lt1_ex (fun σ3 q3 => ?_)
    have e1 : hs σ3 = hs σ + 1 := by rw [q3]; rfl
    have x3 : Fx (hs σ) (hs σ + 1) q σ σ3 := by rw [q3]; exact fx_nw Fx.rf (Nat.le_refl _)
    have z3 : Z0 σ3 := by rw [q3]; exact z0_nw hz
    have k3 : kd σ3 (hs σ + 1) = 1 := by rw [q3]; exact kd_nw_self σ 1 5
    have n3 : ns σ3 = ns σ + 5 := by rw [q3]; rfl
    have aq : ∀ i, ar σ3 q i = ar σ q i := fun i => by rw [q3, ar_nw, if_neg (by omega)]
    clear q3
    have i3 : F_X0_init (hs σ + 1) σ3 = some ((), σ3) := by unfold F_X0_init; rw [if_pos k3]
    obtain ⟨y1, y2, y3, y4⟩ := x3 q h6
    obtain ⟨w1, w2, w3, w4⟩ := x3 a h5
    rw [bd_eq i3, h2, y1, y2, h4, if_pos ⟨h3, inb_nI (by omega) (by decide)⟩, if_pos k3, nI_clamp (by omega), nI_1]
    have hg : gr (sar σ3 q c (hs σ + 1)) 120 a = q := by
      show gr σ3 120 a = q
      rw [(w4 (by omega) 120).1]; exact h2
    obtain ⟨τ, t1, t2, t3, t4, t5, t6, t7⟩ := ih N (c + 1) (sar σ3 q c (hs σ + 1)) (by omega) (by omega) (w1.trans h1) hg (y1.trans h3) (y2.trans h4) (by show a ≤ hs σ3; omega) (by show q ≤ hs σ3; omega) (z0_sar z3)
    have e2 : hs (sar σ3 q c (hs σ + 1)) = hs σ + 1 := e1
    have e3 : ns (sar σ3 q c (hs σ + 1)) = ns σ + 5 := n3
    rw [e2] at t2 t4 t6
    rw [e3] at t3
    refine ⟨τ, t1, by omega, by omega, fun i hi => ?_, fun i hi => ?_, ?_, t7⟩
    · cases i with
      | zero =>
        refine ⟨?_, ?_⟩
        · rw [Nat.add_zero, t5 c (by omega), ar_sar, if_pos ⟨rfl, rfl⟩]
        · rw [Nat.add_zero, (t6 (hs σ + 1) (Nat.le_refl _)).1]
          exact k3
      | succ i =>
        obtain ⟨u1, u2⟩ := t4 i (by omega)
        refine ⟨?_, ?_⟩
        · rw [show c + (i + 1) = c + 1 + i by omega, u1]; omega
        · rw [show hs σ + 1 + (i + 1) = hs σ + 1 + 1 + i by omega]; exact u2
    · rw [t5 i (by omega), ar_sar, if_neg (by omega)]
      exact aq i
    · intro n hn
      obtain ⟨b1, b2, b3, b4⟩ := t6 n (by omega)
      obtain ⟨a1, a2, a3, a4⟩ := x3 n hn
      refine ⟨b1.trans a1, b2.trans a2, fun e i => ?_, fun e f => ?_⟩
      · rw [b3 e i, ar_sar, if_neg (fun z => e z.1)]; exact a3 e i
      · obtain ⟨c1, c2⟩ := b4 (by omega) f
        obtain ⟨d1, d2⟩ := a4 e f
        exact ⟨c1.trans d1, c2.trans d2⟩
theorem tab_init {a : Nat} {σ : HS} (h1 : kd σ a = 4) (h5 : a ≤ hs σ) (hz : Z0 σ) : ∃ τ, F_X3_init a σ = some ((), τ) ∧ hs τ = hs σ + 257 ∧ ns τ = ns σ + 1536 ∧ gr τ 120 a = hs σ + 1 ∧ kd τ (hs σ + 1) = 102 ∧ ln τ (hs σ + 1) = 256 ∧ (∀ i, i < 256 → ar τ (hs σ + 1) i = hs σ + 2 + i ∧ kd τ (hs σ + 2 + i) = 1) ∧ Fx (hs σ) a 0 σ τ ∧ Z0 τ := by
  unfold F_X3_init
  rw [if_pos h1]
  refine lt1_ex (fun σ2 q2 => ?_)
  have e2 : hs σ2 = hs σ + 1 := by rw [q2]; rfl
  have n2 : ns σ2 = ns σ + 256 := by rw [q2]; rfl
  have k2 : kd σ2 (hs σ + 1) = 102 := by rw [q2]; exact kd_nw_self σ 102 256
  have l2 : ln σ2 (hs σ + 1) = 256 := by rw [q2, ln_nw, if_pos rfl]
  have x2 : Fx (hs σ) a 0 σ σ2 := by rw [q2]; exact fx_nw Fx.rf (Nat.le_refl _)
  have z2 : Z0 σ2 := by rw [q2]; exact z0_nw hz
  clear q2
  have ka : kd σ2 a = 4 := (x2 a h5).1.trans h1
  rw [if_pos ka]
  obtain ⟨τ, t1, t2, t3, t4, t5, t6, t7⟩ := tab_L (a := a) (q := hs σ + 1) 256 NF 0 (sr σ2 120 a (hs σ + 1)) rfl (by decide) ka (by rw [gr_sr, if_pos ⟨rfl, rfl⟩]) k2 l2 (by show a ≤ hs σ2; omega) (by show hs σ + 1 ≤ hs σ2; omega) (z0_sr z2 (by decide))
  have e3 : hs (sr σ2 120 a (hs σ + 1)) = hs σ + 1 := e2
  have e4 : ns (sr σ2 120 a (hs σ + 1)) = ns σ + 256 := n2
  rw [e3] at t2 t4 t6
  rw [e4] at t3
  rw [nI_0] at t1
  obtain ⟨g1, g2, g3, g4⟩ := t6 a (by omega)
  obtain ⟨f1, f2, f3, f4⟩ := t6 (hs σ + 1) (Nat.le_refl _)
  refine ⟨τ, t1, by omega, by omega, ?_, f1.trans k2, f2.trans l2, fun i hi => ?_, fun n hn => ?_, t7⟩
  · rw [(g4 (by omega) 120).1, gr_sr, if_pos ⟨rfl, rfl⟩]
  · obtain ⟨u1, u2⟩ := t4 i hi
    rw [Nat.zero_add] at u1
    exact ⟨by rw [u1], u2⟩
  · obtain ⟨b1, b2, b3, b4⟩ := t6 n (by omega)
    obtain ⟨a1, a2, a3, a4⟩ := x2 n hn
    refine ⟨b1.trans a1, b2.trans a2, fun e i => (b3 (by omega) i).trans (a3 e i), fun e f => ?_⟩
    obtain ⟨c1, c2⟩ := b4 (by omega) f
    refine ⟨?_, c2.trans (a4 e f).2⟩
    rw [c1, gr_sr, if_neg (fun z => e z.2)]
    exact (a4 e f).1
theorem tr_init {a : Nat} {σ : HS} (h1 : kd σ a = 5) (h5 : a ≤ hs σ) (hz : ∀ f n, hs σ < n → gi σ f n = 0) : ∃ τ, F_X4_init a σ = some ((), τ) ∧ hs τ = hs σ + 3 ∧ ns τ = ns σ + 48 ∧ gr τ 165 a = hs σ + 1 ∧ gr τ 166 a = hs σ + 2 ∧ gr τ 168 a = hs σ + 3 ∧ (∀ j, 1 ≤ j → j ≤ 3 → kd τ (hs σ + j) = 100 ∧ ln τ (hs σ + j) = 16) ∧ Fx (hs σ) a 0 σ τ ∧ (∀ f n, gi τ f n = if hs σ < n then 0 else gi σ f n) ∧ (∀ f n, f < 2 → (∀ m, gr σ f m = 0) → gr τ f n = 0) := by
  unfold F_X4_init
  rw [if_pos h1]
  refine lt1_ex (fun σ2 q2 => ?_)
  have e2 : hs σ2 = hs σ + 1 := by rw [q2]; rfl
  have n2 : ns σ2 = ns σ + 16 := by rw [q2]; rfl
  have k2 : kd σ2 (hs σ + 1) = 100 ∧ ln σ2 (hs σ + 1) = 16 := by rw [q2]; exact ⟨kd_nw_self σ 100 16, by rw [ln_nw, if_pos rfl]⟩
  have x2 : Fx (hs σ) a 0 σ σ2 := by rw [q2]; exact fx_nw Fx.rf (Nat.le_refl _)
  have g2 : ∀ f n, gi σ2 f n = if n = hs σ + 1 then 0 else gi σ f n := fun f n => by rw [q2, gi_nw]
  have r2 : ∀ f n, gr σ2 f n = if n = hs σ + 1 then 0 else gr σ f n := fun f n => by rw [q2, gr_nw]
  clear q2
  have ka2 : kd σ2 a = 5 := (x2 a h5).1.trans h1
  rw [if_pos ka2]
  refine lt1_ex (fun σ4 q4 => ?_)
  have h2 : hs (sr σ2 165 a (hs σ + 1)) = hs σ + 1 := e2
  rw [h2]
  have e4 : hs σ4 = hs σ + 2 := by rw [q4]; show hs σ2 + 1 = _; omega
  have n4 : ns σ4 = ns σ + 32 := by rw [q4]; show ns σ2 + 16 = _; omega
  have k4 : kd σ4 (hs σ + 2) = 100 ∧ ln σ4 (hs σ + 2) = 16 := by
    rw [q4, kd_nw, ln_nw, h2, if_pos rfl, if_pos rfl]; exact ⟨rfl, rfl⟩
  have x4 : Fx (hs σ + 1) a 0 σ2 σ4 := by rw [q4]; exact fx_nw (fx_sr Fx.rf) (by rw [h2]; exact Nat.le_refl _)
  have g4 : ∀ f n, gi σ4 f n = if n = hs σ + 2 then 0 else gi σ2 f n := fun f n => by rw [q4, gi_nw, h2]; rfl
  have r4 : ∀ f n, gr σ4 f n = if n = hs σ + 2 then 0 else if f = 165 ∧ n = a then hs σ + 1 else gr σ2 f n := fun f n => by rw [q4, gr_nw, h2, gr_sr]
  clear q4
  have ka4 : kd σ4 a = 5 := (x4 a (by omega)).1.trans ka2
  rw [if_pos ka4]
  refine lt1_ex (fun σ6 q6 => ?_)
  have h4 : hs (sr σ4 166 a (hs σ + 1 + 1)) = hs σ + 2 := e4
  rw [h4]
  have e6 : hs σ6 = hs σ + 3 := by rw [q6]; show hs σ4 + 1 = _; omega
  have n6 : ns σ6 = ns σ + 48 := by rw [q6]; show ns σ4 + 16 = _; omega
  have k6 : kd σ6 (hs σ + 3) = 100 ∧ ln σ6 (hs σ + 3) = 16 := by
    rw [q6, kd_nw, ln_nw, h4, if_pos rfl, if_pos rfl]; exact ⟨rfl, rfl⟩
  have x6 : Fx (hs σ + 2) a 0 σ4 σ6 := by rw [q6]; exact fx_nw (fx_sr Fx.rf) (by rw [h4]; exact Nat.le_refl _)
  have g6 : ∀ f n, gi σ6 f n = if n = hs σ + 3 then 0 else gi σ4 f n := fun f n => by rw [q6, gi_nw, h4]; rfl
  have r6 : ∀ f n, gr σ6 f n = if n = hs σ + 3 then 0 else if f = 166 ∧ n = a then hs σ + 1 + 1 else gr σ4 f n := fun f n => by rw [q6, gr_nw, h4, gr_sr]
  clear q6
  have ka6 : kd σ6 a = 5 := (x6 a (by omega)).1.trans ka4
  rw [if_pos ka6]
  refine ⟨_, rfl, e6, n6, ?_, ?_, ?_, fun j j1 j2 => ?_, ?_, fun f n => ?_, fun f n hf hm => ?_⟩
  · rw [gr_sr, if_neg (by omega), r6, if_neg (by omega), if_neg (by omega), r4, if_neg (by omega), if_pos ⟨rfl, rfl⟩]
  · rw [gr_sr, if_neg (by omega), r6, if_neg (by omega), if_pos ⟨rfl, rfl⟩]
  · rw [gr_sr, if_pos ⟨rfl, rfl⟩]
  · show kd σ6 (hs σ + j) = 100 ∧ ln σ6 (hs σ + j) = 16
    have : j = 1 ∨ j = 2 ∨ j = 3 := by omega
    rcases this with q | q | q
    · subst q
      rw [(x6 (hs σ + 1) (by omega)).1, (x6 (hs σ + 1) (by omega)).2.1, (x4 (hs σ + 1) (by omega)).1, (x4 (hs σ + 1) (by omega)).2.1]; exact k2
    · subst q
      rw [(x6 (hs σ + 2) (by omega)).1, (x6 (hs σ + 2) (by omega)).2.1]; exact k4
    · subst q; exact k6
  · exact fx_sr ((x2.tr x4 (by omega)).tr x6 (by omega))
  · show gi σ6 f n = _
    rw [g6, g4, g2]
    by_cases q : hs σ < n
    · rw [if_pos q]
      split
      · rfl
      · split
        · rfl
        · split
          · rfl
          · exact hz f n q
    · rw [if_neg q, if_neg (by omega), if_neg (by omega), if_neg (by omega)]
  · rw [gr_sr, if_neg (by omega), r6]
    split
    · rfl
    · rw [if_neg (by omega), r4]
      split
      · rfl
      · rw [if_neg (by omega), r2]
        split
        · rfl
        · exact hm n
