/-! THE REFERENCE'S CONSTRUCTOR; THE START -/
/-- arrays of the reference made so far -/
def Md (h a : Nat) (σ0 : HS) (g : Nat → Int32) (s : Nat) (l : List (Nat × Nat × Nat)) (σ : HS) : Prop := hs σ = a + l.length ∧ ns σ = s ∧ kd σ a = 7 ∧ (∀ f, gi σ f a = g f) ∧ (∀ j q, l[j]? = some q → gr σ q.1 a = a + (j + 1) ∧ kd σ (a + (j + 1)) = q.2.1 ∧ ln σ (a + (j + 1)) = q.2.2 ∧ ∀ i, ai σ (a + (j + 1)) i = 0) ∧ Fx h a 0 σ0 σ ∧ h ≤ a
theorem md_st {h a f k L : Nat} {σ0 : HS} {g : Nat → Int32} {s : Nat} {l : List (Nat × Nat × Nat)} {P σ2 : HS} (M : Md h a σ0 g s l P) (q : σ2 = nw P k L) (hf : ∀ x ∈ l, x.1 ≠ f) : Md h a σ0 g (s + L) (l ++ [(f, k, L)]) (sr σ2 f a (hs P + 1)) ∧ kd σ2 a = 7 := by
  obtain ⟨h1, h2, h3, h4, h5, h6, h7⟩ := M
  have k2 : kd σ2 a = 7 := by rw [q, kd_nw, if_neg (by omega)]; exact h3
  refine ⟨⟨?_, ?_, k2, fun x => ?_, fun j y hy => ?_, ?_, h7⟩, k2⟩
  · show hs σ2 = _
    rw [q, List.length_append]
    show hs P + 1 = _
    rw [h1]; rfl
  · show ns σ2 = _
    rw [q]
    show ns P + L = _
    rw [h2]
  · show gi σ2 x a = _
    rw [q, gi_nw, if_neg (by omega)]; exact h4 x
  · by_cases e : j < l.length
    · rw [List.getElem?_append_left e] at hy
      obtain ⟨y1, y2, y3, y4⟩ := h5 j y hy
      have hne : y.1 ≠ f := hf y (List.mem_of_getElem? hy)
      refine ⟨?_, ?_, ?_, fun i => ?_⟩
      · rw [gr_sr, if_neg (fun z => hne z.1), q, gr_nw, if_neg (by omega)]; exact y1
      · show kd σ2 _ = _
        rw [q, kd_nw, if_neg (by omega)]; exact y2
      · show ln σ2 _ = _
        rw [q, ln_nw, if_neg (by omega)]; exact y3
      · show ai σ2 _ i = 0
        rw [q, ai_nw, if_neg (by omega)]; exact y4 i
    · rw [List.getElem?_append_right (by omega)] at hy
      have hj : j = l.length := by
        have := (List.getElem?_eq_some_iff.mp hy).1
        simp at this; omega
      rw [hj, Nat.sub_self] at hy
      obtain rfl : (f, k, L) = y := by simpa using hy
      have ea : a + (j + 1) = hs P + 1 := by omega
      rw [ea]
      refine ⟨?_, ?_, ?_, fun i => ?_⟩
      · rw [gr_sr, if_pos ⟨rfl, rfl⟩]
      · show kd σ2 _ = _
        rw [q, kd_nw, if_pos rfl]
      · show ln σ2 _ = _
        rw [q, ln_nw, if_pos rfl]
      · show ai σ2 _ i = 0
        rw [q, ai_nw, if_pos rfl]
  · rw [q]; exact fx_sr (fx_nw h6 (by omega))
theorem md_si {h a f : Nat} {σ0 : HS} {g : Nat → Int32} {s : Nat} {l : List (Nat × Nat × Nat)} {P : HS} {v : Int32} (M : Md h a σ0 g s l P) : Md h a σ0 (fun x => if x = f then v else g x) s l (si P f a v) := by
  obtain ⟨h1, h2, h3, h4, h5, h6, h7⟩ := M
  refine ⟨h1, h2, h3, fun x => ?_, h5, fx_si h6 (Or.inr rfl), h7⟩
  show gi (si P f a v) x a = (if x = f then v else g x)
  rw [gi_si]
  by_cases e : x = f
  · rw [if_pos ⟨e, rfl⟩, if_pos e]
  · rw [if_neg (fun z => e z.1), if_neg e]; exact h4 x
set_option maxHeartbeats 4000000 in
theorem mod_init {h a : Nat} {σ0 σ : HS} {s : Nat} (M : Md h a σ0 (fun _ => 0) s [] σ) : ∃ τ, F_X6_init a σ = some ((), τ) ∧ ∃ g l s', Md h a σ0 g s' l τ ∧ (∀ q ∈ SML, l[q.2.1 - 295]? = some (q.1, q.2.2.1, q.2.2.2) ∧ 295 ≤ q.2.1) ∧ l.length = 18 ∧ s' = s + 22072 ∧ ∀ f, g f = if f = 242 then 10 else if f = 243 then 1 else 0 := by
  unfold F_X6_init
  rw [if_pos M.2.2.1]
  have M0 := md_si (f := 243) (v := 1) (md_si (f := 242) (v := 10) M)
  refine lt1_ex (fun s0 q0 => ?_)
  obtain ⟨M1, k0⟩ := md_st (f := 247) M0 q0 (by decide)
  rw [if_pos k0]
  refine lt1_ex (fun s1 q1 => ?_)
  obtain ⟨M2, k1⟩ := md_st (f := 248) M1 q1 (by decide)
  rw [if_pos k1]
  refine lt1_ex (fun t2 r2 => ?_)
  rw [← r2] at M2
  clear r2
  refine lt1_ex (fun s2 q2 => ?_)
  obtain ⟨M3, k2⟩ := md_st (f := 249) M2 q2 (by decide)
  rw [if_pos k2]
  refine lt1_ex (fun s3 q3 => ?_)
  obtain ⟨M4, k3⟩ := md_st (f := 251) M3 q3 (by decide)
  rw [if_pos k3]
  refine lt1_ex (fun s4 q4 => ?_)
  obtain ⟨M5, k4⟩ := md_st (f := 252) M4 q4 (by decide)
  rw [if_pos k4]
  refine lt1_ex (fun s5 q5 => ?_)
  obtain ⟨M6, k5⟩ := md_st (f := 253) M5 q5 (by decide)
  rw [if_pos k5]
  refine lt1_ex (fun t6 r6 => ?_)
  rw [← r6] at M6
  clear r6
  refine lt1_ex (fun s6 q6 => ?_)
  obtain ⟨M7, k6⟩ := md_st (f := 254) M6 q6 (by decide)
  rw [if_pos k6]
  refine lt1_ex (fun s7 q7 => ?_)
  obtain ⟨M8, k7⟩ := md_st (f := 256) M7 q7 (by decide)
  rw [if_pos k7]
  refine lt1_ex (fun s8 q8 => ?_)
  obtain ⟨M9, k8⟩ := md_st (f := 257) M8 q8 (by decide)
  rw [if_pos k8]
  refine lt1_ex (fun s9 q9 => ?_)
  obtain ⟨M10, k9⟩ := md_st (f := 258) M9 q9 (by decide)
  rw [if_pos k9]
  refine lt1_ex (fun t10 r10 => ?_)
  rw [← r10] at M10
  clear r10
  refine lt1_ex (fun s10 q10 => ?_)
  obtain ⟨M11, k10⟩ := md_st (f := 259) M10 q10 (by decide)
  rw [if_pos k10]
  refine lt1_ex (fun s11 q11 => ?_)
  obtain ⟨M12, k11⟩ := md_st (f := 260) M11 q11 (by decide)
  rw [if_pos k11]
  refine lt1_ex (fun s12 q12 => ?_)
  obtain ⟨M13, k12⟩ := md_st (f := 261) M12 q12 (by decide)
  rw [if_pos k12]
  refine lt1_ex (fun s13 q13 => ?_)
  obtain ⟨M14, k13⟩ := md_st (f := 262) M13 q13 (by decide)
  rw [if_pos k13]
  refine lt1_ex (fun t14 r14 => ?_)
  rw [← r14] at M14
  clear r14
  refine lt1_ex (fun s14 q14 => ?_)
  obtain ⟨M15, k14⟩ := md_st (f := 263) M14 q14 (by decide)
  rw [if_pos k14]
  refine lt1_ex (fun s15 q15 => ?_)
  obtain ⟨M16, k15⟩ := md_st (f := 264) M15 q15 (by decide)
  rw [if_pos k15]
  refine lt1_ex (fun s16 q16 => ?_)
  obtain ⟨M17, k16⟩ := md_st (f := 265) M16 q16 (by decide)
  rw [if_pos k16]
  refine lt1_ex (fun s17 q17 => ?_)
  obtain ⟨M18, k17⟩ := md_st (f := 266) M17 q17 (by decide)
  rw [if_pos k17]
  refine lt1_ex (fun t18 r18 => ?_)
  rw [← r18] at M18
  clear r18
  refine ⟨_, rfl, _, _, _, md_si (f := 267) (v := 0) M18, by decide, rfl, by omega, fun f => ?_⟩
  by_cases e1 : f = 267
  · subst e1; rfl
  · rw [if_neg e1]
    by_cases e2 : f = 243
    · subst e2; rfl
    · rw [if_neg e2, if_neg e2]
def A0 : AS := (fun j => if j = 1 then 10 else if j = 4 then 1 else 0, fun _ _ => 0, fun _ _ => 0, fun _ => [], fun _ => [], fun _ => 0, 0)
theorem a0_sc (j : Nat) : zsc A0 j = if j = 1 then 10 else if j = 4 then 1 else 0 := rfl
theorem a0_lk (i j : Nat) : zlk A0 i j = 0 := rfl
theorem a0_tf (i j : Nat) : ztf A0 i j = 0 := rfl
theorem a0_l (d : Nat) : zl A0 d = [] := rfl
theorem a0_ow (k : Nat) : zow A0 k = [] := rfl
theorem a0_lp (c : Nat) : zlp A0 c = 0 := rfl
theorem a0_ne : zne A0 = 0 := rfl
theorem a0_cnt : cntL A0 = 0 := by
  unfold cntL
  rw [List.length_eq_zero_iff, List.filter_eq_nil_iff]
  intro c _
  rw [a0_lk]
  decide
theorem a0_PI : PI 0 A0 := by
  refine ⟨⟨⟨1, 0, rfl, rfl, by decide, by decide, by decide⟩, fun d => by rw [a0_l]; exact Nat.zero_le _, Nat.le_refl _, fun c _ => by rw [a0_lp]; decide, fun c _ => ?_, fun k _ => ?_⟩, by rw [a0_sc]; decide⟩
  · unfold Pce
    rw [a0_l, a0_l, a0_lk, a0_lp, a0_lk]
    refine ⟨List.Pairwise.nil, List.Pairwise.nil, fun q hq => (by cases hq), fun q hq => (by cases hq), fun q hq => (by cases hq), List.Pairwise.nil, fun _ => ⟨rfl, rfl⟩, fun z => absurd rfl z, fun q hq => (by cases hq)⟩
  · unfold Pcl Ph
    rw [a0_tf, a0_tf, a0_tf, a0_tf, a0_tf, a0_ow]
    exact ⟨Or.inl rfl, fun _ => ⟨rfl, rfl, rfl, rfl, rfl⟩, fun z => absurd rfl z, fun q hq => (by cases hq), ⟨fun z => absurd z (by decide), fun z => absurd z (by decide), fun z => absurd z (by decide)⟩, fun z => absurd z (by decide), fun _ => rfl, fun _ _ => rfl, fun z => absurd rfl z, fun z => absurd rfl z⟩
/-- the heap's start: nothing of ours -/
def S0 (b : Nat) : HS := (fun _ => 0, fun _ => 0, fun _ _ => 0, fun _ _ => 0, fun _ _ => 0, fun _ _ => 0, b, 0)
theorem s0_z (b : Nat) : Z0 (S0 b) := ⟨fun _ _ => rfl, fun _ => ⟨rfl, rfl⟩⟩
theorem md_mo {p : Nat → Nat} {h : Nat} {σ0 τ : HS} {g : Nat → Int32} {s : Nat} {l : List (Nat × Nat × Nat)} (hp : ∀ j, p j = p 0 + j) (M : Md h (p 294) σ0 g s l τ) (hl : ∀ q ∈ SML, l[q.2.1 - 295]? = some (q.1, q.2.2.1, q.2.2.2) ∧ 295 ≤ q.2.1) (h18 : l.length = 18) (hg : ∀ f, g f = if f = 242 then 10 else if f = 243 then 1 else 0) : RMo p 3000 A0 τ := by
  obtain ⟨h1, h2, h3, h4, h5, h6, h7⟩ := M
  have key : ∀ q ∈ SML, gr τ q.1 (p 294) = p q.2.1 ∧ kd τ (p q.2.1) = q.2.2.1 ∧ ln τ (p q.2.1) = q.2.2.2 ∧ ∀ i, ai τ (p q.2.1) i = 0 := fun q hq => by
    obtain ⟨e1, e2⟩ := hl q hq
    have := h5 _ _ e1
    have ea : p 294 + (q.2.1 - 295 + 1) = p q.2.1 := by rw [hp 294, hp q.2.1]; omega
    rw [ea] at this
    exact this
  have S : ShM p τ := ⟨hp, by rw [h1, h18, hp 312, hp 294]; omega, h3, fun q hq => ⟨(key q hq).1, (key q hq).2.1, (key q hq).2.2.1⟩⟩
  have z302 := (key (256, 302, 100, 256) (by decide)).2.2.2
  have z305 := (key (259, 305, 100, 8) (by decide)).2.2.2
  refine ⟨S, fun c _ => ⟨z302 c, fun z => absurd (a0_lk 0 c) z⟩, fun k _ => mt0 (z305 k) (a0_tf 0 k), [], [], ?_, ⟨fun i q hq => by simp at hq, fun c _ => by rw [a0_l]; exact List.Perm.refl _⟩, ⟨fun i q hq => by simp at hq, fun c _ => by rw [a0_l]; exact List.Perm.refl _⟩⟩
  rw [a0_cnt]
  unfold Msc
  simp only [h4, hg, a0_sc]
  exact ⟨rfl, rfl, rfl, rfl, rfl, rfl, rfl, rfl, rfl, rfl, rfl, rfl, rfl, rfl, by decide⟩
