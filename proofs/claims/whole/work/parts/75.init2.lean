/-! THE CLASS'S CONSTRUCTOR, 2 -/
def TK (τ : HS) (q i t : Nat) : Prop := ar τ q i = t ∧ kd τ t = 5 ∧ gr τ 165 t = t + 1 ∧ gr τ 166 t = t + 2 ∧ gr τ 168 t = t + 3 ∧ ∀ j, 1 ≤ j → j ≤ 3 → kd τ (t + j) = 100 ∧ ln τ (t + j) = 16
theorem txs_L {a q : Nat} : ∀ (r N c : Nat) (σ : HS), c + r = 8 → r < N → kd σ a = 6 → gr σ 202 a = q → kd σ q = 103 → ln σ q = 8 → a ≤ hs σ → q ≤ hs σ → 0 < q → (∀ f n, hs σ < n → gi σ f n = 0) →
    ∃ τ, L_X5_init_37 N a (nI c) σ = some ((), τ) ∧ hs τ = hs σ + 4 * r ∧ ns τ = ns σ + 58 * r ∧ (∀ i, i < r → TK τ q (c + i) (hs σ + 1 + 4 * i)) ∧ (∀ i, i < c → ar τ q i = ar σ q i) ∧ (∀ n, n ≤ hs σ → kd τ n = kd σ n ∧ ln τ n = ln σ n ∧ (n ≠ q → n ≠ 0 → ∀ i, ar τ n i = ar σ n i) ∧ ∀ f, gr τ f n = gr σ f n) ∧ (∀ f n, gi τ f n = if f = 204 ∧ n = a then 10 else if hs σ < n then 0 else gi σ f n) ∧ (∀ f n, f < 2 → (∀ m, gr σ f m = 0) → gr τ f n = 0) := by
  intro r
  induction r with
  | zero =>
    intro N c σ hc hN h1 h2 h3 h4 h5 h6 h7 hz
    obtain ⟨N, rfl⟩ : ∃ M, N = M + 1 := ⟨N - 1, by omega⟩
    simp only [L_X5_init_37, B_X5_init_37]
    rw [if_pos (by rw [nI_8]; exact nI_le (by omega) (by omega)), if_pos h1]
    refine ⟨_, rfl, rfl, rfl, fun i hi => absurd hi (by omega), fun _ _ => rfl, fun n _ => ⟨rfl, rfl, fun _ _ _ => rfl, fun _ => rfl⟩, fun f n => ?_, fun f n _ hm => hm n⟩
    rw [gi_si]
    by_cases e : f = 204 ∧ n = a
    · rw [if_pos e, if_pos e]
    · rw [if_neg e, if_neg e]
      split
      · rename_i q; exact hz f n q
      · rfl
  | succ r ih =>
    intro N c σ hc hN h1 h2 h3 h4 h5 h6 h7 hz
    obtain ⟨N, rfl⟩ : ∃ M, N = M + 1 := ⟨N - 1, by omega⟩
    simp only [L_X5_init_37, B_X5_init_37]
    rw [if_neg (by rw [nI_8]; exact nI_ge (by omega) (by omega)), if_pos h1]
    refine lt1_ex (fun σ4 q4 => ?_)
    have e4 : hs σ4 = hs σ + 1 := by rw [q4]; rfl
    have n4 : ns σ4 = ns σ + 10 := by rw [q4]; rfl
    have k4 : kd σ4 (hs σ + 1) = 5 := by rw [q4]; exact kd_nw_self σ 5 10
    have x4 : Fx (hs σ) (hs σ + 1) 0 σ σ4 := by rw [q4]; exact fx_nw Fx.rf (Nat.le_refl _)
    have g4 : ∀ f n, gi σ4 f n = if n = hs σ + 1 then 0 else gi σ f n := fun f n => by rw [q4, gi_nw]
    have r4 : ∀ f n, gr σ4 f n = if n = hs σ + 1 then 0 else gr σ f n := fun f n => by rw [q4, gr_nw]
    have a4 : ∀ n i, n ≤ hs σ → ar σ4 n i = ar σ n i := fun n i hn => by rw [q4, ar_nw, if_neg (by omega)]
    clear q4
    have z4 : ∀ f n, hs σ4 < n → gi σ4 f n = 0 := fun f n hn => by
      rw [g4]; split
      · rfl
      · exact hz f n (by omega)
    obtain ⟨σ5, t1, t2, t3, t4, t5, t6, t7, t8, t9, t10⟩ := tr_init k4 (by omega) z4
    have a5 : ∀ n i, n ≠ 0 → n ≤ hs σ → ar σ5 n i = ar σ n i := fun n i n0 hn => ((t8 n (by omega)).2.2.1 n0 i).trans (a4 n i hn)
    rw [e4] at t2 t4 t5 t6 t7 t9
    rw [n4] at t3
    have kk : ∀ n, n ≤ hs σ → kd σ5 n = kd σ n ∧ ln σ5 n = ln σ n ∧ ∀ f, gr σ5 f n = gr σ f n := fun n hn => by
      obtain ⟨b1, b2, b3, b4⟩ := t8 n (by omega)
      obtain ⟨c1, c2, c3, c4⟩ := x4 n hn
      exact ⟨b1.trans c1, b2.trans c2, fun f => ((b4 (by omega) f).1).trans (c4 (by omega) f).1⟩
    obtain ⟨y1, y2, y3⟩ := kk q h6
    obtain ⟨w1, w2, w3⟩ := kk a h5
    have k5 : kd σ5 (hs σ + 1) = 5 := ((t8 (hs σ + 1) (by omega)).1).trans k4
    rw [bd_eq t1, h2, y1, y2, h4, if_pos ⟨h3, inb_nI (by omega) (by decide)⟩, if_pos k5, nI_clamp (by omega), nI_1]
    have q0 : q ≠ 0 := by omega
    obtain ⟨τ, u1, u2, u3, u4, u5, u6, u7, u8⟩ := ih N (c + 1) (sar σ5 q c (hs σ + 1)) (by omega) (by omega) (w1.trans h1) ((w3 202).trans h2) (y1.trans h3) (y2.trans h4) (by show a ≤ hs σ5; omega) (by show q ≤ hs σ5; omega) h7 (fun f n hn => by
      have hn' : hs σ5 < n := hn
      show gi σ5 f n = 0
      rw [t9, if_pos (by omega)])
    have e5 : hs (sar σ5 q c (hs σ + 1)) = hs σ + 4 := t2
    have m5 : ns (sar σ5 q c (hs σ + 1)) = ns σ + 58 := by show ns σ5 = _; omega
    rw [e5] at u2 u4 u6 u7
    rw [m5] at u3
    refine ⟨τ, u1, by omega, by omega, fun i hi => ?_, fun i hi => ?_, fun n hn => ?_, fun f n => ?_, fun f n hf hm => ?_⟩
    · cases i with
      | zero =>
        rw [Nat.add_zero, Nat.mul_zero, Nat.add_zero]
        obtain ⟨v1, v2, v3, v4⟩ := u6 (hs σ + 1) (by omega)
        refine ⟨?_, v1.trans k5, (v4 165).trans t4, (v4 166).trans t5, (v4 168).trans t6, fun j j1 j2 => ?_⟩
        · rw [u5 c (by omega), ar_sar, if_pos ⟨rfl, rfl⟩]
        · obtain ⟨v1, v2, -⟩ := u6 (hs σ + 1 + j) (by omega)
          obtain ⟨s1, s2⟩ := t7 j j1 j2
          exact ⟨v1.trans s1, v2.trans s2⟩
      | succ i =>
        have := u4 i (by omega)
        rw [show c + (i + 1) = c + 1 + i by omega, show hs σ + 1 + 4 * (i + 1) = hs σ + 4 + 1 + 4 * i by omega]
        exact this
    · rw [u5 i (by omega), ar_sar, if_neg (by omega)]
      exact a5 q i q0 h6
    · obtain ⟨b1, b2, b3, b4⟩ := u6 n (by omega)
      obtain ⟨c1, c2, c3⟩ := kk n hn
      refine ⟨b1.trans c1, b2.trans c2, fun e n0 i => ?_, fun f => (b4 f).trans (c3 f)⟩
      rw [b3 e n0 i, ar_sar, if_neg (fun z => e z.1)]
      exact a5 n i n0 hn
    · rw [u7]
      by_cases e : f = 204 ∧ n = a
      · rw [if_pos e, if_pos e]
      · rw [if_neg e, if_neg e]
        by_cases e2 : hs σ < n
        · rw [if_pos e2]
          split
          · rfl
          · show gi σ5 f n = 0
            rw [t9]
            split
            · rfl
            · rw [g4, if_pos (by omega)]
        · rw [if_neg (by omega), if_neg e2]
          show gi σ5 f n = _
          rw [t9, if_neg (by omega), g4, if_neg (by omega)]
    · refine u8 f n hf (fun m => ?_)
      show gr σ5 f m = 0
      refine t10 f m hf (fun m' => ?_)
      rw [r4]; split
      · rfl
      · exact hm m'
set_option maxHeartbeats 4000000 in
theorem cls_init {a : Nat} {σ : HS} (h1 : kd σ a = 6) (hh : hs σ = a) (hn : ns σ = 6) (hz : Z0 σ) : ∃ τ, F_X5_init a σ = some ((), τ) ∧ ∃ t o q, t = a + 1 ∧ o = t + 258 ∧ q = o + 1 ∧ hs τ = q + 32 ∧ ns τ = 2023 ∧ (kd τ a = 6 ∧ gr τ 200 a = t ∧ gr τ 201 a = o ∧ gr τ 202 a = q) ∧ (kd τ t = 4 ∧ gr τ 120 t = t + 1 ∧ kd τ (t + 1) = 102 ∧ ln τ (t + 1) = 256 ∧ ∀ c, c < 256 → ar τ (t + 1) c = t + 2 + c ∧ kd τ (t + 2 + c) = 1) ∧
  (kd τ o = 3 ∧ kd τ q = 103 ∧ ln τ q = 8 ∧ ∀ k, k < 8 → TK τ q k (q + 1 + 4 * k)) ∧ (∀ f n, gi τ f n = if f = 204 ∧ n = a then 10 else if f = 81 ∧ n = o then 1 else 0) ∧ ∀ n, gr τ 0 n = 0 ∧ gr τ 1 n = 0 := by
  unfold F_X5_init
  rw [if_pos h1, hh]
  obtain ⟨t, ht⟩ : ∃ t, t = a + 1 := ⟨_, rfl⟩
  rw [← ht]
  refine lt1_ex (fun σ2 q2 => ?_)
  have e2 : hs σ2 = t := by rw [q2]; show hs σ + 1 = _; omega
  have n2 : ns σ2 = 12 := by rw [q2]; show ns σ + 6 = _; omega
  have k2 : kd σ2 t = 4 := by rw [q2, kd_nw, hh, if_pos ht]
  have k1 : kd σ2 a = 6 := by rw [q2, kd_nw, hh, if_neg (by omega)]; exact h1
  have z2 : Z0 σ2 := by rw [q2]; exact z0_nw hz
  clear q2
  obtain ⟨σ3, t1, t2, t3, t4, t5, t6, t7, t8, t9⟩ := tab_init (a := t) k2 (by omega) z2
  rw [e2] at t2 t4 t5 t6 t7 t8
  rw [n2] at t3
  have k3 : kd σ3 a = 6 := ((t8 a (by omega)).1).trans k1
  rw [bd_eq t1, if_pos k3]
  obtain ⟨h3, eh3⟩ : ∃ x, x = hs σ3 := ⟨_, rfl⟩
  have hsr : hs (sr σ3 200 a t) = h3 := eh3.symm
  rw [hsr]
  obtain ⟨o, ho⟩ : ∃ x, x = h3 + 1 := ⟨_, rfl⟩
  rw [← ho]
  have k3b : kd σ3 t = 4 := ((t8 t (by omega)).1).trans k2
  refine lt1_ex (fun σ5 q5 => ?_)
  have e5 : hs σ5 = o := by rw [q5]; show hs (sr σ3 200 a t) + 1 = _; rw [hsr, ho]
  have n5 : ns σ5 = 1551 := by rw [q5]; show ns σ3 + 3 = _; omega
  have k5 : kd σ5 o = 3 := by rw [q5, kd_nw, hsr, if_pos ho]
  have x5 : Fx h3 a 0 σ3 σ5 := by rw [q5]; exact fx_nw (fx_sr Fx.rf) (by rw [hsr]; exact Nat.le_refl _)
  have g5 : gr σ5 200 a = t := by rw [q5, gr_nw, hsr, if_neg (by omega), gr_sr, if_pos ⟨rfl, rfl⟩]
  have z5 : Z0 σ5 := by rw [q5]; exact z0_nw (z0_sr t9 (by decide))
  clear q5
  have i5 : F_X2_init o σ5 = some ((), si σ5 81 o 1) := by unfold F_X2_init; rw [if_pos k5]
  have k51 : kd (si σ5 81 o 1) a = 6 := by show kd σ5 a = 6; exact ((x5 a (by omega)).1).trans k3
  rw [bd_eq i5, if_pos k51]
  obtain ⟨σ6, q6⟩ : ∃ x, x = si σ5 81 o 1 := ⟨_, rfl⟩
  rw [← q6]
  have x6 : Fx h3 a 0 σ3 σ6 := by rw [q6]; exact fx_si x5 (by omega)
  have e6 : hs σ6 = o := by rw [q6]; exact e5
  have n6 : ns σ6 = 1551 := by rw [q6]; exact n5
  have k6 : kd σ6 o = 3 := by rw [q6]; exact k5
  have k61 : kd σ6 a = 6 := by rw [q6]; exact k51
  have g6 : gr σ6 200 a = t := by rw [q6]; exact g5
  have gi6 : ∀ f n, gi σ6 f n = if f = 81 ∧ n = o then 1 else 0 := fun f n => by rw [q6, gi_si, z5.1]
  have gr6 : ∀ n, gr σ6 0 n = 0 ∧ gr σ6 1 n = 0 := fun n => by rw [q6]; exact z5.2 n
  clear q6 i5 k51 x5 e5 n5 k5 g5 z5
  have hsr6 : hs (sr σ6 201 a o) = o := e6
  rw [hsr6]
  obtain ⟨q, hq⟩ : ∃ x, x = o + 1 := ⟨_, rfl⟩
  rw [← hq]
  refine lt1_ex (fun σ8 q8 => ?_)
  have e8 : hs σ8 = q := by rw [q8]; show hs (sr σ6 201 a o) + 1 = _; rw [hsr6, hq]
  have n8 : ns σ8 = 1559 := by rw [q8]; show ns σ6 + 8 = _; omega
  have k8 : kd σ8 q = 103 ∧ ln σ8 q = 8 := by rw [q8, kd_nw, ln_nw, hsr6, if_pos hq, if_pos hq]; exact ⟨rfl, rfl⟩
  have x8 : Fx o a 0 σ6 σ8 := by rw [q8]; exact fx_nw (fx_sr Fx.rf) (by rw [hsr6]; exact Nat.le_refl _)
  have g8 : gr σ8 201 a = o ∧ gr σ8 200 a = t := by
    rw [q8, gr_nw, gr_nw, hsr6, if_neg (by omega), if_neg (by omega), gr_sr, gr_sr, if_pos ⟨rfl, rfl⟩, if_neg (by omega)]
    exact ⟨rfl, g6⟩
  have gi8 : ∀ f n, gi σ8 f n = if f = 81 ∧ n = o then 1 else 0 := fun f n => by
    rw [q8, gi_nw, hsr6]
    split
    · rw [if_neg (by omega)]
    · exact gi6 f n
  have gr8 : ∀ n, gr σ8 0 n = 0 ∧ gr σ8 1 n = 0 := fun n => by
    rw [q8, gr_nw, gr_nw]
    split
    · exact ⟨rfl, rfl⟩
    · rw [gr_sr, gr_sr, if_neg (by omega), if_neg (by omega)]; exact gr6 n
  clear q8
  have k81 : kd σ8 a = 6 := ((x8 a (by omega)).1).trans k61
  rw [if_pos k81]
  obtain ⟨σ9, q9⟩ : ∃ x, x = sr σ8 202 a q := ⟨_, rfl⟩
  rw [← q9]
  have e9 : hs σ9 = q := by rw [q9]; exact e8
  have n9 : ns σ9 = 1559 := by rw [q9]; exact n8
  have kd9 : kd σ9 = kd σ8 := by rw [q9]; rfl
  have ln9 : ln σ9 = ln σ8 := by rw [q9]; rfl
  have ar9 : ar σ9 = ar σ8 := by rw [q9]; rfl
  have gi9 : gi σ9 = gi σ8 := by rw [q9]; rfl
  have g9 : gr σ9 202 a = q ∧ gr σ9 201 a = o ∧ gr σ9 200 a = t := by
    rw [q9, gr_sr, gr_sr, gr_sr, if_pos ⟨rfl, rfl⟩, if_neg (by omega), if_neg (by omega)]
    exact ⟨rfl, g8⟩
  have g9o : ∀ f n, n ≠ a → gr σ9 f n = gr σ8 f n := fun f n hn => by rw [q9, gr_sr, if_neg (fun z => hn z.2)]
  have gr9 : ∀ f, f < 2 → ∀ n, gr σ9 f n = 0 := fun f hf n => by
    rw [q9, gr_sr, if_neg (by omega)]
    have : f = 0 ∨ f = 1 := by omega
    rcases this with z | z
    · rw [z]; exact (gr8 n).1
    · rw [z]; exact (gr8 n).2
  clear q9
  obtain ⟨τ, u1, u2, u3, u4, u5, u6, u7, u8⟩ := txs_L (a := a) (q := q) 8 NF 0 σ9 rfl (by decide) (by rw [kd9]; exact k81) g9.1 (by rw [kd9]; exact k8.1) (by rw [ln9]; exact k8.2) (by omega) (by omega) (by omega) (fun f n hn => by rw [gi9, gi8, if_neg (by omega)])
  rw [nI_0] at u1
  rw [e9] at u2 u4 u6 u7
  rw [n9] at u3
  have low : ∀ n, n ≤ h3 → n ≠ a → kd τ n = kd σ3 n ∧ ln τ n = ln σ3 n ∧ (n ≠ 0 → ∀ i, ar τ n i = ar σ3 n i) ∧ ∀ f, gr τ f n = gr σ3 f n := fun n hn n1 => by
    obtain ⟨a1, a2, a3, a4⟩ := u6 n (by omega)
    obtain ⟨b1, b2, b3, b4⟩ := x8 n (by omega)
    obtain ⟨c1, c2, c3, c4⟩ := x6 n hn
    refine ⟨?_, ?_, fun n0 i => ?_, fun f => ?_⟩
    · rw [a1, kd9, b1, c1]
    · rw [a2, ln9, b2, c2]
    · rw [a3 (by omega) n0 i, ar9, b3 n0 i, c3 n0 i]
    · rw [a4 f, g9o f n n1, (b4 n1 f).1, (c4 n1 f).1]
  obtain ⟨a1, a2, a3, a4⟩ := u6 a (by omega)
  obtain ⟨p1, p2, p3, p4⟩ := low t (by omega) (by omega)
  obtain ⟨r1, r2, r3, r4⟩ := low (t + 1) (by omega) (by omega)
  obtain ⟨s1, s2, s3, s4⟩ := u6 o (by omega)
  obtain ⟨v1, v2, v3, v4⟩ := u6 q (by omega)
  refine ⟨τ, u1, t, o, q, rfl, by omega, hq, by omega, by omega, ⟨?_, ?_, ?_, ?_⟩, ⟨p1.trans k3b, (p4 120).trans t4, r1.trans t5, r2.trans t6, fun c hc => ?_⟩, ⟨?_, ?_, ?_, fun k hk => ?_⟩, fun f n => ?_, fun n => ⟨u8 0 n (by decide) (gr9 0 (by decide)), u8 1 n (by decide) (gr9 1 (by decide))⟩⟩
  · rw [a1, kd9]; exact k81
  · rw [a4]; exact g9.2.2
  · rw [a4]; exact g9.2.1
  · rw [a4]; exact g9.1
  · obtain ⟨w1, w2⟩ := t7 c hc
    refine ⟨?_, ?_⟩
    · rw [r3 (by omega) c, w1]
    · rw [(low (t + 2 + c) (by omega) (by omega)).1]; exact w2
  · rw [s1, kd9, (x8 o (by omega)).1]; exact k6
  · rw [v1, kd9]; exact k8.1
  · rw [v2, ln9]; exact k8.2
  · have := u4 k hk
    rw [Nat.zero_add] at this
    exact this
  · rw [u7, gi9, gi8]
    by_cases e : f = 204 ∧ n = a
    · rw [if_pos e, if_pos e]
    · rw [if_neg e, if_neg e]
      split
      · rw [if_neg (by omega)]
      · rfl
