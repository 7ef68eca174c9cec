/-! THE START: the class's side; both -/
theorem rc_start {b : Nat} {τ1 τ : HS} (k1 : kd τ1 (b + 1) = 6 ∧ gr τ1 200 (b + 1) = b + 2 ∧ gr τ1 201 (b + 1) = b + 260 ∧ gr τ1 202 (b + 1) = b + 261) (k2 : kd τ1 (b + 2) = 4 ∧ gr τ1 120 (b + 2) = b + 3 ∧ kd τ1 (b + 3) = 102 ∧ ln τ1 (b + 3) = 256 ∧ ∀ c, c < 256 → ar τ1 (b + 3) c = b + 4 + c ∧ kd τ1 (b + 4 + c) = 1)
    (k3 : kd τ1 (b + 260) = 3 ∧ kd τ1 (b + 261) = 103 ∧ ln τ1 (b + 261) = 8 ∧ ∀ k, k < 8 → TK τ1 (b + 261) k (b + 262 + 4 * k)) (k4 : ∀ f n, gi τ1 f n = if f = 204 ∧ n = b + 1 then 10 else if f = 81 ∧ n = b + 260 then 1 else 0) (k5 : ∀ n, gr τ1 0 n = 0 ∧ gr τ1 1 n = 0) (F : Fx (b + 293) (b + 294) 0 τ1 τ) (hh : hs τ = b + 312) (hn : ns τ = N0) : RC b A0 τ := by
  have fk : ∀ n, n ≤ b + 293 → kd τ n = kd τ1 n := fun n h => (F n h).1
  have fl : ∀ n, n ≤ b + 293 → ln τ n = ln τ1 n := fun n h => (F n h).2.1
  have fa : ∀ n i, n ≤ b + 293 → n ≠ 0 → ar τ n i = ar τ1 n i := fun n i h h0 => (F n h).2.2.1 h0 i
  have fr : ∀ f n, n ≤ b + 293 → gr τ f n = gr τ1 f n := fun f n h => ((F n h).2.2.2 (by omega) f).1
  have fg : ∀ f n, n ≤ b + 293 → gi τ f n = if f = 204 ∧ n = b + 1 then 10 else if f = 81 ∧ n = b + 260 then 1 else 0 := fun f n h => by rw [((F n h).2.2.2 (by omega) f).2, k4]
  obtain ⟨a1, a2, a3, a4⟩ := k1
  obtain ⟨b1, b2, b3, b4, b5⟩ := k2
  obtain ⟨c1, c2, c3, c4⟩ := k3
  refine ⟨⟨by omega, ?_, ?_, ?_, ?_, ?_, ?_, ?_, ?_, fun c hc => ⟨?_, ?_⟩, ?_, ?_, ?_, fun k hk => ?_⟩, ⟨?_, ?_, ?_, ?_, ?_, ?_, ?_, ?_, ?_, ?_, ?_, ?_, ?_⟩, fun c hc => ⟨?_, ?_, ?_, by rw [a0_lp]; decide⟩, fun k hk => ⟨?_, ?_, ?_, ?_, ?_, ?_, by rw [a0_ow]; decide, fun i q hq => by rw [a0_ow] at hq; simp at hq, ?_, fun i r hr => by rw [a0_ow] at hr; simp [rws] at hr⟩, fun _ => [], fun _ => 0, fun d hd => ⟨?_, rfl, fun a ha => (by cases ha), List.nodup_nil⟩⟩
  · rw [fk _ (by omega)]; exact a1
  · rw [fr _ _ (by omega)]; exact a2
  · rw [fr _ _ (by omega)]; exact a3
  · rw [fr _ _ (by omega)]; exact a4
  · rw [fk _ (by omega)]; exact b1
  · rw [fr _ _ (by omega)]; exact b2
  · rw [fk _ (by omega)]; exact b3
  · rw [fl _ (by omega)]; exact b4
  · rw [fa _ _ (by omega) (by omega)]; exact (b5 c hc).1
  · rw [fk _ (by omega)]; exact (b5 c hc).2
  · rw [fk _ (by omega)]; exact c1
  · rw [fk _ (by omega)]; exact c2
  · rw [fl _ (by omega)]; exact c3
  · obtain ⟨d1, d2, d3, d4, d5, d6⟩ := c4 k hk
    obtain ⟨e1, e2⟩ := d6 1 (by decide) (by decide)
    obtain ⟨e3, e4⟩ := d6 2 (by decide) (by decide)
    obtain ⟨e5, e6⟩ := d6 3 (by decide) (by decide)
    rw [show b + 263 + 4 * k = b + 262 + 4 * k + 1 by omega, show b + 264 + 4 * k = b + 262 + 4 * k + 2 by omega, show b + 265 + 4 * k = b + 262 + 4 * k + 3 by omega]
    refine ⟨?_, ?_, ?_, ?_, ?_, ?_, ?_, ?_, ?_, ?_, ?_⟩
    · rw [fa _ _ (by omega) (by omega)]; exact d1
    · rw [fk _ (by omega)]; exact d2
    · rw [fr _ _ (by omega)]; exact d3
    · rw [fr _ _ (by omega)]; exact d4
    · rw [fr _ _ (by omega)]; exact d5
    · rw [fk _ (by omega)]; exact e1
    · rw [fk _ (by omega)]; exact e3
    · rw [fk _ (by omega)]; exact e5
    · rw [fl _ (by omega)]; exact e2
    · rw [fl _ (by omega)]; exact e4
    · rw [fl _ (by omega)]; exact e6
  · rw [fg _ _ (by omega), if_neg (by omega), if_neg (by omega)]; rfl
  · rw [fg _ _ (by omega), if_pos ⟨rfl, rfl⟩]; rfl
  · rw [fg _ _ (by omega), if_neg (by omega), if_neg (by omega)]; rfl
  · rw [fg _ _ (by omega), if_neg (by omega), if_neg (by omega)]; rfl
  · rw [fg _ _ (by omega), if_neg (by omega), if_pos ⟨rfl, rfl⟩]; rfl
  · rw [fg _ _ (by omega), if_neg (by omega), if_neg (by omega)]; rfl
  · rw [fg _ _ (by omega), if_neg (by omega), if_neg (by omega)]; rfl
  · rw [fg _ _ (by omega), if_neg (by omega), if_neg (by omega)]; rfl
  · rw [fg _ _ (by omega), if_neg (by omega), if_neg (by omega)]; rfl
  · rw [fg _ _ (by omega), if_neg (by omega), if_neg (by omega)]; rfl
  · rw [fg _ _ (by omega), if_neg (by omega), if_neg (by omega)]; rfl
  · rw [hh, a0_ne]
  · rw [hn, a0_ne, Nat.mul_zero, Nat.add_zero]
  · rw [fg _ _ (by omega), if_neg (by omega), if_neg (by omega), a0_lk]
  · rw [fg _ _ (by omega), if_neg (by omega), if_neg (by omega), a0_lp, nI_0]
  · rw [fg _ _ (by omega), if_neg (by omega), if_neg (by omega), a0_lk]
  · rw [fg _ _ (by omega), if_neg (by omega), if_neg (by omega), a0_tf]
  · rw [fg _ _ (by omega), if_neg (by omega), if_neg (by omega), a0_tf]
  · rw [fg _ _ (by omega), if_neg (by omega), if_neg (by omega), a0_tf]
  · rw [fg _ _ (by omega), if_neg (by omega), if_neg (by omega), a0_tf]
  · rw [fg _ _ (by omega), if_neg (by omega), if_neg (by omega), a0_tf]
  · rw [fg _ _ (by omega), if_neg (by omega), if_neg (by omega), a0_ow, List.length_nil, nI_0]
  · rw [fg _ _ (by omega), if_neg (by omega), if_neg (by omega), a0_ow, show (rws []).length = 0 from rfl, nI_0]
  · show gr τ (d % 2) (b + 4 + d / 2) = 0
    rw [fr _ _ (by omega)]
    have : d % 2 = 0 ∨ d % 2 = 1 := by omega
    rcases this with q | q
    · rw [q]; exact (k5 _).1
    · rw [q]; exact (k5 _).2
/-- the two constructors from the empty start -/
theorem both_start (b : Nat) : ∃ τ1 τ, F_X5_init (b + 1) (nw (S0 b) 6 6) = some ((), τ1) ∧ hs τ1 = b + 293 ∧ ns τ1 = 2023 ∧ F_X6_init (b + 294) (nw τ1 7 32) = some ((), τ) ∧ RC b A0 τ ∧ RMo (fun j => b + j) 3000 A0 τ := by
  have hz : Z0 (nw (S0 b) 6 6) := z0_nw (s0_z b)
  have e1 : hs (nw (S0 b) 6 6) = b + 1 := rfl
  have k1 : kd (nw (S0 b) 6 6) (b + 1) = 6 := kd_nw_self (S0 b) 6 6
  have n1 : ns (nw (S0 b) 6 6) = 6 := rfl
  generalize nw (S0 b) 6 6 = σ1 at hz e1 k1 n1
  obtain ⟨τ1, t1, t, o, q, h1, h2, h3, h4, h5, h6, h7, h8, h9, h10⟩ := cls_init (a := b + 1) k1 e1 n1 hz
  obtain rfl : t = b + 2 := by omega
  obtain rfl : o = b + 260 := by omega
  obtain rfl : q = b + 261 := by omega
  have hh : hs τ1 = b + 293 := by omega
  obtain ⟨p, hp⟩ : ∃ p : Nat → Nat, p = fun j => b + j := ⟨_, rfl⟩
  have hpj : ∀ j, p j = b + j := fun j => by rw [hp]
  rw [← hp, ← hpj 294]
  have M : Md (b + 293) (p 294) τ1 (fun _ => 0) 2055 [] (nw τ1 7 32) := by
    refine ⟨?_, ?_, ?_, fun f => ?_, fun j q hq => by simp at hq, fx_nw Fx.rf (by omega), by rw [hpj]; omega⟩
    · show hs τ1 + 1 = _
      rw [hpj, hh]; rfl
    · show ns τ1 + 32 = _
      rw [h5]
    · rw [kd_nw, hh, if_pos (hpj 294)]
    · rw [gi_nw, hh, if_pos (hpj 294)]
  obtain ⟨τ, u1, g, l, s', u2, u3, u4, u5, u6⟩ := mod_init M
  refine ⟨τ1, τ, t1, hh, h5, u1, ?_, md_mo (fun j => by rw [hpj, hpj 0]; omega) u2 u3 u4 u6⟩
  have F := u2.2.2.2.2.2.1
  rw [hpj 294] at F
  refine rc_start h6 h7 h8 h9 h10 F ?_ ?_
  · rw [u2.1, u4, hpj]
  · rw [u2.2.1, u5]; rfl
