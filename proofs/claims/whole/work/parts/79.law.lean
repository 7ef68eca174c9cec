/-! THE LAW'S CASES -/
section
variable {p : Program} {l : Launch} {e : Env} {s : State} {m : MethodId} {below : List Frame} {meth : Method} {c : Code} {D : va_G} {dA : Nat → ClassId} {base sb L : Nat} {xs : Nat → Int32} {Q : State → Prop} {H : Heap} {locs : List Loc} {ls : Array Slot} {n : Nat} {A : AS} {σ : HS}
theorem rc_room {b : Nat} (h : RC b A σ) (hp : PI n A) (hn : n < 700) : hs σ = b + 312 + zne A ∧ ns σ = N0 + 3 * zne A ∧ zne A ≤ 2800 := by
  have := hp.1.2.2.1
  obtain ⟨a1, a2, a3, a4, a5, a6, a7, a8, a9, a10, a11, a12, a13⟩ := h.2.1
  exact ⟨a12, a13, by omega⟩
theorem s0_le {b : Nat} (h : b ≤ hs σ) : LE (S0 b) σ := ⟨h, Nat.zero_le _⟩
theorem ix_in {k : Nat} (hk : 5 * n + k < L) (hL : L ≤ 2560) : vp_in (nI (5 * n) + nI k) L := by
  rw [nI_add]; exact vp_in_nI hk (by omega)
theorem lc_begin (cx : CX p s m #[Value.ref sb] meth c cL_law 4 ret RL meth.name D dA base) (hX : va_X sb L xs s s.heap) (hbl : sb < s.heap.size) (hbA : ¬ (fun q : Nat => base ≤ q) sb) (hL : L ≤ 2560) (hi : 5 * n + 5 ≤ L) (h : Wd D dA base σ s H locs) (G : GO base n A σ) (hl : lv_has ls 4 [(3, .int (nI (5 * n))), (2, vr (pp base 294)), (1, vr (base + 1)), (0, .ref sb)])
    (kk : ∀ (A' : AS) (σ' : HS) (H' : Heap) (locs' : List Loc), Wd D dA base σ' s H' locs' → GO base (n + 1) A' σ' → W p l e room_1 s m #[Value.ref sb] below meth c H' locs' (hs σ' - hs (S0 base)) (ns σ' - ns (S0 base)) Q (F0 m 664 ls [])) :
    W p l e room_1 s m #[Value.ref sb] below meth c H locs (hs σ - hs (S0 base)) (ns σ - ns (S0 base)) Q (F0 m 120 ls []) := by
  have hx := cx.1
  have hb := cx.2.1
  obtain ⟨r, σ1, σ2, A', e5, c1, g1, g0, e6, g2, g3, G'⟩ := pr_begin G (by omega) (xs (nI (5 * n) + nI 1).toNatClampNeg)
  obtain ⟨q1, q2, q3⟩ := rc_room G.1 G.2.2 (by omega)
  obtain ⟨w1, w2, w3⟩ := rc_room c1 G'.2.2 (by omega)
  have le0 : LE (S0 base) σ := s0_le (by omega)
  have le1 : LE σ σ1 := ⟨g1, by omega⟩
  have le2 : LE σ1 σ2 := ⟨by omega, by omega⟩
  have f1 : (hs σ - hs (S0 base)) + (hs σ1 - hs σ) ≤ room_1.cells ∧ (ns σ - ns (S0 base)) + (ns σ1 - ns σ) ≤ room_1.slots := by
    show (hs σ - base) + (hs σ1 - hs σ) ≤ 600000 ∧ (ns σ - 0) + (ns σ1 - ns σ) ≤ 7302250
    have : N0 = 24127 := rfl
    omega
  have f2 : (hs σ1 - hs (S0 base)) + (hs σ2 - hs σ1) ≤ room_1.cells ∧ (ns σ1 - ns (S0 base)) + (ns σ2 - ns σ1) ≤ room_1.slots := by
    show (hs σ1 - base) + (hs σ2 - hs σ1) ≤ 600000 ∧ (ns σ1 - 0) + (ns σ2 - ns σ1) ≤ 7302250
    have : N0 = 24127 := rfl
    omega
  refine x_aload_n hx hb dL_law_120 rfl (lv_at hl 2 rfl) ?_
  refine lv_aload_n hx hb dL_law_121 rfl (lv_at hl 3 rfl) ?_
  refine lv_iload_n hx hb dL_law_122 rfl (lv_at hl 0 rfl) ?_
  refine lv_iconst (v := nI 1) hx hb dL_law_123 rfl ?_
  refine lv_iadd hx hb dL_law_124 ?_
  refine va_sld hx hb hX hbl hbA h.2 (ix_in (k := 1) (by omega) hL) dL_law_125 ?_
  refine x_calli le0 le1 (x_runV (As := [.int (xs (nI (5 * n) + nI 1).toNatClampNeg)]) cx h (c_X5_begin l D dA base (base + 1) (xs (nI (5 * n) + nI 1).toNatClampNeg) e5) ml_L_13 mi_X5_begin (show kd σ (base + 1) = 5 + 1 from G.1.1.2.1) rfl ⟨Nat.le_of_ble_eq_true rfl, Nat.le_of_ble_eq_true rfl⟩ hl.1 rfl (s8 sN (by decide)) dL_law_126 f1) h (fun H1 locs1 h1 le => ?_)
  refine x_aload_n hx hb dL_law_129 rfl (lv_at hl 1 rfl) ?_
  refine lv_aload_n hx hb dL_law_130 rfl (lv_at hl 3 rfl) ?_
  refine lv_iload_n hx hb dL_law_131 rfl (lv_at hl 0 rfl) ?_
  refine lv_iconst (v := nI 1) hx hb dL_law_132 rfl ?_
  refine lv_iadd hx hb dL_law_133 ?_
  refine va_sld hx hb hX hbl hbA h1.2 (ix_in (k := 1) (by omega) hL) dL_law_134 ?_
  refine x_calli le le2 (x_runV (As := [.int (xs (nI (5 * n) + nI 1).toNatClampNeg)]) (rest := [.int r]) cx h1 (c_X6_begin l D dA base (pp base 294) (xs (nI (5 * n) + nI 1).toNatClampNeg) e6) ml_L_17 mi_X6_begin (show kd σ1 (pp base 294) = 6 + 1 from g0) rfl ⟨Nat.le_of_ble_eq_true rfl, Nat.le_of_ble_eq_true rfl⟩ hl.1 rfl (s8 (sI sN) (by decide)) dL_law_135 f2) h1 (fun H2 locs2 h2 _ => ?_)
  exact lv_icmp_eq (tgt := 664) hx hb dL_law_138 (by decide) (fun _ => kk A' σ2 H2 locs2 h2 G') (fun z => absurd rfl z)
theorem lc_read (cx : CX p s m #[Value.ref sb] meth c cL_law 4 ret RL meth.name D dA base) (hX : va_X sb L xs s s.heap) (hbl : sb < s.heap.size) (hbA : ¬ (fun q : Nat => base ≤ q) sb) (hL : L ≤ 2560) (hi : 5 * n + 5 ≤ L) (h : Wd D dA base σ s H locs) (G : GO base n A σ) (hl : lv_has ls 4 [(3, .int (nI (5 * n))), (2, vr (pp base 294)), (1, vr (base + 1)), (0, .ref sb)])
    (kk : ∀ (A' : AS) (σ' : HS) (H' : Heap) (locs' : List Loc), Wd D dA base σ' s H' locs' → GO base (n + 1) A' σ' → W p l e room_1 s m #[Value.ref sb] below meth c H' locs' (hs σ' - hs (S0 base)) (ns σ' - ns (S0 base)) Q (F0 m 664 ls [])) :
    W p l e room_1 s m #[Value.ref sb] below meth c H locs (hs σ - hs (S0 base)) (ns σ - ns (S0 base)) Q (F0 m 143 ls []) := by
  have hx := cx.1
  have hb := cx.2.1
  obtain ⟨r, σ1, σ2, A', e5, c1, g1, g0, e6, g2, g3, G'⟩ := pr_read G (by omega) (xs (nI (5 * n) + nI 1).toNatClampNeg) (xs (nI (5 * n) + nI 2).toNatClampNeg) (xs (nI (5 * n) + nI 3).toNatClampNeg)
  obtain ⟨q1, q2, q3⟩ := rc_room G.1 G.2.2 (by omega)
  obtain ⟨w1, w2, w3⟩ := rc_room c1 G'.2.2 (by omega)
  have le0 : LE (S0 base) σ := s0_le (by omega)
  have le1 : LE σ σ1 := ⟨g1, by omega⟩
  have le2 : LE σ1 σ2 := ⟨by omega, by omega⟩
  have f1 : (hs σ - hs (S0 base)) + (hs σ1 - hs σ) ≤ room_1.cells ∧ (ns σ - ns (S0 base)) + (ns σ1 - ns σ) ≤ room_1.slots := by
    show (hs σ - base) + (hs σ1 - hs σ) ≤ 600000 ∧ (ns σ - 0) + (ns σ1 - ns σ) ≤ 7302250
    have : N0 = 24127 := rfl
    omega
  have f2 : (hs σ1 - hs (S0 base)) + (hs σ2 - hs σ1) ≤ room_1.cells ∧ (ns σ1 - ns (S0 base)) + (ns σ2 - ns σ1) ≤ room_1.slots := by
    show (hs σ1 - base) + (hs σ2 - hs σ1) ≤ 600000 ∧ (ns σ1 - 0) + (ns σ2 - ns σ1) ≤ 7302250
    have : N0 = 24127 := rfl
    omega
  refine x_aload_n hx hb dL_law_143 rfl (lv_at hl 2 rfl) ?_
  refine lv_aload_n hx hb dL_law_144 rfl (lv_at hl 3 rfl) ?_
  refine lv_iload_n hx hb dL_law_145 rfl (lv_at hl 0 rfl) ?_
  refine lv_iconst (v := nI 1) hx hb dL_law_146 rfl ?_
  refine lv_iadd hx hb dL_law_147 ?_
  refine va_sld hx hb hX hbl hbA h.2 (ix_in (k := 1) (by omega) hL) dL_law_148 ?_
  refine lv_aload_n hx hb dL_law_149 rfl (lv_at hl 3 rfl) ?_
  refine lv_iload_n hx hb dL_law_150 rfl (lv_at hl 0 rfl) ?_
  refine lv_iconst (v := nI 2) hx hb dL_law_151 rfl ?_
  refine lv_iadd hx hb dL_law_152 ?_
  refine va_sld hx hb hX hbl hbA h.2 (ix_in (k := 2) (by omega) hL) dL_law_153 ?_
  refine lv_aload_n hx hb dL_law_154 rfl (lv_at hl 3 rfl) ?_
  refine lv_iload_n hx hb dL_law_155 rfl (lv_at hl 0 rfl) ?_
  refine lv_iconst (v := nI 3) hx hb dL_law_156 rfl ?_
  refine lv_iadd hx hb dL_law_157 ?_
  refine va_sld hx hb hX hbl hbA h.2 (ix_in (k := 3) (by omega) hL) dL_law_158 ?_
  refine x_calli le0 le1 (x_runV (As := [.int (xs (nI (5 * n) + nI 1).toNatClampNeg), .int (xs (nI (5 * n) + nI 2).toNatClampNeg), .int (xs (nI (5 * n) + nI 3).toNatClampNeg)]) cx h (c_X5_read l D dA base (base + 1) (xs (nI (5 * n) + nI 1).toNatClampNeg) (xs (nI (5 * n) + nI 2).toNatClampNeg) (xs (nI (5 * n) + nI 3).toNatClampNeg) e5) ml_L_18 mi_X5_read (show kd σ (base + 1) = 5 + 1 from G.1.1.2.1) rfl ⟨Nat.le_of_ble_eq_true rfl, Nat.le_of_ble_eq_true rfl⟩ hl.1 rfl (s8 sN (by decide)) dL_law_159 f1) h (fun H1 locs1 h1 le => ?_)
  refine x_aload_n hx hb dL_law_162 rfl (lv_at hl 1 rfl) ?_
  refine lv_aload_n hx hb dL_law_163 rfl (lv_at hl 3 rfl) ?_
  refine lv_iload_n hx hb dL_law_164 rfl (lv_at hl 0 rfl) ?_
  refine lv_iconst (v := nI 1) hx hb dL_law_165 rfl ?_
  refine lv_iadd hx hb dL_law_166 ?_
  refine va_sld hx hb hX hbl hbA h1.2 (ix_in (k := 1) (by omega) hL) dL_law_167 ?_
  refine lv_aload_n hx hb dL_law_168 rfl (lv_at hl 3 rfl) ?_
  refine lv_iload_n hx hb dL_law_169 rfl (lv_at hl 0 rfl) ?_
  refine lv_iconst (v := nI 2) hx hb dL_law_170 rfl ?_
  refine lv_iadd hx hb dL_law_171 ?_
  refine va_sld hx hb hX hbl hbA h1.2 (ix_in (k := 2) (by omega) hL) dL_law_172 ?_
  refine lv_aload_n hx hb dL_law_173 rfl (lv_at hl 3 rfl) ?_
  refine lv_iload_n hx hb dL_law_174 rfl (lv_at hl 0 rfl) ?_
  refine lv_iconst (v := nI 3) hx hb dL_law_175 rfl ?_
  refine lv_iadd hx hb dL_law_176 ?_
  refine va_sld hx hb hX hbl hbA h1.2 (ix_in (k := 3) (by omega) hL) dL_law_177 ?_
  refine x_calli le le2 (x_runV (As := [.int (xs (nI (5 * n) + nI 1).toNatClampNeg), .int (xs (nI (5 * n) + nI 2).toNatClampNeg), .int (xs (nI (5 * n) + nI 3).toNatClampNeg)]) (rest := [.int r]) cx h1 (c_X6_read l D dA base (pp base 294) (xs (nI (5 * n) + nI 1).toNatClampNeg) (xs (nI (5 * n) + nI 2).toNatClampNeg) (xs (nI (5 * n) + nI 3).toNatClampNeg) e6) ml_L_22 mi_X6_read (show kd σ1 (pp base 294) = 6 + 1 from g0) rfl ⟨Nat.le_of_ble_eq_true rfl, Nat.le_of_ble_eq_true rfl⟩ hl.1 rfl (s8 (sI sN) (by decide)) dL_law_178 f2) h1 (fun H2 locs2 h2 _ => ?_)
  exact lv_icmp_eq (tgt := 664) hx hb dL_law_181 (by decide) (fun _ => kk A' σ2 H2 locs2 h2 G') (fun z => absurd rfl z)
theorem lc_next (cx : CX p s m #[Value.ref sb] meth c cL_law 4 ret RL meth.name D dA base) (hX : va_X sb L xs s s.heap) (hbl : sb < s.heap.size) (hbA : ¬ (fun q : Nat => base ≤ q) sb) (hL : L ≤ 2560) (hi : 5 * n + 5 ≤ L) (h : Wd D dA base σ s H locs) (G : GO base n A σ) (hl : lv_has ls 4 [(3, .int (nI (5 * n))), (2, vr (pp base 294)), (1, vr (base + 1)), (0, .ref sb)])
    (kk : ∀ (A' : AS) (σ' : HS) (H' : Heap) (locs' : List Loc), Wd D dA base σ' s H' locs' → GO base (n + 1) A' σ' → W p l e room_1 s m #[Value.ref sb] below meth c H' locs' (hs σ' - hs (S0 base)) (ns σ' - ns (S0 base)) Q (F0 m 664 ls [])) :
    W p l e room_1 s m #[Value.ref sb] below meth c H locs (hs σ - hs (S0 base)) (ns σ - ns (S0 base)) Q (F0 m 186 ls []) := by
  have hx := cx.1
  have hb := cx.2.1
  obtain ⟨r, σ1, σ2, A', e5, c1, g1, g0, e6, g2, g3, G'⟩ := pr_next G (by omega) (xs (nI (5 * n) + nI 1).toNatClampNeg) (xs (nI (5 * n) + nI 2).toNatClampNeg)
  obtain ⟨q1, q2, q3⟩ := rc_room G.1 G.2.2 (by omega)
  obtain ⟨w1, w2, w3⟩ := rc_room c1 G'.2.2 (by omega)
  have le0 : LE (S0 base) σ := s0_le (by omega)
  have le1 : LE σ σ1 := ⟨g1, by omega⟩
  have le2 : LE σ1 σ2 := ⟨by omega, by omega⟩
  have f1 : (hs σ - hs (S0 base)) + (hs σ1 - hs σ) ≤ room_1.cells ∧ (ns σ - ns (S0 base)) + (ns σ1 - ns σ) ≤ room_1.slots := by
    show (hs σ - base) + (hs σ1 - hs σ) ≤ 600000 ∧ (ns σ - 0) + (ns σ1 - ns σ) ≤ 7302250
    have : N0 = 24127 := rfl
    omega
  have f2 : (hs σ1 - hs (S0 base)) + (hs σ2 - hs σ1) ≤ room_1.cells ∧ (ns σ1 - ns (S0 base)) + (ns σ2 - ns σ1) ≤ room_1.slots := by
    show (hs σ1 - base) + (hs σ2 - hs σ1) ≤ 600000 ∧ (ns σ1 - 0) + (ns σ2 - ns σ1) ≤ 7302250
    have : N0 = 24127 := rfl
    omega
  refine x_aload_n hx hb dL_law_186 rfl (lv_at hl 2 rfl) ?_
  refine lv_aload_n hx hb dL_law_187 rfl (lv_at hl 3 rfl) ?_
  refine lv_iload_n hx hb dL_law_188 rfl (lv_at hl 0 rfl) ?_
  refine lv_iconst (v := nI 1) hx hb dL_law_189 rfl ?_
  refine lv_iadd hx hb dL_law_190 ?_
  refine va_sld hx hb hX hbl hbA h.2 (ix_in (k := 1) (by omega) hL) dL_law_191 ?_
  refine lv_aload_n hx hb dL_law_192 rfl (lv_at hl 3 rfl) ?_
  refine lv_iload_n hx hb dL_law_193 rfl (lv_at hl 0 rfl) ?_
  refine lv_iconst (v := nI 2) hx hb dL_law_194 rfl ?_
  refine lv_iadd hx hb dL_law_195 ?_
  refine va_sld hx hb hX hbl hbA h.2 (ix_in (k := 2) (by omega) hL) dL_law_196 ?_
  refine x_calli le0 le1 (x_runV (As := [.int (xs (nI (5 * n) + nI 1).toNatClampNeg), .int (xs (nI (5 * n) + nI 2).toNatClampNeg)]) cx h (c_X5_next l D dA base (base + 1) (xs (nI (5 * n) + nI 1).toNatClampNeg) (xs (nI (5 * n) + nI 2).toNatClampNeg) e5) ml_L_23 mi_X5_next (show kd σ (base + 1) = 5 + 1 from G.1.1.2.1) rfl ⟨Nat.le_of_ble_eq_true rfl, Nat.le_of_ble_eq_true rfl⟩ hl.1 rfl (s8 sN (by decide)) dL_law_197 f1) h (fun H1 locs1 h1 le => ?_)
  refine x_aload_n hx hb dL_law_200 rfl (lv_at hl 1 rfl) ?_
  refine lv_aload_n hx hb dL_law_201 rfl (lv_at hl 3 rfl) ?_
  refine lv_iload_n hx hb dL_law_202 rfl (lv_at hl 0 rfl) ?_
  refine lv_iconst (v := nI 1) hx hb dL_law_203 rfl ?_
  refine lv_iadd hx hb dL_law_204 ?_
  refine va_sld hx hb hX hbl hbA h1.2 (ix_in (k := 1) (by omega) hL) dL_law_205 ?_
  refine lv_aload_n hx hb dL_law_206 rfl (lv_at hl 3 rfl) ?_
  refine lv_iload_n hx hb dL_law_207 rfl (lv_at hl 0 rfl) ?_
  refine lv_iconst (v := nI 2) hx hb dL_law_208 rfl ?_
  refine lv_iadd hx hb dL_law_209 ?_
  refine va_sld hx hb hX hbl hbA h1.2 (ix_in (k := 2) (by omega) hL) dL_law_210 ?_
  refine x_calli le le2 (x_runV (As := [.int (xs (nI (5 * n) + nI 1).toNatClampNeg), .int (xs (nI (5 * n) + nI 2).toNatClampNeg)]) (rest := [.int r]) cx h1 (c_X6_next l D dA base (pp base 294) (xs (nI (5 * n) + nI 1).toNatClampNeg) (xs (nI (5 * n) + nI 2).toNatClampNeg) e6) ml_L_27 mi_X6_next (show kd σ1 (pp base 294) = 6 + 1 from g0) rfl ⟨Nat.le_of_ble_eq_true rfl, Nat.le_of_ble_eq_true rfl⟩ hl.1 rfl (s8 (sI sN) (by decide)) dL_law_211 f2) h1 (fun H2 locs2 h2 _ => ?_)
  exact lv_icmp_eq (tgt := 664) hx hb dL_law_214 (by decide) (fun _ => kk A' σ2 H2 locs2 h2 G') (fun z => absurd rfl z)
theorem lc_write (cx : CX p s m #[Value.ref sb] meth c cL_law 4 ret RL meth.name D dA base) (hX : va_X sb L xs s s.heap) (hbl : sb < s.heap.size) (hbA : ¬ (fun q : Nat => base ≤ q) sb) (hL : L ≤ 2560) (hi : 5 * n + 5 ≤ L) (h : Wd D dA base σ s H locs) (G : GO base n A σ) (hl : lv_has ls 4 [(3, .int (nI (5 * n))), (2, vr (pp base 294)), (1, vr (base + 1)), (0, .ref sb)])
    (kk : ∀ (A' : AS) (σ' : HS) (H' : Heap) (locs' : List Loc), Wd D dA base σ' s H' locs' → GO base (n + 1) A' σ' → W p l e room_1 s m #[Value.ref sb] below meth c H' locs' (hs σ' - hs (S0 base)) (ns σ' - ns (S0 base)) Q (F0 m 664 ls [])) :
    W p l e room_1 s m #[Value.ref sb] below meth c H locs (hs σ - hs (S0 base)) (ns σ - ns (S0 base)) Q (F0 m 219 ls []) := by
  have hx := cx.1
  have hb := cx.2.1
  obtain ⟨r, σ1, σ2, A', e5, c1, g1, g0, e6, g2, g3, G'⟩ := pr_write G (by omega) (xs (nI (5 * n) + nI 1).toNatClampNeg) (xs (nI (5 * n) + nI 2).toNatClampNeg) (xs (nI (5 * n) + nI 3).toNatClampNeg) (xs (nI (5 * n) + nI 4).toNatClampNeg)
  obtain ⟨q1, q2, q3⟩ := rc_room G.1 G.2.2 (by omega)
  obtain ⟨w1, w2, w3⟩ := rc_room c1 G'.2.2 (by omega)
  have le0 : LE (S0 base) σ := s0_le (by omega)
  have le1 : LE σ σ1 := ⟨g1, by omega⟩
  have le2 : LE σ1 σ2 := ⟨by omega, by omega⟩
  have f1 : (hs σ - hs (S0 base)) + (hs σ1 - hs σ) ≤ room_1.cells ∧ (ns σ - ns (S0 base)) + (ns σ1 - ns σ) ≤ room_1.slots := by
    show (hs σ - base) + (hs σ1 - hs σ) ≤ 600000 ∧ (ns σ - 0) + (ns σ1 - ns σ) ≤ 7302250
    have : N0 = 24127 := rfl
    omega
  have f2 : (hs σ1 - hs (S0 base)) + (hs σ2 - hs σ1) ≤ room_1.cells ∧ (ns σ1 - ns (S0 base)) + (ns σ2 - ns σ1) ≤ room_1.slots := by
    show (hs σ1 - base) + (hs σ2 - hs σ1) ≤ 600000 ∧ (ns σ1 - 0) + (ns σ2 - ns σ1) ≤ 7302250
    have : N0 = 24127 := rfl
    omega
  refine x_aload_n hx hb dL_law_219 rfl (lv_at hl 2 rfl) ?_
  refine lv_aload_n hx hb dL_law_220 rfl (lv_at hl 3 rfl) ?_
  refine lv_iload_n hx hb dL_law_221 rfl (lv_at hl 0 rfl) ?_
  refine lv_iconst (v := nI 1) hx hb dL_law_222 rfl ?_
  refine lv_iadd hx hb dL_law_223 ?_
  refine va_sld hx hb hX hbl hbA h.2 (ix_in (k := 1) (by omega) hL) dL_law_224 ?_
  refine lv_aload_n hx hb dL_law_225 rfl (lv_at hl 3 rfl) ?_
  refine lv_iload_n hx hb dL_law_226 rfl (lv_at hl 0 rfl) ?_
  refine lv_iconst (v := nI 2) hx hb dL_law_227 rfl ?_
  refine lv_iadd hx hb dL_law_228 ?_
  refine va_sld hx hb hX hbl hbA h.2 (ix_in (k := 2) (by omega) hL) dL_law_229 ?_
  refine lv_aload_n hx hb dL_law_230 rfl (lv_at hl 3 rfl) ?_
  refine lv_iload_n hx hb dL_law_231 rfl (lv_at hl 0 rfl) ?_
  refine lv_iconst (v := nI 3) hx hb dL_law_232 rfl ?_
  refine lv_iadd hx hb dL_law_233 ?_
  refine va_sld hx hb hX hbl hbA h.2 (ix_in (k := 3) (by omega) hL) dL_law_234 ?_
  refine lv_aload_n hx hb dL_law_235 rfl (lv_at hl 3 rfl) ?_
  refine lv_iload_n hx hb dL_law_236 rfl (lv_at hl 0 rfl) ?_
  refine lv_iconst (v := nI 4) hx hb dL_law_237 rfl ?_
  refine lv_iadd hx hb dL_law_238 ?_
  refine va_sld hx hb hX hbl hbA h.2 (ix_in (k := 4) (by omega) hL) dL_law_239 ?_
  refine x_calli le0 le1 (x_runV (As := [.int (xs (nI (5 * n) + nI 1).toNatClampNeg), .int (xs (nI (5 * n) + nI 2).toNatClampNeg), .int (xs (nI (5 * n) + nI 3).toNatClampNeg), .int (xs (nI (5 * n) + nI 4).toNatClampNeg)]) cx h (c_X5_write l D dA base (base + 1) (xs (nI (5 * n) + nI 1).toNatClampNeg) (xs (nI (5 * n) + nI 2).toNatClampNeg) (xs (nI (5 * n) + nI 3).toNatClampNeg) (xs (nI (5 * n) + nI 4).toNatClampNeg) e5) ml_L_28 mi_X5_write (show kd σ (base + 1) = 5 + 1 from G.1.1.2.1) rfl ⟨Nat.le_of_ble_eq_true rfl, Nat.le_of_ble_eq_true rfl⟩ hl.1 rfl (s8 sN (by decide)) dL_law_240 f1) h (fun H1 locs1 h1 le => ?_)
  refine x_aload_n hx hb dL_law_243 rfl (lv_at hl 1 rfl) ?_
  refine lv_aload_n hx hb dL_law_244 rfl (lv_at hl 3 rfl) ?_
  refine lv_iload_n hx hb dL_law_245 rfl (lv_at hl 0 rfl) ?_
  refine lv_iconst (v := nI 1) hx hb dL_law_246 rfl ?_
  refine lv_iadd hx hb dL_law_247 ?_
  refine va_sld hx hb hX hbl hbA h1.2 (ix_in (k := 1) (by omega) hL) dL_law_248 ?_
  refine lv_aload_n hx hb dL_law_249 rfl (lv_at hl 3 rfl) ?_
  refine lv_iload_n hx hb dL_law_250 rfl (lv_at hl 0 rfl) ?_
  refine lv_iconst (v := nI 2) hx hb dL_law_251 rfl ?_
  refine lv_iadd hx hb dL_law_252 ?_
  refine va_sld hx hb hX hbl hbA h1.2 (ix_in (k := 2) (by omega) hL) dL_law_253 ?_
  refine lv_aload_n hx hb dL_law_254 rfl (lv_at hl 3 rfl) ?_
  refine lv_iload_n hx hb dL_law_255 rfl (lv_at hl 0 rfl) ?_
  refine lv_iconst (v := nI 3) hx hb dL_law_256 rfl ?_
  refine lv_iadd hx hb dL_law_257 ?_
  refine va_sld hx hb hX hbl hbA h1.2 (ix_in (k := 3) (by omega) hL) dL_law_258 ?_
  refine lv_aload_n hx hb dL_law_259 rfl (lv_at hl 3 rfl) ?_
  refine lv_iload_n hx hb dL_law_260 rfl (lv_at hl 0 rfl) ?_
  refine lv_iconst (v := nI 4) hx hb dL_law_261 rfl ?_
  refine lv_iadd hx hb dL_law_262 ?_
  refine va_sld hx hb hX hbl hbA h1.2 (ix_in (k := 4) (by omega) hL) dL_law_263 ?_
  refine x_calli le le2 (x_runV (As := [.int (xs (nI (5 * n) + nI 1).toNatClampNeg), .int (xs (nI (5 * n) + nI 2).toNatClampNeg), .int (xs (nI (5 * n) + nI 3).toNatClampNeg), .int (xs (nI (5 * n) + nI 4).toNatClampNeg)]) (rest := [.int r]) cx h1 (c_X6_write l D dA base (pp base 294) (xs (nI (5 * n) + nI 1).toNatClampNeg) (xs (nI (5 * n) + nI 2).toNatClampNeg) (xs (nI (5 * n) + nI 3).toNatClampNeg) (xs (nI (5 * n) + nI 4).toNatClampNeg) e6) ml_L_32 mi_X6_write (show kd σ1 (pp base 294) = 6 + 1 from g0) rfl ⟨Nat.le_of_ble_eq_true rfl, Nat.le_of_ble_eq_true rfl⟩ hl.1 rfl (s8 (sI sN) (by decide)) dL_law_264 f2) h1 (fun H2 locs2 h2 _ => ?_)
  exact lv_icmp_eq (tgt := 664) hx hb dL_law_267 (by decide) (fun _ => kk A' σ2 H2 locs2 h2 G') (fun z => absurd rfl z)
theorem lc_commit (cx : CX p s m #[Value.ref sb] meth c cL_law 4 ret RL meth.name D dA base) (hX : va_X sb L xs s s.heap) (hbl : sb < s.heap.size) (hbA : ¬ (fun q : Nat => base ≤ q) sb) (hL : L ≤ 2560) (hi : 5 * n + 5 ≤ L) (h : Wd D dA base σ s H locs) (G : GO base n A σ) (hl : lv_has ls 4 [(3, .int (nI (5 * n))), (2, vr (pp base 294)), (1, vr (base + 1)), (0, .ref sb)])
    (kk : ∀ (A' : AS) (σ' : HS) (H' : Heap) (locs' : List Loc), Wd D dA base σ' s H' locs' → GO base (n + 1) A' σ' → W p l e room_1 s m #[Value.ref sb] below meth c H' locs' (hs σ' - hs (S0 base)) (ns σ' - ns (S0 base)) Q (F0 m 664 ls [])) :
    W p l e room_1 s m #[Value.ref sb] below meth c H locs (hs σ - hs (S0 base)) (ns σ - ns (S0 base)) Q (F0 m 272 ls []) := by
  have hx := cx.1
  have hb := cx.2.1
  obtain ⟨r, σ1, σ2, A', e5, c1, g1, g0, e6, g2, g3, G'⟩ := pr_commit G (by omega) (xs (nI (5 * n) + nI 1).toNatClampNeg)
  obtain ⟨q1, q2, q3⟩ := rc_room G.1 G.2.2 (by omega)
  obtain ⟨w1, w2, w3⟩ := rc_room c1 G'.2.2 (by omega)
  have le0 : LE (S0 base) σ := s0_le (by omega)
  have le1 : LE σ σ1 := ⟨g1, by omega⟩
  have le2 : LE σ1 σ2 := ⟨by omega, by omega⟩
  have f1 : (hs σ - hs (S0 base)) + (hs σ1 - hs σ) ≤ room_1.cells ∧ (ns σ - ns (S0 base)) + (ns σ1 - ns σ) ≤ room_1.slots := by
    show (hs σ - base) + (hs σ1 - hs σ) ≤ 600000 ∧ (ns σ - 0) + (ns σ1 - ns σ) ≤ 7302250
    have : N0 = 24127 := rfl
    omega
  have f2 : (hs σ1 - hs (S0 base)) + (hs σ2 - hs σ1) ≤ room_1.cells ∧ (ns σ1 - ns (S0 base)) + (ns σ2 - ns σ1) ≤ room_1.slots := by
    show (hs σ1 - base) + (hs σ2 - hs σ1) ≤ 600000 ∧ (ns σ1 - 0) + (ns σ2 - ns σ1) ≤ 7302250
    have : N0 = 24127 := rfl
    omega
  refine x_aload_n hx hb dL_law_272 rfl (lv_at hl 2 rfl) ?_
  refine lv_aload_n hx hb dL_law_273 rfl (lv_at hl 3 rfl) ?_
  refine lv_iload_n hx hb dL_law_274 rfl (lv_at hl 0 rfl) ?_
  refine lv_iconst (v := nI 1) hx hb dL_law_275 rfl ?_
  refine lv_iadd hx hb dL_law_276 ?_
  refine va_sld hx hb hX hbl hbA h.2 (ix_in (k := 1) (by omega) hL) dL_law_277 ?_
  refine x_calli le0 le1 (x_runV (As := [.int (xs (nI (5 * n) + nI 1).toNatClampNeg)]) cx h (c_X5_commit l D dA base (base + 1) (xs (nI (5 * n) + nI 1).toNatClampNeg) e5) ml_L_33 mi_X5_commit (show kd σ (base + 1) = 5 + 1 from G.1.1.2.1) rfl ⟨Nat.le_of_ble_eq_true rfl, Nat.le_of_ble_eq_true rfl⟩ hl.1 rfl (s8 sN (by decide)) dL_law_278 f1) h (fun H1 locs1 h1 le => ?_)
  refine x_aload_n hx hb dL_law_281 rfl (lv_at hl 1 rfl) ?_
  refine lv_aload_n hx hb dL_law_282 rfl (lv_at hl 3 rfl) ?_
  refine lv_iload_n hx hb dL_law_283 rfl (lv_at hl 0 rfl) ?_
  refine lv_iconst (v := nI 1) hx hb dL_law_284 rfl ?_
  refine lv_iadd hx hb dL_law_285 ?_
  refine va_sld hx hb hX hbl hbA h1.2 (ix_in (k := 1) (by omega) hL) dL_law_286 ?_
  refine x_calli le le2 (x_runV (As := [.int (xs (nI (5 * n) + nI 1).toNatClampNeg)]) (rest := [.int r]) cx h1 (c_X6_commit l D dA base (pp base 294) (xs (nI (5 * n) + nI 1).toNatClampNeg) e6) ml_L_36 mi_X6_commit (show kd σ1 (pp base 294) = 6 + 1 from g0) rfl ⟨Nat.le_of_ble_eq_true rfl, Nat.le_of_ble_eq_true rfl⟩ hl.1 rfl (s8 (sI sN) (by decide)) dL_law_287 f2) h1 (fun H2 locs2 h2 _ => ?_)
  exact lv_icmp_eq (tgt := 664) hx hb dL_law_290 (by decide) (fun _ => kk A' σ2 H2 locs2 h2 G') (fun z => absurd rfl z)
theorem lc_step (cx : CX p s m #[Value.ref sb] meth c cL_law 4 ret RL meth.name D dA base) (hX : va_X sb L xs s s.heap) (hbl : sb < s.heap.size) (hbA : ¬ (fun q : Nat => base ≤ q) sb) (hL : L ≤ 2560) (hi : 5 * n + 5 ≤ L) (h : Wd D dA base σ s H locs) (G : GO base n A σ) (hl : lv_has ls 4 [(3, .int (nI (5 * n))), (2, vr (pp base 294)), (1, vr (base + 1)), (0, .ref sb)])
    (kk : ∀ (A' : AS) (σ' : HS) (H' : Heap) (locs' : List Loc), Wd D dA base σ' s H' locs' → GO base (n + 1) A' σ' → W p l e room_1 s m #[Value.ref sb] below meth c H' locs' (hs σ' - hs (S0 base)) (ns σ' - ns (S0 base)) Q (F0 m 664 ls [])) :
    W p l e room_1 s m #[Value.ref sb] below meth c H locs (hs σ - hs (S0 base)) (ns σ - ns (S0 base)) Q (F0 m 295 ls []) := by
  have hx := cx.1
  have hb := cx.2.1
  obtain ⟨r, σ1, σ2, A', e5, c1, g1, g0, e6, g2, g3, G'⟩ := pr_step G (by omega) (xs (nI (5 * n) + nI 1).toNatClampNeg)
  obtain ⟨q1, q2, q3⟩ := rc_room G.1 G.2.2 (by omega)
  obtain ⟨w1, w2, w3⟩ := rc_room c1 G'.2.2 (by omega)
  have le0 : LE (S0 base) σ := s0_le (by omega)
  have le1 : LE σ σ1 := ⟨g1, by omega⟩
  have le2 : LE σ1 σ2 := ⟨by omega, by omega⟩
  have f1 : (hs σ - hs (S0 base)) + (hs σ1 - hs σ) ≤ room_1.cells ∧ (ns σ - ns (S0 base)) + (ns σ1 - ns σ) ≤ room_1.slots := by
    show (hs σ - base) + (hs σ1 - hs σ) ≤ 600000 ∧ (ns σ - 0) + (ns σ1 - ns σ) ≤ 7302250
    have : N0 = 24127 := rfl
    omega
  have f2 : (hs σ1 - hs (S0 base)) + (hs σ2 - hs σ1) ≤ room_1.cells ∧ (ns σ1 - ns (S0 base)) + (ns σ2 - ns σ1) ≤ room_1.slots := by
    show (hs σ1 - base) + (hs σ2 - hs σ1) ≤ 600000 ∧ (ns σ1 - 0) + (ns σ2 - ns σ1) ≤ 7302250
    have : N0 = 24127 := rfl
    omega
  refine x_aload_n hx hb dL_law_295 rfl (lv_at hl 2 rfl) ?_
  refine lv_aload_n hx hb dL_law_296 rfl (lv_at hl 3 rfl) ?_
  refine lv_iload_n hx hb dL_law_297 rfl (lv_at hl 0 rfl) ?_
  refine lv_iconst (v := nI 1) hx hb dL_law_298 rfl ?_
  refine lv_iadd hx hb dL_law_299 ?_
  refine va_sld hx hb hX hbl hbA h.2 (ix_in (k := 1) (by omega) hL) dL_law_300 ?_
  refine x_calli le0 le1 (x_runV (As := [.int (xs (nI (5 * n) + nI 1).toNatClampNeg)]) cx h (c_X5_step l D dA base (base + 1) (xs (nI (5 * n) + nI 1).toNatClampNeg) e5) ml_L_37 mi_X5_step (show kd σ (base + 1) = 5 + 1 from G.1.1.2.1) rfl ⟨Nat.le_of_ble_eq_true rfl, Nat.le_of_ble_eq_true rfl⟩ hl.1 rfl (s8 sN (by decide)) dL_law_301 f1) h (fun H1 locs1 h1 le => ?_)
  refine x_aload_n hx hb dL_law_304 rfl (lv_at hl 1 rfl) ?_
  refine lv_aload_n hx hb dL_law_305 rfl (lv_at hl 3 rfl) ?_
  refine lv_iload_n hx hb dL_law_306 rfl (lv_at hl 0 rfl) ?_
  refine lv_iconst (v := nI 1) hx hb dL_law_307 rfl ?_
  refine lv_iadd hx hb dL_law_308 ?_
  refine va_sld hx hb hX hbl hbA h1.2 (ix_in (k := 1) (by omega) hL) dL_law_309 ?_
  refine x_calli le le2 (x_runV (As := [.int (xs (nI (5 * n) + nI 1).toNatClampNeg)]) (rest := [.int r]) cx h1 (c_X6_step l D dA base (pp base 294) (xs (nI (5 * n) + nI 1).toNatClampNeg) e6) ml_L_40 mi_X6_step (show kd σ1 (pp base 294) = 6 + 1 from g0) rfl ⟨Nat.le_of_ble_eq_true rfl, Nat.le_of_ble_eq_true rfl⟩ hl.1 rfl (s8 (sI sN) (by decide)) dL_law_310 f2) h1 (fun H2 locs2 h2 _ => ?_)
  exact lv_icmp_eq (tgt := 664) hx hb dL_law_313 (by decide) (fun _ => kk A' σ2 H2 locs2 h2 G') (fun z => absurd rfl z)
theorem lc_crash (cx : CX p s m #[Value.ref sb] meth c cL_law 4 ret RL meth.name D dA base) (hX : va_X sb L xs s s.heap) (hbl : sb < s.heap.size) (hbA : ¬ (fun q : Nat => base ≤ q) sb) (hL : L ≤ 2560) (hi : 5 * n + 5 ≤ L) (h : Wd D dA base σ s H locs) (G : GO base n A σ) (hl : lv_has ls 4 [(3, .int (nI (5 * n))), (2, vr (pp base 294)), (1, vr (base + 1)), (0, .ref sb)])
    (kk : ∀ (A' : AS) (σ' : HS) (H' : Heap) (locs' : List Loc), Wd D dA base σ' s H' locs' → GO base (n + 1) A' σ' → W p l e room_1 s m #[Value.ref sb] below meth c H' locs' (hs σ' - hs (S0 base)) (ns σ' - ns (S0 base)) Q (F0 m 664 ls [])) :
    W p l e room_1 s m #[Value.ref sb] below meth c H locs (hs σ - hs (S0 base)) (ns σ - ns (S0 base)) Q (F0 m 318 ls []) := by
  have hx := cx.1
  have hb := cx.2.1
  obtain ⟨r, σ1, σ2, A', e5, c1, g1, g0, e6, g2, g3, G'⟩ := pr_crash G (by omega) (xs (nI (5 * n) + nI 1).toNatClampNeg)
  obtain ⟨q1, q2, q3⟩ := rc_room G.1 G.2.2 (by omega)
  obtain ⟨w1, w2, w3⟩ := rc_room c1 G'.2.2 (by omega)
  have le0 : LE (S0 base) σ := s0_le (by omega)
  have le1 : LE σ σ1 := ⟨g1, by omega⟩
  have le2 : LE σ1 σ2 := ⟨by omega, by omega⟩
  have f1 : (hs σ - hs (S0 base)) + (hs σ1 - hs σ) ≤ room_1.cells ∧ (ns σ - ns (S0 base)) + (ns σ1 - ns σ) ≤ room_1.slots := by
    show (hs σ - base) + (hs σ1 - hs σ) ≤ 600000 ∧ (ns σ - 0) + (ns σ1 - ns σ) ≤ 7302250
    have : N0 = 24127 := rfl
    omega
  have f2 : (hs σ1 - hs (S0 base)) + (hs σ2 - hs σ1) ≤ room_1.cells ∧ (ns σ1 - ns (S0 base)) + (ns σ2 - ns σ1) ≤ room_1.slots := by
    show (hs σ1 - base) + (hs σ2 - hs σ1) ≤ 600000 ∧ (ns σ1 - 0) + (ns σ2 - ns σ1) ≤ 7302250
    have : N0 = 24127 := rfl
    omega
  refine x_aload_n hx hb dL_law_318 rfl (lv_at hl 2 rfl) ?_
  refine lv_aload_n hx hb dL_law_319 rfl (lv_at hl 3 rfl) ?_
  refine lv_iload_n hx hb dL_law_320 rfl (lv_at hl 0 rfl) ?_
  refine lv_iconst (v := nI 1) hx hb dL_law_321 rfl ?_
  refine lv_iadd hx hb dL_law_322 ?_
  refine va_sld hx hb hX hbl hbA h.2 (ix_in (k := 1) (by omega) hL) dL_law_323 ?_
  refine x_calli le0 le1 (x_runV (As := [.int (xs (nI (5 * n) + nI 1).toNatClampNeg)]) cx h (c_X5_crash l D dA base (base + 1) (xs (nI (5 * n) + nI 1).toNatClampNeg) e5) ml_L_41 mi_X5_crash (show kd σ (base + 1) = 5 + 1 from G.1.1.2.1) rfl ⟨Nat.le_of_ble_eq_true rfl, Nat.le_of_ble_eq_true rfl⟩ hl.1 rfl (s8 sN (by decide)) dL_law_324 f1) h (fun H1 locs1 h1 le => ?_)
  refine x_aload_n hx hb dL_law_327 rfl (lv_at hl 1 rfl) ?_
  refine lv_aload_n hx hb dL_law_328 rfl (lv_at hl 3 rfl) ?_
  refine lv_iload_n hx hb dL_law_329 rfl (lv_at hl 0 rfl) ?_
  refine lv_iconst (v := nI 1) hx hb dL_law_330 rfl ?_
  refine lv_iadd hx hb dL_law_331 ?_
  refine va_sld hx hb hX hbl hbA h1.2 (ix_in (k := 1) (by omega) hL) dL_law_332 ?_
  refine x_calli le le2 (x_runV (As := [.int (xs (nI (5 * n) + nI 1).toNatClampNeg)]) (rest := [.int r]) cx h1 (c_X6_crash l D dA base (pp base 294) (xs (nI (5 * n) + nI 1).toNatClampNeg) e6) ml_L_44 mi_X6_crash (show kd σ1 (pp base 294) = 6 + 1 from g0) rfl ⟨Nat.le_of_ble_eq_true rfl, Nat.le_of_ble_eq_true rfl⟩ hl.1 rfl (s8 (sI sN) (by decide)) dL_law_333 f2) h1 (fun H2 locs2 h2 _ => ?_)
  exact lv_icmp_eq (tgt := 664) hx hb dL_law_336 (by decide) (fun _ => kk A' σ2 H2 locs2 h2 G') (fun z => absurd rfl z)
theorem lc_tick (cx : CX p s m #[Value.ref sb] meth c cL_law 4 ret RL meth.name D dA base) (hX : va_X sb L xs s s.heap) (hbl : sb < s.heap.size) (hbA : ¬ (fun q : Nat => base ≤ q) sb) (hL : L ≤ 2560) (hi : 5 * n + 5 ≤ L) (h : Wd D dA base σ s H locs) (G : GO base n A σ) (hl : lv_has ls 4 [(3, .int (nI (5 * n))), (2, vr (pp base 294)), (1, vr (base + 1)), (0, .ref sb)])
    (kk : ∀ (A' : AS) (σ' : HS) (H' : Heap) (locs' : List Loc), Wd D dA base σ' s H' locs' → GO base (n + 1) A' σ' → W p l e room_1 s m #[Value.ref sb] below meth c H' locs' (hs σ' - hs (S0 base)) (ns σ' - ns (S0 base)) Q (F0 m 664 ls [])) :
    W p l e room_1 s m #[Value.ref sb] below meth c H locs (hs σ - hs (S0 base)) (ns σ - ns (S0 base)) Q (F0 m 341 ls []) := by
  have hx := cx.1
  have hb := cx.2.1
  obtain ⟨r, σ1, σ2, A', e5, c1, g1, g0, e6, g2, g3, G'⟩ := pr_tick G (by omega) (xs (nI (5 * n) + nI 1).toNatClampNeg)
  obtain ⟨q1, q2, q3⟩ := rc_room G.1 G.2.2 (by omega)
  obtain ⟨w1, w2, w3⟩ := rc_room c1 G'.2.2 (by omega)
  have le0 : LE (S0 base) σ := s0_le (by omega)
  have le1 : LE σ σ1 := ⟨g1, by omega⟩
  have le2 : LE σ1 σ2 := ⟨by omega, by omega⟩
  have f1 : (hs σ - hs (S0 base)) + (hs σ1 - hs σ) ≤ room_1.cells ∧ (ns σ - ns (S0 base)) + (ns σ1 - ns σ) ≤ room_1.slots := by
    show (hs σ - base) + (hs σ1 - hs σ) ≤ 600000 ∧ (ns σ - 0) + (ns σ1 - ns σ) ≤ 7302250
    have : N0 = 24127 := rfl
    omega
  have f2 : (hs σ1 - hs (S0 base)) + (hs σ2 - hs σ1) ≤ room_1.cells ∧ (ns σ1 - ns (S0 base)) + (ns σ2 - ns σ1) ≤ room_1.slots := by
    show (hs σ1 - base) + (hs σ2 - hs σ1) ≤ 600000 ∧ (ns σ1 - 0) + (ns σ2 - ns σ1) ≤ 7302250
    have : N0 = 24127 := rfl
    omega
  refine x_aload_n hx hb dL_law_341 rfl (lv_at hl 2 rfl) ?_
  refine lv_aload_n hx hb dL_law_342 rfl (lv_at hl 3 rfl) ?_
  refine lv_iload_n hx hb dL_law_343 rfl (lv_at hl 0 rfl) ?_
  refine lv_iconst (v := nI 1) hx hb dL_law_344 rfl ?_
  refine lv_iadd hx hb dL_law_345 ?_
  refine va_sld hx hb hX hbl hbA h.2 (ix_in (k := 1) (by omega) hL) dL_law_346 ?_
  refine x_calli le0 le1 (x_runV (As := [.int (xs (nI (5 * n) + nI 1).toNatClampNeg)]) cx h (c_X5_tick l D dA base (base + 1) (xs (nI (5 * n) + nI 1).toNatClampNeg) e5) ml_L_45 mi_X5_tick (show kd σ (base + 1) = 5 + 1 from G.1.1.2.1) rfl ⟨Nat.le_of_ble_eq_true rfl, Nat.le_of_ble_eq_true rfl⟩ hl.1 rfl (s8 sN (by decide)) dL_law_347 f1) h (fun H1 locs1 h1 le => ?_)
  refine x_aload_n hx hb dL_law_350 rfl (lv_at hl 1 rfl) ?_
  refine lv_aload_n hx hb dL_law_351 rfl (lv_at hl 3 rfl) ?_
  refine lv_iload_n hx hb dL_law_352 rfl (lv_at hl 0 rfl) ?_
  refine lv_iconst (v := nI 1) hx hb dL_law_353 rfl ?_
  refine lv_iadd hx hb dL_law_354 ?_
  refine va_sld hx hb hX hbl hbA h1.2 (ix_in (k := 1) (by omega) hL) dL_law_355 ?_
  refine x_calli le le2 (x_runV (As := [.int (xs (nI (5 * n) + nI 1).toNatClampNeg)]) (rest := [.int r]) cx h1 (c_X6_tick l D dA base (pp base 294) (xs (nI (5 * n) + nI 1).toNatClampNeg) e6) ml_L_48 mi_X6_tick (show kd σ1 (pp base 294) = 6 + 1 from g0) rfl ⟨Nat.le_of_ble_eq_true rfl, Nat.le_of_ble_eq_true rfl⟩ hl.1 rfl (s8 (sI sN) (by decide)) dL_law_356 f2) h1 (fun H2 locs2 h2 _ => ?_)
  exact lv_icmp_eq (tgt := 664) hx hb dL_law_359 (by decide) (fun _ => kk A' σ2 H2 locs2 h2 G') (fun z => absurd rfl z)
theorem lc_timeout (cx : CX p s m #[Value.ref sb] meth c cL_law 4 ret RL meth.name D dA base) (hX : va_X sb L xs s s.heap) (hbl : sb < s.heap.size) (hbA : ¬ (fun q : Nat => base ≤ q) sb) (hL : L ≤ 2560) (hi : 5 * n + 5 ≤ L) (h : Wd D dA base σ s H locs) (G : GO base n A σ) (hl : lv_has ls 4 [(3, .int (nI (5 * n))), (2, vr (pp base 294)), (1, vr (base + 1)), (0, .ref sb)])
    (kk : ∀ (A' : AS) (σ' : HS) (H' : Heap) (locs' : List Loc), Wd D dA base σ' s H' locs' → GO base (n + 1) A' σ' → W p l e room_1 s m #[Value.ref sb] below meth c H' locs' (hs σ' - hs (S0 base)) (ns σ' - ns (S0 base)) Q (F0 m 664 ls [])) :
    W p l e room_1 s m #[Value.ref sb] below meth c H locs (hs σ - hs (S0 base)) (ns σ - ns (S0 base)) Q (F0 m 364 ls []) := by
  have hx := cx.1
  have hb := cx.2.1
  obtain ⟨r, σ1, σ2, A', e5, c1, g1, g0, e6, g2, g3, G'⟩ := pr_timeout G (by omega) (xs (nI (5 * n) + nI 1).toNatClampNeg)
  obtain ⟨q1, q2, q3⟩ := rc_room G.1 G.2.2 (by omega)
  obtain ⟨w1, w2, w3⟩ := rc_room c1 G'.2.2 (by omega)
  have le0 : LE (S0 base) σ := s0_le (by omega)
  have le1 : LE σ σ1 := ⟨g1, by omega⟩
  have le2 : LE σ1 σ2 := ⟨by omega, by omega⟩
  have f1 : (hs σ - hs (S0 base)) + (hs σ1 - hs σ) ≤ room_1.cells ∧ (ns σ - ns (S0 base)) + (ns σ1 - ns σ) ≤ room_1.slots := by
    show (hs σ - base) + (hs σ1 - hs σ) ≤ 600000 ∧ (ns σ - 0) + (ns σ1 - ns σ) ≤ 7302250
    have : N0 = 24127 := rfl
    omega
  have f2 : (hs σ1 - hs (S0 base)) + (hs σ2 - hs σ1) ≤ room_1.cells ∧ (ns σ1 - ns (S0 base)) + (ns σ2 - ns σ1) ≤ room_1.slots := by
    show (hs σ1 - base) + (hs σ2 - hs σ1) ≤ 600000 ∧ (ns σ1 - 0) + (ns σ2 - ns σ1) ≤ 7302250
    have : N0 = 24127 := rfl
    omega
  refine x_aload_n hx hb dL_law_364 rfl (lv_at hl 2 rfl) ?_
  refine lv_aload_n hx hb dL_law_365 rfl (lv_at hl 3 rfl) ?_
  refine lv_iload_n hx hb dL_law_366 rfl (lv_at hl 0 rfl) ?_
  refine lv_iconst (v := nI 1) hx hb dL_law_367 rfl ?_
  refine lv_iadd hx hb dL_law_368 ?_
  refine va_sld hx hb hX hbl hbA h.2 (ix_in (k := 1) (by omega) hL) dL_law_369 ?_
  refine x_calli le0 le1 (x_runV (As := [.int (xs (nI (5 * n) + nI 1).toNatClampNeg)]) cx h (c_X5_timeout l D dA base (base + 1) (xs (nI (5 * n) + nI 1).toNatClampNeg) e5) ml_L_49 mi_X5_timeout (show kd σ (base + 1) = 5 + 1 from G.1.1.2.1) rfl ⟨Nat.le_of_ble_eq_true rfl, Nat.le_of_ble_eq_true rfl⟩ hl.1 rfl (s8 sN (by decide)) dL_law_370 f1) h (fun H1 locs1 h1 le => ?_)
  refine x_aload_n hx hb dL_law_373 rfl (lv_at hl 1 rfl) ?_
  refine lv_aload_n hx hb dL_law_374 rfl (lv_at hl 3 rfl) ?_
  refine lv_iload_n hx hb dL_law_375 rfl (lv_at hl 0 rfl) ?_
  refine lv_iconst (v := nI 1) hx hb dL_law_376 rfl ?_
  refine lv_iadd hx hb dL_law_377 ?_
  refine va_sld hx hb hX hbl hbA h1.2 (ix_in (k := 1) (by omega) hL) dL_law_378 ?_
  refine x_calli le le2 (x_runV (As := [.int (xs (nI (5 * n) + nI 1).toNatClampNeg)]) (rest := [.int r]) cx h1 (c_X6_timeout l D dA base (pp base 294) (xs (nI (5 * n) + nI 1).toNatClampNeg) e6) ml_L_52 mi_X6_timeout (show kd σ1 (pp base 294) = 6 + 1 from g0) rfl ⟨Nat.le_of_ble_eq_true rfl, Nat.le_of_ble_eq_true rfl⟩ hl.1 rfl (s8 (sI sN) (by decide)) dL_law_379 f2) h1 (fun H2 locs2 h2 _ => ?_)
  exact lv_icmp_eq (tgt := 664) hx hb dL_law_382 (by decide) (fun _ => kk A' σ2 H2 locs2 h2 G') (fun z => absurd rfl z)
theorem lc_fallOracle (cx : CX p s m #[Value.ref sb] meth c cL_law 4 ret RL meth.name D dA base) (hX : va_X sb L xs s s.heap) (hbl : sb < s.heap.size) (hbA : ¬ (fun q : Nat => base ≤ q) sb) (hL : L ≤ 2560) (hi : 5 * n + 5 ≤ L) (h : Wd D dA base σ s H locs) (G : GO base n A σ) (hl : lv_has ls 4 [(3, .int (nI (5 * n))), (2, vr (pp base 294)), (1, vr (base + 1)), (0, .ref sb)])
    (kk : ∀ (A' : AS) (σ' : HS) (H' : Heap) (locs' : List Loc), Wd D dA base σ' s H' locs' → GO base (n + 1) A' σ' → W p l e room_1 s m #[Value.ref sb] below meth c H' locs' (hs σ' - hs (S0 base)) (ns σ' - ns (S0 base)) Q (F0 m 664 ls [])) :
    W p l e room_1 s m #[Value.ref sb] below meth c H locs (hs σ - hs (S0 base)) (ns σ - ns (S0 base)) Q (F0 m 387 ls []) := by
  have hx := cx.1
  have hb := cx.2.1
  obtain ⟨r, σ1, σ2, A', e5, c1, g1, g0, e6, g2, g3, G'⟩ := pr_fallOracle G (by omega)
  obtain ⟨q1, q2, q3⟩ := rc_room G.1 G.2.2 (by omega)
  obtain ⟨w1, w2, w3⟩ := rc_room c1 G'.2.2 (by omega)
  have le0 : LE (S0 base) σ := s0_le (by omega)
  have le1 : LE σ σ1 := ⟨g1, by omega⟩
  have le2 : LE σ1 σ2 := ⟨by omega, by omega⟩
  have f1 : (hs σ - hs (S0 base)) + (hs σ1 - hs σ) ≤ room_1.cells ∧ (ns σ - ns (S0 base)) + (ns σ1 - ns σ) ≤ room_1.slots := by
    show (hs σ - base) + (hs σ1 - hs σ) ≤ 600000 ∧ (ns σ - 0) + (ns σ1 - ns σ) ≤ 7302250
    have : N0 = 24127 := rfl
    omega
  have f2 : (hs σ1 - hs (S0 base)) + (hs σ2 - hs σ1) ≤ room_1.cells ∧ (ns σ1 - ns (S0 base)) + (ns σ2 - ns σ1) ≤ room_1.slots := by
    show (hs σ1 - base) + (hs σ2 - hs σ1) ≤ 600000 ∧ (ns σ1 - 0) + (ns σ2 - ns σ1) ≤ 7302250
    have : N0 = 24127 := rfl
    omega
  refine x_aload_n hx hb dL_law_387 rfl (lv_at hl 2 rfl) ?_
  refine x_calli le0 le1 (x_runV (As := []) cx h (c_X5_fallOracle l D dA base (base + 1) e5) ml_L_53 mi_X5_fallOracle (show kd σ (base + 1) = 5 + 1 from G.1.1.2.1) rfl ⟨Nat.le_of_ble_eq_true rfl, Nat.le_of_ble_eq_true rfl⟩ hl.1 rfl (s8 sN (by decide)) dL_law_388 f1) h (fun H1 locs1 h1 le => ?_)
  refine x_aload_n hx hb dL_law_391 rfl (lv_at hl 1 rfl) ?_
  refine x_calli le le2 (x_runV (As := []) (rest := [.int r]) cx h1 (c_X6_fallOracle l D dA base (pp base 294) e6) ml_L_57 mi_X6_fallOracle (show kd σ1 (pp base 294) = 6 + 1 from g0) rfl ⟨Nat.le_of_ble_eq_true rfl, Nat.le_of_ble_eq_true rfl⟩ hl.1 rfl (s8 (sI sN) (by decide)) dL_law_392 f2) h1 (fun H2 locs2 h2 _ => ?_)
  exact lv_icmp_eq (tgt := 664) hx hb dL_law_395 (by decide) (fun _ => kk A' σ2 H2 locs2 h2 G') (fun z => absurd rfl z)
theorem lc_fall (cx : CX p s m #[Value.ref sb] meth c cL_law 4 ret RL meth.name D dA base) (hX : va_X sb L xs s s.heap) (hbl : sb < s.heap.size) (hbA : ¬ (fun q : Nat => base ≤ q) sb) (hL : L ≤ 2560) (hi : 5 * n + 5 ≤ L) (h : Wd D dA base σ s H locs) (G : GO base n A σ) (hl : lv_has ls 4 [(3, .int (nI (5 * n))), (2, vr (pp base 294)), (1, vr (base + 1)), (0, .ref sb)])
    (kk : ∀ (A' : AS) (σ' : HS) (H' : Heap) (locs' : List Loc), Wd D dA base σ' s H' locs' → GO base (n + 1) A' σ' → W p l e room_1 s m #[Value.ref sb] below meth c H' locs' (hs σ' - hs (S0 base)) (ns σ' - ns (S0 base)) Q (F0 m 664 ls [])) :
    W p l e room_1 s m #[Value.ref sb] below meth c H locs (hs σ - hs (S0 base)) (ns σ - ns (S0 base)) Q (F0 m 400 ls []) := by
  have hx := cx.1
  have hb := cx.2.1
  obtain ⟨r, σ1, σ2, A', e5, c1, g1, g0, e6, g2, g3, G'⟩ := pr_fall G (by omega)
  obtain ⟨q1, q2, q3⟩ := rc_room G.1 G.2.2 (by omega)
  obtain ⟨w1, w2, w3⟩ := rc_room c1 G'.2.2 (by omega)
  have le0 : LE (S0 base) σ := s0_le (by omega)
  have le1 : LE σ σ1 := ⟨g1, by omega⟩
  have le2 : LE σ1 σ2 := ⟨by omega, by omega⟩
  have f1 : (hs σ - hs (S0 base)) + (hs σ1 - hs σ) ≤ room_1.cells ∧ (ns σ - ns (S0 base)) + (ns σ1 - ns σ) ≤ room_1.slots := by
    show (hs σ - base) + (hs σ1 - hs σ) ≤ 600000 ∧ (ns σ - 0) + (ns σ1 - ns σ) ≤ 7302250
    have : N0 = 24127 := rfl
    omega
  have f2 : (hs σ1 - hs (S0 base)) + (hs σ2 - hs σ1) ≤ room_1.cells ∧ (ns σ1 - ns (S0 base)) + (ns σ2 - ns σ1) ≤ room_1.slots := by
    show (hs σ1 - base) + (hs σ2 - hs σ1) ≤ 600000 ∧ (ns σ1 - 0) + (ns σ2 - ns σ1) ≤ 7302250
    have : N0 = 24127 := rfl
    omega
  refine x_aload_n hx hb dL_law_400 rfl (lv_at hl 2 rfl) ?_
  refine x_calli le0 le1 (x_runV (As := []) cx h (c_X5_fall l D dA base (base + 1) e5) ml_L_58 mi_X5_fall (show kd σ (base + 1) = 5 + 1 from G.1.1.2.1) rfl ⟨Nat.le_of_ble_eq_true rfl, Nat.le_of_ble_eq_true rfl⟩ hl.1 rfl (s8 sN (by decide)) dL_law_401 f1) h (fun H1 locs1 h1 le => ?_)
  refine x_aload_n hx hb dL_law_404 rfl (lv_at hl 1 rfl) ?_
  refine x_calli le le2 (x_runV (As := []) (rest := [.int r]) cx h1 (c_X6_fall l D dA base (pp base 294) e6) ml_L_61 mi_X6_fall (show kd σ1 (pp base 294) = 6 + 1 from g0) rfl ⟨Nat.le_of_ble_eq_true rfl, Nat.le_of_ble_eq_true rfl⟩ hl.1 rfl (s8 (sI sN) (by decide)) dL_law_405 f2) h1 (fun H2 locs2 h2 _ => ?_)
  exact lv_icmp_eq (tgt := 664) hx hb dL_law_408 (by decide) (fun _ => kk A' σ2 H2 locs2 h2 G') (fun z => absurd rfl z)
theorem lc_sweep (cx : CX p s m #[Value.ref sb] meth c cL_law 4 ret RL meth.name D dA base) (hX : va_X sb L xs s s.heap) (hbl : sb < s.heap.size) (hbA : ¬ (fun q : Nat => base ≤ q) sb) (hL : L ≤ 2560) (hi : 5 * n + 5 ≤ L) (h : Wd D dA base σ s H locs) (G : GO base n A σ) (hl : lv_has ls 4 [(3, .int (nI (5 * n))), (2, vr (pp base 294)), (1, vr (base + 1)), (0, .ref sb)])
    (kk : ∀ (A' : AS) (σ' : HS) (H' : Heap) (locs' : List Loc), Wd D dA base σ' s H' locs' → GO base (n + 1) A' σ' → W p l e room_1 s m #[Value.ref sb] below meth c H' locs' (hs σ' - hs (S0 base)) (ns σ' - ns (S0 base)) Q (F0 m 664 ls [])) :
    W p l e room_1 s m #[Value.ref sb] below meth c H locs (hs σ - hs (S0 base)) (ns σ - ns (S0 base)) Q (F0 m 413 ls []) := by
  have hx := cx.1
  have hb := cx.2.1
  obtain ⟨r, σ1, σ2, A', e5, c1, g1, g0, e6, g2, g3, G'⟩ := pr_sweep G (by omega) (xs (nI (5 * n) + nI 1).toNatClampNeg)
  obtain ⟨q1, q2, q3⟩ := rc_room G.1 G.2.2 (by omega)
  obtain ⟨w1, w2, w3⟩ := rc_room c1 G'.2.2 (by omega)
  have le0 : LE (S0 base) σ := s0_le (by omega)
  have le1 : LE σ σ1 := ⟨g1, by omega⟩
  have le2 : LE σ1 σ2 := ⟨by omega, by omega⟩
  have f1 : (hs σ - hs (S0 base)) + (hs σ1 - hs σ) ≤ room_1.cells ∧ (ns σ - ns (S0 base)) + (ns σ1 - ns σ) ≤ room_1.slots := by
    show (hs σ - base) + (hs σ1 - hs σ) ≤ 600000 ∧ (ns σ - 0) + (ns σ1 - ns σ) ≤ 7302250
    have : N0 = 24127 := rfl
    omega
  have f2 : (hs σ1 - hs (S0 base)) + (hs σ2 - hs σ1) ≤ room_1.cells ∧ (ns σ1 - ns (S0 base)) + (ns σ2 - ns σ1) ≤ room_1.slots := by
    show (hs σ1 - base) + (hs σ2 - hs σ1) ≤ 600000 ∧ (ns σ1 - 0) + (ns σ2 - ns σ1) ≤ 7302250
    have : N0 = 24127 := rfl
    omega
  refine x_aload_n hx hb dL_law_413 rfl (lv_at hl 2 rfl) ?_
  refine lv_aload_n hx hb dL_law_414 rfl (lv_at hl 3 rfl) ?_
  refine lv_iload_n hx hb dL_law_415 rfl (lv_at hl 0 rfl) ?_
  refine lv_iconst (v := nI 1) hx hb dL_law_416 rfl ?_
  refine lv_iadd hx hb dL_law_417 ?_
  refine va_sld hx hb hX hbl hbA h.2 (ix_in (k := 1) (by omega) hL) dL_law_418 ?_
  refine x_calli le0 le1 (x_runV (As := [.int (xs (nI (5 * n) + nI 1).toNatClampNeg)]) cx h (c_X5_sweep l D dA base (base + 1) (xs (nI (5 * n) + nI 1).toNatClampNeg) e5) ml_L_62 mi_X5_sweep (show kd σ (base + 1) = 5 + 1 from G.1.1.2.1) rfl ⟨Nat.le_of_ble_eq_true rfl, Nat.le_of_ble_eq_true rfl⟩ hl.1 rfl (s8 sN (by decide)) dL_law_419 f1) h (fun H1 locs1 h1 le => ?_)
  refine x_aload_n hx hb dL_law_422 rfl (lv_at hl 1 rfl) ?_
  refine lv_aload_n hx hb dL_law_423 rfl (lv_at hl 3 rfl) ?_
  refine lv_iload_n hx hb dL_law_424 rfl (lv_at hl 0 rfl) ?_
  refine lv_iconst (v := nI 1) hx hb dL_law_425 rfl ?_
  refine lv_iadd hx hb dL_law_426 ?_
  refine va_sld hx hb hX hbl hbA h1.2 (ix_in (k := 1) (by omega) hL) dL_law_427 ?_
  refine x_calli le le2 (x_runV (As := [.int (xs (nI (5 * n) + nI 1).toNatClampNeg)]) (rest := [.int r]) cx h1 (c_X6_sweep l D dA base (pp base 294) (xs (nI (5 * n) + nI 1).toNatClampNeg) e6) ml_L_65 mi_X6_sweep (show kd σ1 (pp base 294) = 6 + 1 from g0) rfl ⟨Nat.le_of_ble_eq_true rfl, Nat.le_of_ble_eq_true rfl⟩ hl.1 rfl (s8 (sI sN) (by decide)) dL_law_428 f2) h1 (fun H2 locs2 h2 _ => ?_)
  exact lv_icmp_eq (tgt := 664) hx hb dL_law_431 (by decide) (fun _ => kk A' σ2 H2 locs2 h2 G') (fun z => absurd rfl z)
theorem lc_state (cx : CX p s m #[Value.ref sb] meth c cL_law 4 ret RL meth.name D dA base) (hX : va_X sb L xs s s.heap) (hbl : sb < s.heap.size) (hbA : ¬ (fun q : Nat => base ≤ q) sb) (hL : L ≤ 2560) (hi : 5 * n + 5 ≤ L) (h : Wd D dA base σ s H locs) (G : GO base n A σ) (hl : lv_has ls 4 [(3, .int (nI (5 * n))), (2, vr (pp base 294)), (1, vr (base + 1)), (0, .ref sb)])
    (kk : ∀ (A' : AS) (σ' : HS) (H' : Heap) (locs' : List Loc), Wd D dA base σ' s H' locs' → GO base (n + 1) A' σ' → W p l e room_1 s m #[Value.ref sb] below meth c H' locs' (hs σ' - hs (S0 base)) (ns σ' - ns (S0 base)) Q (F0 m 664 ls [])) :
    W p l e room_1 s m #[Value.ref sb] below meth c H locs (hs σ - hs (S0 base)) (ns σ - ns (S0 base)) Q (F0 m 436 ls []) := by
  have hx := cx.1
  have hb := cx.2.1
  obtain ⟨r, σ1, σ2, A', e5, c1, g1, g0, e6, g2, g3, G'⟩ := pr_state G (by omega) (xs (nI (5 * n) + nI 1).toNatClampNeg) (xs (nI (5 * n) + nI 2).toNatClampNeg)
  obtain ⟨q1, q2, q3⟩ := rc_room G.1 G.2.2 (by omega)
  obtain ⟨w1, w2, w3⟩ := rc_room c1 G'.2.2 (by omega)
  have le0 : LE (S0 base) σ := s0_le (by omega)
  have le1 : LE σ σ1 := ⟨g1, by omega⟩
  have le2 : LE σ1 σ2 := ⟨by omega, by omega⟩
  have f1 : (hs σ - hs (S0 base)) + (hs σ1 - hs σ) ≤ room_1.cells ∧ (ns σ - ns (S0 base)) + (ns σ1 - ns σ) ≤ room_1.slots := by
    show (hs σ - base) + (hs σ1 - hs σ) ≤ 600000 ∧ (ns σ - 0) + (ns σ1 - ns σ) ≤ 7302250
    have : N0 = 24127 := rfl
    omega
  have f2 : (hs σ1 - hs (S0 base)) + (hs σ2 - hs σ1) ≤ room_1.cells ∧ (ns σ1 - ns (S0 base)) + (ns σ2 - ns σ1) ≤ room_1.slots := by
    show (hs σ1 - base) + (hs σ2 - hs σ1) ≤ 600000 ∧ (ns σ1 - 0) + (ns σ2 - ns σ1) ≤ 7302250
    have : N0 = 24127 := rfl
    omega
  refine x_aload_n hx hb dL_law_436 rfl (lv_at hl 2 rfl) ?_
  refine lv_aload_n hx hb dL_law_437 rfl (lv_at hl 3 rfl) ?_
  refine lv_iload_n hx hb dL_law_438 rfl (lv_at hl 0 rfl) ?_
  refine lv_iconst (v := nI 1) hx hb dL_law_439 rfl ?_
  refine lv_iadd hx hb dL_law_440 ?_
  refine va_sld hx hb hX hbl hbA h.2 (ix_in (k := 1) (by omega) hL) dL_law_441 ?_
  refine lv_aload_n hx hb dL_law_442 rfl (lv_at hl 3 rfl) ?_
  refine lv_iload_n hx hb dL_law_443 rfl (lv_at hl 0 rfl) ?_
  refine lv_iconst (v := nI 2) hx hb dL_law_444 rfl ?_
  refine lv_iadd hx hb dL_law_445 ?_
  refine va_sld hx hb hX hbl hbA h.2 (ix_in (k := 2) (by omega) hL) dL_law_446 ?_
  refine x_calli le0 le1 (x_runV (As := [.int (xs (nI (5 * n) + nI 1).toNatClampNeg), .int (xs (nI (5 * n) + nI 2).toNatClampNeg)]) cx h (c_X5_state l D dA base (base + 1) (xs (nI (5 * n) + nI 1).toNatClampNeg) (xs (nI (5 * n) + nI 2).toNatClampNeg) e5) ml_L_66 mi_X5_state (show kd σ (base + 1) = 5 + 1 from G.1.1.2.1) rfl ⟨Nat.le_of_ble_eq_true rfl, Nat.le_of_ble_eq_true rfl⟩ hl.1 rfl (s8 sN (by decide)) dL_law_447 f1) h (fun H1 locs1 h1 le => ?_)
  refine x_aload_n hx hb dL_law_450 rfl (lv_at hl 1 rfl) ?_
  refine lv_aload_n hx hb dL_law_451 rfl (lv_at hl 3 rfl) ?_
  refine lv_iload_n hx hb dL_law_452 rfl (lv_at hl 0 rfl) ?_
  refine lv_iconst (v := nI 1) hx hb dL_law_453 rfl ?_
  refine lv_iadd hx hb dL_law_454 ?_
  refine va_sld hx hb hX hbl hbA h1.2 (ix_in (k := 1) (by omega) hL) dL_law_455 ?_
  refine lv_aload_n hx hb dL_law_456 rfl (lv_at hl 3 rfl) ?_
  refine lv_iload_n hx hb dL_law_457 rfl (lv_at hl 0 rfl) ?_
  refine lv_iconst (v := nI 2) hx hb dL_law_458 rfl ?_
  refine lv_iadd hx hb dL_law_459 ?_
  refine va_sld hx hb hX hbl hbA h1.2 (ix_in (k := 2) (by omega) hL) dL_law_460 ?_
  refine x_calli le le2 (x_runV (As := [.int (xs (nI (5 * n) + nI 1).toNatClampNeg), .int (xs (nI (5 * n) + nI 2).toNatClampNeg)]) (rest := [.int r]) cx h1 (c_X6_state l D dA base (pp base 294) (xs (nI (5 * n) + nI 1).toNatClampNeg) (xs (nI (5 * n) + nI 2).toNatClampNeg) e6) ml_L_69 mi_X6_state (show kd σ1 (pp base 294) = 6 + 1 from g0) rfl ⟨Nat.le_of_ble_eq_true rfl, Nat.le_of_ble_eq_true rfl⟩ hl.1 rfl (s8 (sI sN) (by decide)) dL_law_461 f2) h1 (fun H2 locs2 h2 _ => ?_)
  exact lv_icmp_eq (tgt := 664) hx hb dL_law_464 (by decide) (fun _ => kk A' σ2 H2 locs2 h2 G') (fun z => absurd rfl z)
theorem lc_lock (cx : CX p s m #[Value.ref sb] meth c cL_law 4 ret RL meth.name D dA base) (hX : va_X sb L xs s s.heap) (hbl : sb < s.heap.size) (hbA : ¬ (fun q : Nat => base ≤ q) sb) (hL : L ≤ 2560) (hi : 5 * n + 5 ≤ L) (h : Wd D dA base σ s H locs) (G : GO base n A σ) (hl : lv_has ls 4 [(3, .int (nI (5 * n))), (2, vr (pp base 294)), (1, vr (base + 1)), (0, .ref sb)])
    (kk : ∀ (A' : AS) (σ' : HS) (H' : Heap) (locs' : List Loc), Wd D dA base σ' s H' locs' → GO base (n + 1) A' σ' → W p l e room_1 s m #[Value.ref sb] below meth c H' locs' (hs σ' - hs (S0 base)) (ns σ' - ns (S0 base)) Q (F0 m 664 ls [])) :
    W p l e room_1 s m #[Value.ref sb] below meth c H locs (hs σ - hs (S0 base)) (ns σ - ns (S0 base)) Q (F0 m 469 ls []) := by
  have hx := cx.1
  have hb := cx.2.1
  obtain ⟨r, σ1, σ2, A', e5, c1, g1, g0, e6, g2, g3, G'⟩ := pr_lock G (by omega) (xs (nI (5 * n) + nI 1).toNatClampNeg) (xs (nI (5 * n) + nI 2).toNatClampNeg) (xs (nI (5 * n) + nI 3).toNatClampNeg)
  obtain ⟨q1, q2, q3⟩ := rc_room G.1 G.2.2 (by omega)
  obtain ⟨w1, w2, w3⟩ := rc_room c1 G'.2.2 (by omega)
  have le0 : LE (S0 base) σ := s0_le (by omega)
  have le1 : LE σ σ1 := ⟨g1, by omega⟩
  have le2 : LE σ1 σ2 := ⟨by omega, by omega⟩
  have f1 : (hs σ - hs (S0 base)) + (hs σ1 - hs σ) ≤ room_1.cells ∧ (ns σ - ns (S0 base)) + (ns σ1 - ns σ) ≤ room_1.slots := by
    show (hs σ - base) + (hs σ1 - hs σ) ≤ 600000 ∧ (ns σ - 0) + (ns σ1 - ns σ) ≤ 7302250
    have : N0 = 24127 := rfl
    omega
  have f2 : (hs σ1 - hs (S0 base)) + (hs σ2 - hs σ1) ≤ room_1.cells ∧ (ns σ1 - ns (S0 base)) + (ns σ2 - ns σ1) ≤ room_1.slots := by
    show (hs σ1 - base) + (hs σ2 - hs σ1) ≤ 600000 ∧ (ns σ1 - 0) + (ns σ2 - ns σ1) ≤ 7302250
    have : N0 = 24127 := rfl
    omega
  refine x_aload_n hx hb dL_law_469 rfl (lv_at hl 2 rfl) ?_
  refine lv_aload_n hx hb dL_law_470 rfl (lv_at hl 3 rfl) ?_
  refine lv_iload_n hx hb dL_law_471 rfl (lv_at hl 0 rfl) ?_
  refine lv_iconst (v := nI 1) hx hb dL_law_472 rfl ?_
  refine lv_iadd hx hb dL_law_473 ?_
  refine va_sld hx hb hX hbl hbA h.2 (ix_in (k := 1) (by omega) hL) dL_law_474 ?_
  refine lv_aload_n hx hb dL_law_475 rfl (lv_at hl 3 rfl) ?_
  refine lv_iload_n hx hb dL_law_476 rfl (lv_at hl 0 rfl) ?_
  refine lv_iconst (v := nI 2) hx hb dL_law_477 rfl ?_
  refine lv_iadd hx hb dL_law_478 ?_
  refine va_sld hx hb hX hbl hbA h.2 (ix_in (k := 2) (by omega) hL) dL_law_479 ?_
  refine lv_aload_n hx hb dL_law_480 rfl (lv_at hl 3 rfl) ?_
  refine lv_iload_n hx hb dL_law_481 rfl (lv_at hl 0 rfl) ?_
  refine lv_iconst (v := nI 3) hx hb dL_law_482 rfl ?_
  refine lv_iadd hx hb dL_law_483 ?_
  refine va_sld hx hb hX hbl hbA h.2 (ix_in (k := 3) (by omega) hL) dL_law_484 ?_
  refine x_calli le0 le1 (x_runV (As := [.int (xs (nI (5 * n) + nI 1).toNatClampNeg), .int (xs (nI (5 * n) + nI 2).toNatClampNeg), .int (xs (nI (5 * n) + nI 3).toNatClampNeg)]) cx h (c_X5_lock l D dA base (base + 1) (xs (nI (5 * n) + nI 1).toNatClampNeg) (xs (nI (5 * n) + nI 2).toNatClampNeg) (xs (nI (5 * n) + nI 3).toNatClampNeg) e5) ml_L_70 mi_X5_lock (show kd σ (base + 1) = 5 + 1 from G.1.1.2.1) rfl ⟨Nat.le_of_ble_eq_true rfl, Nat.le_of_ble_eq_true rfl⟩ hl.1 rfl (s8 sN (by decide)) dL_law_485 f1) h (fun H1 locs1 h1 le => ?_)
  refine x_aload_n hx hb dL_law_488 rfl (lv_at hl 1 rfl) ?_
  refine lv_aload_n hx hb dL_law_489 rfl (lv_at hl 3 rfl) ?_
  refine lv_iload_n hx hb dL_law_490 rfl (lv_at hl 0 rfl) ?_
  refine lv_iconst (v := nI 1) hx hb dL_law_491 rfl ?_
  refine lv_iadd hx hb dL_law_492 ?_
  refine va_sld hx hb hX hbl hbA h1.2 (ix_in (k := 1) (by omega) hL) dL_law_493 ?_
  refine lv_aload_n hx hb dL_law_494 rfl (lv_at hl 3 rfl) ?_
  refine lv_iload_n hx hb dL_law_495 rfl (lv_at hl 0 rfl) ?_
  refine lv_iconst (v := nI 2) hx hb dL_law_496 rfl ?_
  refine lv_iadd hx hb dL_law_497 ?_
  refine va_sld hx hb hX hbl hbA h1.2 (ix_in (k := 2) (by omega) hL) dL_law_498 ?_
  refine lv_aload_n hx hb dL_law_499 rfl (lv_at hl 3 rfl) ?_
  refine lv_iload_n hx hb dL_law_500 rfl (lv_at hl 0 rfl) ?_
  refine lv_iconst (v := nI 3) hx hb dL_law_501 rfl ?_
  refine lv_iadd hx hb dL_law_502 ?_
  refine va_sld hx hb hX hbl hbA h1.2 (ix_in (k := 3) (by omega) hL) dL_law_503 ?_
  refine x_calli le le2 (x_runV (As := [.int (xs (nI (5 * n) + nI 1).toNatClampNeg), .int (xs (nI (5 * n) + nI 2).toNatClampNeg), .int (xs (nI (5 * n) + nI 3).toNatClampNeg)]) (rest := [.int r]) cx h1 (c_X6_lock l D dA base (pp base 294) (xs (nI (5 * n) + nI 1).toNatClampNeg) (xs (nI (5 * n) + nI 2).toNatClampNeg) (xs (nI (5 * n) + nI 3).toNatClampNeg) e6) ml_L_73 mi_X6_lock (show kd σ1 (pp base 294) = 6 + 1 from g0) rfl ⟨Nat.le_of_ble_eq_true rfl, Nat.le_of_ble_eq_true rfl⟩ hl.1 rfl (s8 (sI sN) (by decide)) dL_law_504 f2) h1 (fun H2 locs2 h2 _ => ?_)
  exact lv_icmp_eq (tgt := 664) hx hb dL_law_507 (by decide) (fun _ => kk A' σ2 H2 locs2 h2 G') (fun z => absurd rfl z)
theorem lc_versions (cx : CX p s m #[Value.ref sb] meth c cL_law 4 ret RL meth.name D dA base) (hX : va_X sb L xs s s.heap) (hbl : sb < s.heap.size) (hbA : ¬ (fun q : Nat => base ≤ q) sb) (hL : L ≤ 2560) (hi : 5 * n + 5 ≤ L) (h : Wd D dA base σ s H locs) (G : GO base n A σ) (hl : lv_has ls 4 [(3, .int (nI (5 * n))), (2, vr (pp base 294)), (1, vr (base + 1)), (0, .ref sb)])
    (kk : ∀ (A' : AS) (σ' : HS) (H' : Heap) (locs' : List Loc), Wd D dA base σ' s H' locs' → GO base (n + 1) A' σ' → W p l e room_1 s m #[Value.ref sb] below meth c H' locs' (hs σ' - hs (S0 base)) (ns σ' - ns (S0 base)) Q (F0 m 664 ls [])) :
    W p l e room_1 s m #[Value.ref sb] below meth c H locs (hs σ - hs (S0 base)) (ns σ - ns (S0 base)) Q (F0 m 512 ls []) := by
  have hx := cx.1
  have hb := cx.2.1
  obtain ⟨r, σ1, σ2, A', e5, c1, g1, g0, e6, g2, g3, G'⟩ := pr_versions G (by omega) (xs (nI (5 * n) + nI 1).toNatClampNeg) (xs (nI (5 * n) + nI 2).toNatClampNeg)
  obtain ⟨q1, q2, q3⟩ := rc_room G.1 G.2.2 (by omega)
  obtain ⟨w1, w2, w3⟩ := rc_room c1 G'.2.2 (by omega)
  have le0 : LE (S0 base) σ := s0_le (by omega)
  have le1 : LE σ σ1 := ⟨g1, by omega⟩
  have le2 : LE σ1 σ2 := ⟨by omega, by omega⟩
  have f1 : (hs σ - hs (S0 base)) + (hs σ1 - hs σ) ≤ room_1.cells ∧ (ns σ - ns (S0 base)) + (ns σ1 - ns σ) ≤ room_1.slots := by
    show (hs σ - base) + (hs σ1 - hs σ) ≤ 600000 ∧ (ns σ - 0) + (ns σ1 - ns σ) ≤ 7302250
    have : N0 = 24127 := rfl
    omega
  have f2 : (hs σ1 - hs (S0 base)) + (hs σ2 - hs σ1) ≤ room_1.cells ∧ (ns σ1 - ns (S0 base)) + (ns σ2 - ns σ1) ≤ room_1.slots := by
    show (hs σ1 - base) + (hs σ2 - hs σ1) ≤ 600000 ∧ (ns σ1 - 0) + (ns σ2 - ns σ1) ≤ 7302250
    have : N0 = 24127 := rfl
    omega
  refine x_aload_n hx hb dL_law_512 rfl (lv_at hl 2 rfl) ?_
  refine lv_aload_n hx hb dL_law_513 rfl (lv_at hl 3 rfl) ?_
  refine lv_iload_n hx hb dL_law_514 rfl (lv_at hl 0 rfl) ?_
  refine lv_iconst (v := nI 1) hx hb dL_law_515 rfl ?_
  refine lv_iadd hx hb dL_law_516 ?_
  refine va_sld hx hb hX hbl hbA h.2 (ix_in (k := 1) (by omega) hL) dL_law_517 ?_
  refine lv_aload_n hx hb dL_law_518 rfl (lv_at hl 3 rfl) ?_
  refine lv_iload_n hx hb dL_law_519 rfl (lv_at hl 0 rfl) ?_
  refine lv_iconst (v := nI 2) hx hb dL_law_520 rfl ?_
  refine lv_iadd hx hb dL_law_521 ?_
  refine va_sld hx hb hX hbl hbA h.2 (ix_in (k := 2) (by omega) hL) dL_law_522 ?_
  refine x_calli le0 le1 (x_runV (As := [.int (xs (nI (5 * n) + nI 1).toNatClampNeg), .int (xs (nI (5 * n) + nI 2).toNatClampNeg)]) cx h (c_X5_versions l D dA base (base + 1) (xs (nI (5 * n) + nI 1).toNatClampNeg) (xs (nI (5 * n) + nI 2).toNatClampNeg) e5) ml_L_74 mi_X5_versions (show kd σ (base + 1) = 5 + 1 from G.1.1.2.1) rfl ⟨Nat.le_of_ble_eq_true rfl, Nat.le_of_ble_eq_true rfl⟩ hl.1 rfl (s8 sN (by decide)) dL_law_523 f1) h (fun H1 locs1 h1 le => ?_)
  refine x_aload_n hx hb dL_law_526 rfl (lv_at hl 1 rfl) ?_
  refine lv_aload_n hx hb dL_law_527 rfl (lv_at hl 3 rfl) ?_
  refine lv_iload_n hx hb dL_law_528 rfl (lv_at hl 0 rfl) ?_
  refine lv_iconst (v := nI 1) hx hb dL_law_529 rfl ?_
  refine lv_iadd hx hb dL_law_530 ?_
  refine va_sld hx hb hX hbl hbA h1.2 (ix_in (k := 1) (by omega) hL) dL_law_531 ?_
  refine lv_aload_n hx hb dL_law_532 rfl (lv_at hl 3 rfl) ?_
  refine lv_iload_n hx hb dL_law_533 rfl (lv_at hl 0 rfl) ?_
  refine lv_iconst (v := nI 2) hx hb dL_law_534 rfl ?_
  refine lv_iadd hx hb dL_law_535 ?_
  refine va_sld hx hb hX hbl hbA h1.2 (ix_in (k := 2) (by omega) hL) dL_law_536 ?_
  refine x_calli le le2 (x_runV (As := [.int (xs (nI (5 * n) + nI 1).toNatClampNeg), .int (xs (nI (5 * n) + nI 2).toNatClampNeg)]) (rest := [.int r]) cx h1 (c_X6_versions l D dA base (pp base 294) (xs (nI (5 * n) + nI 1).toNatClampNeg) (xs (nI (5 * n) + nI 2).toNatClampNeg) e6) ml_L_77 mi_X6_versions (show kd σ1 (pp base 294) = 6 + 1 from g0) rfl ⟨Nat.le_of_ble_eq_true rfl, Nat.le_of_ble_eq_true rfl⟩ hl.1 rfl (s8 (sI sN) (by decide)) dL_law_537 f2) h1 (fun H2 locs2 h2 _ => ?_)
  exact lv_icmp_eq (tgt := 664) hx hb dL_law_540 (by decide) (fun _ => kk A' σ2 H2 locs2 h2 G') (fun z => absurd rfl z)
theorem lc_version (cx : CX p s m #[Value.ref sb] meth c cL_law 4 ret RL meth.name D dA base) (hX : va_X sb L xs s s.heap) (hbl : sb < s.heap.size) (hbA : ¬ (fun q : Nat => base ≤ q) sb) (hL : L ≤ 2560) (hi : 5 * n + 5 ≤ L) (h : Wd D dA base σ s H locs) (G : GO base n A σ) (hl : lv_has ls 4 [(3, .int (nI (5 * n))), (2, vr (pp base 294)), (1, vr (base + 1)), (0, .ref sb)])
    (kk : ∀ (A' : AS) (σ' : HS) (H' : Heap) (locs' : List Loc), Wd D dA base σ' s H' locs' → GO base (n + 1) A' σ' → W p l e room_1 s m #[Value.ref sb] below meth c H' locs' (hs σ' - hs (S0 base)) (ns σ' - ns (S0 base)) Q (F0 m 664 ls [])) :
    W p l e room_1 s m #[Value.ref sb] below meth c H locs (hs σ - hs (S0 base)) (ns σ - ns (S0 base)) Q (F0 m 545 ls []) := by
  have hx := cx.1
  have hb := cx.2.1
  obtain ⟨r, σ1, σ2, A', e5, c1, g1, g0, e6, g2, g3, G'⟩ := pr_version G (by omega) (xs (nI (5 * n) + nI 1).toNatClampNeg) (xs (nI (5 * n) + nI 2).toNatClampNeg) (xs (nI (5 * n) + nI 3).toNatClampNeg) (xs (nI (5 * n) + nI 4).toNatClampNeg)
  obtain ⟨q1, q2, q3⟩ := rc_room G.1 G.2.2 (by omega)
  obtain ⟨w1, w2, w3⟩ := rc_room c1 G'.2.2 (by omega)
  have le0 : LE (S0 base) σ := s0_le (by omega)
  have le1 : LE σ σ1 := ⟨g1, by omega⟩
  have le2 : LE σ1 σ2 := ⟨by omega, by omega⟩
  have f1 : (hs σ - hs (S0 base)) + (hs σ1 - hs σ) ≤ room_1.cells ∧ (ns σ - ns (S0 base)) + (ns σ1 - ns σ) ≤ room_1.slots := by
    show (hs σ - base) + (hs σ1 - hs σ) ≤ 600000 ∧ (ns σ - 0) + (ns σ1 - ns σ) ≤ 7302250
    have : N0 = 24127 := rfl
    omega
  have f2 : (hs σ1 - hs (S0 base)) + (hs σ2 - hs σ1) ≤ room_1.cells ∧ (ns σ1 - ns (S0 base)) + (ns σ2 - ns σ1) ≤ room_1.slots := by
    show (hs σ1 - base) + (hs σ2 - hs σ1) ≤ 600000 ∧ (ns σ1 - 0) + (ns σ2 - ns σ1) ≤ 7302250
    have : N0 = 24127 := rfl
    omega
  refine x_aload_n hx hb dL_law_545 rfl (lv_at hl 2 rfl) ?_
  refine lv_aload_n hx hb dL_law_546 rfl (lv_at hl 3 rfl) ?_
  refine lv_iload_n hx hb dL_law_547 rfl (lv_at hl 0 rfl) ?_
  refine lv_iconst (v := nI 1) hx hb dL_law_548 rfl ?_
  refine lv_iadd hx hb dL_law_549 ?_
  refine va_sld hx hb hX hbl hbA h.2 (ix_in (k := 1) (by omega) hL) dL_law_550 ?_
  refine lv_aload_n hx hb dL_law_551 rfl (lv_at hl 3 rfl) ?_
  refine lv_iload_n hx hb dL_law_552 rfl (lv_at hl 0 rfl) ?_
  refine lv_iconst (v := nI 2) hx hb dL_law_553 rfl ?_
  refine lv_iadd hx hb dL_law_554 ?_
  refine va_sld hx hb hX hbl hbA h.2 (ix_in (k := 2) (by omega) hL) dL_law_555 ?_
  refine lv_aload_n hx hb dL_law_556 rfl (lv_at hl 3 rfl) ?_
  refine lv_iload_n hx hb dL_law_557 rfl (lv_at hl 0 rfl) ?_
  refine lv_iconst (v := nI 3) hx hb dL_law_558 rfl ?_
  refine lv_iadd hx hb dL_law_559 ?_
  refine va_sld hx hb hX hbl hbA h.2 (ix_in (k := 3) (by omega) hL) dL_law_560 ?_
  refine lv_aload_n hx hb dL_law_561 rfl (lv_at hl 3 rfl) ?_
  refine lv_iload_n hx hb dL_law_562 rfl (lv_at hl 0 rfl) ?_
  refine lv_iconst (v := nI 4) hx hb dL_law_563 rfl ?_
  refine lv_iadd hx hb dL_law_564 ?_
  refine va_sld hx hb hX hbl hbA h.2 (ix_in (k := 4) (by omega) hL) dL_law_565 ?_
  refine x_calli le0 le1 (x_runV (As := [.int (xs (nI (5 * n) + nI 1).toNatClampNeg), .int (xs (nI (5 * n) + nI 2).toNatClampNeg), .int (xs (nI (5 * n) + nI 3).toNatClampNeg), .int (xs (nI (5 * n) + nI 4).toNatClampNeg)]) cx h (c_X5_version l D dA base (base + 1) (xs (nI (5 * n) + nI 1).toNatClampNeg) (xs (nI (5 * n) + nI 2).toNatClampNeg) (xs (nI (5 * n) + nI 3).toNatClampNeg) (xs (nI (5 * n) + nI 4).toNatClampNeg) e5) ml_L_78 mi_X5_version (show kd σ (base + 1) = 5 + 1 from G.1.1.2.1) rfl ⟨Nat.le_of_ble_eq_true rfl, Nat.le_of_ble_eq_true rfl⟩ hl.1 rfl (s8 sN (by decide)) dL_law_566 f1) h (fun H1 locs1 h1 le => ?_)
  refine x_aload_n hx hb dL_law_569 rfl (lv_at hl 1 rfl) ?_
  refine lv_aload_n hx hb dL_law_570 rfl (lv_at hl 3 rfl) ?_
  refine lv_iload_n hx hb dL_law_571 rfl (lv_at hl 0 rfl) ?_
  refine lv_iconst (v := nI 1) hx hb dL_law_572 rfl ?_
  refine lv_iadd hx hb dL_law_573 ?_
  refine va_sld hx hb hX hbl hbA h1.2 (ix_in (k := 1) (by omega) hL) dL_law_574 ?_
  refine lv_aload_n hx hb dL_law_575 rfl (lv_at hl 3 rfl) ?_
  refine lv_iload_n hx hb dL_law_576 rfl (lv_at hl 0 rfl) ?_
  refine lv_iconst (v := nI 2) hx hb dL_law_577 rfl ?_
  refine lv_iadd hx hb dL_law_578 ?_
  refine va_sld hx hb hX hbl hbA h1.2 (ix_in (k := 2) (by omega) hL) dL_law_579 ?_
  refine lv_aload_n hx hb dL_law_580 rfl (lv_at hl 3 rfl) ?_
  refine lv_iload_n hx hb dL_law_581 rfl (lv_at hl 0 rfl) ?_
  refine lv_iconst (v := nI 3) hx hb dL_law_582 rfl ?_
  refine lv_iadd hx hb dL_law_583 ?_
  refine va_sld hx hb hX hbl hbA h1.2 (ix_in (k := 3) (by omega) hL) dL_law_584 ?_
  refine lv_aload_n hx hb dL_law_585 rfl (lv_at hl 3 rfl) ?_
  refine lv_iload_n hx hb dL_law_586 rfl (lv_at hl 0 rfl) ?_
  refine lv_iconst (v := nI 4) hx hb dL_law_587 rfl ?_
  refine lv_iadd hx hb dL_law_588 ?_
  refine va_sld hx hb hX hbl hbA h1.2 (ix_in (k := 4) (by omega) hL) dL_law_589 ?_
  refine x_calli le le2 (x_runV (As := [.int (xs (nI (5 * n) + nI 1).toNatClampNeg), .int (xs (nI (5 * n) + nI 2).toNatClampNeg), .int (xs (nI (5 * n) + nI 3).toNatClampNeg), .int (xs (nI (5 * n) + nI 4).toNatClampNeg)]) (rest := [.int r]) cx h1 (c_X6_version l D dA base (pp base 294) (xs (nI (5 * n) + nI 1).toNatClampNeg) (xs (nI (5 * n) + nI 2).toNatClampNeg) (xs (nI (5 * n) + nI 3).toNatClampNeg) (xs (nI (5 * n) + nI 4).toNatClampNeg) e6) ml_L_81 mi_X6_version (show kd σ1 (pp base 294) = 6 + 1 from g0) rfl ⟨Nat.le_of_ble_eq_true rfl, Nat.le_of_ble_eq_true rfl⟩ hl.1 rfl (s8 (sI sN) (by decide)) dL_law_590 f2) h1 (fun H2 locs2 h2 _ => ?_)
  exact lv_icmp_eq (tgt := 664) hx hb dL_law_593 (by decide) (fun _ => kk A' σ2 H2 locs2 h2 G') (fun z => absurd rfl z)
theorem lc_data (cx : CX p s m #[Value.ref sb] meth c cL_law 4 ret RL meth.name D dA base) (hX : va_X sb L xs s s.heap) (hbl : sb < s.heap.size) (hbA : ¬ (fun q : Nat => base ≤ q) sb) (hL : L ≤ 2560) (hi : 5 * n + 5 ≤ L) (h : Wd D dA base σ s H locs) (G : GO base n A σ) (hl : lv_has ls 4 [(3, .int (nI (5 * n))), (2, vr (pp base 294)), (1, vr (base + 1)), (0, .ref sb)])
    (kk : ∀ (A' : AS) (σ' : HS) (H' : Heap) (locs' : List Loc), Wd D dA base σ' s H' locs' → GO base (n + 1) A' σ' → W p l e room_1 s m #[Value.ref sb] below meth c H' locs' (hs σ' - hs (S0 base)) (ns σ' - ns (S0 base)) Q (F0 m 664 ls [])) :
    W p l e room_1 s m #[Value.ref sb] below meth c H locs (hs σ - hs (S0 base)) (ns σ - ns (S0 base)) Q (F0 m 598 ls []) := by
  have hx := cx.1
  have hb := cx.2.1
  obtain ⟨r, σ1, σ2, A', e5, c1, g1, g0, e6, g2, g3, G'⟩ := pr_data G (by omega) (xs (nI (5 * n) + nI 1).toNatClampNeg) (xs (nI (5 * n) + nI 2).toNatClampNeg) (xs (nI (5 * n) + nI 3).toNatClampNeg)
  obtain ⟨q1, q2, q3⟩ := rc_room G.1 G.2.2 (by omega)
  obtain ⟨w1, w2, w3⟩ := rc_room c1 G'.2.2 (by omega)
  have le0 : LE (S0 base) σ := s0_le (by omega)
  have le1 : LE σ σ1 := ⟨g1, by omega⟩
  have le2 : LE σ1 σ2 := ⟨by omega, by omega⟩
  have f1 : (hs σ - hs (S0 base)) + (hs σ1 - hs σ) ≤ room_1.cells ∧ (ns σ - ns (S0 base)) + (ns σ1 - ns σ) ≤ room_1.slots := by
    show (hs σ - base) + (hs σ1 - hs σ) ≤ 600000 ∧ (ns σ - 0) + (ns σ1 - ns σ) ≤ 7302250
    have : N0 = 24127 := rfl
    omega
  have f2 : (hs σ1 - hs (S0 base)) + (hs σ2 - hs σ1) ≤ room_1.cells ∧ (ns σ1 - ns (S0 base)) + (ns σ2 - ns σ1) ≤ room_1.slots := by
    show (hs σ1 - base) + (hs σ2 - hs σ1) ≤ 600000 ∧ (ns σ1 - 0) + (ns σ2 - ns σ1) ≤ 7302250
    have : N0 = 24127 := rfl
    omega
  refine x_aload_n hx hb dL_law_598 rfl (lv_at hl 2 rfl) ?_
  refine lv_aload_n hx hb dL_law_599 rfl (lv_at hl 3 rfl) ?_
  refine lv_iload_n hx hb dL_law_600 rfl (lv_at hl 0 rfl) ?_
  refine lv_iconst (v := nI 1) hx hb dL_law_601 rfl ?_
  refine lv_iadd hx hb dL_law_602 ?_
  refine va_sld hx hb hX hbl hbA h.2 (ix_in (k := 1) (by omega) hL) dL_law_603 ?_
  refine lv_aload_n hx hb dL_law_604 rfl (lv_at hl 3 rfl) ?_
  refine lv_iload_n hx hb dL_law_605 rfl (lv_at hl 0 rfl) ?_
  refine lv_iconst (v := nI 2) hx hb dL_law_606 rfl ?_
  refine lv_iadd hx hb dL_law_607 ?_
  refine va_sld hx hb hX hbl hbA h.2 (ix_in (k := 2) (by omega) hL) dL_law_608 ?_
  refine lv_aload_n hx hb dL_law_609 rfl (lv_at hl 3 rfl) ?_
  refine lv_iload_n hx hb dL_law_610 rfl (lv_at hl 0 rfl) ?_
  refine lv_iconst (v := nI 3) hx hb dL_law_611 rfl ?_
  refine lv_iadd hx hb dL_law_612 ?_
  refine va_sld hx hb hX hbl hbA h.2 (ix_in (k := 3) (by omega) hL) dL_law_613 ?_
  refine x_calli le0 le1 (x_runV (As := [.int (xs (nI (5 * n) + nI 1).toNatClampNeg), .int (xs (nI (5 * n) + nI 2).toNatClampNeg), .int (xs (nI (5 * n) + nI 3).toNatClampNeg)]) cx h (c_X5_data l D dA base (base + 1) (xs (nI (5 * n) + nI 1).toNatClampNeg) (xs (nI (5 * n) + nI 2).toNatClampNeg) (xs (nI (5 * n) + nI 3).toNatClampNeg) e5) ml_L_82 mi_X5_data (show kd σ (base + 1) = 5 + 1 from G.1.1.2.1) rfl ⟨Nat.le_of_ble_eq_true rfl, Nat.le_of_ble_eq_true rfl⟩ hl.1 rfl (s8 sN (by decide)) dL_law_614 f1) h (fun H1 locs1 h1 le => ?_)
  refine x_aload_n hx hb dL_law_617 rfl (lv_at hl 1 rfl) ?_
  refine lv_aload_n hx hb dL_law_618 rfl (lv_at hl 3 rfl) ?_
  refine lv_iload_n hx hb dL_law_619 rfl (lv_at hl 0 rfl) ?_
  refine lv_iconst (v := nI 1) hx hb dL_law_620 rfl ?_
  refine lv_iadd hx hb dL_law_621 ?_
  refine va_sld hx hb hX hbl hbA h1.2 (ix_in (k := 1) (by omega) hL) dL_law_622 ?_
  refine lv_aload_n hx hb dL_law_623 rfl (lv_at hl 3 rfl) ?_
  refine lv_iload_n hx hb dL_law_624 rfl (lv_at hl 0 rfl) ?_
  refine lv_iconst (v := nI 2) hx hb dL_law_625 rfl ?_
  refine lv_iadd hx hb dL_law_626 ?_
  refine va_sld hx hb hX hbl hbA h1.2 (ix_in (k := 2) (by omega) hL) dL_law_627 ?_
  refine lv_aload_n hx hb dL_law_628 rfl (lv_at hl 3 rfl) ?_
  refine lv_iload_n hx hb dL_law_629 rfl (lv_at hl 0 rfl) ?_
  refine lv_iconst (v := nI 3) hx hb dL_law_630 rfl ?_
  refine lv_iadd hx hb dL_law_631 ?_
  refine va_sld hx hb hX hbl hbA h1.2 (ix_in (k := 3) (by omega) hL) dL_law_632 ?_
  refine x_calli le le2 (x_runV (As := [.int (xs (nI (5 * n) + nI 1).toNatClampNeg), .int (xs (nI (5 * n) + nI 2).toNatClampNeg), .int (xs (nI (5 * n) + nI 3).toNatClampNeg)]) (rest := [.int r]) cx h1 (c_X6_data l D dA base (pp base 294) (xs (nI (5 * n) + nI 1).toNatClampNeg) (xs (nI (5 * n) + nI 2).toNatClampNeg) (xs (nI (5 * n) + nI 3).toNatClampNeg) e6) ml_L_85 mi_X6_data (show kd σ1 (pp base 294) = 6 + 1 from g0) rfl ⟨Nat.le_of_ble_eq_true rfl, Nat.le_of_ble_eq_true rfl⟩ hl.1 rfl (s8 (sI sN) (by decide)) dL_law_633 f2) h1 (fun H2 locs2 h2 _ => ?_)
  exact lv_icmp_eq (tgt := 664) hx hb dL_law_636 (by decide) (fun _ => kk A' σ2 H2 locs2 h2 G') (fun z => absurd rfl z)
theorem lc_told (cx : CX p s m #[Value.ref sb] meth c cL_law 4 ret RL meth.name D dA base) (hX : va_X sb L xs s s.heap) (hbl : sb < s.heap.size) (hbA : ¬ (fun q : Nat => base ≤ q) sb) (hL : L ≤ 2560) (hi : 5 * n + 5 ≤ L) (h : Wd D dA base σ s H locs) (G : GO base n A σ) (hl : lv_has ls 4 [(3, .int (nI (5 * n))), (2, vr (pp base 294)), (1, vr (base + 1)), (0, .ref sb)])
    (kk : ∀ (A' : AS) (σ' : HS) (H' : Heap) (locs' : List Loc), Wd D dA base σ' s H' locs' → GO base (n + 1) A' σ' → W p l e room_1 s m #[Value.ref sb] below meth c H' locs' (hs σ' - hs (S0 base)) (ns σ' - ns (S0 base)) Q (F0 m 664 ls [])) :
    W p l e room_1 s m #[Value.ref sb] below meth c H locs (hs σ - hs (S0 base)) (ns σ - ns (S0 base)) Q (F0 m 641 ls []) := by
  have hx := cx.1
  have hb := cx.2.1
  obtain ⟨r, σ1, σ2, A', e5, c1, g1, g0, e6, g2, g3, G'⟩ := pr_told G (by omega) (xs (nI (5 * n) + nI 1).toNatClampNeg)
  obtain ⟨q1, q2, q3⟩ := rc_room G.1 G.2.2 (by omega)
  obtain ⟨w1, w2, w3⟩ := rc_room c1 G'.2.2 (by omega)
  have le0 : LE (S0 base) σ := s0_le (by omega)
  have le1 : LE σ σ1 := ⟨g1, by omega⟩
  have le2 : LE σ1 σ2 := ⟨by omega, by omega⟩
  have f1 : (hs σ - hs (S0 base)) + (hs σ1 - hs σ) ≤ room_1.cells ∧ (ns σ - ns (S0 base)) + (ns σ1 - ns σ) ≤ room_1.slots := by
    show (hs σ - base) + (hs σ1 - hs σ) ≤ 600000 ∧ (ns σ - 0) + (ns σ1 - ns σ) ≤ 7302250
    have : N0 = 24127 := rfl
    omega
  have f2 : (hs σ1 - hs (S0 base)) + (hs σ2 - hs σ1) ≤ room_1.cells ∧ (ns σ1 - ns (S0 base)) + (ns σ2 - ns σ1) ≤ room_1.slots := by
    show (hs σ1 - base) + (hs σ2 - hs σ1) ≤ 600000 ∧ (ns σ1 - 0) + (ns σ2 - ns σ1) ≤ 7302250
    have : N0 = 24127 := rfl
    omega
  refine x_aload_n hx hb dL_law_641 rfl (lv_at hl 2 rfl) ?_
  refine lv_aload_n hx hb dL_law_642 rfl (lv_at hl 3 rfl) ?_
  refine lv_iload_n hx hb dL_law_643 rfl (lv_at hl 0 rfl) ?_
  refine lv_iconst (v := nI 1) hx hb dL_law_644 rfl ?_
  refine lv_iadd hx hb dL_law_645 ?_
  refine va_sld hx hb hX hbl hbA h.2 (ix_in (k := 1) (by omega) hL) dL_law_646 ?_
  refine x_calli le0 le1 (x_runV (As := [.int (xs (nI (5 * n) + nI 1).toNatClampNeg)]) cx h (c_X5_told l D dA base (base + 1) (xs (nI (5 * n) + nI 1).toNatClampNeg) e5) ml_L_86 mi_X5_told (show kd σ (base + 1) = 5 + 1 from G.1.1.2.1) rfl ⟨Nat.le_of_ble_eq_true rfl, Nat.le_of_ble_eq_true rfl⟩ hl.1 rfl (s8 sN (by decide)) dL_law_647 f1) h (fun H1 locs1 h1 le => ?_)
  refine x_aload_n hx hb dL_law_650 rfl (lv_at hl 1 rfl) ?_
  refine lv_aload_n hx hb dL_law_651 rfl (lv_at hl 3 rfl) ?_
  refine lv_iload_n hx hb dL_law_652 rfl (lv_at hl 0 rfl) ?_
  refine lv_iconst (v := nI 1) hx hb dL_law_653 rfl ?_
  refine lv_iadd hx hb dL_law_654 ?_
  refine va_sld hx hb hX hbl hbA h1.2 (ix_in (k := 1) (by omega) hL) dL_law_655 ?_
  refine x_calli le le2 (x_runV (As := [.int (xs (nI (5 * n) + nI 1).toNatClampNeg)]) (rest := [.int r]) cx h1 (c_X6_told l D dA base (pp base 294) (xs (nI (5 * n) + nI 1).toNatClampNeg) e6) ml_L_89 mi_X6_told (show kd σ1 (pp base 294) = 6 + 1 from g0) rfl ⟨Nat.le_of_ble_eq_true rfl, Nat.le_of_ble_eq_true rfl⟩ hl.1 rfl (s8 (sI sN) (by decide)) dL_law_656 f2) h1 (fun H2 locs2 h2 _ => ?_)
  exact lv_icmp_eq (tgt := 664) hx hb dL_law_659 (by decide) (fun _ => kk A' σ2 H2 locs2 h2 G') (fun z => absurd rfl z)
end
