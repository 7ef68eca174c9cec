/-! THE CLAIM OUT OF ONE WALK OF THE LAW'S BODY. Your part is whole_start (and what it stands on); all else here is the same for every law, but numbers. -/
def R_law : String := "SnapRowsLaw"
def lw_P (b : Addr) (xs : List Int32) (args : Array Value) (s : State) : Prop := args = #[.ref b] ∧ s.IntsAt b xs ∧ xs.length ≤ 2560 ∧ (Jvm.Cond.and given_1 narrow_1).before args s = true
def lw_Q (_ : Array Value) (s : State) (o : Outcome) (t : State) : Prop := o = .returned (some (.int 1)) ∧ Framed s o t [] 600000 7302250
def lw_Z (below : List Frame) (a : Array Value) (s : State) : State → Prop := fun t => ∃ o, t.status = .running ∧ Ended t below o ∧ lw_Q a s o t
/-- the law's own end, with 1 on the stack, nothing written that was there before, its room as the claim has it -/
theorem lw_ret {p : Program} {l : Launch} {e : Env} {s : State} {m : MethodId} {below : List Frame} {meth : Method} {c : Code} {b : Nat} (hx : p.tables.exec = Jvm.exec) (hb : c.code = code) (hr : meth.sig.returnType = ret) (hlocks : meth.locks = false) {pc : Nat} {H : Heap} {ls : Array Slot} (hdg : decode code pc = .ok (.ireturn, 1)) : W p l e room_1 s m #[Value.ref b] below meth c H [] 600000 7302250 (lw_Z below #[Value.ref b] s) (F0 m pc ls [.int 1]) := by
  intro T hT X
  obtain ⟨fs, hret, hrun, hended, hW, hframe⟩ := X.leave (v := some (.int 1)) (hlocks := hlocks) (fun h => by rw [hr] at h; cases h)
  have hmeth' : T.vm.method? m = some meth := X.method'
  refine ⟨T.setFrames fs, ?_, .returned (some (.int 1)), hrun, hended, rfl, ⟨_, rfl⟩, hW, hframe⟩
  jvm_step X.here [X.here.top, hx, hb, hdg, hmeth', hr, ret, narrow_b1]
  (try refine ⟨rfl, ?_⟩); (try refine ⟨rfl, ?_⟩)
  first | (intro acts; rw [hret _ acts rfl rfl rfl]) | rw [hret _ _ rfl rfl rfl]
  exact Steps.refl _
/-- what holds at the law's entry: the machine, the code, the tables' words (any of lw_tbl by 'hts w (by decide +kernel)'), the script of L ints xs at the cell b, what the Statement gives of the start (any of its parts by flat_of_before) -/
def lw_At (p : Program) (s : State) (m : MethodId) (meth : Method) (c : Code) (b L : Nat) (xs : Nat → Int32) : Prop :=
  p.tables.exec = Jvm.exec ∧ c.code = code ∧ meth.sig.returnType = ret ∧ c.maxLocals = 4 ∧ s.vm.findClass R_law = some m.cls ∧ (∀ w ∈ lw_tbl, w.before #[Value.ref b] s = true) ∧ va_X b L xs s s.heap ∧ b < s.heap.size ∧ meth.locks = false ∧ (Jvm.Cond.and given_1 narrow_1).before #[Value.ref b] s = true
theorem ix_gt {L n : Nat} (hL : L ≤ 2560) (hn : 5 * n ≤ L) (h : ¬ Int32.ofNat L - 5 < nI (5 * n)) : 5 * n + 5 ≤ L := by
  by_cases e : 5 ≤ L
  · have e2 : Int32.ofNat L - 5 = nI (L - 5) := by
      rw [show Int32.ofNat L = nI (L - 5 + 5) by show nI L = _; rw [Nat.sub_add_cancel e], ← nI_add, show (5 : Int32) = nI 5 from rfl, Int32.add_sub_cancel]
    rw [e2] at h
    refine Nat.not_lt.mp (fun q => h (i_le_lt (by omega) (by omega)))
  · exfalso
    apply h
    have hn0 : n = 0 := by omega
    subst hn0
    have : L = 0 ∨ L = 1 ∨ L = 2 ∨ L = 3 ∨ L = 4 := by omega
    rcases this with q | q | q | q | q <;> subst q <;> decide
theorem sw_or {z : Int32} (h : ¬ (z.toInt < 0 ∨ 17 < z.toInt)) : z = 0 ∨ z = 1 ∨ z = 2 ∨ z = 3 ∨ z = 4 ∨ z = 5 ∨ z = 6 ∨ z = 7 ∨ z = 8 ∨ z = 9 ∨ z = 10 ∨ z = 11 ∨ z = 12 ∨ z = 13 ∨ z = 14 ∨ z = 15 ∨ z = 16 ∨ z = 17 := by
  have key : ∀ (k : Int32) (a : Int), k.toInt = a → z.toInt = a → z = k := fun k a h1 h2 => Int32.toInt_inj.mp (by rw [h1, h2])
  have : z.toInt = 0 ∨ z.toInt = 1 ∨ z.toInt = 2 ∨ z.toInt = 3 ∨ z.toInt = 4 ∨ z.toInt = 5 ∨ z.toInt = 6 ∨ z.toInt = 7 ∨ z.toInt = 8 ∨ z.toInt = 9 ∨ z.toInt = 10 ∨ z.toInt = 11 ∨ z.toInt = 12 ∨ z.toInt = 13 ∨ z.toInt = 14 ∨ z.toInt = 15 ∨ z.toInt = 16 ∨ z.toInt = 17 := by omega
  rcases this with ez | ez | ez | ez | ez | ez | ez | ez | ez | ez | ez | ez | ez | ez | ez | ez | ez | ez
  · exact Or.inl (key 0 0 (by decide) ez)
  · exact Or.inr (Or.inl (key 1 1 (by decide) ez))
  · exact Or.inr (Or.inr (Or.inl (key 2 2 (by decide) ez)))
  · exact Or.inr (Or.inr (Or.inr (Or.inl (key 3 3 (by decide) ez))))
  · exact Or.inr (Or.inr (Or.inr (Or.inr (Or.inl (key 4 4 (by decide) ez)))))
  · exact Or.inr (Or.inr (Or.inr (Or.inr (Or.inr (Or.inl (key 5 5 (by decide) ez))))))
  · exact Or.inr (Or.inr (Or.inr (Or.inr (Or.inr (Or.inr (Or.inl (key 6 6 (by decide) ez)))))))
  · exact Or.inr (Or.inr (Or.inr (Or.inr (Or.inr (Or.inr (Or.inr (Or.inl (key 7 7 (by decide) ez))))))))
  · exact Or.inr (Or.inr (Or.inr (Or.inr (Or.inr (Or.inr (Or.inr (Or.inr (Or.inl (key 8 8 (by decide) ez)))))))))
  · exact Or.inr (Or.inr (Or.inr (Or.inr (Or.inr (Or.inr (Or.inr (Or.inr (Or.inr (Or.inl (key 9 9 (by decide) ez))))))))))
  · exact Or.inr (Or.inr (Or.inr (Or.inr (Or.inr (Or.inr (Or.inr (Or.inr (Or.inr (Or.inr (Or.inl (key 10 10 (by decide) ez)))))))))))
  · exact Or.inr (Or.inr (Or.inr (Or.inr (Or.inr (Or.inr (Or.inr (Or.inr (Or.inr (Or.inr (Or.inr (Or.inl (key 11 11 (by decide) ez))))))))))))
  · exact Or.inr (Or.inr (Or.inr (Or.inr (Or.inr (Or.inr (Or.inr (Or.inr (Or.inr (Or.inr (Or.inr (Or.inr (Or.inl (key 12 12 (by decide) ez)))))))))))))
  · exact Or.inr (Or.inr (Or.inr (Or.inr (Or.inr (Or.inr (Or.inr (Or.inr (Or.inr (Or.inr (Or.inr (Or.inr (Or.inr (Or.inl (key 13 13 (by decide) ez))))))))))))))
  · exact Or.inr (Or.inr (Or.inr (Or.inr (Or.inr (Or.inr (Or.inr (Or.inr (Or.inr (Or.inr (Or.inr (Or.inr (Or.inr (Or.inr (Or.inl (key 14 14 (by decide) ez)))))))))))))))
  · exact Or.inr (Or.inr (Or.inr (Or.inr (Or.inr (Or.inr (Or.inr (Or.inr (Or.inr (Or.inr (Or.inr (Or.inr (Or.inr (Or.inr (Or.inr (Or.inl (key 15 15 (by decide) ez))))))))))))))))
  · exact Or.inr (Or.inr (Or.inr (Or.inr (Or.inr (Or.inr (Or.inr (Or.inr (Or.inr (Or.inr (Or.inr (Or.inr (Or.inr (Or.inr (Or.inr (Or.inr (Or.inl (key 16 16 (by decide) ez)))))))))))))))))
  · exact Or.inr (Or.inr (Or.inr (Or.inr (Or.inr (Or.inr (Or.inr (Or.inr (Or.inr (Or.inr (Or.inr (Or.inr (Or.inr (Or.inr (Or.inr (Or.inr (Or.inr ((key 17 17 (by decide) ez))))))))))))))))))
set_option maxHeartbeats 4000000 in
/-- the law's loop, n calls done -/
theorem law_loop {p : Program} {l : Launch} {e : Env} {s : State} {m : MethodId} {below : List Frame} {meth : Method} {c : Code} {D : va_G} {dA : Nat → ClassId} {sb L : Nat} {xs : Nat → Int32} (hL : L ≤ 2560) (cx : CX p s m #[Value.ref sb] meth c cL_law 4 ret RL meth.name D dA s.heap.size) (hr : meth.sig.returnType = ret) (hlocks : meth.locks = false) (hX : va_X sb L xs s s.heap) (hbl : sb < s.heap.size) :
    ∀ (r n : Nat) (A : AS) (σ : HS) (H : Heap) (locs : List Loc) (ls : Array Slot), n + r = 600 → 5 * n ≤ L → Wd D dA s.heap.size σ s H locs → GO s.heap.size n A σ → lv_has ls 4 [(3, .int (nI (5 * n))), (2, vr (pp s.heap.size 294)), (1, vr (s.heap.size + 1)), (0, .ref sb)] →
    W p l e room_1 s m #[Value.ref sb] below meth c H locs (hs σ - hs (S0 s.heap.size)) (ns σ - ns (S0 s.heap.size)) (lw_Z below #[Value.ref sb] s) (F0 m 18 ls []) := by
  have hx := cx.1
  have hb := cx.2.1
  have hbA : ¬ (fun q : Nat => s.heap.size ≤ q) sb := Nat.not_le.mpr hbl
  intro r
  induction r with
  | zero => intro n A σ H locs ls h1 h2; exact absurd h2 (by omega)
  | succ r ih =>
    intro n A σ H locs ls hnr hn h G hl
    obtain ⟨q1, q2, q3⟩ := rc_room G.1 G.2.2 (by omega)
    refine lv_iload_n hx hb dL_law_18 rfl (lv_at hl 0 rfl) ?_
    refine lv_aload_n hx hb dL_law_19 rfl (lv_at hl 3 rfl) ?_
    refine va_slen hx hb hX hbl hbA h.2 dL_law_20 ?_
    refine lv_iconst (v := 5) hx hb dL_law_21 rfl ?_
    refine lv_isub hx hb dL_law_22 ?_
    refine lv_icmp_gt (tgt := 670) hx hb dL_law_23 (by decide) (fun _ => ?_) (fun hc => ?_)
    · refine lv_iconst (v := 1) hx hb dL_law_670 rfl ?_
      refine va_forget (fun q hq => h.2.2.2 q hq) ?_
      refine W.widen (k := 600000) (n := 7302250) ?_ ?_ ?_
      · show hs σ - s.heap.size ≤ 600000
        omega
      · show ns σ - 0 ≤ 7302250
        have : N0 = 24127 := rfl
        omega
      · exact lw_ret hx hb hr hlocks dL_law_671
    · have hi := ix_gt hL hn hc
      have next : ∀ (A' : AS) (σ' : HS) (H' : Heap) (locs' : List Loc), Wd D dA s.heap.size σ' s H' locs' → GO s.heap.size (n + 1) A' σ' → W p l e room_1 s m #[Value.ref sb] below meth c H' locs' (hs σ' - hs (S0 s.heap.size)) (ns σ' - ns (S0 s.heap.size)) (lw_Z below #[Value.ref sb] s) (F0 m 664 ls []) := by
        intro A' σ' H' locs' h' G'
        refine x_iinc (lv' := [(3, .int (nI (5 * n) + 5)), (2, vr (pp s.heap.size 294)), (1, vr (s.heap.size + 1)), (0, .ref sb)]) hx hb dL_law_664 hl (k := 0) rfl rfl (by decide) (cI (cR (cR (cR (x := sb + 1) cN)))) rfl (fun ls' hl' => ?_)
        rw [show nI (5 * n) + 5 = nI (5 * (n + 1)) by rw [show (5 : Int32) = nI 5 from rfl, nI_add]; congr 1] at hl'
        exact lv_goto (tgt := 18) hx hb dL_law_667 (by decide) (ih (n + 1) A' σ' H' locs' ls' (by omega) (by omega) h' G' hl')
      refine lv_aload_n hx hb dL_law_26 rfl (lv_at hl 3 rfl) ?_
      refine lv_iload_n hx hb dL_law_27 rfl (lv_at hl 0 rfl) ?_
      refine va_sld hx hb hX hbl hbA h.2 (vp_in_nI (show 5 * n < L by omega) (by omega)) dL_law_28 ?_
      refine lv_bipush (v := 31) hx hb dL_law_29 (by decide) ?_
      refine lv_iand hx hb dL_law_31 ?_
      refine lv_topi (fun z _ => ?_)
      by_cases ho : z.toInt < 0 ∨ 17 < z.toInt
      · exact lv_tableOut (tgt := 664) hx hb dL_law_32 ho (by decide) (next A σ H locs h ⟨G.1, G.2.1, G.2.2.up (by omega)⟩)
      · rcases sw_or ho with ez | ez | ez | ez | ez | ez | ez | ez | ez | ez | ez | ez | ez | ez | ez | ez | ez | ez
        · exact lv_tableIn (off := 88) (tgt := 120) hx hb dL_law_32 (by rw [ez]; decide) (by rw [ez]; decide) (by rw [ez]; rfl) (by decide) (lc_begin cx hX hbl hbA hL hi h G hl next)
        · exact lv_tableIn (off := 111) (tgt := 143) hx hb dL_law_32 (by rw [ez]; decide) (by rw [ez]; decide) (by rw [ez]; rfl) (by decide) (lc_read cx hX hbl hbA hL hi h G hl next)
        · exact lv_tableIn (off := 154) (tgt := 186) hx hb dL_law_32 (by rw [ez]; decide) (by rw [ez]; decide) (by rw [ez]; rfl) (by decide) (lc_next cx hX hbl hbA hL hi h G hl next)
        · exact lv_tableIn (off := 187) (tgt := 219) hx hb dL_law_32 (by rw [ez]; decide) (by rw [ez]; decide) (by rw [ez]; rfl) (by decide) (lc_write cx hX hbl hbA hL hi h G hl next)
        · exact lv_tableIn (off := 240) (tgt := 272) hx hb dL_law_32 (by rw [ez]; decide) (by rw [ez]; decide) (by rw [ez]; rfl) (by decide) (lc_commit cx hX hbl hbA hL hi h G hl next)
        · exact lv_tableIn (off := 263) (tgt := 295) hx hb dL_law_32 (by rw [ez]; decide) (by rw [ez]; decide) (by rw [ez]; rfl) (by decide) (lc_step cx hX hbl hbA hL hi h G hl next)
        · exact lv_tableIn (off := 286) (tgt := 318) hx hb dL_law_32 (by rw [ez]; decide) (by rw [ez]; decide) (by rw [ez]; rfl) (by decide) (lc_crash cx hX hbl hbA hL hi h G hl next)
        · exact lv_tableIn (off := 309) (tgt := 341) hx hb dL_law_32 (by rw [ez]; decide) (by rw [ez]; decide) (by rw [ez]; rfl) (by decide) (lc_tick cx hX hbl hbA hL hi h G hl next)
        · exact lv_tableIn (off := 332) (tgt := 364) hx hb dL_law_32 (by rw [ez]; decide) (by rw [ez]; decide) (by rw [ez]; rfl) (by decide) (lc_timeout cx hX hbl hbA hL hi h G hl next)
        · exact lv_tableIn (off := 355) (tgt := 387) hx hb dL_law_32 (by rw [ez]; decide) (by rw [ez]; decide) (by rw [ez]; rfl) (by decide) (lc_fallOracle cx hX hbl hbA hL hi h G hl next)
        · exact lv_tableIn (off := 368) (tgt := 400) hx hb dL_law_32 (by rw [ez]; decide) (by rw [ez]; decide) (by rw [ez]; rfl) (by decide) (lc_fall cx hX hbl hbA hL hi h G hl next)
        · exact lv_tableIn (off := 381) (tgt := 413) hx hb dL_law_32 (by rw [ez]; decide) (by rw [ez]; decide) (by rw [ez]; rfl) (by decide) (lc_sweep cx hX hbl hbA hL hi h G hl next)
        · exact lv_tableIn (off := 404) (tgt := 436) hx hb dL_law_32 (by rw [ez]; decide) (by rw [ez]; decide) (by rw [ez]; rfl) (by decide) (lc_state cx hX hbl hbA hL hi h G hl next)
        · exact lv_tableIn (off := 437) (tgt := 469) hx hb dL_law_32 (by rw [ez]; decide) (by rw [ez]; decide) (by rw [ez]; rfl) (by decide) (lc_lock cx hX hbl hbA hL hi h G hl next)
        · exact lv_tableIn (off := 480) (tgt := 512) hx hb dL_law_32 (by rw [ez]; decide) (by rw [ez]; decide) (by rw [ez]; rfl) (by decide) (lc_versions cx hX hbl hbA hL hi h G hl next)
        · exact lv_tableIn (off := 513) (tgt := 545) hx hb dL_law_32 (by rw [ez]; decide) (by rw [ez]; decide) (by rw [ez]; rfl) (by decide) (lc_version cx hX hbl hbA hL hi h G hl next)
        · exact lv_tableIn (off := 566) (tgt := 598) hx hb dL_law_32 (by rw [ez]; decide) (by rw [ez]; decide) (by rw [ez]; rfl) (by decide) (lc_data cx hX hbl hbA hL hi h G hl next)
        · exact lv_tableIn (off := 609) (tgt := 641) hx hb dL_law_32 (by rw [ez]; decide) (by rw [ez]; decide) (by rw [ez]; rfl) (by decide) (lc_told cx hX hbl hbA hL hi h G hl next)
theorem kn_of {own : String} {index ci N : Nat} {args : Array Value} {s : State} (hN : NL own index ci N) (hts : ∀ w ∈ lw_good, w.before args s = true) : ∃ (cC : ClassId) (iS : Nat → Nat), ∀ q, vwCl[ci]? = some q → u_Kn s q.1 q.2.1 q.2.2 cC iS := by
  obtain ⟨C, T, ty, n1, n2, n3, n4, n5, n6, n7, n8, n9⟩ := hN
  obtain ⟨cC, iS, h⟩ := u_known (n := N) hts n4 (hts _ n8)
  refine ⟨cC, iS, fun q hq => ?_⟩
  rw [n1] at hq
  injection hq with hq
  rw [← hq]
  exact h
theorem kk_start {args : Array Value} {s : State} (hts : ∀ w ∈ lw_tbl, w.before args s = true) : ∃ (D : va_G) (dA : Nat → ClassId), KK D dA s := by
  have htg : ∀ w ∈ lw_good, w.before args s = true := fun w hw => hts w (List.mem_filter.mp hw).1
  obtain ⟨c0, i0, k0⟩ := kn_of nl_X3_9 htg
  obtain ⟨c1, i1, k1⟩ := kn_of nl_X3_18 htg
  obtain ⟨c2, i2, k2⟩ := kn_of nl_X5_16 htg
  obtain ⟨c3, i3, k3⟩ := kn_of nl_X5_7 htg
  obtain ⟨c4, i4, k4⟩ := kn_of nl_X5_23 htg
  obtain ⟨c5, i5, k5⟩ := kn_of nl_L_7 htg
  obtain ⟨c6, i6, k6⟩ := kn_of nl_L_10 htg
  have ao1 : (Cond.arrayOver (.object "SnapRows$Cell")).before args s = true := hts _ (List.mem_of_getElem? (i := 63) (by decide +kernel))
  have ao2 : (Cond.arrayOver (.object "SnapRows$Transaction")).before args s = true := hts _ (List.mem_of_getElem? (i := 138) (by decide +kernel))
  obtain ⟨a0, ka0, cm0, f1, f2, f3⟩ := Cond.arrayClass_spec (htg _ ac_int)
  obtain ⟨a1, ka1, cm1, g1, g2, g3⟩ := Cond.arrayClass_spec (htg _ ac_boolean)
  obtain ⟨cm2, a2, ka2, u1, u2, u3, u4, u5⟩ := Cond.arrayOver_spec ao1
  obtain ⟨cm3, a3, ka3, v1, v2, v3, v4, v5⟩ := Cond.arrayOver_spec ao2
  refine ⟨(fun k => match k with | 0 => c0 | 1 => c1 | 2 => c2 | 3 => c3 | 4 => c4 | 5 => c5 | _ => c6, fun k => match k with | 0 => i0 | 1 => i1 | 2 => i2 | 3 => i3 | 4 => i4 | 5 => i5 | _ => i6), (fun k => match k with | 0 => a0 | 1 => a1 | 2 => a2 | _ => a3), ⟨fun k q hq => ?_, fun k q hq => ?_⟩, ?_, va_AO.of ao1, va_AO.of ao2⟩
  · match k, hq with
    | 0, hq => exact k0 q hq
    | 1, hq => exact k1 q hq
    | 2, hq => exact k2 q hq
    | 3, hq => exact k3 q hq
    | 4, hq => exact k4 q hq
    | 5, hq => exact k5 q hq
    | 6, hq => exact k6 q hq
    | k + 7, hq => simp [vwCl] at hq
  · match k, hq with
    | 0, hq => cases hq; exact ⟨fun N z => ⟨(fun k h => by cases h), ka0, f2, cm0, f3⟩, f1⟩
    | 1, hq => cases hq; exact ⟨fun N z => ⟨(fun k h => by cases h), ka1, g2, cm1, g3⟩, g1⟩
    | 2, hq => cases hq; exact ⟨fun N z => ⟨(fun k h => by cases h), ka2, u3, cm2, u4⟩, ka2, cm2, u3, u4, u1, u5⟩
    | 3, hq => cases hq; exact ⟨fun N z => ⟨(fun k h => by cases h), ka3, v3, cm3, v4⟩, ka3, cm3, v3, v4, v1, v5⟩
    | k + 4, hq => simp at hq
  · intro w hw
    have hn := (List.mem_filter.mp hw).2
    have hm := hts w (List.mem_filter.mp hw).1
    cases w <;> first | (cases hn; done) | exact va_tabs rfl rfl hm
set_option maxHeartbeats 4000000 in
theorem whole_start {p : Program} {e : Env} {s : State} {m : MethodId} {below : List Frame} {meth : Method} {c : Code} (l : Launch) {b L : Nat} {xs : Nat → Int32} (hL : L ≤ 2560) (C0 : lw_At p s m meth c b L xs) : W p l e room_1 s m #[Value.ref b] below meth c s.heap [] 0 0 (lw_Z below #[Value.ref b] s) (entryFrame m ([Value.ref b] : List Value).toArray 4) := by
  obtain ⟨hx, hb, hr, hml, hown, hts, hX, hbl, hlocks, hgv⟩ := C0
  have htg : ∀ w ∈ lw_good, w.before #[Value.ref b] s = true := fun w hw => hts w (List.mem_filter.mp hw).1
  obtain ⟨D, dA, hK⟩ := kk_start hts
  have cx : CX p s m #[Value.ref b] meth c cL_law 4 ret RL meth.name D dA s.heap.size := ⟨hx, hb, hml, hown, htg, hr, hlocks, rfl, hK, Nat.le_refl _⟩
  obtain ⟨τ1, τ, t1, t2, t3, t4, t5, t6⟩ := both_start s.heap.size
  have G : GO s.heap.size 0 A0 τ := ⟨t5, t6, a0_PI⟩
  obtain ⟨q1, q2, q3⟩ := rc_room G.1 G.2.2 (by omega)
  rw [a0_ne] at q1 q2
  have hN0 : N0 = 24127 := rfl
  have h0 : Wd D dA s.heap.size (S0 s.heap.size) s s.heap [] := ⟨⟨rfl, Nat.le_refl _, fun n hn => absurd rfl hn⟩, va_S.rf⟩
  have hl := lv_entry ([.ref b]) (n := 4) (Nat.le_of_ble_eq_true rfl)
  rw [lg_entry_eq]
  generalize (lg_sl ([.ref b]) ++ List.replicate (4 - (lg_sl ([.ref b])).length) Slot.unset).toArray = ls at hl ⊢
  have hl : lv_has ls 4 [(0, .ref b)] := hl
  refine x_new (rest := []) cx h0 nl_L_7 (Nat.le_of_ble_eq_true rfl) (Nat.le_of_ble_eq_true rfl) dL_law_0 (fun H1 h1 => ?_)
  have k1 : kd (nw (S0 s.heap.size) 6 6) (s.heap.size + 1) = 5 + 1 := kd_nw_self (S0 s.heap.size) 6 6
  have e1 : hs (nw (S0 s.heap.size) 6 6) = s.heap.size + 1 := rfl
  have n1 : ns (nw (S0 s.heap.size) 6 6) = 6 := rfl
  have h1 : Wd D dA s.heap.size (nw (S0 s.heap.size) 6 6) s H1 [] := h1
  show W p l e room_1 s m #[Value.ref b] below meth c H1 [] 1 6 (lw_Z below #[Value.ref b] s) (F0 m 3 ls [vr (s.heap.size + 1)])
  generalize nw (S0 s.heap.size) 6 6 = σ1 at h1 t1 k1 e1 n1
  refine lv_dup hx hb dL_law_3 (vr_cat _) ?_
  refine x_call (x_runI (As := []) (rest := [vr (s.heap.size + 1)]) cx h1 (c_X5_init l D dA s.heap.size (s.heap.size + 1) t1) ml_L_9 mi_X5_init k1 rfl ⟨Nat.le_of_ble_eq_true rfl, Nat.le_of_ble_eq_true rfl⟩ hl.1 rfl (s8 (sR sN) (by decide)) dL_law_4 ?_) h1 (fun H2 locs2 h2 => ?_)
  · show 1 + (hs τ1 - hs σ1) ≤ 600000 ∧ 6 + (ns τ1 - ns σ1) ≤ 7302250
    omega
  refine W.cs (cells' := 293) (slots' := 2023) (by omega) (by omega) ?_
  refine x_astore_n (x := s.heap.size + 1) (rest := []) (lv' := [(1, vr (s.heap.size + 1)), (0, .ref b)]) hx hb dL_law_7 rfl hl (by decide) (cR (x := b + 1) cN) rfl (fun ls hl => ?_)
  refine x_new (rest := []) cx h2 nl_L_10 (Nat.le_of_ble_eq_true rfl) (Nat.le_of_ble_eq_true rfl) dL_law_8 (fun H3 h3 => ?_)
  have e3 : hs (nw τ1 7 32) = s.heap.size + 294 := by show hs τ1 + 1 = _; omega
  have n3 : ns (nw τ1 7 32) = 2055 := by show ns τ1 + 32 = _; omega
  have k3 : kd (nw τ1 7 32) (s.heap.size + 294) = 6 + 1 := by rw [kd_nw, t2, if_pos rfl]
  have h3 : Wd D dA s.heap.size (nw τ1 7 32) s H3 locs2 := h3
  rw [t2]
  show W p l e room_1 s m #[Value.ref b] below meth c H3 locs2 294 2055 (lw_Z below #[Value.ref b] s) (F0 m 11 ls [vr (s.heap.size + 294)])
  generalize nw τ1 7 32 = σ3 at h3 t4 e3 n3 k3
  refine lv_dup hx hb dL_law_11 (vr_cat _) ?_
  refine x_call (x_runI (As := []) (rest := [vr (s.heap.size + 294)]) cx h3 (c_X6_init l D dA s.heap.size (s.heap.size + 294) t4) ml_L_12 mi_X6_init k3 rfl ⟨Nat.le_of_ble_eq_true rfl, Nat.le_of_ble_eq_true rfl⟩ hl.1 rfl (s8 (sR sN) (by decide)) dL_law_12 ?_) h3 (fun H4 locs4 h4 => ?_)
  · show 294 + (hs τ - hs σ3) ≤ 600000 ∧ 2055 + (ns τ - ns σ3) ≤ 7302250
    omega
  refine W.cs (cells' := hs τ - hs (S0 s.heap.size)) (slots' := ns τ - ns (S0 s.heap.size)) (by show 294 + (hs τ - hs σ3) = hs τ - s.heap.size; omega) (by show 2055 + (ns τ - ns σ3) = ns τ - 0; omega) ?_
  refine x_astore_n (x := s.heap.size + 294) (rest := []) (lv' := [(2, vr (s.heap.size + 294)), (1, vr (s.heap.size + 1)), (0, .ref b)]) hx hb dL_law_15 rfl hl (by decide) (cR (cR (x := b + 1) cN)) rfl (fun ls hl => ?_)
  refine lv_iconst (v := 0) hx hb dL_law_16 rfl ?_
  refine x_istore_n (rest := []) (lv' := [(3, .int 0), (2, vr (s.heap.size + 294)), (1, vr (s.heap.size + 1)), (0, .ref b)]) hx hb dL_law_17 rfl hl (by decide) (cR (cR (cR (x := b + 1) cN))) rfl (fun ls hl => ?_)
  exact law_loop hL cx hr hlocks hX hbl 600 0 A0 τ H4 locs4 ls rfl (Nat.zero_le _) h4 G (by rw [Nat.mul_zero, nI_0]; exact hl)
set_option maxHeartbeats 4000000 in
theorem lw_walk (l : Launch) (b : Addr) (xs : List Int32) : MetFree l x (headSpec (Jvm.Cond.code x code maxLocals ret :: tables_1) room_1) (lw_P b xs) (fun _ _ _ _ _ => True) lw_Q := by
  refine MetFree.of_bodyS (code := code) (maxLocals := maxLocals) (ret := ret) (by decide) ?_ ?_
  · intro args s m h hn
    obtain ⟨meth, c, h1, h2, h3, h4, h5, h6, -, -⟩ := Cond.code_spec hn (atoms_spec (ws := Jvm.Cond.code x code maxLocals ret :: tables_1) h _ List.mem_cons_self)
    exact ⟨meth, c, h1, h2, h3, h4, h5, h6⟩
  · intro p e s m args below meth c s₁ B hml0 hP _
    obtain ⟨rfl, hx, hbd, hgv⟩ := hP
    obtain ⟨scr, harrAt, hlist, hof, hsmall⟩ := hx
    obtain ⟨hcb, hkn, -, -⟩ := State.arrayAt?_spec harrAt
    have hown : s.vm.findClass R_law = some m.cls := findClass_of_methodNamed B.named
    have hts0 : ∀ c ∈ (Jvm.Cond.code x code maxLocals ret :: tables_1), c.before #[Value.ref b] s = true := atoms_spec (ws := Jvm.Cond.code x code maxLocals ret :: tables_1) B.pre
    have hts : ∀ w ∈ lw_tbl, w.before #[Value.ref b] s = true := k2_hts_sels lw_privs (fun w hw => hts0 w (List.mem_cons_of_mem _ hw)) lw_privs_ok
    have hml : c.maxLocals = 4 := B.maxLocals_eq (hts0 _ List.mem_cons_self)
    have X₀ : Stand p l e room_1 s m #[Value.ref b] below meth c s₁ [] 0 0 := Stand.of_body B
    have hh0 : s₁.heap = s.heap := by rw [B.state]; rfl
    have hsz : scr.slots.size = xs.length := by rw [← Array.length_toList, hlist, List.length_map]
    have hval : ∀ j : Nat, j < xs.length → scr.slots[j]? = some (.int (xs.getD j 0)) := fun j hj => by
      rw [← Array.getElem?_toList, hlist]
      simp [hj]
    have hbl : b < s.heap.size := (Array.getElem?_eq_some_iff.mp hcb).1
    have hX : va_X b xs.length (fun j => xs.getD j 0) s s.heap := ⟨scr, hcb, hof, hkn, hsz, hval⟩
    have K : W p l e room_1 s m #[Value.ref b] below meth c s₁.heap [] 0 0 (lw_Z below #[Value.ref b] s) (entryFrame m ([Value.ref b] : List Value).toArray 4) := by
      rw [hh0]
      exact whole_start l hbd ⟨B.exec, B.bytes, B.returns, hml, hown, hts, hX, hbl, B.notSynchronized, hgv⟩
    obtain ⟨t, a1, o, b1, b2, b3⟩ := K s₁ rfl X₀
    exact ⟨t, o, a1, b1, b2, b3⟩
theorem lw_pre_spec {args : Array Value} {s : State} (h : (Jvm.Cond.and given_1 narrow_1).before args s = true) (hr : rest_1_c.before args s = true) : ∃ (b : Addr) (xs : List Int32), lw_P b xs args s := by
  have hs := flat_of_before _ h
  have hq := flat_of_before _ hr
  have hc : (Cond.count 1).before args s = true := hs _ (by decide +kernel)
  have harr : (Cond.arrayOf (.arg 0) .int).before args s = true := hs _ (by decide +kernel)
  have hle : (Cond.le (.length (.arg 0)) (.int 2560)).before args s = true := hs _ (by decide +kernel)
  have hlen : (Cond.isInt (.length (.arg 0))).before args s = true := hq _ (by decide +kernel)
  have hall : (Cond.all (.arg 0) (.isInt (.elem (.arg 0) (.index 0)))).before args s = true := hq _ (by decide +kernel)
  obtain ⟨b, xs, hb, hx⟩ := State.ints_of_pre rfl harr hlen hall
  have hsm : xs.length < 2 ^ 31 := hx.choose_spec.2.2.2
  have hev : (Term.length (.arg 0)).eval args s none [] s = some (.int xs.length.toInt32) := hx.length_eval hb
  have hv := Cond.le_ints hev (show (Term.int 2560).eval args s none [] s = some (.int 2560) from rfl)
  have hd : xs.length.toInt32 ≤ 2560 := by
    simpa [Cond.before, Cond.holds, hv] using hle
  have hN : xs.length ≤ 2560 := (Int32.ofNat_le_ofNat hsm (by decide)).mp (show Int32.ofNat xs.length ≤ Int32.ofNat 2560 from hd)
  exact ⟨b, xs, Cond.one_arg hc (show args[0]? = some (.ref b) from hb), hx, hN, h⟩
theorem lw_comes (l : Launch) : Comes l x (Jvm.Cond.code x code maxLocals ret :: tables_1) room_1 (fun tb e args s => Calls_1 tb e args s ∧ rest_1 tb e args s ∧ Pre_1 tb e args s)
    (fun _ _ args s o t => lw_Q args s o t) := by
  intro p e ha hc hk s m args below hf hfit hheap happ hpre
  obtain ⟨b, xs, hP⟩ := lw_pre_spec hpre.2.2 hpre.2.1
  obtain ⟨k, o, h1, h2, h3, hQ⟩ := lw_walk l b xs p e ha hc hk s m args below hf ((Spec.applies_iff_loose hf).mp happ).1 hP trivial
  exact ⟨k, o, h1, h2, h3, hQ⟩
theorem lw_frame {s t : State} {o : Outcome} {args : Array Value} (h : Framed s o t [] 600000 7302250) :
    Framed s o t (fieldLocs frame_1_writes args s ++ arrayLocs frame_1_arrays args s ++ staticLocs frame_1_statics s) 600000 7302250 := h
theorem lw_limb (L : Cond) (hL : ∀ (args : Array Value) (s t : State), L.after args s (.returned (some (.int 1))) t = true) :
    ArmFor flags0 classFile x code maxLocals ret World_1 tables_1 room_1 Calls_1 rest_1 Pre_1
      (fun tb e a s o t => postC L tb e a s o t ∧ Framed s o t (fieldLocs frame_1_writes a s ++ arrayLocs frame_1_arrays a s ++ staticLocs frame_1_statics s) 600000 7302250) := by
  intro l _ _ _ p e ha hc hk s m args below hf hfit hheap happ hpre
  obtain ⟨k, o, h1, h2, h3, rfl, hF⟩ := lw_comes l p e ha hc hk s m args below hf hfit hheap happ hpre
  exact ⟨k, _, h1, h2, h3, hL args s _, lw_frame hF⟩
theorem i_vc : Claimed_1_1 ∧ Claimed_1_2 := ⟨lw_limb limb_1_1 (fun args s t => by simp [limb_1_1, Cond.after, Cond.holds, Cond.value]), lw_limb limb_1_2 (fun args s t => Cond.after_iff.mpr (by
  first | (rw [show limb_1_2 = Cond.eq .result (.int 1) from rfl, Cond.eq_ints (x := 1) (y := 1) rfl rfl]; simp; done) | (simp [limb_1_2, Cond.value, Term.eval]; done)))⟩
