def B_X6_state_130  (y0 : Int32) (σ : HS) : Option (Int32 × HS) :=
  some (y0, σ)
theorem mo_B_X6_state_130  (y0 : Int32) (σ : HS) : Mo σ (B_X6_state_130  y0 σ) := by
  unfold B_X6_state_130
  exact mo_ret
set_option maxHeartbeats 4000000 in
set_option maxRecDepth 100000 in
theorem w_X6_state_130 {p : Program} {l : Launch} {e : Env} {s : State} {m : MethodId} {args : Array Value} {below : List Frame} {meth : Method} {c : Code} {D : va_G} {dA : Nat → ClassId} {base : Nat} {σ0 τ : HS} {r : Int32} (cx : CX p s m args meth c cX6_state 3 (some .int) RX6 "state" D dA base)  (y0 : Int32) {σ : HS} {H : Heap} {locs : List Loc} {ls : Array Slot} (h : Wd D dA base σ s H locs) (g : LE σ0 σ) (hl : lv_has ls 3 []) (hF : B_X6_state_130  y0 σ = some (r, τ)) : WG p l e s m args below meth c D dA base 2 42 (some (.int r)) σ0 τ σ H locs 130 ls [.int y0] := by
  obtain ⟨hx, hb, -⟩ := id cx
  unfold B_X6_state_130 at hF
  obtain ⟨rfl, rfl⟩ := rts hF
  exact x_iret cx h dX6_state_130
def B_X6_state_120  (x0 : Nat) (x1 : Int32) (σ : HS) : Option (Int32 × HS) :=
  if kd σ x0 = 7 then (if kd σ (gr σ 265 x0) = 100 ∧ inb x1 (ln σ (gr σ 265 x0)) then (B_X6_state_130  (ai σ (gr σ 265 x0) x1.toNatClampNeg) σ) else none) else none
theorem mo_B_X6_state_120  (x0 : Nat) (x1 : Int32) (σ : HS) : Mo σ (B_X6_state_120  x0 x1 σ) := by
  unfold B_X6_state_120
  exact (mo_ite (mo_ite (mo_B_X6_state_130  (ai σ (gr σ 265 x0) x1.toNatClampNeg) _) mo_none) mo_none)
set_option maxHeartbeats 4000000 in
set_option maxRecDepth 100000 in
theorem w_X6_state_120 {p : Program} {l : Launch} {e : Env} {s : State} {m : MethodId} {args : Array Value} {below : List Frame} {meth : Method} {c : Code} {D : va_G} {dA : Nat → ClassId} {base : Nat} {σ0 τ : HS} {r : Int32} (cx : CX p s m args meth c cX6_state 3 (some .int) RX6 "state" D dA base)  (x0 : Nat) (x1 : Int32) {σ : HS} {H : Heap} {locs : List Loc} {ls : Array Slot} (h : Wd D dA base σ s H locs) (g : LE σ0 σ) (hl : lv_has ls 3 [(0, vr x0), (1, .int x1)]) (hF : B_X6_state_120  x0 x1 σ = some (r, τ)) : WG p l e s m args below meth c D dA base 2 42 (some (.int r)) σ0 τ σ H locs 120 ls [] := by
  obtain ⟨hx, hb, -⟩ := id cx
  unfold B_X6_state_120 at hF
  refine x_aload_n hx hb dX6_state_120 rfl (lv_at hl 0 rfl) ?_
  obtain ⟨hq1, hF⟩ := ifs hF
  refine x_getr cx h fa_X6_66 (f := 265) rfl hq1 dX6_state_121 ?_
  refine lv_iload_n hx hb dX6_state_124 rfl (lv_at hl 1 rfl) ?_
  obtain ⟨hq2, hF⟩ := ifs hF
  refine x_iald cx h hq2.1 (inb.vp hq2.2) dX6_state_125 ?_
  refine lv_goto (tgt := 130) hx hb dX6_state_126 (by decide) ?_
  exact w_X6_state_130 (σ := σ) cx   (ai σ (gr σ 265 x0) x1.toNatClampNeg) h g (lv_sub hl [] rfl) hF
def B_X6_state_151  (y0 : Int32) (σ : HS) : Option (Int32 × HS) :=
  some (y0, σ)
theorem mo_B_X6_state_151  (y0 : Int32) (σ : HS) : Mo σ (B_X6_state_151  y0 σ) := by
  unfold B_X6_state_151
  exact mo_ret
set_option maxHeartbeats 4000000 in
set_option maxRecDepth 100000 in
theorem w_X6_state_151 {p : Program} {l : Launch} {e : Env} {s : State} {m : MethodId} {args : Array Value} {below : List Frame} {meth : Method} {c : Code} {D : va_G} {dA : Nat → ClassId} {base : Nat} {σ0 τ : HS} {r : Int32} (cx : CX p s m args meth c cX6_state 3 (some .int) RX6 "state" D dA base)  (y0 : Int32) {σ : HS} {H : Heap} {locs : List Loc} {ls : Array Slot} (h : Wd D dA base σ s H locs) (g : LE σ0 σ) (hl : lv_has ls 3 []) (hF : B_X6_state_151  y0 σ = some (r, τ)) : WG p l e s m args below meth c D dA base 2 42 (some (.int r)) σ0 τ σ H locs 151 ls [.int y0] := by
  obtain ⟨hx, hb, -⟩ := id cx
  unfold B_X6_state_151 at hF
  obtain ⟨rfl, rfl⟩ := rts hF
  exact x_iret cx h dX6_state_151
def F_X6_state (a0 : Nat) (a1 : Int32) (a2 : Int32) (σ : HS) : Option (Int32 × HS) :=
  if kd σ a0 = 7 then (bd (F_X6_noClient a1 (si σ 240 a0 (0 : Int32))) (fun r2 σ2 => if r2 = 0 then (bd (F_X6_in a2 (0 : Int32) (5 : Int32) σ2) (fun r4 σ4 => if r4 = 0 then (some ((-2 : Int32), σ4)) else (if kd σ4 a0 = 7 then (if kd σ4 (gr σ4 259 a0) = 100 ∧ inb a1 (ln σ4 (gr σ4 259 a0)) then (if (ai σ4 (gr σ4 259 a0) a1.toNatClampNeg) = 0 then (some ((0 : Int32), σ4)) else (if a2 = (0 : Int32) then (some ((ai σ4 (gr σ4 259 a0) a1.toNatClampNeg), σ4)) else (if a2 = (1 : Int32) then (if kd σ4 (gr σ4 260 a0) = 100 ∧ inb a1 (ln σ4 (gr σ4 260 a0)) then (some ((ai σ4 (gr σ4 260 a0) a1.toNatClampNeg), σ4)) else none) else (if a2 = (2 : Int32) then (if kd σ4 (gr σ4 261 a0) = 100 ∧ inb a1 (ln σ4 (gr σ4 261 a0)) then (some ((ai σ4 (gr σ4 261 a0) a1.toNatClampNeg), σ4)) else none) else (if a2 = (3 : Int32) then (if kd σ4 (gr σ4 262 a0) = 100 ∧ inb a1 (ln σ4 (gr σ4 262 a0)) then (some ((ai σ4 (gr σ4 262 a0) a1.toNatClampNeg), σ4)) else none) else (if a2 = (4 : Int32) then (if (ai σ4 (gr σ4 259 a0) a1.toNatClampNeg) = (2 : Int32) then (B_X6_state_120  a0 a1 σ4) else (if (ai σ4 (gr σ4 259 a0) a1.toNatClampNeg) = (3 : Int32) then (B_X6_state_120  a0 a1 σ4) else (B_X6_state_130  (0 : Int32) σ4))) else (if (ai σ4 (gr σ4 259 a0) a1.toNatClampNeg) = (3 : Int32) then (if kd σ4 (gr σ4 266 a0) = 100 ∧ inb a1 (ln σ4 (gr σ4 266 a0)) then (B_X6_state_151  (ai σ4 (gr σ4 266 a0) a1.toNatClampNeg) σ4) else none) else (B_X6_state_151  (0 : Int32) σ4)))))))) else none) else none))) else (some ((-1 : Int32), σ2)))) else none
theorem mo_F_X6_state (a0 : Nat) (a1 : Int32) (a2 : Int32) (σ : HS) : Mo σ (F_X6_state a0 a1 a2 σ) := by
  unfold F_X6_state
  exact (mo_ite (mo_le (τ := (si σ 240 a0 (0 : Int32))) ⟨Nat.le_refl _, Nat.le_refl _⟩ (mo_bd (mo_F_X6_noClient a1 _) (fun r2 σ2 => (mo_ite (mo_bd (mo_F_X6_in a2 (0 : Int32) (5 : Int32) _) (fun r4 σ4 => (mo_ite mo_ret (mo_ite (mo_ite (mo_ite mo_ret (mo_ite mo_ret (mo_ite (mo_ite mo_ret mo_none) (mo_ite (mo_ite mo_ret mo_none) (mo_ite (mo_ite mo_ret mo_none) (mo_ite (mo_ite (mo_B_X6_state_120  a0 a1 _) (mo_ite (mo_B_X6_state_120  a0 a1 _) (mo_B_X6_state_130  (0 : Int32) _))) (mo_ite (mo_ite (mo_B_X6_state_151  (ai σ4 (gr σ4 266 a0) a1.toNatClampNeg) _) mo_none) (mo_B_X6_state_151  (0 : Int32) _)))))))) mo_none) mo_none)))) mo_ret)))) mo_none)
set_option maxHeartbeats 4000000 in
set_option maxRecDepth 100000 in
theorem c_X6_state (l : Launch) (D : va_G) (dA : Nat → ClassId) (base : Nat) (a0 : Nat) (a1 : Int32) (a2 : Int32) {σ τ : HS} {r : Int32} (hF : F_X6_state a0 a1 a2 σ = some (r, τ)) : CT l yX6_state cX6_state 3 (some .int) 2 42 D dA base [vr a0, .int a1, .int a2] (some (.int r)) σ τ := by
  refine CT.of (lv := [(0, vr a0), (1, .int a1), (2, .int a2)]) (by decide) (vR (vI (vI vN))) (Nat.le_of_ble_eq_true rfl) rfl ?_
  intro p e s m args below meth c ls cx hl h
  have cx : CX p s m args meth c cX6_state 3 (some .int) RX6 "state" D dA base := cx
  have g : LE σ σ := LE.rf
  obtain ⟨hx, hb, -⟩ := id cx
  unfold F_X6_state at hF
  refine x_aload_n hx hb dX6_state_0 rfl (lv_at hl 0 rfl) ?_
  refine lv_iconst (v := (0 : Int32)) hx hb dX6_state_1 (by decide) ?_
  obtain ⟨hq1, hF⟩ := ifs hF
  refine x_sti cx h fa_X6_75 (f := 240) rfl (Or.inl rfl) hq1 dX6_state_2 (fun H locs h => ?_)
  refine lv_iload_n hx hb dX6_state_5 rfl (lv_at hl 1 rfl) ?_
  obtain ⟨r2, σ2, hc2, hF⟩ := bds hF
  refine x_calli (σ := (si σ 240 a0 (0 : Int32))) g (LEm hc2 (mo_F_X6_noClient a1 _)) (x_runS (As := [.int a1]) (rest := []) cx h (c_X6_noClient l D dA base a1 hc2) ml_X6_138 mi_X6_noClient rfl ⟨Nat.le_of_ble_eq_true rfl, Nat.le_of_ble_eq_true rfl⟩ hl.1 rfl (s8 sN (by decide)) dX6_state_6 (le_room g (LEm hc2 (mo_F_X6_noClient a1 _)) (LEm hF (mo_ite (mo_bd (mo_F_X6_in a2 (0 : Int32) (5 : Int32) _) (fun r4 σ4 => (mo_ite mo_ret (mo_ite (mo_ite (mo_ite mo_ret (mo_ite mo_ret (mo_ite (mo_ite mo_ret mo_none) (mo_ite (mo_ite mo_ret mo_none) (mo_ite (mo_ite mo_ret mo_none) (mo_ite (mo_ite (mo_B_X6_state_120  a0 a1 _) (mo_ite (mo_B_X6_state_120  a0 a1 _) (mo_B_X6_state_130  (0 : Int32) _))) (mo_ite (mo_ite (mo_B_X6_state_151  (ai σ4 (gr σ4 266 a0) a1.toNatClampNeg) _) mo_none) (mo_B_X6_state_151  (0 : Int32) _)))))))) mo_none) mo_none)))) mo_ret)))) h (fun H locs h g => ?_)
  refine lv_if_eq (tgt := 14) hx hb dX6_state_9 (by decide) (fun c3 => ?_) (fun c3 => ?_)
  · replace hF := ifp c3 hF
    refine lv_iload_n hx hb dX6_state_14 rfl (lv_at hl 2 rfl) ?_
    refine lv_iconst (v := (0 : Int32)) hx hb dX6_state_15 (by decide) ?_
    refine lv_iconst (v := (5 : Int32)) hx hb dX6_state_16 (by decide) ?_
    obtain ⟨r4, σ4, hc4, hF⟩ := bds hF
    refine x_calli (σ := σ2) g (LEm hc4 (mo_F_X6_in a2 (0 : Int32) (5 : Int32) _)) (x_runS (As := [.int a2, .int (0 : Int32), .int (5 : Int32)]) (rest := []) cx h (c_X6_in l D dA base a2 (0 : Int32) (5 : Int32) hc4) ml_X6_134 mi_X6_in rfl ⟨Nat.le_of_ble_eq_true rfl, Nat.le_of_ble_eq_true rfl⟩ hl.1 rfl (s8 sN (by decide)) dX6_state_17 (le_room g (LEm hc4 (mo_F_X6_in a2 (0 : Int32) (5 : Int32) _)) (LEm hF (mo_ite mo_ret (mo_ite (mo_ite (mo_ite mo_ret (mo_ite mo_ret (mo_ite (mo_ite mo_ret mo_none) (mo_ite (mo_ite mo_ret mo_none) (mo_ite (mo_ite mo_ret mo_none) (mo_ite (mo_ite (mo_B_X6_state_120  a0 a1 _) (mo_ite (mo_B_X6_state_120  a0 a1 _) (mo_B_X6_state_130  (0 : Int32) _))) (mo_ite (mo_ite (mo_B_X6_state_151  (ai σ4 (gr σ4 266 a0) a1.toNatClampNeg) _) mo_none) (mo_B_X6_state_151  (0 : Int32) _)))))))) mo_none) mo_none))))) h (fun H locs h g => ?_)
    refine lv_if_ne (tgt := 26) hx hb dX6_state_20 (by decide) (fun c5 => ?_) (fun c5 => ?_)
    · replace hF := ifn c5 hF
      refine x_aload_n hx hb dX6_state_26 rfl (lv_at hl 0 rfl) ?_
      obtain ⟨hq6, hF⟩ := ifs hF
      refine x_getr cx h fa_X6_48 (f := 259) rfl hq6 dX6_state_27 ?_
      refine lv_iload_n hx hb dX6_state_30 rfl (lv_at hl 1 rfl) ?_
      obtain ⟨hq7, hF⟩ := ifs hF
      refine x_iald cx h hq7.1 (inb.vp hq7.2) dX6_state_31 ?_
      refine lv_if_ne (tgt := 37) hx hb dX6_state_32 (by decide) (fun c8 => ?_) (fun c8 => ?_)
      · replace hF := ifn c8 hF
        refine lv_iload_n hx hb dX6_state_37 rfl (lv_at hl 2 rfl) ?_
        by_cases c9 : a2 = (0 : Int32)
        · replace hF := ifp c9 hF
          refine lv_tableIn (off := 34) (tgt := 72) hx hb dX6_state_38 (by rw [c9]; decide) (by rw [c9]; decide) (by rw [c9]; rfl) (by decide) ?_
          refine x_aload_n hx hb dX6_state_72 rfl (lv_at hl 0 rfl) ?_
          refine x_getr cx h fa_X6_48 (f := 259) rfl hq6 dX6_state_73 ?_
          refine lv_iload_n hx hb dX6_state_76 rfl (lv_at hl 1 rfl) ?_
          refine x_iald cx h hq7.1 (inb.vp hq7.2) dX6_state_77 ?_
          obtain ⟨rfl, rfl⟩ := rts hF
          exact x_iret cx h dX6_state_78
        · replace hF := ifn c9 hF
          by_cases c10 : a2 = (1 : Int32)
          · replace hF := ifp c10 hF
            refine lv_tableIn (off := 41) (tgt := 79) hx hb dX6_state_38 (by rw [c10]; decide) (by rw [c10]; decide) (by rw [c10]; rfl) (by decide) ?_
            refine x_aload_n hx hb dX6_state_79 rfl (lv_at hl 0 rfl) ?_
            refine x_getr cx h fa_X6_51 (f := 260) rfl hq6 dX6_state_80 ?_
            refine lv_iload_n hx hb dX6_state_83 rfl (lv_at hl 1 rfl) ?_
            obtain ⟨hq11, hF⟩ := ifs hF
            refine x_iald cx h hq11.1 (inb.vp hq11.2) dX6_state_84 ?_
            obtain ⟨rfl, rfl⟩ := rts hF
            exact x_iret cx h dX6_state_85
          · replace hF := ifn c10 hF
            by_cases c12 : a2 = (2 : Int32)
            · replace hF := ifp c12 hF
              refine lv_tableIn (off := 48) (tgt := 86) hx hb dX6_state_38 (by rw [c12]; decide) (by rw [c12]; decide) (by rw [c12]; rfl) (by decide) ?_
              refine x_aload_n hx hb dX6_state_86 rfl (lv_at hl 0 rfl) ?_
              refine x_getr cx h fa_X6_54 (f := 261) rfl hq6 dX6_state_87 ?_
              refine lv_iload_n hx hb dX6_state_90 rfl (lv_at hl 1 rfl) ?_
              obtain ⟨hq13, hF⟩ := ifs hF
              refine x_iald cx h hq13.1 (inb.vp hq13.2) dX6_state_91 ?_
              obtain ⟨rfl, rfl⟩ := rts hF
              exact x_iret cx h dX6_state_92
            · replace hF := ifn c12 hF
              by_cases c14 : a2 = (3 : Int32)
              · replace hF := ifp c14 hF
                refine lv_tableIn (off := 55) (tgt := 93) hx hb dX6_state_38 (by rw [c14]; decide) (by rw [c14]; decide) (by rw [c14]; rfl) (by decide) ?_
                refine x_aload_n hx hb dX6_state_93 rfl (lv_at hl 0 rfl) ?_
                refine x_getr cx h fa_X6_57 (f := 262) rfl hq6 dX6_state_94 ?_
                refine lv_iload_n hx hb dX6_state_97 rfl (lv_at hl 1 rfl) ?_
                obtain ⟨hq15, hF⟩ := ifs hF
                refine x_iald cx h hq15.1 (inb.vp hq15.2) dX6_state_98 ?_
                obtain ⟨rfl, rfl⟩ := rts hF
                exact x_iret cx h dX6_state_99
              · replace hF := ifn c14 hF
                by_cases c16 : a2 = (4 : Int32)
                · replace hF := ifp c16 hF
                  refine lv_tableIn (off := 62) (tgt := 100) hx hb dX6_state_38 (by rw [c16]; decide) (by rw [c16]; decide) (by rw [c16]; rfl) (by decide) ?_
                  refine x_aload_n hx hb dX6_state_100 rfl (lv_at hl 0 rfl) ?_
                  refine x_getr cx h fa_X6_48 (f := 259) rfl hq6 dX6_state_101 ?_
                  refine lv_iload_n hx hb dX6_state_104 rfl (lv_at hl 1 rfl) ?_
                  refine x_iald cx h hq7.1 (inb.vp hq7.2) dX6_state_105 ?_
                  refine lv_iconst (v := (2 : Int32)) hx hb dX6_state_106 (by decide) ?_
                  refine lv_icmp_eq (tgt := 120) hx hb dX6_state_107 (by decide) (fun c17 => ?_) (fun c17 => ?_)
                  · replace hF := ifp c17 hF
                    exact w_X6_state_120 (σ := σ4) cx   a0 a1 h g (lv_sub hl [0, 1] rfl) hF
                  · replace hF := ifn c17 hF
                    refine x_aload_n hx hb dX6_state_110 rfl (lv_at hl 0 rfl) ?_
                    refine x_getr cx h fa_X6_48 (f := 259) rfl hq6 dX6_state_111 ?_
                    refine lv_iload_n hx hb dX6_state_114 rfl (lv_at hl 1 rfl) ?_
                    refine x_iald cx h hq7.1 (inb.vp hq7.2) dX6_state_115 ?_
                    refine lv_iconst (v := (3 : Int32)) hx hb dX6_state_116 (by decide) ?_
                    refine lv_icmp_ne (tgt := 129) hx hb dX6_state_117 (by decide) (fun c18 => ?_) (fun c18 => ?_)
                    · replace hF := ifn c18 hF
                      refine lv_iconst (v := (0 : Int32)) hx hb dX6_state_129 (by decide) ?_
                      exact w_X6_state_130 (σ := σ4) cx   (0 : Int32) h g (lv_sub hl [] rfl) hF
                    · replace hF := ifp c18 hF
                      exact w_X6_state_120 (σ := σ4) cx   a0 a1 h g (lv_sub hl [0, 1] rfl) hF
                · replace hF := ifn c16 hF
                  refine lv_tableOut (tgt := 131) hx hb dX6_state_38 (by have b0 := lv_neT c9 (a := 0) rfl; have b1 := lv_neT c10 (a := 1) rfl; have b2 := lv_neT c12 (a := 2) rfl; have b3 := lv_neT c14 (a := 3) rfl; have b4 := lv_neT c16 (a := 4) rfl; omega) (by decide) ?_
                  refine x_aload_n hx hb dX6_state_131 rfl (lv_at hl 0 rfl) ?_
                  refine x_getr cx h fa_X6_48 (f := 259) rfl hq6 dX6_state_132 ?_
                  refine lv_iload_n hx hb dX6_state_135 rfl (lv_at hl 1 rfl) ?_
                  refine x_iald cx h hq7.1 (inb.vp hq7.2) dX6_state_136 ?_
                  refine lv_iconst (v := (3 : Int32)) hx hb dX6_state_137 (by decide) ?_
                  refine lv_icmp_ne (tgt := 150) hx hb dX6_state_138 (by decide) (fun c19 => ?_) (fun c19 => ?_)
                  · replace hF := ifn c19 hF
                    refine lv_iconst (v := (0 : Int32)) hx hb dX6_state_150 (by decide) ?_
                    exact w_X6_state_151 (σ := σ4) cx   (0 : Int32) h g (lv_sub hl [] rfl) hF
                  · replace hF := ifp c19 hF
                    refine x_aload_n hx hb dX6_state_141 rfl (lv_at hl 0 rfl) ?_
                    refine x_getr cx h fa_X6_69 (f := 266) rfl hq6 dX6_state_142 ?_
                    refine lv_iload_n hx hb dX6_state_145 rfl (lv_at hl 1 rfl) ?_
                    obtain ⟨hq20, hF⟩ := ifs hF
                    refine x_iald cx h hq20.1 (inb.vp hq20.2) dX6_state_146 ?_
                    refine lv_goto (tgt := 151) hx hb dX6_state_147 (by decide) ?_
                    exact w_X6_state_151 (σ := σ4) cx   (ai σ4 (gr σ4 266 a0) a1.toNatClampNeg) h g (lv_sub hl [] rfl) hF
      · replace hF := ifp c8 hF
        refine lv_iconst (v := (0 : Int32)) hx hb dX6_state_35 (by decide) ?_
        obtain ⟨rfl, rfl⟩ := rts hF
        exact x_iret cx h dX6_state_36
    · replace hF := ifp c5 hF
      refine lv_bipush (v := (-2 : Int32)) hx hb dX6_state_23 (by decide) ?_
      obtain ⟨rfl, rfl⟩ := rts hF
      exact x_iret cx h dX6_state_25
  · replace hF := ifn c3 hF
    refine lv_iconst (v := (-1 : Int32)) hx hb dX6_state_12 (by decide) ?_
    obtain ⟨rfl, rfl⟩ := rts hF
    exact x_iret cx h dX6_state_13
def B_X6_lock_114  (y0 : Int32) (σ : HS) : Option (Int32 × HS) :=
  some (y0, σ)
theorem mo_B_X6_lock_114  (y0 : Int32) (σ : HS) : Mo σ (B_X6_lock_114  y0 σ) := by
  unfold B_X6_lock_114
  exact mo_ret
set_option maxHeartbeats 4000000 in
set_option maxRecDepth 100000 in
theorem w_X6_lock_114 {p : Program} {l : Launch} {e : Env} {s : State} {m : MethodId} {args : Array Value} {below : List Frame} {meth : Method} {c : Code} {D : va_G} {dA : Nat → ClassId} {base : Nat} {σ0 τ : HS} {r : Int32} (cx : CX p s m args meth c cX6_lock 5 (some .int) RX6 "lock" D dA base)  (y0 : Int32) {σ : HS} {H : Heap} {locs : List Loc} {ls : Array Slot} (h : Wd D dA base σ s H locs) (g : LE σ0 σ) (hl : lv_has ls 5 []) (hF : B_X6_lock_114  y0 σ = some (r, τ)) : WG p l e s m args below meth c D dA base 2 43 (some (.int r)) σ0 τ σ H locs 114 ls [.int y0] := by
  obtain ⟨hx, hb, -⟩ := id cx
  unfold B_X6_lock_114 at hF
  obtain ⟨rfl, rfl⟩ := rts hF
  exact x_iret cx h dX6_lock_114
def B_X6_lock_129  (y0 : Int32) (σ : HS) : Option (Int32 × HS) :=
  some (y0, σ)
theorem mo_B_X6_lock_129  (y0 : Int32) (σ : HS) : Mo σ (B_X6_lock_129  y0 σ) := by
  unfold B_X6_lock_129
  exact mo_ret
set_option maxHeartbeats 4000000 in
set_option maxRecDepth 100000 in
theorem w_X6_lock_129 {p : Program} {l : Launch} {e : Env} {s : State} {m : MethodId} {args : Array Value} {below : List Frame} {meth : Method} {c : Code} {D : va_G} {dA : Nat → ClassId} {base : Nat} {σ0 τ : HS} {r : Int32} (cx : CX p s m args meth c cX6_lock 5 (some .int) RX6 "lock" D dA base)  (y0 : Int32) {σ : HS} {H : Heap} {locs : List Loc} {ls : Array Slot} (h : Wd D dA base σ s H locs) (g : LE σ0 σ) (hl : lv_has ls 5 []) (hF : B_X6_lock_129  y0 σ = some (r, τ)) : WG p l e s m args below meth c D dA base 2 43 (some (.int r)) σ0 τ σ H locs 129 ls [.int y0] := by
  obtain ⟨hx, hb, -⟩ := id cx
  unfold B_X6_lock_129 at hF
  obtain ⟨rfl, rfl⟩ := rts hF
  exact x_iret cx h dX6_lock_129
def F_X6_lock (a0 : Nat) (a1 : Int32) (a2 : Int32) (a3 : Int32) (σ : HS) : Option (Int32 × HS) :=
  if kd σ a0 = 7 then (bd (F_X6_noCell a1 a2 (si σ 240 a0 (0 : Int32))) (fun r2 σ2 => if r2 = 0 then (bd (F_X6_in a3 (0 : Int32) (4 : Int32) σ2) (fun r4 σ4 => if r4 = 0 then (some ((-2 : Int32), σ4)) else (if kd σ4 a0 = 7 then (if kd σ4 (gr σ4 256 a0) = 100 ∧ inb (((4 : Int32) * a1) + a2) (ln σ4 (gr σ4 256 a0)) then (if (ai σ4 (gr σ4 256 a0) (((4 : Int32) * a1) + a2).toNatClampNeg) = 0 then (some ((0 : Int32), σ4)) else (if a3 = (0 : Int32) then (some ((ai σ4 (gr σ4 256 a0) (((4 : Int32) * a1) + a2).toNatClampNeg), σ4)) else (if a3 = (1 : Int32) then (if kd σ4 (gr σ4 257 a0) = 100 ∧ inb (((4 : Int32) * a1) + a2) (ln σ4 (gr σ4 257 a0)) then (some ((ai σ4 (gr σ4 257 a0) (((4 : Int32) * a1) + a2).toNatClampNeg), σ4)) else none) else (if a3 = (2 : Int32) then (if kd σ4 (gr σ4 258 a0) = 100 ∧ inb (((4 : Int32) * a1) + a2) (ln σ4 (gr σ4 258 a0)) then (some ((ai σ4 (gr σ4 258 a0) (((4 : Int32) * a1) + a2).toNatClampNeg), σ4)) else none) else (if a3 = (3 : Int32) then (bd (F_X6_isLate a0 (((4 : Int32) * a1) + a2) σ4) (fun r15 σ15 => if r15 = 0 then (B_X6_lock_114  (0 : Int32) σ15) else (B_X6_lock_114  (1 : Int32) σ15))) else (bd (F_X6_isDecided a0 (((4 : Int32) * a1) + a2) σ4) (fun r17 σ17 => if r17 = 0 then (B_X6_lock_129  (0 : Int32) σ17) else (B_X6_lock_129  (1 : Int32) σ17)))))))) else none) else none))) else (some ((-1 : Int32), σ2)))) else none
theorem mo_F_X6_lock (a0 : Nat) (a1 : Int32) (a2 : Int32) (a3 : Int32) (σ : HS) : Mo σ (F_X6_lock a0 a1 a2 a3 σ) := by
  unfold F_X6_lock
  exact (mo_ite (mo_le (τ := (si σ 240 a0 (0 : Int32))) ⟨Nat.le_refl _, Nat.le_refl _⟩ (mo_bd (mo_F_X6_noCell a1 a2 _) (fun r2 σ2 => (mo_ite (mo_bd (mo_F_X6_in a3 (0 : Int32) (4 : Int32) _) (fun r4 σ4 => (mo_ite mo_ret (mo_ite (mo_ite (mo_ite mo_ret (mo_ite mo_ret (mo_ite (mo_ite mo_ret mo_none) (mo_ite (mo_ite mo_ret mo_none) (mo_ite (mo_bd (mo_F_X6_isLate a0 (((4 : Int32) * a1) + a2) _) (fun r15 σ15 => (mo_ite (mo_B_X6_lock_114  (0 : Int32) _) (mo_B_X6_lock_114  (1 : Int32) _)))) (mo_bd (mo_F_X6_isDecided a0 (((4 : Int32) * a1) + a2) _) (fun r17 σ17 => (mo_ite (mo_B_X6_lock_129  (0 : Int32) _) (mo_B_X6_lock_129  (1 : Int32) _))))))))) mo_none) mo_none)))) mo_ret)))) mo_none)
set_option maxHeartbeats 4000000 in
set_option maxRecDepth 100000 in
theorem c_X6_lock (l : Launch) (D : va_G) (dA : Nat → ClassId) (base : Nat) (a0 : Nat) (a1 : Int32) (a2 : Int32) (a3 : Int32) {σ τ : HS} {r : Int32} (hF : F_X6_lock a0 a1 a2 a3 σ = some (r, τ)) : CT l yX6_lock cX6_lock 5 (some .int) 2 43 D dA base [vr a0, .int a1, .int a2, .int a3] (some (.int r)) σ τ := by
  refine CT.of (lv := [(0, vr a0), (1, .int a1), (2, .int a2), (3, .int a3)]) (by decide) (vR (vI (vI (vI vN)))) (Nat.le_of_ble_eq_true rfl) rfl ?_
  intro p e s m args below meth c ls cx hl h
  have cx : CX p s m args meth c cX6_lock 5 (some .int) RX6 "lock" D dA base := cx
  have g : LE σ σ := LE.rf
  obtain ⟨hx, hb, -⟩ := id cx
  unfold F_X6_lock at hF
  refine x_aload_n hx hb dX6_lock_0 rfl (lv_at hl 0 rfl) ?_
  refine lv_iconst (v := (0 : Int32)) hx hb dX6_lock_1 (by decide) ?_
  obtain ⟨hq1, hF⟩ := ifs hF
  refine x_sti cx h fa_X6_75 (f := 240) rfl (Or.inl rfl) hq1 dX6_lock_2 (fun H locs h => ?_)
  refine lv_iload_n hx hb dX6_lock_5 rfl (lv_at hl 1 rfl) ?_
  refine lv_iload_n hx hb dX6_lock_6 rfl (lv_at hl 2 rfl) ?_
  obtain ⟨r2, σ2, hc2, hF⟩ := bds hF
  refine x_calli (σ := (si σ 240 a0 (0 : Int32))) g (LEm hc2 (mo_F_X6_noCell a1 a2 _)) (x_runS (As := [.int a1, .int a2]) (rest := []) cx h (c_X6_noCell l D dA base a1 a2 hc2) ml_X6_145 mi_X6_noCell rfl ⟨Nat.le_of_ble_eq_true rfl, Nat.le_of_ble_eq_true rfl⟩ hl.1 rfl (s8 sN (by decide)) dX6_lock_7 (le_room g (LEm hc2 (mo_F_X6_noCell a1 a2 _)) (LEm hF (mo_ite (mo_bd (mo_F_X6_in a3 (0 : Int32) (4 : Int32) _) (fun r4 σ4 => (mo_ite mo_ret (mo_ite (mo_ite (mo_ite mo_ret (mo_ite mo_ret (mo_ite (mo_ite mo_ret mo_none) (mo_ite (mo_ite mo_ret mo_none) (mo_ite (mo_bd (mo_F_X6_isLate a0 (((4 : Int32) * a1) + a2) _) (fun r15 σ15 => (mo_ite (mo_B_X6_lock_114  (0 : Int32) _) (mo_B_X6_lock_114  (1 : Int32) _)))) (mo_bd (mo_F_X6_isDecided a0 (((4 : Int32) * a1) + a2) _) (fun r17 σ17 => (mo_ite (mo_B_X6_lock_129  (0 : Int32) _) (mo_B_X6_lock_129  (1 : Int32) _))))))))) mo_none) mo_none)))) mo_ret)))) h (fun H locs h g => ?_)
  refine lv_if_eq (tgt := 15) hx hb dX6_lock_10 (by decide) (fun c3 => ?_) (fun c3 => ?_)
  · replace hF := ifp c3 hF
    refine lv_iload_n hx hb dX6_lock_15 rfl (lv_at hl 3 rfl) ?_
    refine lv_iconst (v := (0 : Int32)) hx hb dX6_lock_16 (by decide) ?_
    refine lv_iconst (v := (4 : Int32)) hx hb dX6_lock_17 (by decide) ?_
    obtain ⟨r4, σ4, hc4, hF⟩ := bds hF
    refine x_calli (σ := σ2) g (LEm hc4 (mo_F_X6_in a3 (0 : Int32) (4 : Int32) _)) (x_runS (As := [.int a3, .int (0 : Int32), .int (4 : Int32)]) (rest := []) cx h (c_X6_in l D dA base a3 (0 : Int32) (4 : Int32) hc4) ml_X6_134 mi_X6_in rfl ⟨Nat.le_of_ble_eq_true rfl, Nat.le_of_ble_eq_true rfl⟩ hl.1 rfl (s8 sN (by decide)) dX6_lock_18 (le_room g (LEm hc4 (mo_F_X6_in a3 (0 : Int32) (4 : Int32) _)) (LEm hF (mo_ite mo_ret (mo_ite (mo_ite (mo_ite mo_ret (mo_ite mo_ret (mo_ite (mo_ite mo_ret mo_none) (mo_ite (mo_ite mo_ret mo_none) (mo_ite (mo_bd (mo_F_X6_isLate a0 (((4 : Int32) * a1) + a2) _) (fun r15 σ15 => (mo_ite (mo_B_X6_lock_114  (0 : Int32) _) (mo_B_X6_lock_114  (1 : Int32) _)))) (mo_bd (mo_F_X6_isDecided a0 (((4 : Int32) * a1) + a2) _) (fun r17 σ17 => (mo_ite (mo_B_X6_lock_129  (0 : Int32) _) (mo_B_X6_lock_129  (1 : Int32) _))))))))) mo_none) mo_none))))) h (fun H locs h g => ?_)
    refine lv_if_ne (tgt := 27) hx hb dX6_lock_21 (by decide) (fun c5 => ?_) (fun c5 => ?_)
    · replace hF := ifn c5 hF
      refine lv_iconst (v := (4 : Int32)) hx hb dX6_lock_27 (by decide) ?_
      refine lv_iload_n hx hb dX6_lock_28 rfl (lv_at hl 1 rfl) ?_
      refine lv_imul hx hb dX6_lock_29 ?_
      refine lv_iload_n hx hb dX6_lock_30 rfl (lv_at hl 2 rfl) ?_
      refine lv_iadd hx hb dX6_lock_31 ?_
      refine x_istore (lv' := [(4, .int (((4 : Int32) * a1) + a2)), (0, vr a0), (1, .int a1), (2, .int a2), (3, .int a3)]) hx hb dX6_lock_32 hl (by decide) (cR (cI (cI (cI cN)))) rfl (fun ls hl => ?_)
      refine x_aload_n hx hb dX6_lock_34 rfl (lv_at hl 1 rfl) ?_
      obtain ⟨hq6, hF⟩ := ifs hF
      refine x_getr cx h fa_X6_39 (f := 256) rfl hq6 dX6_lock_35 ?_
      refine lv_iload hx hb dX6_lock_38 (lv_at hl 0 rfl) ?_
      obtain ⟨hq7, hF⟩ := ifs hF
      refine x_iald cx h hq7.1 (inb.vp hq7.2) dX6_lock_40 ?_
      refine lv_if_ne (tgt := 46) hx hb dX6_lock_41 (by decide) (fun c8 => ?_) (fun c8 => ?_)
      · replace hF := ifn c8 hF
        refine lv_iload_n hx hb dX6_lock_46 rfl (lv_at hl 4 rfl) ?_
        by_cases c9 : a3 = (0 : Int32)
        · replace hF := ifp c9 hF
          refine lv_tableIn (off := 29) (tgt := 76) hx hb dX6_lock_47 (by rw [c9]; decide) (by rw [c9]; decide) (by rw [c9]; rfl) (by decide) ?_
          refine x_aload_n hx hb dX6_lock_76 rfl (lv_at hl 1 rfl) ?_
          refine x_getr cx h fa_X6_39 (f := 256) rfl hq6 dX6_lock_77 ?_
          refine lv_iload hx hb dX6_lock_80 (lv_at hl 0 rfl) ?_
          refine x_iald cx h hq7.1 (inb.vp hq7.2) dX6_lock_82 ?_
          obtain ⟨rfl, rfl⟩ := rts hF
          exact x_iret cx h dX6_lock_83
        · replace hF := ifn c9 hF
          by_cases c10 : a3 = (1 : Int32)
          · replace hF := ifp c10 hF
            refine lv_tableIn (off := 37) (tgt := 84) hx hb dX6_lock_47 (by rw [c10]; decide) (by rw [c10]; decide) (by rw [c10]; rfl) (by decide) ?_
            refine x_aload_n hx hb dX6_lock_84 rfl (lv_at hl 1 rfl) ?_
            refine x_getr cx h fa_X6_42 (f := 257) rfl hq6 dX6_lock_85 ?_
            refine lv_iload hx hb dX6_lock_88 (lv_at hl 0 rfl) ?_
            obtain ⟨hq11, hF⟩ := ifs hF
            refine x_iald cx h hq11.1 (inb.vp hq11.2) dX6_lock_90 ?_
            obtain ⟨rfl, rfl⟩ := rts hF
            exact x_iret cx h dX6_lock_91
          · replace hF := ifn c10 hF
            by_cases c12 : a3 = (2 : Int32)
            · replace hF := ifp c12 hF
              refine lv_tableIn (off := 45) (tgt := 92) hx hb dX6_lock_47 (by rw [c12]; decide) (by rw [c12]; decide) (by rw [c12]; rfl) (by decide) ?_
              refine x_aload_n hx hb dX6_lock_92 rfl (lv_at hl 1 rfl) ?_
              refine x_getr cx h fa_X6_45 (f := 258) rfl hq6 dX6_lock_93 ?_
              refine lv_iload hx hb dX6_lock_96 (lv_at hl 0 rfl) ?_
              obtain ⟨hq13, hF⟩ := ifs hF
              refine x_iald cx h hq13.1 (inb.vp hq13.2) dX6_lock_98 ?_
              obtain ⟨rfl, rfl⟩ := rts hF
              exact x_iret cx h dX6_lock_99
            · replace hF := ifn c12 hF
              by_cases c14 : a3 = (3 : Int32)
              · replace hF := ifp c14 hF
                refine lv_tableIn (off := 53) (tgt := 100) hx hb dX6_lock_47 (by rw [c14]; decide) (by rw [c14]; decide) (by rw [c14]; rfl) (by decide) ?_
                refine x_aload_n hx hb dX6_lock_100 rfl (lv_at hl 1 rfl) ?_
                refine lv_iload hx hb dX6_lock_101 (lv_at hl 0 rfl) ?_
                obtain ⟨r15, σ15, hc15, hF⟩ := bds hF
                refine x_calli (σ := σ4) g (LEm hc15 (mo_F_X6_isLate a0 (((4 : Int32) * a1) + a2) _)) (x_runV (As := [.int (((4 : Int32) * a1) + a2)]) (rest := []) cx h (c_X6_isLate l D dA base a0 (((4 : Int32) * a1) + a2) hc15) ml_X6_128 mi_X6_isLate hq6 rfl ⟨Nat.le_of_ble_eq_true rfl, Nat.le_of_ble_eq_true rfl⟩ hl.1 rfl (s8 sN (by decide)) dX6_lock_103 (le_room g (LEm hc15 (mo_F_X6_isLate a0 (((4 : Int32) * a1) + a2) _)) (LEm hF (mo_ite (mo_B_X6_lock_114  (0 : Int32) _) (mo_B_X6_lock_114  (1 : Int32) _))))) h (fun H locs h g => ?_)
                refine lv_if_eq (tgt := 113) hx hb dX6_lock_106 (by decide) (fun c16 => ?_) (fun c16 => ?_)
                · replace hF := ifp c16 hF
                  refine lv_iconst (v := (0 : Int32)) hx hb dX6_lock_113 (by decide) ?_
                  exact w_X6_lock_114 (σ := σ15) cx   (0 : Int32) h g (lv_sub hl [] rfl) hF
                · replace hF := ifn c16 hF
                  refine lv_iconst (v := (1 : Int32)) hx hb dX6_lock_109 (by decide) ?_
                  refine lv_goto (tgt := 114) hx hb dX6_lock_110 (by decide) ?_
                  exact w_X6_lock_114 (σ := σ15) cx   (1 : Int32) h g (lv_sub hl [] rfl) hF
              · replace hF := ifn c14 hF
                refine lv_tableOut (tgt := 115) hx hb dX6_lock_47 (by have b0 := lv_neT c9 (a := 0) rfl; have b1 := lv_neT c10 (a := 1) rfl; have b2 := lv_neT c12 (a := 2) rfl; have b3 := lv_neT c14 (a := 3) rfl; omega) (by decide) ?_
                refine x_aload_n hx hb dX6_lock_115 rfl (lv_at hl 1 rfl) ?_
                refine lv_iload hx hb dX6_lock_116 (lv_at hl 0 rfl) ?_
                obtain ⟨r17, σ17, hc17, hF⟩ := bds hF
                refine x_calli (σ := σ4) g (LEm hc17 (mo_F_X6_isDecided a0 (((4 : Int32) * a1) + a2) _)) (x_runV (As := [.int (((4 : Int32) * a1) + a2)]) (rest := []) cx h (c_X6_isDecided l D dA base a0 (((4 : Int32) * a1) + a2) hc17) ml_X6_124 mi_X6_isDecided hq6 rfl ⟨Nat.le_of_ble_eq_true rfl, Nat.le_of_ble_eq_true rfl⟩ hl.1 rfl (s8 sN (by decide)) dX6_lock_118 (le_room g (LEm hc17 (mo_F_X6_isDecided a0 (((4 : Int32) * a1) + a2) _)) (LEm hF (mo_ite (mo_B_X6_lock_129  (0 : Int32) _) (mo_B_X6_lock_129  (1 : Int32) _))))) h (fun H locs h g => ?_)
                refine lv_if_eq (tgt := 128) hx hb dX6_lock_121 (by decide) (fun c18 => ?_) (fun c18 => ?_)
                · replace hF := ifp c18 hF
                  refine lv_iconst (v := (0 : Int32)) hx hb dX6_lock_128 (by decide) ?_
                  exact w_X6_lock_129 (σ := σ17) cx   (0 : Int32) h g (lv_sub hl [] rfl) hF
                · replace hF := ifn c18 hF
                  refine lv_iconst (v := (1 : Int32)) hx hb dX6_lock_124 (by decide) ?_
                  refine lv_goto (tgt := 129) hx hb dX6_lock_125 (by decide) ?_
                  exact w_X6_lock_129 (σ := σ17) cx   (1 : Int32) h g (lv_sub hl [] rfl) hF
      · replace hF := ifp c8 hF
        refine lv_iconst (v := (0 : Int32)) hx hb dX6_lock_44 (by decide) ?_
        obtain ⟨rfl, rfl⟩ := rts hF
        exact x_iret cx h dX6_lock_45
    · replace hF := ifp c5 hF
      refine lv_bipush (v := (-2 : Int32)) hx hb dX6_lock_24 (by decide) ?_
      obtain ⟨rfl, rfl⟩ := rts hF
      exact x_iret cx h dX6_lock_26
  · replace hF := ifn c3 hF
    refine lv_iconst (v := (-1 : Int32)) hx hb dX6_lock_13 (by decide) ?_
    obtain ⟨rfl, rfl⟩ := rts hF
    exact x_iret cx h dX6_lock_14
def B_X6_versions_50 (k20 : Nat → Int32 → Int32 → Int32 → Int32 → HS → Option (Int32 × HS)) (x0 : Nat) (x1 : Int32) (x2 : Int32) (x4 : Int32) (y0 : Int32) (y1 : Int32) (σ : HS) : Option (Int32 × HS) :=
  k20 x0 x1 x2 (y0 + y1) (x4 + (1 : Int32)) σ
theorem mo_B_X6_versions_50 {k20 : Nat → Int32 → Int32 → Int32 → Int32 → HS → Option (Int32 × HS)} (mk20 : ∀ x0 x1 x2 x3 x4 σ, Mo σ (k20 x0 x1 x2 x3 x4 σ)) (x0 : Nat) (x1 : Int32) (x2 : Int32) (x4 : Int32) (y0 : Int32) (y1 : Int32) (σ : HS) : Mo σ (B_X6_versions_50 k20 x0 x1 x2 x4 y0 y1 σ) := by
  unfold B_X6_versions_50
  exact (mk20 x0 x1 x2 (y0 + y1) (x4 + (1 : Int32)) _)
set_option maxHeartbeats 4000000 in
set_option maxRecDepth 100000 in
theorem w_X6_versions_50 {p : Program} {l : Launch} {e : Env} {s : State} {m : MethodId} {args : Array Value} {below : List Frame} {meth : Method} {c : Code} {D : va_G} {dA : Nat → ClassId} {base : Nat} {σ0 τ : HS} {r : Int32} (cx : CX p s m args meth c cX6_versions 5 (some .int) RX6 "versions" D dA base) {k20 : Nat → Int32 → Int32 → Int32 → Int32 → HS → Option (Int32 × HS)} (mk20 : ∀ x0 x1 x2 x3 x4 σ, Mo σ (k20 x0 x1 x2 x3 x4 σ)) (hk20 : ∀ x0 x1 x2 x3 x4 σ H locs ls, Wd D dA base σ s H locs → LE σ0 σ → lv_has ls 5 [(0, vr x0), (1, .int x1), (2, .int x2), (3, .int x3), (4, .int x4)] → k20 x0 x1 x2 x3 x4 σ = some (r, τ) → WG p l e s m args below meth c D dA base 2 43 (some (.int r)) σ0 τ σ H locs 20 ls []) (x0 : Nat) (x1 : Int32) (x2 : Int32) (x4 : Int32) (y0 : Int32) (y1 : Int32) {σ : HS} {H : Heap} {locs : List Loc} {ls : Array Slot} (h : Wd D dA base σ s H locs) (g : LE σ0 σ) (hl : lv_has ls 5 [(0, vr x0), (1, .int x1), (2, .int x2), (4, .int x4)]) (hF : B_X6_versions_50 k20 x0 x1 x2 x4 y0 y1 σ = some (r, τ)) : WG p l e s m args below meth c D dA base 2 43 (some (.int r)) σ0 τ σ H locs 50 ls [.int y1, .int y0] := by
  obtain ⟨hx, hb, -⟩ := id cx
  unfold B_X6_versions_50 at hF
  refine lv_iadd hx hb dX6_versions_50 ?_
  refine x_istore_n (lv' := [(3, .int (y0 + y1)), (0, vr x0), (1, .int x1), (2, .int x2), (4, .int x4)]) hx hb dX6_versions_51 rfl hl (by decide) (cR (cI (cI (cI cN)))) rfl (fun ls hl => ?_)
  refine x_iinc (k := 4) (v := (1 : Int32)) (lv' := [(4, .int (x4 + (1 : Int32))), (3, .int (y0 + y1)), (0, vr x0), (1, .int x1), (2, .int x2)]) hx hb dX6_versions_52 hl rfl (by decide) (by decide) (cI (cR (cI (cI (cI cN))))) rfl (fun ls hl => ?_)
  refine lv_goto (tgt := 20) hx hb dX6_versions_55 (by decide) ?_
  exact hk20 x0 x1 x2 (y0 + y1) (x4 + (1 : Int32)) σ _ _ _ h g (lv_sub hl [2, 3, 4, 1, 0] rfl) hF
def B_X6_versions_20 (k20 : Nat → Int32 → Int32 → Int32 → Int32 → HS → Option (Int32 × HS)) (x0 : Nat) (x1 : Int32) (x2 : Int32) (x3 : Int32) (x4 : Int32) (σ : HS) : Option (Int32 × HS) :=
  if kd σ x0 = 7 then (if (gi σ 250 x0) ≤ x4 then (some (x3, σ)) else (if kd σ (gr σ 251 x0) = 100 ∧ inb x4 (ln σ (gr σ 251 x0)) then (if (ai σ (gr σ 251 x0) x4.toNatClampNeg) = (((4 : Int32) * x1) + x2) then (B_X6_versions_50 k20 x0 x1 x2 x4 x3 (1 : Int32) σ) else (B_X6_versions_50 k20 x0 x1 x2 x4 x3 (0 : Int32) σ)) else none)) else none
theorem mo_B_X6_versions_20 {k20 : Nat → Int32 → Int32 → Int32 → Int32 → HS → Option (Int32 × HS)} (mk20 : ∀ x0 x1 x2 x3 x4 σ, Mo σ (k20 x0 x1 x2 x3 x4 σ)) (x0 : Nat) (x1 : Int32) (x2 : Int32) (x3 : Int32) (x4 : Int32) (σ : HS) : Mo σ (B_X6_versions_20 k20 x0 x1 x2 x3 x4 σ) := by
  unfold B_X6_versions_20
  exact (mo_ite (mo_ite mo_ret (mo_ite (mo_ite (mo_B_X6_versions_50 mk20 x0 x1 x2 x4 x3 (1 : Int32) _) (mo_B_X6_versions_50 mk20 x0 x1 x2 x4 x3 (0 : Int32) _)) mo_none)) mo_none)
set_option maxHeartbeats 4000000 in
set_option maxRecDepth 100000 in
theorem w_X6_versions_20 {p : Program} {l : Launch} {e : Env} {s : State} {m : MethodId} {args : Array Value} {below : List Frame} {meth : Method} {c : Code} {D : va_G} {dA : Nat → ClassId} {base : Nat} {σ0 τ : HS} {r : Int32} (cx : CX p s m args meth c cX6_versions 5 (some .int) RX6 "versions" D dA base) {k20 : Nat → Int32 → Int32 → Int32 → Int32 → HS → Option (Int32 × HS)} (mk20 : ∀ x0 x1 x2 x3 x4 σ, Mo σ (k20 x0 x1 x2 x3 x4 σ)) (hk20 : ∀ x0 x1 x2 x3 x4 σ H locs ls, Wd D dA base σ s H locs → LE σ0 σ → lv_has ls 5 [(0, vr x0), (1, .int x1), (2, .int x2), (3, .int x3), (4, .int x4)] → k20 x0 x1 x2 x3 x4 σ = some (r, τ) → WG p l e s m args below meth c D dA base 2 43 (some (.int r)) σ0 τ σ H locs 20 ls []) (x0 : Nat) (x1 : Int32) (x2 : Int32) (x3 : Int32) (x4 : Int32) {σ : HS} {H : Heap} {locs : List Loc} {ls : Array Slot} (h : Wd D dA base σ s H locs) (g : LE σ0 σ) (hl : lv_has ls 5 [(0, vr x0), (1, .int x1), (2, .int x2), (3, .int x3), (4, .int x4)]) (hF : B_X6_versions_20 k20 x0 x1 x2 x3 x4 σ = some (r, τ)) : WG p l e s m args below meth c D dA base 2 43 (some (.int r)) σ0 τ σ H locs 20 ls [] := by
  obtain ⟨hx, hb, -⟩ := id cx
  unfold B_X6_versions_20 at hF
  refine lv_iload hx hb dX6_versions_20 (lv_at hl 4 rfl) ?_
  refine x_aload_n hx hb dX6_versions_22 rfl (lv_at hl 0 rfl) ?_
  obtain ⟨hq1, hF⟩ := ifs hF
  refine x_geti cx h fa_X6_81 (f := 250) rfl hq1 dX6_versions_23 ?_
  refine lv_icmp_ge (tgt := 58) hx hb dX6_versions_26 (by decide) (fun c2 => ?_) (fun c2 => ?_)
  · replace hF := ifp c2 hF
    refine lv_iload_n hx hb dX6_versions_58 rfl (lv_at hl 3 rfl) ?_
    obtain ⟨rfl, rfl⟩ := rts hF
    exact x_iret cx h dX6_versions_59
  · replace hF := ifn c2 hF
    refine lv_iload_n hx hb dX6_versions_29 rfl (lv_at hl 3 rfl) ?_
    refine x_aload_n hx hb dX6_versions_30 rfl (lv_at hl 0 rfl) ?_
    refine x_getr cx h fa_X6_26 (f := 251) rfl hq1 dX6_versions_31 ?_
    refine lv_iload hx hb dX6_versions_34 (lv_at hl 4 rfl) ?_
    obtain ⟨hq3, hF⟩ := ifs hF
    refine x_iald cx h hq3.1 (inb.vp hq3.2) dX6_versions_36 ?_
    refine lv_iconst (v := (4 : Int32)) hx hb dX6_versions_37 (by decide) ?_
    refine lv_iload_n hx hb dX6_versions_38 rfl (lv_at hl 1 rfl) ?_
    refine lv_imul hx hb dX6_versions_39 ?_
    refine lv_iload_n hx hb dX6_versions_40 rfl (lv_at hl 2 rfl) ?_
    refine lv_iadd hx hb dX6_versions_41 ?_
    refine lv_icmp_ne (tgt := 49) hx hb dX6_versions_42 (by decide) (fun c4 => ?_) (fun c4 => ?_)
    · replace hF := ifn c4 hF
      refine lv_iconst (v := (0 : Int32)) hx hb dX6_versions_49 (by decide) ?_
      exact w_X6_versions_50 (σ := σ) cx mk20 hk20 x0 x1 x2 x4 x3 (0 : Int32) h g (lv_sub hl [0, 1, 2, 4] rfl) hF
    · replace hF := ifp c4 hF
      refine lv_iconst (v := (1 : Int32)) hx hb dX6_versions_45 (by decide) ?_
      refine lv_goto (tgt := 50) hx hb dX6_versions_46 (by decide) ?_
      exact w_X6_versions_50 (σ := σ) cx mk20 hk20 x0 x1 x2 x4 x3 (1 : Int32) h g (lv_sub hl [0, 1, 2, 4] rfl) hF
def L_X6_versions_20  : Nat → Nat → Int32 → Int32 → Int32 → Int32 → HS → Option (Int32 × HS)
  | 0, _, _, _, _, _, _ => none
  | N + 1, x0, x1, x2, x3, x4, σ => B_X6_versions_20 (L_X6_versions_20  N) x0 x1 x2 x3 x4 σ
theorem mo_L_X6_versions_20  : ∀ (N : Nat) (x0 : Nat) (x1 : Int32) (x2 : Int32) (x3 : Int32) (x4 : Int32) (σ : HS), Mo σ (L_X6_versions_20  N x0 x1 x2 x3 x4 σ) := by
  intro N
  induction N with
  | zero => intro x0 x1 x2 x3 x4 σ; exact mo_none
  | succ N ih => intro x0 x1 x2 x3 x4 σ; exact mo_B_X6_versions_20 ih x0 x1 x2 x3 x4 σ
theorem wl_X6_versions_20 {p : Program} {l : Launch} {e : Env} {s : State} {m : MethodId} {args : Array Value} {below : List Frame} {meth : Method} {c : Code} {D : va_G} {dA : Nat → ClassId} {base : Nat} {σ0 τ : HS} {r : Int32} (cx : CX p s m args meth c cX6_versions 5 (some .int) RX6 "versions" D dA base)  : ∀ (N : Nat) (x0 : Nat) (x1 : Int32) (x2 : Int32) (x3 : Int32) (x4 : Int32) (σ : HS) (H : Heap) (locs : List Loc) (ls : Array Slot), Wd D dA base σ s H locs → LE σ0 σ → lv_has ls 5 [(0, vr x0), (1, .int x1), (2, .int x2), (3, .int x3), (4, .int x4)] → L_X6_versions_20  N x0 x1 x2 x3 x4 σ = some (r, τ) → WG p l e s m args below meth c D dA base 2 43 (some (.int r)) σ0 τ σ H locs 20 ls [] := by
  intro N
  induction N with
  | zero => intro x0 x1 x2 x3 x4 σ H locs ls h g hl hF; cases hF
  | succ N ih => intro x0 x1 x2 x3 x4 σ H locs ls h g hl hF; exact w_X6_versions_20 cx (mo_L_X6_versions_20  N) ih x0 x1 x2 x3 x4 h g hl hF
def F_X6_versions (a0 : Nat) (a1 : Int32) (a2 : Int32) (σ : HS) : Option (Int32 × HS) :=
  if kd σ a0 = 7 then (bd (F_X6_noCell a1 a2 (si σ 240 a0 (0 : Int32))) (fun r2 σ2 => if r2 = 0 then (L_X6_versions_20  NF a0 a1 a2 (0 : Int32) (0 : Int32) σ2) else (some ((-1 : Int32), σ2)))) else none
theorem mo_F_X6_versions (a0 : Nat) (a1 : Int32) (a2 : Int32) (σ : HS) : Mo σ (F_X6_versions a0 a1 a2 σ) := by
  unfold F_X6_versions
  exact (mo_ite (mo_le (τ := (si σ 240 a0 (0 : Int32))) ⟨Nat.le_refl _, Nat.le_refl _⟩ (mo_bd (mo_F_X6_noCell a1 a2 _) (fun r2 σ2 => (mo_ite (mo_L_X6_versions_20  NF a0 a1 a2 (0 : Int32) (0 : Int32) _) mo_ret)))) mo_none)
set_option maxHeartbeats 4000000 in
set_option maxRecDepth 100000 in
theorem c_X6_versions (l : Launch) (D : va_G) (dA : Nat → ClassId) (base : Nat) (a0 : Nat) (a1 : Int32) (a2 : Int32) {σ τ : HS} {r : Int32} (hF : F_X6_versions a0 a1 a2 σ = some (r, τ)) : CT l yX6_versions cX6_versions 5 (some .int) 2 43 D dA base [vr a0, .int a1, .int a2] (some (.int r)) σ τ := by
  refine CT.of (lv := [(0, vr a0), (1, .int a1), (2, .int a2)]) (by decide) (vR (vI (vI vN))) (Nat.le_of_ble_eq_true rfl) rfl ?_
  intro p e s m args below meth c ls cx hl h
  have cx : CX p s m args meth c cX6_versions 5 (some .int) RX6 "versions" D dA base := cx
  have g : LE σ σ := LE.rf
  obtain ⟨hx, hb, -⟩ := id cx
  unfold F_X6_versions at hF
  refine x_aload_n hx hb dX6_versions_0 rfl (lv_at hl 0 rfl) ?_
  refine lv_iconst (v := (0 : Int32)) hx hb dX6_versions_1 (by decide) ?_
  obtain ⟨hq1, hF⟩ := ifs hF
  refine x_sti cx h fa_X6_75 (f := 240) rfl (Or.inl rfl) hq1 dX6_versions_2 (fun H locs h => ?_)
  refine lv_iload_n hx hb dX6_versions_5 rfl (lv_at hl 1 rfl) ?_
  refine lv_iload_n hx hb dX6_versions_6 rfl (lv_at hl 2 rfl) ?_
  obtain ⟨r2, σ2, hc2, hF⟩ := bds hF
  refine x_calli (σ := (si σ 240 a0 (0 : Int32))) g (LEm hc2 (mo_F_X6_noCell a1 a2 _)) (x_runS (As := [.int a1, .int a2]) (rest := []) cx h (c_X6_noCell l D dA base a1 a2 hc2) ml_X6_145 mi_X6_noCell rfl ⟨Nat.le_of_ble_eq_true rfl, Nat.le_of_ble_eq_true rfl⟩ hl.1 rfl (s8 sN (by decide)) dX6_versions_7 (le_room g (LEm hc2 (mo_F_X6_noCell a1 a2 _)) (LEm hF (mo_ite (mo_L_X6_versions_20  NF a0 a1 a2 (0 : Int32) (0 : Int32) _) mo_ret)))) h (fun H locs h g => ?_)
  refine lv_if_eq (tgt := 15) hx hb dX6_versions_10 (by decide) (fun c3 => ?_) (fun c3 => ?_)
  · replace hF := ifp c3 hF
    refine lv_iconst (v := (0 : Int32)) hx hb dX6_versions_15 (by decide) ?_
    refine x_istore_n (lv' := [(3, .int (0 : Int32)), (0, vr a0), (1, .int a1), (2, .int a2)]) hx hb dX6_versions_16 rfl hl (by decide) (cR (cI (cI cN))) rfl (fun ls hl => ?_)
    refine lv_iconst (v := (0 : Int32)) hx hb dX6_versions_17 (by decide) ?_
    refine x_istore (lv' := [(4, .int (0 : Int32)), (3, .int (0 : Int32)), (0, vr a0), (1, .int a1), (2, .int a2)]) hx hb dX6_versions_18 hl (by decide) (cI (cR (cI (cI cN)))) rfl (fun ls hl => ?_)
    exact wl_X6_versions_20 cx   NF a0 a1 a2 (0 : Int32) (0 : Int32) σ2 _ _ _ h g (lv_sub hl [2, 3, 4, 1, 0] rfl) hF
  · replace hF := ifn c3 hF
    refine lv_iconst (v := (-1 : Int32)) hx hb dX6_versions_13 (by decide) ?_
    obtain ⟨rfl, rfl⟩ := rts hF
    exact x_iret cx h dX6_versions_14
def B_X6_version_17   (σ : HS) : Option (Int32 × HS) :=
  some ((-1 : Int32), σ)
theorem mo_B_X6_version_17   (σ : HS) : Mo σ (B_X6_version_17   σ) := by
  unfold B_X6_version_17
  exact mo_ret
set_option maxHeartbeats 4000000 in
set_option maxRecDepth 100000 in
theorem w_X6_version_17 {p : Program} {l : Launch} {e : Env} {s : State} {m : MethodId} {args : Array Value} {below : List Frame} {meth : Method} {c : Code} {D : va_G} {dA : Nat → ClassId} {base : Nat} {σ0 τ : HS} {r : Int32} (cx : CX p s m args meth c cX6_version 11 (some .int) RX6 "version" D dA base)   {σ : HS} {H : Heap} {locs : List Loc} {ls : Array Slot} (h : Wd D dA base σ s H locs) (g : LE σ0 σ) (hl : lv_has ls 11 []) (hF : B_X6_version_17   σ = some (r, τ)) : WG p l e s m args below meth c D dA base 2 43 (some (.int r)) σ0 τ σ H locs 17 ls [] := by
  obtain ⟨hx, hb, -⟩ := id cx
  unfold B_X6_version_17 at hF
  refine lv_iconst (v := (-1 : Int32)) hx hb dX6_version_17 (by decide) ?_
  obtain ⟨rfl, rfl⟩ := rts hF
  exact x_iret cx h dX6_version_18
def B_X6_version_241  (y0 : Int32) (σ : HS) : Option (Int32 × HS) :=
  some (y0, σ)
theorem mo_B_X6_version_241  (y0 : Int32) (σ : HS) : Mo σ (B_X6_version_241  y0 σ) := by
  unfold B_X6_version_241
  exact mo_ret
set_option maxHeartbeats 4000000 in
set_option maxRecDepth 100000 in
theorem w_X6_version_241 {p : Program} {l : Launch} {e : Env} {s : State} {m : MethodId} {args : Array Value} {below : List Frame} {meth : Method} {c : Code} {D : va_G} {dA : Nat → ClassId} {base : Nat} {σ0 τ : HS} {r : Int32} (cx : CX p s m args meth c cX6_version 11 (some .int) RX6 "version" D dA base)  (y0 : Int32) {σ : HS} {H : Heap} {locs : List Loc} {ls : Array Slot} (h : Wd D dA base σ s H locs) (g : LE σ0 σ) (hl : lv_has ls 11 []) (hF : B_X6_version_241  y0 σ = some (r, τ)) : WG p l e s m args below meth c D dA base 2 43 (some (.int r)) σ0 τ σ H locs 241 ls [.int y0] := by
  obtain ⟨hx, hb, -⟩ := id cx
  unfold B_X6_version_241 at hF
  obtain ⟨rfl, rfl⟩ := rts hF
  exact x_iret cx h dX6_version_241
def B_X6_version_122 (k36 : Nat → Int32 → Int32 → Int32 → Int32 → Int32 → Int32 → HS → Option (Int32 × HS)) (k48 : Nat → Int32 → Int32 → Int32 → Int32 → Int32 → Int32 → Int32 → HS → Option (Int32 × HS)) (x0 : Nat) (x3 : Int32) (x4 : Int32) (x5 : Int32) (x6 : Int32) (x8 : Int32) (x9 : Int32) (y0 : Int32) (σ : HS) : Option (Int32 × HS) :=
  k48 x0 x3 x4 x5 x6 y0 x8 (x9 + (1 : Int32)) σ
theorem mo_B_X6_version_122 {k36 : Nat → Int32 → Int32 → Int32 → Int32 → Int32 → Int32 → HS → Option (Int32 × HS)} {k48 : Nat → Int32 → Int32 → Int32 → Int32 → Int32 → Int32 → Int32 → HS → Option (Int32 × HS)} (mk36 : ∀ x0 x3 x4 x5 x6 x7 x8 σ, Mo σ (k36 x0 x3 x4 x5 x6 x7 x8 σ)) (mk48 : ∀ x0 x3 x4 x5 x6 x7 x8 x9 σ, Mo σ (k48 x0 x3 x4 x5 x6 x7 x8 x9 σ)) (x0 : Nat) (x3 : Int32) (x4 : Int32) (x5 : Int32) (x6 : Int32) (x8 : Int32) (x9 : Int32) (y0 : Int32) (σ : HS) : Mo σ (B_X6_version_122 k36 k48 x0 x3 x4 x5 x6 x8 x9 y0 σ) := by
  unfold B_X6_version_122
  exact (mk48 x0 x3 x4 x5 x6 y0 x8 (x9 + (1 : Int32)) _)
set_option maxHeartbeats 4000000 in
set_option maxRecDepth 100000 in
theorem w_X6_version_122 {p : Program} {l : Launch} {e : Env} {s : State} {m : MethodId} {args : Array Value} {below : List Frame} {meth : Method} {c : Code} {D : va_G} {dA : Nat → ClassId} {base : Nat} {σ0 τ : HS} {r : Int32} (cx : CX p s m args meth c cX6_version 11 (some .int) RX6 "version" D dA base) {k36 : Nat → Int32 → Int32 → Int32 → Int32 → Int32 → Int32 → HS → Option (Int32 × HS)} {k48 : Nat → Int32 → Int32 → Int32 → Int32 → Int32 → Int32 → Int32 → HS → Option (Int32 × HS)} (mk36 : ∀ x0 x3 x4 x5 x6 x7 x8 σ, Mo σ (k36 x0 x3 x4 x5 x6 x7 x8 σ)) (mk48 : ∀ x0 x3 x4 x5 x6 x7 x8 x9 σ, Mo σ (k48 x0 x3 x4 x5 x6 x7 x8 x9 σ)) (hk36 : ∀ x0 x3 x4 x5 x6 x7 x8 σ H locs ls, Wd D dA base σ s H locs → LE σ0 σ → lv_has ls 11 [(0, vr x0), (3, .int x3), (4, .int x4), (5, .int x5), (6, .int x6), (7, .int x7), (8, .int x8)] → k36 x0 x3 x4 x5 x6 x7 x8 σ = some (r, τ) → WG p l e s m args below meth c D dA base 2 43 (some (.int r)) σ0 τ σ H locs 36 ls []) (hk48 : ∀ x0 x3 x4 x5 x6 x7 x8 x9 σ H locs ls, Wd D dA base σ s H locs → LE σ0 σ → lv_has ls 11 [(0, vr x0), (3, .int x3), (4, .int x4), (5, .int x5), (6, .int x6), (7, .int x7), (8, .int x8), (9, .int x9)] → k48 x0 x3 x4 x5 x6 x7 x8 x9 σ = some (r, τ) → WG p l e s m args below meth c D dA base 2 43 (some (.int r)) σ0 τ σ H locs 48 ls []) (x0 : Nat) (x3 : Int32) (x4 : Int32) (x5 : Int32) (x6 : Int32) (x8 : Int32) (x9 : Int32) (y0 : Int32) {σ : HS} {H : Heap} {locs : List Loc} {ls : Array Slot} (h : Wd D dA base σ s H locs) (g : LE σ0 σ) (hl : lv_has ls 11 [(0, vr x0), (3, .int x3), (4, .int x4), (5, .int x5), (6, .int x6), (8, .int x8), (9, .int x9)]) (hF : B_X6_version_122 k36 k48 x0 x3 x4 x5 x6 x8 x9 y0 σ = some (r, τ)) : WG p l e s m args below meth c D dA base 2 43 (some (.int r)) σ0 τ σ H locs 122 ls [.int y0] := by
  obtain ⟨hx, hb, -⟩ := id cx
  unfold B_X6_version_122 at hF
  refine x_istore (lv' := [(7, .int y0), (0, vr x0), (3, .int x3), (4, .int x4), (5, .int x5), (6, .int x6), (8, .int x8), (9, .int x9)]) hx hb dX6_version_122 hl (by decide) (cR (cI (cI (cI (cI (cI (cI cN))))))) rfl (fun ls hl => ?_)
  refine x_iinc (k := 7) (v := (1 : Int32)) (lv' := [(9, .int (x9 + (1 : Int32))), (7, .int y0), (0, vr x0), (3, .int x3), (4, .int x4), (5, .int x5), (6, .int x6), (8, .int x8)]) hx hb dX6_version_124 hl rfl (by decide) (by decide) (cI (cR (cI (cI (cI (cI (cI (cI cN)))))))) rfl (fun ls hl => ?_)
  refine lv_goto (tgt := 48) hx hb dX6_version_127 (by decide) ?_
  exact hk48 x0 x3 x4 x5 x6 y0 x8 (x9 + (1 : Int32)) σ _ _ _ h g (lv_sub hl [2, 3, 4, 5, 6, 1, 7, 0] rfl) hF
def B_X6_version_120 (k36 : Nat → Int32 → Int32 → Int32 → Int32 → Int32 → Int32 → HS → Option (Int32 × HS)) (k48 : Nat → Int32 → Int32 → Int32 → Int32 → Int32 → Int32 → Int32 → HS → Option (Int32 × HS)) (x0 : Nat) (x3 : Int32) (x4 : Int32) (x5 : Int32) (x6 : Int32) (x7 : Int32) (x8 : Int32) (x9 : Int32) (σ : HS) : Option (Int32 × HS) :=
  B_X6_version_122 k36 k48 x0 x3 x4 x5 x6 x8 x9 x7 σ
theorem mo_B_X6_version_120 {k36 : Nat → Int32 → Int32 → Int32 → Int32 → Int32 → Int32 → HS → Option (Int32 × HS)} {k48 : Nat → Int32 → Int32 → Int32 → Int32 → Int32 → Int32 → Int32 → HS → Option (Int32 × HS)} (mk36 : ∀ x0 x3 x4 x5 x6 x7 x8 σ, Mo σ (k36 x0 x3 x4 x5 x6 x7 x8 σ)) (mk48 : ∀ x0 x3 x4 x5 x6 x7 x8 x9 σ, Mo σ (k48 x0 x3 x4 x5 x6 x7 x8 x9 σ)) (x0 : Nat) (x3 : Int32) (x4 : Int32) (x5 : Int32) (x6 : Int32) (x7 : Int32) (x8 : Int32) (x9 : Int32) (σ : HS) : Mo σ (B_X6_version_120 k36 k48 x0 x3 x4 x5 x6 x7 x8 x9 σ) := by
  unfold B_X6_version_120
  exact (mo_B_X6_version_122 mk36 mk48 x0 x3 x4 x5 x6 x8 x9 x7 _)
set_option maxHeartbeats 4000000 in
set_option maxRecDepth 100000 in
theorem w_X6_version_120 {p : Program} {l : Launch} {e : Env} {s : State} {m : MethodId} {args : Array Value} {below : List Frame} {meth : Method} {c : Code} {D : va_G} {dA : Nat → ClassId} {base : Nat} {σ0 τ : HS} {r : Int32} (cx : CX p s m args meth c cX6_version 11 (some .int) RX6 "version" D dA base) {k36 : Nat → Int32 → Int32 → Int32 → Int32 → Int32 → Int32 → HS → Option (Int32 × HS)} {k48 : Nat → Int32 → Int32 → Int32 → Int32 → Int32 → Int32 → Int32 → HS → Option (Int32 × HS)} (mk36 : ∀ x0 x3 x4 x5 x6 x7 x8 σ, Mo σ (k36 x0 x3 x4 x5 x6 x7 x8 σ)) (mk48 : ∀ x0 x3 x4 x5 x6 x7 x8 x9 σ, Mo σ (k48 x0 x3 x4 x5 x6 x7 x8 x9 σ)) (hk36 : ∀ x0 x3 x4 x5 x6 x7 x8 σ H locs ls, Wd D dA base σ s H locs → LE σ0 σ → lv_has ls 11 [(0, vr x0), (3, .int x3), (4, .int x4), (5, .int x5), (6, .int x6), (7, .int x7), (8, .int x8)] → k36 x0 x3 x4 x5 x6 x7 x8 σ = some (r, τ) → WG p l e s m args below meth c D dA base 2 43 (some (.int r)) σ0 τ σ H locs 36 ls []) (hk48 : ∀ x0 x3 x4 x5 x6 x7 x8 x9 σ H locs ls, Wd D dA base σ s H locs → LE σ0 σ → lv_has ls 11 [(0, vr x0), (3, .int x3), (4, .int x4), (5, .int x5), (6, .int x6), (7, .int x7), (8, .int x8), (9, .int x9)] → k48 x0 x3 x4 x5 x6 x7 x8 x9 σ = some (r, τ) → WG p l e s m args below meth c D dA base 2 43 (some (.int r)) σ0 τ σ H locs 48 ls []) (x0 : Nat) (x3 : Int32) (x4 : Int32) (x5 : Int32) (x6 : Int32) (x7 : Int32) (x8 : Int32) (x9 : Int32) {σ : HS} {H : Heap} {locs : List Loc} {ls : Array Slot} (h : Wd D dA base σ s H locs) (g : LE σ0 σ) (hl : lv_has ls 11 [(0, vr x0), (3, .int x3), (4, .int x4), (5, .int x5), (6, .int x6), (7, .int x7), (8, .int x8), (9, .int x9)]) (hF : B_X6_version_120 k36 k48 x0 x3 x4 x5 x6 x7 x8 x9 σ = some (r, τ)) : WG p l e s m args below meth c D dA base 2 43 (some (.int r)) σ0 τ σ H locs 120 ls [] := by
  obtain ⟨hx, hb, -⟩ := id cx
  unfold B_X6_version_120 at hF
  refine lv_iload hx hb dX6_version_120 (lv_at hl 5 rfl) ?_
  exact w_X6_version_122 (σ := σ) cx mk36 mk48 hk36 hk48 x0 x3 x4 x5 x6 x8 x9 x7 h g (lv_sub hl [0, 1, 2, 3, 4, 6, 7] rfl) hF
def B_X6_version_115 (k36 : Nat → Int32 → Int32 → Int32 → Int32 → Int32 → Int32 → HS → Option (Int32 × HS)) (k48 : Nat → Int32 → Int32 → Int32 → Int32 → Int32 → Int32 → Int32 → HS → Option (Int32 × HS)) (x0 : Nat) (x3 : Int32) (x4 : Int32) (x5 : Int32) (x6 : Int32) (x8 : Int32) (x9 : Int32) (σ : HS) : Option (Int32 × HS) :=
  B_X6_version_122 k36 k48 x0 x3 x4 x5 x6 x8 x9 x9 σ
theorem mo_B_X6_version_115 {k36 : Nat → Int32 → Int32 → Int32 → Int32 → Int32 → Int32 → HS → Option (Int32 × HS)} {k48 : Nat → Int32 → Int32 → Int32 → Int32 → Int32 → Int32 → Int32 → HS → Option (Int32 × HS)} (mk36 : ∀ x0 x3 x4 x5 x6 x7 x8 σ, Mo σ (k36 x0 x3 x4 x5 x6 x7 x8 σ)) (mk48 : ∀ x0 x3 x4 x5 x6 x7 x8 x9 σ, Mo σ (k48 x0 x3 x4 x5 x6 x7 x8 x9 σ)) (x0 : Nat) (x3 : Int32) (x4 : Int32) (x5 : Int32) (x6 : Int32) (x8 : Int32) (x9 : Int32) (σ : HS) : Mo σ (B_X6_version_115 k36 k48 x0 x3 x4 x5 x6 x8 x9 σ) := by
  unfold B_X6_version_115
  exact (mo_B_X6_version_122 mk36 mk48 x0 x3 x4 x5 x6 x8 x9 x9 _)
set_option maxHeartbeats 4000000 in
set_option maxRecDepth 100000 in
theorem w_X6_version_115 {p : Program} {l : Launch} {e : Env} {s : State} {m : MethodId} {args : Array Value} {below : List Frame} {meth : Method} {c : Code} {D : va_G} {dA : Nat → ClassId} {base : Nat} {σ0 τ : HS} {r : Int32} (cx : CX p s m args meth c cX6_version 11 (some .int) RX6 "version" D dA base) {k36 : Nat → Int32 → Int32 → Int32 → Int32 → Int32 → Int32 → HS → Option (Int32 × HS)} {k48 : Nat → Int32 → Int32 → Int32 → Int32 → Int32 → Int32 → Int32 → HS → Option (Int32 × HS)} (mk36 : ∀ x0 x3 x4 x5 x6 x7 x8 σ, Mo σ (k36 x0 x3 x4 x5 x6 x7 x8 σ)) (mk48 : ∀ x0 x3 x4 x5 x6 x7 x8 x9 σ, Mo σ (k48 x0 x3 x4 x5 x6 x7 x8 x9 σ)) (hk36 : ∀ x0 x3 x4 x5 x6 x7 x8 σ H locs ls, Wd D dA base σ s H locs → LE σ0 σ → lv_has ls 11 [(0, vr x0), (3, .int x3), (4, .int x4), (5, .int x5), (6, .int x6), (7, .int x7), (8, .int x8)] → k36 x0 x3 x4 x5 x6 x7 x8 σ = some (r, τ) → WG p l e s m args below meth c D dA base 2 43 (some (.int r)) σ0 τ σ H locs 36 ls []) (hk48 : ∀ x0 x3 x4 x5 x6 x7 x8 x9 σ H locs ls, Wd D dA base σ s H locs → LE σ0 σ → lv_has ls 11 [(0, vr x0), (3, .int x3), (4, .int x4), (5, .int x5), (6, .int x6), (7, .int x7), (8, .int x8), (9, .int x9)] → k48 x0 x3 x4 x5 x6 x7 x8 x9 σ = some (r, τ) → WG p l e s m args below meth c D dA base 2 43 (some (.int r)) σ0 τ σ H locs 48 ls []) (x0 : Nat) (x3 : Int32) (x4 : Int32) (x5 : Int32) (x6 : Int32) (x8 : Int32) (x9 : Int32) {σ : HS} {H : Heap} {locs : List Loc} {ls : Array Slot} (h : Wd D dA base σ s H locs) (g : LE σ0 σ) (hl : lv_has ls 11 [(0, vr x0), (3, .int x3), (4, .int x4), (5, .int x5), (6, .int x6), (8, .int x8), (9, .int x9)]) (hF : B_X6_version_115 k36 k48 x0 x3 x4 x5 x6 x8 x9 σ = some (r, τ)) : WG p l e s m args below meth c D dA base 2 43 (some (.int r)) σ0 τ σ H locs 115 ls [] := by
  obtain ⟨hx, hb, -⟩ := id cx
  unfold B_X6_version_115 at hF
  refine lv_iload hx hb dX6_version_115 (lv_at hl 6 rfl) ?_
  refine lv_goto (tgt := 122) hx hb dX6_version_117 (by decide) ?_
  exact w_X6_version_122 (σ := σ) cx mk36 mk48 hk36 hk48 x0 x3 x4 x5 x6 x8 x9 x9 h g (lv_sub hl [0, 1, 2, 3, 4, 5, 6] rfl) hF
def B_X6_version_86 (k36 : Nat → Int32 → Int32 → Int32 → Int32 → Int32 → Int32 → HS → Option (Int32 × HS)) (k48 : Nat → Int32 → Int32 → Int32 → Int32 → Int32 → Int32 → Int32 → HS → Option (Int32 × HS)) (x0 : Nat) (x3 : Int32) (x4 : Int32) (x5 : Int32) (x6 : Int32) (x7 : Int32) (x8 : Int32) (x9 : Int32) (y0 : Int32) (σ : HS) : Option (Int32 × HS) :=
  if y0 = 0 then (B_X6_version_120 k36 k48 x0 x3 x4 x5 x6 x7 x8 x9 σ) else (if x7 < 0 then (B_X6_version_115 k36 k48 x0 x3 x4 x5 x6 x8 x9 σ) else (if kd σ x0 = 7 then (if kd σ (gr σ 252 x0) = 100 ∧ inb x9 (ln σ (gr σ 252 x0)) then (if kd σ (gr σ 252 x0) = 100 ∧ inb x7 (ln σ (gr σ 252 x0)) then (if (ai σ (gr σ 252 x0) x9.toNatClampNeg) ≤ (ai σ (gr σ 252 x0) x7.toNatClampNeg) then (B_X6_version_120 k36 k48 x0 x3 x4 x5 x6 x7 x8 x9 σ) else (B_X6_version_115 k36 k48 x0 x3 x4 x5 x6 x8 x9 σ)) else none) else none) else none))
theorem mo_B_X6_version_86 {k36 : Nat → Int32 → Int32 → Int32 → Int32 → Int32 → Int32 → HS → Option (Int32 × HS)} {k48 : Nat → Int32 → Int32 → Int32 → Int32 → Int32 → Int32 → Int32 → HS → Option (Int32 × HS)} (mk36 : ∀ x0 x3 x4 x5 x6 x7 x8 σ, Mo σ (k36 x0 x3 x4 x5 x6 x7 x8 σ)) (mk48 : ∀ x0 x3 x4 x5 x6 x7 x8 x9 σ, Mo σ (k48 x0 x3 x4 x5 x6 x7 x8 x9 σ)) (x0 : Nat) (x3 : Int32) (x4 : Int32) (x5 : Int32) (x6 : Int32) (x7 : Int32) (x8 : Int32) (x9 : Int32) (y0 : Int32) (σ : HS) : Mo σ (B_X6_version_86 k36 k48 x0 x3 x4 x5 x6 x7 x8 x9 y0 σ) := by
  unfold B_X6_version_86
  exact (mo_ite (mo_B_X6_version_120 mk36 mk48 x0 x3 x4 x5 x6 x7 x8 x9 _) (mo_ite (mo_B_X6_version_115 mk36 mk48 x0 x3 x4 x5 x6 x8 x9 _) (mo_ite (mo_ite (mo_ite (mo_ite (mo_B_X6_version_120 mk36 mk48 x0 x3 x4 x5 x6 x7 x8 x9 _) (mo_B_X6_version_115 mk36 mk48 x0 x3 x4 x5 x6 x8 x9 _)) mo_none) mo_none) mo_none)))
set_option maxHeartbeats 4000000 in
set_option maxRecDepth 100000 in
theorem w_X6_version_86 {p : Program} {l : Launch} {e : Env} {s : State} {m : MethodId} {args : Array Value} {below : List Frame} {meth : Method} {c : Code} {D : va_G} {dA : Nat → ClassId} {base : Nat} {σ0 τ : HS} {r : Int32} (cx : CX p s m args meth c cX6_version 11 (some .int) RX6 "version" D dA base) {k36 : Nat → Int32 → Int32 → Int32 → Int32 → Int32 → Int32 → HS → Option (Int32 × HS)} {k48 : Nat → Int32 → Int32 → Int32 → Int32 → Int32 → Int32 → Int32 → HS → Option (Int32 × HS)} (mk36 : ∀ x0 x3 x4 x5 x6 x7 x8 σ, Mo σ (k36 x0 x3 x4 x5 x6 x7 x8 σ)) (mk48 : ∀ x0 x3 x4 x5 x6 x7 x8 x9 σ, Mo σ (k48 x0 x3 x4 x5 x6 x7 x8 x9 σ)) (hk36 : ∀ x0 x3 x4 x5 x6 x7 x8 σ H locs ls, Wd D dA base σ s H locs → LE σ0 σ → lv_has ls 11 [(0, vr x0), (3, .int x3), (4, .int x4), (5, .int x5), (6, .int x6), (7, .int x7), (8, .int x8)] → k36 x0 x3 x4 x5 x6 x7 x8 σ = some (r, τ) → WG p l e s m args below meth c D dA base 2 43 (some (.int r)) σ0 τ σ H locs 36 ls []) (hk48 : ∀ x0 x3 x4 x5 x6 x7 x8 x9 σ H locs ls, Wd D dA base σ s H locs → LE σ0 σ → lv_has ls 11 [(0, vr x0), (3, .int x3), (4, .int x4), (5, .int x5), (6, .int x6), (7, .int x7), (8, .int x8), (9, .int x9)] → k48 x0 x3 x4 x5 x6 x7 x8 x9 σ = some (r, τ) → WG p l e s m args below meth c D dA base 2 43 (some (.int r)) σ0 τ σ H locs 48 ls []) (x0 : Nat) (x3 : Int32) (x4 : Int32) (x5 : Int32) (x6 : Int32) (x7 : Int32) (x8 : Int32) (x9 : Int32) (y0 : Int32) {σ : HS} {H : Heap} {locs : List Loc} {ls : Array Slot} (h : Wd D dA base σ s H locs) (g : LE σ0 σ) (hl : lv_has ls 11 [(0, vr x0), (3, .int x3), (4, .int x4), (5, .int x5), (6, .int x6), (7, .int x7), (8, .int x8), (9, .int x9)]) (hF : B_X6_version_86 k36 k48 x0 x3 x4 x5 x6 x7 x8 x9 y0 σ = some (r, τ)) : WG p l e s m args below meth c D dA base 2 43 (some (.int r)) σ0 τ σ H locs 86 ls [.int y0] := by
  obtain ⟨hx, hb, -⟩ := id cx
  unfold B_X6_version_86 at hF
  refine x_istore (lv' := [(10, .int y0), (0, vr x0), (3, .int x3), (4, .int x4), (5, .int x5), (6, .int x6), (7, .int x7), (8, .int x8), (9, .int x9)]) hx hb dX6_version_86 hl (by decide) (cR (cI (cI (cI (cI (cI (cI (cI cN)))))))) rfl (fun ls hl => ?_)
  refine lv_iload hx hb dX6_version_88 (lv_at hl 0 rfl) ?_
  refine lv_if_eq (tgt := 120) hx hb dX6_version_90 (by decide) (fun c1 => ?_) (fun c1 => ?_)
  · replace hF := ifp c1 hF
    exact w_X6_version_120 (σ := σ) cx mk36 mk48 hk36 hk48 x0 x3 x4 x5 x6 x7 x8 x9 h g (lv_sub hl [1, 2, 3, 4, 5, 6, 7, 8] rfl) hF
  · replace hF := ifn c1 hF
    refine lv_iload hx hb dX6_version_93 (lv_at hl 6 rfl) ?_
    refine lv_if_lt (tgt := 115) hx hb dX6_version_95 (by decide) (fun c2 => ?_) (fun c2 => ?_)
    · replace hF := ifp c2 hF
      exact w_X6_version_115 (σ := σ) cx mk36 mk48 hk36 hk48 x0 x3 x4 x5 x6 x8 x9 h g (lv_sub hl [1, 2, 3, 4, 5, 7, 8] rfl) hF
    · replace hF := ifn c2 hF
      refine x_aload_n hx hb dX6_version_98 rfl (lv_at hl 1 rfl) ?_
      obtain ⟨hq3, hF⟩ := ifs hF
      refine x_getr cx h fa_X6_29 (f := 252) rfl hq3 dX6_version_99 ?_
      refine lv_iload hx hb dX6_version_102 (lv_at hl 8 rfl) ?_
      obtain ⟨hq4, hF⟩ := ifs hF
      refine x_iald cx h hq4.1 (inb.vp hq4.2) dX6_version_104 ?_
      refine x_aload_n hx hb dX6_version_105 rfl (lv_at hl 1 rfl) ?_
      refine x_getr cx h fa_X6_29 (f := 252) rfl hq3 dX6_version_106 ?_
      refine lv_iload hx hb dX6_version_109 (lv_at hl 6 rfl) ?_
      obtain ⟨hq5, hF⟩ := ifs hF
      refine x_iald cx h hq5.1 (inb.vp hq5.2) dX6_version_111 ?_
      refine lv_icmp_le (tgt := 120) hx hb dX6_version_112 (by decide) (fun c6 => ?_) (fun c6 => ?_)
      · replace hF := ifp c6 hF
        exact w_X6_version_120 (σ := σ) cx mk36 mk48 hk36 hk48 x0 x3 x4 x5 x6 x7 x8 x9 h g (lv_sub hl [1, 2, 3, 4, 5, 6, 7, 8] rfl) hF
      · replace hF := ifn c6 hF
        exact w_X6_version_115 (σ := σ) cx mk36 mk48 hk36 hk48 x0 x3 x4 x5 x6 x8 x9 h g (lv_sub hl [1, 2, 3, 4, 5, 7, 8] rfl) hF
def B_X6_version_85 (k36 : Nat → Int32 → Int32 → Int32 → Int32 → Int32 → Int32 → HS → Option (Int32 × HS)) (k48 : Nat → Int32 → Int32 → Int32 → Int32 → Int32 → Int32 → Int32 → HS → Option (Int32 × HS)) (x0 : Nat) (x3 : Int32) (x4 : Int32) (x5 : Int32) (x6 : Int32) (x7 : Int32) (x8 : Int32) (x9 : Int32) (σ : HS) : Option (Int32 × HS) :=
  B_X6_version_86 k36 k48 x0 x3 x4 x5 x6 x7 x8 x9 (0 : Int32) σ
theorem mo_B_X6_version_85 {k36 : Nat → Int32 → Int32 → Int32 → Int32 → Int32 → Int32 → HS → Option (Int32 × HS)} {k48 : Nat → Int32 → Int32 → Int32 → Int32 → Int32 → Int32 → Int32 → HS → Option (Int32 × HS)} (mk36 : ∀ x0 x3 x4 x5 x6 x7 x8 σ, Mo σ (k36 x0 x3 x4 x5 x6 x7 x8 σ)) (mk48 : ∀ x0 x3 x4 x5 x6 x7 x8 x9 σ, Mo σ (k48 x0 x3 x4 x5 x6 x7 x8 x9 σ)) (x0 : Nat) (x3 : Int32) (x4 : Int32) (x5 : Int32) (x6 : Int32) (x7 : Int32) (x8 : Int32) (x9 : Int32) (σ : HS) : Mo σ (B_X6_version_85 k36 k48 x0 x3 x4 x5 x6 x7 x8 x9 σ) := by
  unfold B_X6_version_85
  exact (mo_B_X6_version_86 mk36 mk48 x0 x3 x4 x5 x6 x7 x8 x9 (0 : Int32) _)
set_option maxHeartbeats 4000000 in
set_option maxRecDepth 100000 in
theorem w_X6_version_85 {p : Program} {l : Launch} {e : Env} {s : State} {m : MethodId} {args : Array Value} {below : List Frame} {meth : Method} {c : Code} {D : va_G} {dA : Nat → ClassId} {base : Nat} {σ0 τ : HS} {r : Int32} (cx : CX p s m args meth c cX6_version 11 (some .int) RX6 "version" D dA base) {k36 : Nat → Int32 → Int32 → Int32 → Int32 → Int32 → Int32 → HS → Option (Int32 × HS)} {k48 : Nat → Int32 → Int32 → Int32 → Int32 → Int32 → Int32 → Int32 → HS → Option (Int32 × HS)} (mk36 : ∀ x0 x3 x4 x5 x6 x7 x8 σ, Mo σ (k36 x0 x3 x4 x5 x6 x7 x8 σ)) (mk48 : ∀ x0 x3 x4 x5 x6 x7 x8 x9 σ, Mo σ (k48 x0 x3 x4 x5 x6 x7 x8 x9 σ)) (hk36 : ∀ x0 x3 x4 x5 x6 x7 x8 σ H locs ls, Wd D dA base σ s H locs → LE σ0 σ → lv_has ls 11 [(0, vr x0), (3, .int x3), (4, .int x4), (5, .int x5), (6, .int x6), (7, .int x7), (8, .int x8)] → k36 x0 x3 x4 x5 x6 x7 x8 σ = some (r, τ) → WG p l e s m args below meth c D dA base 2 43 (some (.int r)) σ0 τ σ H locs 36 ls []) (hk48 : ∀ x0 x3 x4 x5 x6 x7 x8 x9 σ H locs ls, Wd D dA base σ s H locs → LE σ0 σ → lv_has ls 11 [(0, vr x0), (3, .int x3), (4, .int x4), (5, .int x5), (6, .int x6), (7, .int x7), (8, .int x8), (9, .int x9)] → k48 x0 x3 x4 x5 x6 x7 x8 x9 σ = some (r, τ) → WG p l e s m args below meth c D dA base 2 43 (some (.int r)) σ0 τ σ H locs 48 ls []) (x0 : Nat) (x3 : Int32) (x4 : Int32) (x5 : Int32) (x6 : Int32) (x7 : Int32) (x8 : Int32) (x9 : Int32) {σ : HS} {H : Heap} {locs : List Loc} {ls : Array Slot} (h : Wd D dA base σ s H locs) (g : LE σ0 σ) (hl : lv_has ls 11 [(0, vr x0), (3, .int x3), (4, .int x4), (5, .int x5), (6, .int x6), (7, .int x7), (8, .int x8), (9, .int x9)]) (hF : B_X6_version_85 k36 k48 x0 x3 x4 x5 x6 x7 x8 x9 σ = some (r, τ)) : WG p l e s m args below meth c D dA base 2 43 (some (.int r)) σ0 τ σ H locs 85 ls [] := by
  obtain ⟨hx, hb, -⟩ := id cx
  unfold B_X6_version_85 at hF
  refine lv_iconst (v := (0 : Int32)) hx hb dX6_version_85 (by decide) ?_
  exact w_X6_version_86 (σ := σ) cx mk36 mk48 hk36 hk48 x0 x3 x4 x5 x6 x7 x8 x9 (0 : Int32) h g (lv_sub hl [0, 1, 2, 3, 4, 5, 6, 7] rfl) hF
def B_X6_version_48 (k36 : Nat → Int32 → Int32 → Int32 → Int32 → Int32 → Int32 → HS → Option (Int32 × HS)) (k48 : Nat → Int32 → Int32 → Int32 → Int32 → Int32 → Int32 → Int32 → HS → Option (Int32 × HS)) (x0 : Nat) (x3 : Int32) (x4 : Int32) (x5 : Int32) (x6 : Int32) (x7 : Int32) (x8 : Int32) (x9 : Int32) (σ : HS) : Option (Int32 × HS) :=
  if kd σ x0 = 7 then (if (gi σ 250 x0) ≤ x9 then (if 0 ≤ x7 then (if kd σ (gr σ 252 x0) = 100 ∧ inb x7 (ln σ (gr σ 252 x0)) then (k36 x0 x3 x4 x5 (ai σ (gr σ 252 x0) x7.toNatClampNeg) x7 (x8 + (1 : Int32)) σ) else none) else (some ((-1 : Int32), σ))) else (if kd σ (gr σ 251 x0) = 100 ∧ inb x9 (ln σ (gr σ 251 x0)) then (if (ai σ (gr σ 251 x0) x9.toNatClampNeg) = x5 then (if kd σ (gr σ 252 x0) = 100 ∧ inb x9 (ln σ (gr σ 252 x0)) then (if x6 ≤ (ai σ (gr σ 252 x0) x9.toNatClampNeg) then (B_X6_version_85 k36 k48 x0 x3 x4 x5 x6 x7 x8 x9 σ) else (B_X6_version_86 k36 k48 x0 x3 x4 x5 x6 x7 x8 x9 (1 : Int32) σ)) else none) else (B_X6_version_85 k36 k48 x0 x3 x4 x5 x6 x7 x8 x9 σ)) else none)) else none
theorem mo_B_X6_version_48 {k36 : Nat → Int32 → Int32 → Int32 → Int32 → Int32 → Int32 → HS → Option (Int32 × HS)} {k48 : Nat → Int32 → Int32 → Int32 → Int32 → Int32 → Int32 → Int32 → HS → Option (Int32 × HS)} (mk36 : ∀ x0 x3 x4 x5 x6 x7 x8 σ, Mo σ (k36 x0 x3 x4 x5 x6 x7 x8 σ)) (mk48 : ∀ x0 x3 x4 x5 x6 x7 x8 x9 σ, Mo σ (k48 x0 x3 x4 x5 x6 x7 x8 x9 σ)) (x0 : Nat) (x3 : Int32) (x4 : Int32) (x5 : Int32) (x6 : Int32) (x7 : Int32) (x8 : Int32) (x9 : Int32) (σ : HS) : Mo σ (B_X6_version_48 k36 k48 x0 x3 x4 x5 x6 x7 x8 x9 σ) := by
  unfold B_X6_version_48
  exact (mo_ite (mo_ite (mo_ite (mo_ite (mk36 x0 x3 x4 x5 (ai σ (gr σ 252 x0) x7.toNatClampNeg) x7 (x8 + (1 : Int32)) _) mo_none) mo_ret) (mo_ite (mo_ite (mo_ite (mo_ite (mo_B_X6_version_85 mk36 mk48 x0 x3 x4 x5 x6 x7 x8 x9 _) (mo_B_X6_version_86 mk36 mk48 x0 x3 x4 x5 x6 x7 x8 x9 (1 : Int32) _)) mo_none) (mo_B_X6_version_85 mk36 mk48 x0 x3 x4 x5 x6 x7 x8 x9 _)) mo_none)) mo_none)
set_option maxHeartbeats 4000000 in
set_option maxRecDepth 100000 in
theorem w_X6_version_48 {p : Program} {l : Launch} {e : Env} {s : State} {m : MethodId} {args : Array Value} {below : List Frame} {meth : Method} {c : Code} {D : va_G} {dA : Nat → ClassId} {base : Nat} {σ0 τ : HS} {r : Int32} (cx : CX p s m args meth c cX6_version 11 (some .int) RX6 "version" D dA base) {k36 : Nat → Int32 → Int32 → Int32 → Int32 → Int32 → Int32 → HS → Option (Int32 × HS)} {k48 : Nat → Int32 → Int32 → Int32 → Int32 → Int32 → Int32 → Int32 → HS → Option (Int32 × HS)} (mk36 : ∀ x0 x3 x4 x5 x6 x7 x8 σ, Mo σ (k36 x0 x3 x4 x5 x6 x7 x8 σ)) (mk48 : ∀ x0 x3 x4 x5 x6 x7 x8 x9 σ, Mo σ (k48 x0 x3 x4 x5 x6 x7 x8 x9 σ)) (hk36 : ∀ x0 x3 x4 x5 x6 x7 x8 σ H locs ls, Wd D dA base σ s H locs → LE σ0 σ → lv_has ls 11 [(0, vr x0), (3, .int x3), (4, .int x4), (5, .int x5), (6, .int x6), (7, .int x7), (8, .int x8)] → k36 x0 x3 x4 x5 x6 x7 x8 σ = some (r, τ) → WG p l e s m args below meth c D dA base 2 43 (some (.int r)) σ0 τ σ H locs 36 ls []) (hk48 : ∀ x0 x3 x4 x5 x6 x7 x8 x9 σ H locs ls, Wd D dA base σ s H locs → LE σ0 σ → lv_has ls 11 [(0, vr x0), (3, .int x3), (4, .int x4), (5, .int x5), (6, .int x6), (7, .int x7), (8, .int x8), (9, .int x9)] → k48 x0 x3 x4 x5 x6 x7 x8 x9 σ = some (r, τ) → WG p l e s m args below meth c D dA base 2 43 (some (.int r)) σ0 τ σ H locs 48 ls []) (x0 : Nat) (x3 : Int32) (x4 : Int32) (x5 : Int32) (x6 : Int32) (x7 : Int32) (x8 : Int32) (x9 : Int32) {σ : HS} {H : Heap} {locs : List Loc} {ls : Array Slot} (h : Wd D dA base σ s H locs) (g : LE σ0 σ) (hl : lv_has ls 11 [(0, vr x0), (3, .int x3), (4, .int x4), (5, .int x5), (6, .int x6), (7, .int x7), (8, .int x8), (9, .int x9)]) (hF : B_X6_version_48 k36 k48 x0 x3 x4 x5 x6 x7 x8 x9 σ = some (r, τ)) : WG p l e s m args below meth c D dA base 2 43 (some (.int r)) σ0 τ σ H locs 48 ls [] := by
  obtain ⟨hx, hb, -⟩ := id cx
  unfold B_X6_version_48 at hF
  refine lv_iload hx hb dX6_version_48 (lv_at hl 7 rfl) ?_
  refine x_aload_n hx hb dX6_version_50 rfl (lv_at hl 0 rfl) ?_
  obtain ⟨hq1, hF⟩ := ifs hF
  refine x_geti cx h fa_X6_81 (f := 250) rfl hq1 dX6_version_51 ?_
  refine lv_icmp_ge (tgt := 130) hx hb dX6_version_54 (by decide) (fun c2 => ?_) (fun c2 => ?_)
  · replace hF := ifp c2 hF
    refine lv_iload hx hb dX6_version_130 (lv_at hl 5 rfl) ?_
    refine lv_if_ge (tgt := 137) hx hb dX6_version_132 (by decide) (fun c3 => ?_) (fun c3 => ?_)
    · replace hF := ifp c3 hF
      refine x_aload_n hx hb dX6_version_137 rfl (lv_at hl 0 rfl) ?_
      refine x_getr cx h fa_X6_29 (f := 252) rfl hq1 dX6_version_138 ?_
      refine lv_iload hx hb dX6_version_141 (lv_at hl 5 rfl) ?_
      obtain ⟨hq4, hF⟩ := ifs hF
      refine x_iald cx h hq4.1 (inb.vp hq4.2) dX6_version_143 ?_
      refine x_istore (lv' := [(6, .int (ai σ (gr σ 252 x0) x7.toNatClampNeg)), (0, vr x0), (3, .int x3), (4, .int x4), (5, .int x5), (7, .int x7), (8, .int x8), (9, .int x9)]) hx hb dX6_version_144 hl (by decide) (cR (cI (cI (cI (cI (cI (cI (cI cN)))))))) rfl (fun ls hl => ?_)
      refine x_iinc (k := 6) (v := (1 : Int32)) (lv' := [(8, .int (x8 + (1 : Int32))), (6, .int (ai σ (gr σ 252 x0) x7.toNatClampNeg)), (0, vr x0), (3, .int x3), (4, .int x4), (5, .int x5), (7, .int x7), (9, .int x9)]) hx hb dX6_version_146 hl rfl (by decide) (by decide) (cI (cR (cI (cI (cI (cI (cI (cI cN)))))))) rfl (fun ls hl => ?_)
      refine lv_goto (tgt := 36) hx hb dX6_version_149 (by decide) ?_
      exact hk36 x0 x3 x4 x5 (ai σ (gr σ 252 x0) x7.toNatClampNeg) x7 (x8 + (1 : Int32)) σ _ _ _ h g (lv_sub hl [2, 3, 4, 5, 1, 6, 0] rfl) hF
    · replace hF := ifn c3 hF
      refine lv_iconst (v := (-1 : Int32)) hx hb dX6_version_135 (by decide) ?_
      obtain ⟨rfl, rfl⟩ := rts hF
      exact x_iret cx h dX6_version_136
  · replace hF := ifn c2 hF
    refine x_aload_n hx hb dX6_version_57 rfl (lv_at hl 0 rfl) ?_
    refine x_getr cx h fa_X6_26 (f := 251) rfl hq1 dX6_version_58 ?_
    refine lv_iload hx hb dX6_version_61 (lv_at hl 7 rfl) ?_
    obtain ⟨hq5, hF⟩ := ifs hF
    refine x_iald cx h hq5.1 (inb.vp hq5.2) dX6_version_63 ?_
    refine lv_iload hx hb dX6_version_64 (lv_at hl 3 rfl) ?_
    refine lv_icmp_ne (tgt := 85) hx hb dX6_version_66 (by decide) (fun c6 => ?_) (fun c6 => ?_)
    · replace hF := ifn c6 hF
      exact w_X6_version_85 (σ := σ) cx mk36 mk48 hk36 hk48 x0 x3 x4 x5 x6 x7 x8 x9 h g (lv_sub hl [0, 1, 2, 3, 4, 5, 6, 7] rfl) hF
    · replace hF := ifp c6 hF
      refine x_aload_n hx hb dX6_version_69 rfl (lv_at hl 0 rfl) ?_
      refine x_getr cx h fa_X6_29 (f := 252) rfl hq1 dX6_version_70 ?_
      refine lv_iload hx hb dX6_version_73 (lv_at hl 7 rfl) ?_
      obtain ⟨hq7, hF⟩ := ifs hF
      refine x_iald cx h hq7.1 (inb.vp hq7.2) dX6_version_75 ?_
      refine lv_iload hx hb dX6_version_76 (lv_at hl 4 rfl) ?_
      refine lv_icmp_ge (tgt := 85) hx hb dX6_version_78 (by decide) (fun c8 => ?_) (fun c8 => ?_)
      · replace hF := ifp c8 hF
        exact w_X6_version_85 (σ := σ) cx mk36 mk48 hk36 hk48 x0 x3 x4 x5 x6 x7 x8 x9 h g (lv_sub hl [0, 1, 2, 3, 4, 5, 6, 7] rfl) hF
      · replace hF := ifn c8 hF
        refine lv_iconst (v := (1 : Int32)) hx hb dX6_version_81 (by decide) ?_
        refine lv_goto (tgt := 86) hx hb dX6_version_82 (by decide) ?_
        exact w_X6_version_86 (σ := σ) cx mk36 mk48 hk36 hk48 x0 x3 x4 x5 x6 x7 x8 x9 (1 : Int32) h g (lv_sub hl [0, 1, 2, 3, 4, 5, 6, 7] rfl) hF
def L_X6_version_48 (k36 : Nat → Int32 → Int32 → Int32 → Int32 → Int32 → Int32 → HS → Option (Int32 × HS)) : Nat → Nat → Int32 → Int32 → Int32 → Int32 → Int32 → Int32 → Int32 → HS → Option (Int32 × HS)
  | 0, _, _, _, _, _, _, _, _, _ => none
  | N + 1, x0, x3, x4, x5, x6, x7, x8, x9, σ => B_X6_version_48 k36 (L_X6_version_48 k36 N) x0 x3 x4 x5 x6 x7 x8 x9 σ
theorem mo_L_X6_version_48 {k36 : Nat → Int32 → Int32 → Int32 → Int32 → Int32 → Int32 → HS → Option (Int32 × HS)} (mk36 : ∀ x0 x3 x4 x5 x6 x7 x8 σ, Mo σ (k36 x0 x3 x4 x5 x6 x7 x8 σ)) : ∀ (N : Nat) (x0 : Nat) (x3 : Int32) (x4 : Int32) (x5 : Int32) (x6 : Int32) (x7 : Int32) (x8 : Int32) (x9 : Int32) (σ : HS), Mo σ (L_X6_version_48 k36 N x0 x3 x4 x5 x6 x7 x8 x9 σ) := by
  intro N
  induction N with
  | zero => intro x0 x3 x4 x5 x6 x7 x8 x9 σ; exact mo_none
  | succ N ih => intro x0 x3 x4 x5 x6 x7 x8 x9 σ; exact mo_B_X6_version_48 mk36 ih x0 x3 x4 x5 x6 x7 x8 x9 σ
theorem wl_X6_version_48 {p : Program} {l : Launch} {e : Env} {s : State} {m : MethodId} {args : Array Value} {below : List Frame} {meth : Method} {c : Code} {D : va_G} {dA : Nat → ClassId} {base : Nat} {σ0 τ : HS} {r : Int32} (cx : CX p s m args meth c cX6_version 11 (some .int) RX6 "version" D dA base) {k36 : Nat → Int32 → Int32 → Int32 → Int32 → Int32 → Int32 → HS → Option (Int32 × HS)} (mk36 : ∀ x0 x3 x4 x5 x6 x7 x8 σ, Mo σ (k36 x0 x3 x4 x5 x6 x7 x8 σ)) (hk36 : ∀ x0 x3 x4 x5 x6 x7 x8 σ H locs ls, Wd D dA base σ s H locs → LE σ0 σ → lv_has ls 11 [(0, vr x0), (3, .int x3), (4, .int x4), (5, .int x5), (6, .int x6), (7, .int x7), (8, .int x8)] → k36 x0 x3 x4 x5 x6 x7 x8 σ = some (r, τ) → WG p l e s m args below meth c D dA base 2 43 (some (.int r)) σ0 τ σ H locs 36 ls []) : ∀ (N : Nat) (x0 : Nat) (x3 : Int32) (x4 : Int32) (x5 : Int32) (x6 : Int32) (x7 : Int32) (x8 : Int32) (x9 : Int32) (σ : HS) (H : Heap) (locs : List Loc) (ls : Array Slot), Wd D dA base σ s H locs → LE σ0 σ → lv_has ls 11 [(0, vr x0), (3, .int x3), (4, .int x4), (5, .int x5), (6, .int x6), (7, .int x7), (8, .int x8), (9, .int x9)] → L_X6_version_48 k36 N x0 x3 x4 x5 x6 x7 x8 x9 σ = some (r, τ) → WG p l e s m args below meth c D dA base 2 43 (some (.int r)) σ0 τ σ H locs 48 ls [] := by
  intro N
  induction N with
  | zero => intro x0 x3 x4 x5 x6 x7 x8 x9 σ H locs ls h g hl hF; cases hF
  | succ N ih => intro x0 x3 x4 x5 x6 x7 x8 x9 σ H locs ls h g hl hF; exact w_X6_version_48 cx mk36 (mo_L_X6_version_48 mk36 N) hk36 ih x0 x3 x4 x5 x6 x7 x8 x9 h g hl hF
def B_X6_version_36 (k36 : Nat → Int32 → Int32 → Int32 → Int32 → Int32 → Int32 → HS → Option (Int32 × HS)) (x0 : Nat) (x3 : Int32) (x4 : Int32) (x5 : Int32) (x6 : Int32) (x7 : Int32) (x8 : Int32) (σ : HS) : Option (Int32 × HS) :=
  if x3 < x8 then (bd (F_X6_in x4 (0 : Int32) (2 : Int32) σ) (fun r2 σ2 => if r2 = 0 then (some ((-2 : Int32), σ2)) else (if kd σ2 x0 = 7 then (if kd σ2 (gr σ2 253 x0) = 100 ∧ inb x7 (ln σ2 (gr σ2 253 x0)) then (bd (F_X6_dataAt x0 x5 (ai σ2 (gr σ2 253 x0) x7.toNatClampNeg) σ2) (fun r6 σ6 => if x4 = 0 then (if kd σ6 x0 = 7 then (if kd σ6 (gr σ6 252 x0) = 100 ∧ inb x7 (ln σ6 (gr σ6 252 x0)) then (B_X6_version_241  (ai σ6 (gr σ6 252 x0) x7.toNatClampNeg) σ6) else none) else none) else (if kd σ6 x0 = 7 then (if kd σ6 (gr σ6 254 x0) = 101 ∧ inb x7 (ln σ6 (gr σ6 254 x0)) then (if (ai σ6 (gr σ6 254 x0) x7.toNatClampNeg) = 0 then (if x4 = (1 : Int32) then (if kd σ6 (gr σ6 253 x0) = 100 ∧ inb x7 (ln σ6 (gr σ6 253 x0)) then (B_X6_version_241  (ai σ6 (gr σ6 253 x0) x7.toNatClampNeg) σ6) else none) else (if 0 ≤ r6 then (if kd σ6 (gr σ6 249 x0) = 100 ∧ inb r6 (ln σ6 (gr σ6 249 x0)) then (B_X6_version_241  (ai σ6 (gr σ6 249 x0) r6.toNatClampNeg) σ6) else none) else (B_X6_version_241  (0 : Int32) σ6))) else (B_X6_version_241  (0 : Int32) σ6)) else none) else none))) else none) else none))) else (L_X6_version_48 k36 NF x0 x3 x4 x5 x6 (-1 : Int32) x8 (0 : Int32) σ)
theorem mo_B_X6_version_36 {k36 : Nat → Int32 → Int32 → Int32 → Int32 → Int32 → Int32 → HS → Option (Int32 × HS)} (mk36 : ∀ x0 x3 x4 x5 x6 x7 x8 σ, Mo σ (k36 x0 x3 x4 x5 x6 x7 x8 σ)) (x0 : Nat) (x3 : Int32) (x4 : Int32) (x5 : Int32) (x6 : Int32) (x7 : Int32) (x8 : Int32) (σ : HS) : Mo σ (B_X6_version_36 k36 x0 x3 x4 x5 x6 x7 x8 σ) := by
  unfold B_X6_version_36
  exact (mo_ite (mo_bd (mo_F_X6_in x4 (0 : Int32) (2 : Int32) _) (fun r2 σ2 => (mo_ite mo_ret (mo_ite (mo_ite (mo_bd (mo_F_X6_dataAt x0 x5 (ai σ2 (gr σ2 253 x0) x7.toNatClampNeg) _) (fun r6 σ6 => (mo_ite (mo_ite (mo_ite (mo_B_X6_version_241  (ai σ6 (gr σ6 252 x0) x7.toNatClampNeg) _) mo_none) mo_none) (mo_ite (mo_ite (mo_ite (mo_ite (mo_ite (mo_B_X6_version_241  (ai σ6 (gr σ6 253 x0) x7.toNatClampNeg) _) mo_none) (mo_ite (mo_ite (mo_B_X6_version_241  (ai σ6 (gr σ6 249 x0) r6.toNatClampNeg) _) mo_none) (mo_B_X6_version_241  (0 : Int32) _))) (mo_B_X6_version_241  (0 : Int32) _)) mo_none) mo_none)))) mo_none) mo_none)))) (mo_L_X6_version_48 mk36 NF x0 x3 x4 x5 x6 (-1 : Int32) x8 (0 : Int32) _))
set_option maxHeartbeats 4000000 in
set_option maxRecDepth 100000 in
theorem w_X6_version_36 {p : Program} {l : Launch} {e : Env} {s : State} {m : MethodId} {args : Array Value} {below : List Frame} {meth : Method} {c : Code} {D : va_G} {dA : Nat → ClassId} {base : Nat} {σ0 τ : HS} {r : Int32} (cx : CX p s m args meth c cX6_version 11 (some .int) RX6 "version" D dA base) {k36 : Nat → Int32 → Int32 → Int32 → Int32 → Int32 → Int32 → HS → Option (Int32 × HS)} (mk36 : ∀ x0 x3 x4 x5 x6 x7 x8 σ, Mo σ (k36 x0 x3 x4 x5 x6 x7 x8 σ)) (hk36 : ∀ x0 x3 x4 x5 x6 x7 x8 σ H locs ls, Wd D dA base σ s H locs → LE σ0 σ → lv_has ls 11 [(0, vr x0), (3, .int x3), (4, .int x4), (5, .int x5), (6, .int x6), (7, .int x7), (8, .int x8)] → k36 x0 x3 x4 x5 x6 x7 x8 σ = some (r, τ) → WG p l e s m args below meth c D dA base 2 43 (some (.int r)) σ0 τ σ H locs 36 ls []) (x0 : Nat) (x3 : Int32) (x4 : Int32) (x5 : Int32) (x6 : Int32) (x7 : Int32) (x8 : Int32) {σ : HS} {H : Heap} {locs : List Loc} {ls : Array Slot} (h : Wd D dA base σ s H locs) (g : LE σ0 σ) (hl : lv_has ls 11 [(0, vr x0), (3, .int x3), (4, .int x4), (5, .int x5), (6, .int x6), (7, .int x7), (8, .int x8)]) (hF : B_X6_version_36 k36 x0 x3 x4 x5 x6 x7 x8 σ = some (r, τ)) : WG p l e s m args below meth c D dA base 2 43 (some (.int r)) σ0 τ σ H locs 36 ls [] := by
  obtain ⟨hx, hb, -⟩ := id cx
  unfold B_X6_version_36 at hF
  refine lv_iload hx hb dX6_version_36 (lv_at hl 6 rfl) ?_
  refine lv_iload_n hx hb dX6_version_38 rfl (lv_at hl 1 rfl) ?_
  refine lv_icmp_gt (tgt := 152) hx hb dX6_version_39 (by decide) (fun c1 => ?_) (fun c1 => ?_)
  · replace hF := ifp c1 hF
    refine lv_iload hx hb dX6_version_152 (lv_at hl 2 rfl) ?_
    refine lv_iconst (v := (0 : Int32)) hx hb dX6_version_154 (by decide) ?_
    refine lv_iconst (v := (2 : Int32)) hx hb dX6_version_155 (by decide) ?_
    obtain ⟨r2, σ2, hc2, hF⟩ := bds hF
    refine x_calli (σ := σ) g (LEm hc2 (mo_F_X6_in x4 (0 : Int32) (2 : Int32) _)) (x_runS (As := [.int x4, .int (0 : Int32), .int (2 : Int32)]) (rest := []) cx h (c_X6_in l D dA base x4 (0 : Int32) (2 : Int32) hc2) ml_X6_134 mi_X6_in rfl ⟨Nat.le_of_ble_eq_true rfl, Nat.le_of_ble_eq_true rfl⟩ hl.1 rfl (s8 sN (by decide)) dX6_version_156 (le_room g (LEm hc2 (mo_F_X6_in x4 (0 : Int32) (2 : Int32) _)) (LEm hF (mo_ite mo_ret (mo_ite (mo_ite (mo_bd (mo_F_X6_dataAt x0 x5 (ai σ2 (gr σ2 253 x0) x7.toNatClampNeg) _) (fun r6 σ6 => (mo_ite (mo_ite (mo_ite (mo_B_X6_version_241  (ai σ6 (gr σ6 252 x0) x7.toNatClampNeg) _) mo_none) mo_none) (mo_ite (mo_ite (mo_ite (mo_ite (mo_ite (mo_B_X6_version_241  (ai σ6 (gr σ6 253 x0) x7.toNatClampNeg) _) mo_none) (mo_ite (mo_ite (mo_B_X6_version_241  (ai σ6 (gr σ6 249 x0) r6.toNatClampNeg) _) mo_none) (mo_B_X6_version_241  (0 : Int32) _))) (mo_B_X6_version_241  (0 : Int32) _)) mo_none) mo_none)))) mo_none) mo_none))))) h (fun H locs h g => ?_)
    refine lv_if_ne (tgt := 165) hx hb dX6_version_159 (by decide) (fun c3 => ?_) (fun c3 => ?_)
    · replace hF := ifn c3 hF
      refine x_aload_n hx hb dX6_version_165 rfl (lv_at hl 0 rfl) ?_
      refine lv_iload hx hb dX6_version_166 (lv_at hl 3 rfl) ?_
      refine x_aload_n hx hb dX6_version_168 rfl (lv_at hl 0 rfl) ?_
      obtain ⟨hq4, hF⟩ := ifs hF
      refine x_getr cx h fa_X6_32 (f := 253) rfl hq4 dX6_version_169 ?_
      refine lv_iload hx hb dX6_version_172 (lv_at hl 5 rfl) ?_
      obtain ⟨hq5, hF⟩ := ifs hF
      refine x_iald cx h hq5.1 (inb.vp hq5.2) dX6_version_174 ?_
      obtain ⟨r6, σ6, hc6, hF⟩ := bds hF
      refine x_calli (σ := σ2) g (LEm hc6 (mo_F_X6_dataAt x0 x5 (ai σ2 (gr σ2 253 x0) x7.toNatClampNeg) _)) (x_runV (As := [.int x5, .int (ai σ2 (gr σ2 253 x0) x7.toNatClampNeg)]) (rest := []) cx h (c_X6_dataAt l D dA base x0 x5 (ai σ2 (gr σ2 253 x0) x7.toNatClampNeg) hc6) ml_X6_99 mi_X6_dataAt hq4 rfl ⟨Nat.le_of_ble_eq_true rfl, Nat.le_of_ble_eq_true rfl⟩ hl.1 rfl (s8 sN (by decide)) dX6_version_175 (le_room g (LEm hc6 (mo_F_X6_dataAt x0 x5 (ai σ2 (gr σ2 253 x0) x7.toNatClampNeg) _)) (LEm hF (mo_ite (mo_ite (mo_ite (mo_B_X6_version_241  (ai σ6 (gr σ6 252 x0) x7.toNatClampNeg) _) mo_none) mo_none) (mo_ite (mo_ite (mo_ite (mo_ite (mo_ite (mo_B_X6_version_241  (ai σ6 (gr σ6 253 x0) x7.toNatClampNeg) _) mo_none) (mo_ite (mo_ite (mo_B_X6_version_241  (ai σ6 (gr σ6 249 x0) r6.toNatClampNeg) _) mo_none) (mo_B_X6_version_241  (0 : Int32) _))) (mo_B_X6_version_241  (0 : Int32) _)) mo_none) mo_none))))) h (fun H locs h g => ?_)
      refine x_istore (lv' := [(8, .int r6), (0, vr x0), (3, .int x3), (4, .int x4), (5, .int x5), (6, .int x6), (7, .int x7)]) hx hb dX6_version_178 hl (by decide) (cR (cI (cI (cI (cI (cI (cI cN))))))) rfl (fun ls hl => ?_)
      refine lv_iload hx hb dX6_version_180 (lv_at hl 3 rfl) ?_
      refine lv_if_ne (tgt := 195) hx hb dX6_version_182 (by decide) (fun c7 => ?_) (fun c7 => ?_)
      · replace hF := ifn c7 hF
        refine x_aload_n hx hb dX6_version_195 rfl (lv_at hl 1 rfl) ?_
        obtain ⟨hq8, hF⟩ := ifs hF
        refine x_getr cx h fa_X6_35 (f := 254) rfl hq8 dX6_version_196 ?_
        refine lv_iload hx hb dX6_version_199 (lv_at hl 6 rfl) ?_
        obtain ⟨hq9, hF⟩ := ifs hF
        refine x_zald cx h hq9.1 (inb.vp hq9.2) dX6_version_201 ?_
        refine lv_if_eq (tgt := 209) hx hb dX6_version_202 (by decide) (fun c10 => ?_) (fun c10 => ?_)
        · replace hF := ifp c10 hF
          refine lv_iload hx hb dX6_version_209 (lv_at hl 3 rfl) ?_
          refine lv_iconst (v := (1 : Int32)) hx hb dX6_version_211 (by decide) ?_
          refine lv_icmp_ne (tgt := 225) hx hb dX6_version_212 (by decide) (fun c11 => ?_) (fun c11 => ?_)
          · replace hF := ifn c11 hF
            refine lv_iload hx hb dX6_version_225 (lv_at hl 0 rfl) ?_
            refine lv_if_ge (tgt := 234) hx hb dX6_version_227 (by decide) (fun c12 => ?_) (fun c12 => ?_)
            · replace hF := ifp c12 hF
              refine x_aload_n hx hb dX6_version_234 rfl (lv_at hl 1 rfl) ?_
              refine x_getr cx h fa_X6_23 (f := 249) rfl hq8 dX6_version_235 ?_
              refine lv_iload hx hb dX6_version_238 (lv_at hl 0 rfl) ?_
              obtain ⟨hq13, hF⟩ := ifs hF
              refine x_iald cx h hq13.1 (inb.vp hq13.2) dX6_version_240 ?_
              exact w_X6_version_241 (σ := σ6) cx   (ai σ6 (gr σ6 249 x0) r6.toNatClampNeg) h g (lv_sub hl [] rfl) hF
            · replace hF := ifn c12 hF
              refine lv_iconst (v := (0 : Int32)) hx hb dX6_version_230 (by decide) ?_
              refine lv_goto (tgt := 241) hx hb dX6_version_231 (by decide) ?_
              exact w_X6_version_241 (σ := σ6) cx   (0 : Int32) h g (lv_sub hl [] rfl) hF
          · replace hF := ifp c11 hF
            refine x_aload_n hx hb dX6_version_215 rfl (lv_at hl 1 rfl) ?_
            refine x_getr cx h fa_X6_32 (f := 253) rfl hq8 dX6_version_216 ?_
            refine lv_iload hx hb dX6_version_219 (lv_at hl 6 rfl) ?_
            obtain ⟨hq14, hF⟩ := ifs hF
            refine x_iald cx h hq14.1 (inb.vp hq14.2) dX6_version_221 ?_
            refine lv_goto (tgt := 241) hx hb dX6_version_222 (by decide) ?_
            exact w_X6_version_241 (σ := σ6) cx   (ai σ6 (gr σ6 253 x0) x7.toNatClampNeg) h g (lv_sub hl [] rfl) hF
        · replace hF := ifn c10 hF
          refine lv_iconst (v := (0 : Int32)) hx hb dX6_version_205 (by decide) ?_
          refine lv_goto (tgt := 241) hx hb dX6_version_206 (by decide) ?_
          exact w_X6_version_241 (σ := σ6) cx   (0 : Int32) h g (lv_sub hl [] rfl) hF
      · replace hF := ifp c7 hF
        refine x_aload_n hx hb dX6_version_185 rfl (lv_at hl 1 rfl) ?_
        obtain ⟨hq15, hF⟩ := ifs hF
        refine x_getr cx h fa_X6_29 (f := 252) rfl hq15 dX6_version_186 ?_
        refine lv_iload hx hb dX6_version_189 (lv_at hl 6 rfl) ?_
        obtain ⟨hq16, hF⟩ := ifs hF
        refine x_iald cx h hq16.1 (inb.vp hq16.2) dX6_version_191 ?_
        refine lv_goto (tgt := 241) hx hb dX6_version_192 (by decide) ?_
        exact w_X6_version_241 (σ := σ6) cx   (ai σ6 (gr σ6 252 x0) x7.toNatClampNeg) h g (lv_sub hl [] rfl) hF
    · replace hF := ifp c3 hF
      refine lv_bipush (v := (-2 : Int32)) hx hb dX6_version_162 (by decide) ?_
      obtain ⟨rfl, rfl⟩ := rts hF
      exact x_iret cx h dX6_version_164
  · replace hF := ifn c1 hF
    refine lv_iconst (v := (-1 : Int32)) hx hb dX6_version_42 (by decide) ?_
    refine x_istore (lv' := [(7, .int (-1 : Int32)), (0, vr x0), (3, .int x3), (4, .int x4), (5, .int x5), (6, .int x6), (8, .int x8)]) hx hb dX6_version_43 hl (by decide) (cR (cI (cI (cI (cI (cI (cI cN))))))) rfl (fun ls hl => ?_)
    refine lv_iconst (v := (0 : Int32)) hx hb dX6_version_45 (by decide) ?_
    refine x_istore (lv' := [(9, .int (0 : Int32)), (7, .int (-1 : Int32)), (0, vr x0), (3, .int x3), (4, .int x4), (5, .int x5), (6, .int x6), (8, .int x8)]) hx hb dX6_version_46 hl (by decide) (cI (cR (cI (cI (cI (cI (cI cN))))))) rfl (fun ls hl => ?_)
    exact wl_X6_version_48 cx mk36 hk36 NF x0 x3 x4 x5 x6 (-1 : Int32) x8 (0 : Int32) σ _ _ _ h g (lv_sub hl [2, 3, 4, 5, 6, 1, 7, 0] rfl) hF
def L_X6_version_36  : Nat → Nat → Int32 → Int32 → Int32 → Int32 → Int32 → Int32 → HS → Option (Int32 × HS)
  | 0, _, _, _, _, _, _, _, _ => none
  | N + 1, x0, x3, x4, x5, x6, x7, x8, σ => B_X6_version_36 (L_X6_version_36  N) x0 x3 x4 x5 x6 x7 x8 σ
theorem mo_L_X6_version_36  : ∀ (N : Nat) (x0 : Nat) (x3 : Int32) (x4 : Int32) (x5 : Int32) (x6 : Int32) (x7 : Int32) (x8 : Int32) (σ : HS), Mo σ (L_X6_version_36  N x0 x3 x4 x5 x6 x7 x8 σ) := by
  intro N
  induction N with
  | zero => intro x0 x3 x4 x5 x6 x7 x8 σ; exact mo_none
  | succ N ih => intro x0 x3 x4 x5 x6 x7 x8 σ; exact mo_B_X6_version_36 ih x0 x3 x4 x5 x6 x7 x8 σ
theorem wl_X6_version_36 {p : Program} {l : Launch} {e : Env} {s : State} {m : MethodId} {args : Array Value} {below : List Frame} {meth : Method} {c : Code} {D : va_G} {dA : Nat → ClassId} {base : Nat} {σ0 τ : HS} {r : Int32} (cx : CX p s m args meth c cX6_version 11 (some .int) RX6 "version" D dA base)  : ∀ (N : Nat) (x0 : Nat) (x3 : Int32) (x4 : Int32) (x5 : Int32) (x6 : Int32) (x7 : Int32) (x8 : Int32) (σ : HS) (H : Heap) (locs : List Loc) (ls : Array Slot), Wd D dA base σ s H locs → LE σ0 σ → lv_has ls 11 [(0, vr x0), (3, .int x3), (4, .int x4), (5, .int x5), (6, .int x6), (7, .int x7), (8, .int x8)] → L_X6_version_36  N x0 x3 x4 x5 x6 x7 x8 σ = some (r, τ) → WG p l e s m args below meth c D dA base 2 43 (some (.int r)) σ0 τ σ H locs 36 ls [] := by
  intro N
  induction N with
  | zero => intro x0 x3 x4 x5 x6 x7 x8 σ H locs ls h g hl hF; cases hF
  | succ N ih => intro x0 x3 x4 x5 x6 x7 x8 σ H locs ls h g hl hF; exact w_X6_version_36 cx (mo_L_X6_version_36  N) ih x0 x3 x4 x5 x6 x7 x8 h g hl hF
def F_X6_version (a0 : Nat) (a1 : Int32) (a2 : Int32) (a3 : Int32) (a4 : Int32) (σ : HS) : Option (Int32 × HS) :=
  if kd σ a0 = 7 then (bd (F_X6_noCell a1 a2 (si σ 240 a0 (0 : Int32))) (fun r2 σ2 => if r2 = 0 then (if 0 ≤ a3 then (L_X6_version_36  NF a0 a3 a4 (((4 : Int32) * a1) + a2) (2147483647 : Int32) (-1 : Int32) (0 : Int32) σ2) else (B_X6_version_17   σ2)) else (B_X6_version_17   σ2))) else none
theorem mo_F_X6_version (a0 : Nat) (a1 : Int32) (a2 : Int32) (a3 : Int32) (a4 : Int32) (σ : HS) : Mo σ (F_X6_version a0 a1 a2 a3 a4 σ) := by
  unfold F_X6_version
  exact (mo_ite (mo_le (τ := (si σ 240 a0 (0 : Int32))) ⟨Nat.le_refl _, Nat.le_refl _⟩ (mo_bd (mo_F_X6_noCell a1 a2 _) (fun r2 σ2 => (mo_ite (mo_ite (mo_L_X6_version_36  NF a0 a3 a4 (((4 : Int32) * a1) + a2) (2147483647 : Int32) (-1 : Int32) (0 : Int32) _) (mo_B_X6_version_17   _)) (mo_B_X6_version_17   _))))) mo_none)
set_option maxHeartbeats 4000000 in
set_option maxRecDepth 100000 in
theorem c_X6_version (l : Launch) (D : va_G) (dA : Nat → ClassId) (base : Nat) (a0 : Nat) (a1 : Int32) (a2 : Int32) (a3 : Int32) (a4 : Int32) {σ τ : HS} {r : Int32} (hF : F_X6_version a0 a1 a2 a3 a4 σ = some (r, τ)) : CT l yX6_version cX6_version 11 (some .int) 2 43 D dA base [vr a0, .int a1, .int a2, .int a3, .int a4] (some (.int r)) σ τ := by
  refine CT.of (lv := [(0, vr a0), (1, .int a1), (2, .int a2), (3, .int a3), (4, .int a4)]) (by decide) (vR (vI (vI (vI (vI vN))))) (Nat.le_of_ble_eq_true rfl) rfl ?_
  intro p e s m args below meth c ls cx hl h
  have cx : CX p s m args meth c cX6_version 11 (some .int) RX6 "version" D dA base := cx
  have g : LE σ σ := LE.rf
  obtain ⟨hx, hb, -⟩ := id cx
  unfold F_X6_version at hF
  refine x_aload_n hx hb dX6_version_0 rfl (lv_at hl 0 rfl) ?_
  refine lv_iconst (v := (0 : Int32)) hx hb dX6_version_1 (by decide) ?_
  obtain ⟨hq1, hF⟩ := ifs hF
  refine x_sti cx h fa_X6_75 (f := 240) rfl (Or.inl rfl) hq1 dX6_version_2 (fun H locs h => ?_)
  refine lv_iload_n hx hb dX6_version_5 rfl (lv_at hl 1 rfl) ?_
  refine lv_iload_n hx hb dX6_version_6 rfl (lv_at hl 2 rfl) ?_
  obtain ⟨r2, σ2, hc2, hF⟩ := bds hF
  refine x_calli (σ := (si σ 240 a0 (0 : Int32))) g (LEm hc2 (mo_F_X6_noCell a1 a2 _)) (x_runS (As := [.int a1, .int a2]) (rest := []) cx h (c_X6_noCell l D dA base a1 a2 hc2) ml_X6_145 mi_X6_noCell rfl ⟨Nat.le_of_ble_eq_true rfl, Nat.le_of_ble_eq_true rfl⟩ hl.1 rfl (s8 sN (by decide)) dX6_version_7 (le_room g (LEm hc2 (mo_F_X6_noCell a1 a2 _)) (LEm hF (mo_ite (mo_ite (mo_L_X6_version_36  NF a0 a3 a4 (((4 : Int32) * a1) + a2) (2147483647 : Int32) (-1 : Int32) (0 : Int32) _) (mo_B_X6_version_17   _)) (mo_B_X6_version_17   _))))) h (fun H locs h g => ?_)
  refine lv_if_ne (tgt := 17) hx hb dX6_version_10 (by decide) (fun c3 => ?_) (fun c3 => ?_)
  · replace hF := ifn c3 hF
    exact w_X6_version_17 (σ := σ2) cx    h g (lv_sub hl [] rfl) hF
  · replace hF := ifp c3 hF
    refine lv_iload_n hx hb dX6_version_13 rfl (lv_at hl 3 rfl) ?_
    refine lv_if_ge (tgt := 19) hx hb dX6_version_14 (by decide) (fun c4 => ?_) (fun c4 => ?_)
    · replace hF := ifp c4 hF
      refine lv_iconst (v := (4 : Int32)) hx hb dX6_version_19 (by decide) ?_
      refine lv_iload_n hx hb dX6_version_20 rfl (lv_at hl 1 rfl) ?_
      refine lv_imul hx hb dX6_version_21 ?_
      refine lv_iload_n hx hb dX6_version_22 rfl (lv_at hl 2 rfl) ?_
      refine lv_iadd hx hb dX6_version_23 ?_
      refine x_istore (lv' := [(5, .int (((4 : Int32) * a1) + a2)), (0, vr a0), (1, .int a1), (2, .int a2), (3, .int a3), (4, .int a4)]) hx hb dX6_version_24 hl (by decide) (cR (cI (cI (cI (cI cN))))) rfl (fun ls hl => ?_)
      refine lv_ldc hx hb cx.2.2.2.1 (cx.2.2.2.2.1 _ wc_X6_191) dX6_version_26 ?_
      refine x_istore (lv' := [(6, .int (2147483647 : Int32)), (5, .int (((4 : Int32) * a1) + a2)), (0, vr a0), (1, .int a1), (2, .int a2), (3, .int a3), (4, .int a4)]) hx hb dX6_version_28 hl (by decide) (cI (cR (cI (cI (cI (cI cN)))))) rfl (fun ls hl => ?_)
      refine lv_iconst (v := (-1 : Int32)) hx hb dX6_version_30 (by decide) ?_
      refine x_istore (lv' := [(7, .int (-1 : Int32)), (6, .int (2147483647 : Int32)), (5, .int (((4 : Int32) * a1) + a2)), (0, vr a0), (1, .int a1), (2, .int a2), (3, .int a3), (4, .int a4)]) hx hb dX6_version_31 hl (by decide) (cI (cI (cR (cI (cI (cI (cI cN))))))) rfl (fun ls hl => ?_)
      refine lv_iconst (v := (0 : Int32)) hx hb dX6_version_33 (by decide) ?_
      refine x_istore (lv' := [(8, .int (0 : Int32)), (7, .int (-1 : Int32)), (6, .int (2147483647 : Int32)), (5, .int (((4 : Int32) * a1) + a2)), (0, vr a0), (1, .int a1), (2, .int a2), (3, .int a3), (4, .int a4)]) hx hb dX6_version_34 hl (by decide) (cI (cI (cI (cR (cI (cI (cI (cI cN)))))))) rfl (fun ls hl => ?_)
      exact wl_X6_version_36 cx   NF a0 a3 a4 (((4 : Int32) * a1) + a2) (2147483647 : Int32) (-1 : Int32) (0 : Int32) σ2 _ _ _ h g (lv_sub hl [4, 7, 8, 3, 2, 1, 0] rfl) hF
    · replace hF := ifn c4 hF
      exact w_X6_version_17 (σ := σ2) cx    h g (lv_sub hl [] rfl) hF
