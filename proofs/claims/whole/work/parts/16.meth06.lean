def F_X5_state (a0 : Nat) (a1 : Int32) (a2 : Int32) (σ : HS) : Option (Int32 × HS) :=
  bd (F_X5_isClient a1 σ) (fun r1 σ1 => if r1 = 0 then (some ((-1 : Int32), σ1)) else (if kd σ1 a0 = 6 then (if kd σ1 (gr σ1 202 a0) = 103 ∧ inb a1 (ln σ1 (gr σ1 202 a0)) then (if a2 = (0 : Int32) then (if kd σ1 (ar σ1 (gr σ1 202 a0) a1.toNatClampNeg) = 5 then (some ((gi σ1 160 (ar σ1 (gr σ1 202 a0) a1.toNatClampNeg)), σ1)) else none) else (if a2 = (1 : Int32) then (if kd σ1 (ar σ1 (gr σ1 202 a0) a1.toNatClampNeg) = 5 then (some ((gi σ1 161 (ar σ1 (gr σ1 202 a0) a1.toNatClampNeg)), σ1)) else none) else (if a2 = (2 : Int32) then (if kd σ1 (ar σ1 (gr σ1 202 a0) a1.toNatClampNeg) = 5 then (some ((gi σ1 162 (ar σ1 (gr σ1 202 a0) a1.toNatClampNeg)), σ1)) else none) else (if a2 = (3 : Int32) then (if kd σ1 (ar σ1 (gr σ1 202 a0) a1.toNatClampNeg) = 5 then (some ((gi σ1 164 (ar σ1 (gr σ1 202 a0) a1.toNatClampNeg)), σ1)) else none) else (if a2 = (4 : Int32) then (if kd σ1 (ar σ1 (gr σ1 202 a0) a1.toNatClampNeg) = 5 then (some ((gi σ1 169 (ar σ1 (gr σ1 202 a0) a1.toNatClampNeg)), σ1)) else none) else (if a2 = (5 : Int32) then (if kd σ1 (ar σ1 (gr σ1 202 a0) a1.toNatClampNeg) = 5 then (some ((gi σ1 163 (ar σ1 (gr σ1 202 a0) a1.toNatClampNeg)), σ1)) else none) else (some ((-2 : Int32), σ1)))))))) else none) else none))
theorem mo_F_X5_state (a0 : Nat) (a1 : Int32) (a2 : Int32) (σ : HS) : Mo σ (F_X5_state a0 a1 a2 σ) := by
  unfold F_X5_state
  exact (mo_bd (mo_F_X5_isClient a1 _) (fun r1 σ1 => (mo_ite mo_ret (mo_ite (mo_ite (mo_ite (mo_ite mo_ret mo_none) (mo_ite (mo_ite mo_ret mo_none) (mo_ite (mo_ite mo_ret mo_none) (mo_ite (mo_ite mo_ret mo_none) (mo_ite (mo_ite mo_ret mo_none) (mo_ite (mo_ite mo_ret mo_none) mo_ret)))))) mo_none) mo_none))))
set_option maxHeartbeats 4000000 in
set_option maxRecDepth 100000 in
theorem c_X5_state (l : Launch) (D : va_G) (dA : Nat → ClassId) (base : Nat) (a0 : Nat) (a1 : Int32) (a2 : Int32) {σ τ : HS} {r : Int32} (hF : F_X5_state a0 a1 a2 σ = some (r, τ)) : CT l yX5_state cX5_state 4 (some .int) 1 20 D dA base [vr a0, .int a1, .int a2] (some (.int r)) σ τ := by
  refine CT.of (lv := [(0, vr a0), (1, .int a1), (2, .int a2)]) (by decide) (vR (vI (vI vN))) (Nat.le_of_ble_eq_true rfl) rfl ?_
  intro p e s m args below meth c ls cx hl h
  have cx : CX p s m args meth c cX5_state 4 (some .int) RX5 "state" D dA base := cx
  have g : LE σ σ := LE.rf
  obtain ⟨hx, hb, -⟩ := id cx
  unfold F_X5_state at hF
  refine lv_iload_n hx hb dX5_state_0 rfl (lv_at hl 1 rfl) ?_
  obtain ⟨r1, σ1, hc1, hF⟩ := bds hF
  refine x_calli (σ := σ) g (LEm hc1 (mo_F_X5_isClient a1 _)) (x_runS (As := [.int a1]) (rest := []) cx h (c_X5_isClient l D dA base a1 hc1) ml_X5_34 mi_X5_isClient rfl ⟨Nat.le_of_ble_eq_true rfl, Nat.le_of_ble_eq_true rfl⟩ hl.1 rfl (s8 sN (by decide)) dX5_state_1 (le_room g (LEm hc1 (mo_F_X5_isClient a1 _)) (LEm hF (mo_ite mo_ret (mo_ite (mo_ite (mo_ite (mo_ite mo_ret mo_none) (mo_ite (mo_ite mo_ret mo_none) (mo_ite (mo_ite mo_ret mo_none) (mo_ite (mo_ite mo_ret mo_none) (mo_ite (mo_ite mo_ret mo_none) (mo_ite (mo_ite mo_ret mo_none) mo_ret)))))) mo_none) mo_none))))) h (fun H locs h g => ?_)
  refine lv_if_ne (tgt := 9) hx hb dX5_state_4 (by decide) (fun c2 => ?_) (fun c2 => ?_)
  · replace hF := ifn c2 hF
    refine x_aload_n hx hb dX5_state_9 rfl (lv_at hl 0 rfl) ?_
    obtain ⟨hq3, hF⟩ := ifs hF
    refine x_getr cx h fa_X5_25 (f := 202) rfl hq3 dX5_state_10 ?_
    refine lv_iload_n hx hb dX5_state_13 rfl (lv_at hl 1 rfl) ?_
    obtain ⟨hq4, hF⟩ := ifs hF
    refine x_aald cx h RA3 hq4.1 (inb.vp hq4.2) dX5_state_14 ?_
    refine x_astore_n (lv' := [(3, vr (ar σ1 (gr σ1 202 a0) a1.toNatClampNeg)), (0, vr a0), (1, .int a1), (2, .int a2)]) hx hb dX5_state_15 rfl hl (by decide) (cR (cI (cI cN))) rfl (fun ls hl => ?_)
    refine lv_iload_n hx hb dX5_state_16 rfl (lv_at hl 3 rfl) ?_
    by_cases c5 : a2 = (0 : Int32)
    · replace hF := ifp c5 hF
      refine lv_tableIn (off := 39) (tgt := 56) hx hb dX5_state_17 (by rw [c5]; decide) (by rw [c5]; decide) (by rw [c5]; rfl) (by decide) ?_
      refine x_aload_n hx hb dX5_state_56 rfl (lv_at hl 0 rfl) ?_
      obtain ⟨hq6, hF⟩ := ifs hF
      refine x_geti cx h fa_X5_38 (f := 160) rfl hq6 dX5_state_57 ?_
      obtain ⟨rfl, rfl⟩ := rts hF
      exact x_iret cx h dX5_state_60
    · replace hF := ifn c5 hF
      by_cases c7 : a2 = (1 : Int32)
      · replace hF := ifp c7 hF
        refine lv_tableIn (off := 44) (tgt := 61) hx hb dX5_state_17 (by rw [c7]; decide) (by rw [c7]; decide) (by rw [c7]; rfl) (by decide) ?_
        refine x_aload_n hx hb dX5_state_61 rfl (lv_at hl 0 rfl) ?_
        obtain ⟨hq8, hF⟩ := ifs hF
        refine x_geti cx h fa_X5_56 (f := 161) rfl hq8 dX5_state_62 ?_
        obtain ⟨rfl, rfl⟩ := rts hF
        exact x_iret cx h dX5_state_65
      · replace hF := ifn c7 hF
        by_cases c9 : a2 = (2 : Int32)
        · replace hF := ifp c9 hF
          refine lv_tableIn (off := 49) (tgt := 66) hx hb dX5_state_17 (by rw [c9]; decide) (by rw [c9]; decide) (by rw [c9]; rfl) (by decide) ?_
          refine x_aload_n hx hb dX5_state_66 rfl (lv_at hl 0 rfl) ?_
          obtain ⟨hq10, hF⟩ := ifs hF
          refine x_geti cx h fa_X5_116 (f := 162) rfl hq10 dX5_state_67 ?_
          obtain ⟨rfl, rfl⟩ := rts hF
          exact x_iret cx h dX5_state_70
        · replace hF := ifn c9 hF
          by_cases c11 : a2 = (3 : Int32)
          · replace hF := ifp c11 hF
            refine lv_tableIn (off := 54) (tgt := 71) hx hb dX5_state_17 (by rw [c11]; decide) (by rw [c11]; decide) (by rw [c11]; rfl) (by decide) ?_
            refine x_aload_n hx hb dX5_state_71 rfl (lv_at hl 0 rfl) ?_
            obtain ⟨hq12, hF⟩ := ifs hF
            refine x_geti cx h fa_X5_83 (f := 164) rfl hq12 dX5_state_72 ?_
            obtain ⟨rfl, rfl⟩ := rts hF
            exact x_iret cx h dX5_state_75
          · replace hF := ifn c11 hF
            by_cases c13 : a2 = (4 : Int32)
            · replace hF := ifp c13 hF
              refine lv_tableIn (off := 59) (tgt := 76) hx hb dX5_state_17 (by rw [c13]; decide) (by rw [c13]; decide) (by rw [c13]; rfl) (by decide) ?_
              refine x_aload_n hx hb dX5_state_76 rfl (lv_at hl 0 rfl) ?_
              obtain ⟨hq14, hF⟩ := ifs hF
              refine x_geti cx h fa_X5_119 (f := 169) rfl hq14 dX5_state_77 ?_
              obtain ⟨rfl, rfl⟩ := rts hF
              exact x_iret cx h dX5_state_80
            · replace hF := ifn c13 hF
              by_cases c15 : a2 = (5 : Int32)
              · replace hF := ifp c15 hF
                refine lv_tableIn (off := 64) (tgt := 81) hx hb dX5_state_17 (by rw [c15]; decide) (by rw [c15]; decide) (by rw [c15]; rfl) (by decide) ?_
                refine x_aload_n hx hb dX5_state_81 rfl (lv_at hl 0 rfl) ?_
                obtain ⟨hq16, hF⟩ := ifs hF
                refine x_geti cx h fa_X5_122 (f := 163) rfl hq16 dX5_state_82 ?_
                obtain ⟨rfl, rfl⟩ := rts hF
                exact x_iret cx h dX5_state_85
              · replace hF := ifn c15 hF
                refine lv_tableOut (tgt := 86) hx hb dX5_state_17 (by have b0 := lv_neT c5 (a := 0) rfl; have b1 := lv_neT c7 (a := 1) rfl; have b2 := lv_neT c9 (a := 2) rfl; have b3 := lv_neT c11 (a := 3) rfl; have b4 := lv_neT c13 (a := 4) rfl; have b5 := lv_neT c15 (a := 5) rfl; omega) (by decide) ?_
                refine lv_bipush (v := (-2 : Int32)) hx hb dX5_state_86 (by decide) ?_
                obtain ⟨rfl, rfl⟩ := rts hF
                exact x_iret cx h dX5_state_88
  · replace hF := ifp c2 hF
    refine lv_iconst (v := (-1 : Int32)) hx hb dX5_state_7 (by decide) ?_
    obtain ⟨rfl, rfl⟩ := rts hF
    exact x_iret cx h dX5_state_8
def B_X5_lock_100  (y0 : Int32) (σ : HS) : Option (Int32 × HS) :=
  some (y0, σ)
theorem mo_B_X5_lock_100  (y0 : Int32) (σ : HS) : Mo σ (B_X5_lock_100  y0 σ) := by
  unfold B_X5_lock_100
  exact mo_ret
set_option maxHeartbeats 4000000 in
set_option maxRecDepth 100000 in
theorem w_X5_lock_100 {p : Program} {l : Launch} {e : Env} {s : State} {m : MethodId} {args : Array Value} {below : List Frame} {meth : Method} {c : Code} {D : va_G} {dA : Nat → ClassId} {base : Nat} {σ0 τ : HS} {r : Int32} (cx : CX p s m args meth c cX5_lock 5 (some .int) RX5 "lock" D dA base)  (y0 : Int32) {σ : HS} {H : Heap} {locs : List Loc} {ls : Array Slot} (h : Wd D dA base σ s H locs) (g : LE σ0 σ) (hl : lv_has ls 5 []) (hF : B_X5_lock_100  y0 σ = some (r, τ)) : WG p l e s m args below meth c D dA base 2 41 (some (.int r)) σ0 τ σ H locs 100 ls [.int y0] := by
  obtain ⟨hx, hb, -⟩ := id cx
  unfold B_X5_lock_100 at hF
  obtain ⟨rfl, rfl⟩ := rts hF
  exact x_iret cx h dX5_lock_100
def B_X5_lock_99   (σ : HS) : Option (Int32 × HS) :=
  B_X5_lock_100  (0 : Int32) σ
theorem mo_B_X5_lock_99   (σ : HS) : Mo σ (B_X5_lock_99   σ) := by
  unfold B_X5_lock_99
  exact (mo_B_X5_lock_100  (0 : Int32) _)
set_option maxHeartbeats 4000000 in
set_option maxRecDepth 100000 in
theorem w_X5_lock_99 {p : Program} {l : Launch} {e : Env} {s : State} {m : MethodId} {args : Array Value} {below : List Frame} {meth : Method} {c : Code} {D : va_G} {dA : Nat → ClassId} {base : Nat} {σ0 τ : HS} {r : Int32} (cx : CX p s m args meth c cX5_lock 5 (some .int) RX5 "lock" D dA base)   {σ : HS} {H : Heap} {locs : List Loc} {ls : Array Slot} (h : Wd D dA base σ s H locs) (g : LE σ0 σ) (hl : lv_has ls 5 []) (hF : B_X5_lock_99   σ = some (r, τ)) : WG p l e s m args below meth c D dA base 2 41 (some (.int r)) σ0 τ σ H locs 99 ls [] := by
  obtain ⟨hx, hb, -⟩ := id cx
  unfold B_X5_lock_99 at hF
  refine lv_iconst (v := (0 : Int32)) hx hb dX5_lock_99 (by decide) ?_
  exact w_X5_lock_100 (σ := σ) cx   (0 : Int32) h g (lv_sub hl [] rfl) hF
def B_X5_lock_126  (y0 : Int32) (σ : HS) : Option (Int32 × HS) :=
  some (y0, σ)
theorem mo_B_X5_lock_126  (y0 : Int32) (σ : HS) : Mo σ (B_X5_lock_126  y0 σ) := by
  unfold B_X5_lock_126
  exact mo_ret
set_option maxHeartbeats 4000000 in
set_option maxRecDepth 100000 in
theorem w_X5_lock_126 {p : Program} {l : Launch} {e : Env} {s : State} {m : MethodId} {args : Array Value} {below : List Frame} {meth : Method} {c : Code} {D : va_G} {dA : Nat → ClassId} {base : Nat} {σ0 τ : HS} {r : Int32} (cx : CX p s m args meth c cX5_lock 5 (some .int) RX5 "lock" D dA base)  (y0 : Int32) {σ : HS} {H : Heap} {locs : List Loc} {ls : Array Slot} (h : Wd D dA base σ s H locs) (g : LE σ0 σ) (hl : lv_has ls 5 []) (hF : B_X5_lock_126  y0 σ = some (r, τ)) : WG p l e s m args below meth c D dA base 2 41 (some (.int r)) σ0 τ σ H locs 126 ls [.int y0] := by
  obtain ⟨hx, hb, -⟩ := id cx
  unfold B_X5_lock_126 at hF
  obtain ⟨rfl, rfl⟩ := rts hF
  exact x_iret cx h dX5_lock_126
def B_X5_lock_125   (σ : HS) : Option (Int32 × HS) :=
  B_X5_lock_126  (0 : Int32) σ
theorem mo_B_X5_lock_125   (σ : HS) : Mo σ (B_X5_lock_125   σ) := by
  unfold B_X5_lock_125
  exact (mo_B_X5_lock_126  (0 : Int32) _)
set_option maxHeartbeats 4000000 in
set_option maxRecDepth 100000 in
theorem w_X5_lock_125 {p : Program} {l : Launch} {e : Env} {s : State} {m : MethodId} {args : Array Value} {below : List Frame} {meth : Method} {c : Code} {D : va_G} {dA : Nat → ClassId} {base : Nat} {σ0 τ : HS} {r : Int32} (cx : CX p s m args meth c cX5_lock 5 (some .int) RX5 "lock" D dA base)   {σ : HS} {H : Heap} {locs : List Loc} {ls : Array Slot} (h : Wd D dA base σ s H locs) (g : LE σ0 σ) (hl : lv_has ls 5 []) (hF : B_X5_lock_125   σ = some (r, τ)) : WG p l e s m args below meth c D dA base 2 41 (some (.int r)) σ0 τ σ H locs 125 ls [] := by
  obtain ⟨hx, hb, -⟩ := id cx
  unfold B_X5_lock_125 at hF
  refine lv_iconst (v := (0 : Int32)) hx hb dX5_lock_125 (by decide) ?_
  exact w_X5_lock_126 (σ := σ) cx   (0 : Int32) h g (lv_sub hl [] rfl) hF
def F_X5_lock (a0 : Nat) (a1 : Int32) (a2 : Int32) (a3 : Int32) (σ : HS) : Option (Int32 × HS) :=
  bd (F_X5_isCell a1 a2 σ) (fun r1 σ1 => if r1 = 0 then (some ((-1 : Int32), σ1)) else (if kd σ1 a0 = 6 then (if kd σ1 (gr σ1 200 a0) = 4 then (bd (F_X5_cellIndex a1 a2 σ1) (fun r5 σ5 => if kd σ5 (gr σ1 120 (gr σ1 200 a0)) = 102 ∧ inb r5 (ln σ5 (gr σ1 120 (gr σ1 200 a0))) then (if a3 = (0 : Int32) then (if kd σ5 (ar σ5 (gr σ1 120 (gr σ1 200 a0)) r5.toNatClampNeg) = 1 then (some ((gi σ5 2 (ar σ5 (gr σ1 120 (gr σ1 200 a0)) r5.toNatClampNeg)), σ5)) else none) else (if a3 = (1 : Int32) then (if kd σ5 (ar σ5 (gr σ1 120 (gr σ1 200 a0)) r5.toNatClampNeg) = 1 then (some ((gi σ5 3 (ar σ5 (gr σ1 120 (gr σ1 200 a0)) r5.toNatClampNeg)), σ5)) else none) else (if a3 = (2 : Int32) then (if kd σ5 (ar σ5 (gr σ1 120 (gr σ1 200 a0)) r5.toNatClampNeg) = 1 then (some ((gi σ5 4 (ar σ5 (gr σ1 120 (gr σ1 200 a0)) r5.toNatClampNeg)), σ5)) else none) else (if a3 = (3 : Int32) then (if kd σ5 (ar σ5 (gr σ1 120 (gr σ1 200 a0)) r5.toNatClampNeg) = 1 then (bd (F_X0_isLocked (ar σ5 (gr σ1 120 (gr σ1 200 a0)) r5.toNatClampNeg) σ5) (fun r15 σ15 => if r15 = 0 then (B_X5_lock_99   σ15) else (if kd σ15 a0 = 6 then (bd (F_X5_isLate a0 (ar σ5 (gr σ1 120 (gr σ1 200 a0)) r5.toNatClampNeg) σ15) (fun r18 σ18 => if r18 = 0 then (B_X5_lock_99   σ18) else (B_X5_lock_100  (1 : Int32) σ18))) else none))) else none) else (if a3 = (4 : Int32) then (if kd σ5 (ar σ5 (gr σ1 120 (gr σ1 200 a0)) r5.toNatClampNeg) = 1 then (bd (F_X0_isLocked (ar σ5 (gr σ1 120 (gr σ1 200 a0)) r5.toNatClampNeg) σ5) (fun r22 σ22 => if r22 = 0 then (B_X5_lock_125   σ22) else (if kd σ22 a0 = 6 then (if kd σ22 (gr σ22 200 a0) = 4 then (bd (F_X3_isDecided (gr σ22 200 a0) (ar σ5 (gr σ1 120 (gr σ1 200 a0)) r5.toNatClampNeg) σ22) (fun r26 σ26 => if r26 = 0 then (B_X5_lock_125   σ26) else (B_X5_lock_126  (1 : Int32) σ26))) else none) else none))) else none) else (some ((-2 : Int32), σ5))))))) else none)) else none) else none))
theorem mo_F_X5_lock (a0 : Nat) (a1 : Int32) (a2 : Int32) (a3 : Int32) (σ : HS) : Mo σ (F_X5_lock a0 a1 a2 a3 σ) := by
  unfold F_X5_lock
  exact (mo_bd (mo_F_X5_isCell a1 a2 _) (fun r1 σ1 => (mo_ite mo_ret (mo_ite (mo_ite (mo_bd (mo_F_X5_cellIndex a1 a2 _) (fun r5 σ5 => (mo_ite (mo_ite (mo_ite mo_ret mo_none) (mo_ite (mo_ite mo_ret mo_none) (mo_ite (mo_ite mo_ret mo_none) (mo_ite (mo_ite (mo_bd (mo_F_X0_isLocked (ar σ5 (gr σ1 120 (gr σ1 200 a0)) r5.toNatClampNeg) _) (fun r15 σ15 => (mo_ite (mo_B_X5_lock_99   _) (mo_ite (mo_bd (mo_F_X5_isLate a0 (ar σ5 (gr σ1 120 (gr σ1 200 a0)) r5.toNatClampNeg) _) (fun r18 σ18 => (mo_ite (mo_B_X5_lock_99   _) (mo_B_X5_lock_100  (1 : Int32) _)))) mo_none)))) mo_none) (mo_ite (mo_ite (mo_bd (mo_F_X0_isLocked (ar σ5 (gr σ1 120 (gr σ1 200 a0)) r5.toNatClampNeg) _) (fun r22 σ22 => (mo_ite (mo_B_X5_lock_125   _) (mo_ite (mo_ite (mo_bd (mo_F_X3_isDecided (gr σ22 200 a0) (ar σ5 (gr σ1 120 (gr σ1 200 a0)) r5.toNatClampNeg) _) (fun r26 σ26 => (mo_ite (mo_B_X5_lock_125   _) (mo_B_X5_lock_126  (1 : Int32) _)))) mo_none) mo_none)))) mo_none) mo_ret))))) mo_none))) mo_none) mo_none))))
set_option maxHeartbeats 4000000 in
set_option maxRecDepth 100000 in
theorem c_X5_lock (l : Launch) (D : va_G) (dA : Nat → ClassId) (base : Nat) (a0 : Nat) (a1 : Int32) (a2 : Int32) (a3 : Int32) {σ τ : HS} {r : Int32} (hF : F_X5_lock a0 a1 a2 a3 σ = some (r, τ)) : CT l yX5_lock cX5_lock 5 (some .int) 2 41 D dA base [vr a0, .int a1, .int a2, .int a3] (some (.int r)) σ τ := by
  refine CT.of (lv := [(0, vr a0), (1, .int a1), (2, .int a2), (3, .int a3)]) (by decide) (vR (vI (vI (vI vN)))) (Nat.le_of_ble_eq_true rfl) rfl ?_
  intro p e s m args below meth c ls cx hl h
  have cx : CX p s m args meth c cX5_lock 5 (some .int) RX5 "lock" D dA base := cx
  have g : LE σ σ := LE.rf
  obtain ⟨hx, hb, -⟩ := id cx
  unfold F_X5_lock at hF
  refine lv_iload_n hx hb dX5_lock_0 rfl (lv_at hl 1 rfl) ?_
  refine lv_iload_n hx hb dX5_lock_1 rfl (lv_at hl 2 rfl) ?_
  obtain ⟨r1, σ1, hc1, hF⟩ := bds hF
  refine x_calli (σ := σ) g (LEm hc1 (mo_F_X5_isCell a1 a2 _)) (x_runS (As := [.int a1, .int a2]) (rest := []) cx h (c_X5_isCell l D dA base a1 a2 hc1) ml_X5_59 mi_X5_isCell rfl ⟨Nat.le_of_ble_eq_true rfl, Nat.le_of_ble_eq_true rfl⟩ hl.1 rfl (s8 sN (by decide)) dX5_lock_2 (le_room g (LEm hc1 (mo_F_X5_isCell a1 a2 _)) (LEm hF (mo_ite mo_ret (mo_ite (mo_ite (mo_bd (mo_F_X5_cellIndex a1 a2 _) (fun r5 σ5 => (mo_ite (mo_ite (mo_ite mo_ret mo_none) (mo_ite (mo_ite mo_ret mo_none) (mo_ite (mo_ite mo_ret mo_none) (mo_ite (mo_ite (mo_bd (mo_F_X0_isLocked (ar σ5 (gr σ1 120 (gr σ1 200 a0)) r5.toNatClampNeg) _) (fun r15 σ15 => (mo_ite (mo_B_X5_lock_99   _) (mo_ite (mo_bd (mo_F_X5_isLate a0 (ar σ5 (gr σ1 120 (gr σ1 200 a0)) r5.toNatClampNeg) _) (fun r18 σ18 => (mo_ite (mo_B_X5_lock_99   _) (mo_B_X5_lock_100  (1 : Int32) _)))) mo_none)))) mo_none) (mo_ite (mo_ite (mo_bd (mo_F_X0_isLocked (ar σ5 (gr σ1 120 (gr σ1 200 a0)) r5.toNatClampNeg) _) (fun r22 σ22 => (mo_ite (mo_B_X5_lock_125   _) (mo_ite (mo_ite (mo_bd (mo_F_X3_isDecided (gr σ22 200 a0) (ar σ5 (gr σ1 120 (gr σ1 200 a0)) r5.toNatClampNeg) _) (fun r26 σ26 => (mo_ite (mo_B_X5_lock_125   _) (mo_B_X5_lock_126  (1 : Int32) _)))) mo_none) mo_none)))) mo_none) mo_ret))))) mo_none))) mo_none) mo_none))))) h (fun H locs h g => ?_)
  refine lv_if_ne (tgt := 10) hx hb dX5_lock_5 (by decide) (fun c2 => ?_) (fun c2 => ?_)
  · replace hF := ifn c2 hF
    refine x_aload_n hx hb dX5_lock_10 rfl (lv_at hl 0 rfl) ?_
    obtain ⟨hq3, hF⟩ := ifs hF
    refine x_getr cx h fa_X5_10 (f := 200) rfl hq3 dX5_lock_11 ?_
    obtain ⟨hq4, hF⟩ := ifs hF
    refine x_getr cx h fa_X5_125 (f := 120) rfl hq4 dX5_lock_14 ?_
    refine lv_iload_n hx hb dX5_lock_17 rfl (lv_at hl 1 rfl) ?_
    refine lv_iload_n hx hb dX5_lock_18 rfl (lv_at hl 2 rfl) ?_
    obtain ⟨r5, σ5, hc5, hF⟩ := bds hF
    refine x_calli (σ := σ1) g (LEm hc5 (mo_F_X5_cellIndex a1 a2 _)) (x_runS (As := [.int a1, .int a2]) (rest := [vr (gr σ1 120 (gr σ1 200 a0))]) cx h (c_X5_cellIndex l D dA base a1 a2 hc5) ml_X5_63 mi_X5_cellIndex rfl ⟨Nat.le_of_ble_eq_true rfl, Nat.le_of_ble_eq_true rfl⟩ hl.1 rfl (s8 (sR sN) (by decide)) dX5_lock_19 (le_room g (LEm hc5 (mo_F_X5_cellIndex a1 a2 _)) (LEm hF (mo_ite (mo_ite (mo_ite mo_ret mo_none) (mo_ite (mo_ite mo_ret mo_none) (mo_ite (mo_ite mo_ret mo_none) (mo_ite (mo_ite (mo_bd (mo_F_X0_isLocked (ar σ5 (gr σ1 120 (gr σ1 200 a0)) r5.toNatClampNeg) _) (fun r15 σ15 => (mo_ite (mo_B_X5_lock_99   _) (mo_ite (mo_bd (mo_F_X5_isLate a0 (ar σ5 (gr σ1 120 (gr σ1 200 a0)) r5.toNatClampNeg) _) (fun r18 σ18 => (mo_ite (mo_B_X5_lock_99   _) (mo_B_X5_lock_100  (1 : Int32) _)))) mo_none)))) mo_none) (mo_ite (mo_ite (mo_bd (mo_F_X0_isLocked (ar σ5 (gr σ1 120 (gr σ1 200 a0)) r5.toNatClampNeg) _) (fun r22 σ22 => (mo_ite (mo_B_X5_lock_125   _) (mo_ite (mo_ite (mo_bd (mo_F_X3_isDecided (gr σ22 200 a0) (ar σ5 (gr σ1 120 (gr σ1 200 a0)) r5.toNatClampNeg) _) (fun r26 σ26 => (mo_ite (mo_B_X5_lock_125   _) (mo_B_X5_lock_126  (1 : Int32) _)))) mo_none) mo_none)))) mo_none) mo_ret))))) mo_none)))) h (fun H locs h g => ?_)
    obtain ⟨hq6, hF⟩ := ifs hF
    refine x_aald cx h RA2 hq6.1 (inb.vp hq6.2) dX5_lock_22 ?_
    refine x_astore (lv' := [(4, vr (ar σ5 (gr σ1 120 (gr σ1 200 a0)) r5.toNatClampNeg)), (0, vr a0), (1, .int a1), (2, .int a2), (3, .int a3)]) hx hb dX5_lock_23 hl (by decide) (cR (cI (cI (cI cN)))) rfl (fun ls hl => ?_)
    refine lv_iload_n hx hb dX5_lock_25 rfl (lv_at hl 4 rfl) ?_
    by_cases c7 : a3 = (0 : Int32)
    · replace hF := ifp c7 hF
      refine lv_tableIn (off := 34) (tgt := 60) hx hb dX5_lock_26 (by rw [c7]; decide) (by rw [c7]; decide) (by rw [c7]; rfl) (by decide) ?_
      refine x_aload hx hb dX5_lock_60 (lv_at hl 0 rfl) ?_
      obtain ⟨hq8, hF⟩ := ifs hF
      refine x_geti cx h fa_X5_129 (f := 2) rfl hq8 dX5_lock_62 ?_
      obtain ⟨rfl, rfl⟩ := rts hF
      exact x_iret cx h dX5_lock_65
    · replace hF := ifn c7 hF
      by_cases c9 : a3 = (1 : Int32)
      · replace hF := ifp c9 hF
        refine lv_tableIn (off := 40) (tgt := 66) hx hb dX5_lock_26 (by rw [c9]; decide) (by rw [c9]; decide) (by rw [c9]; rfl) (by decide) ?_
        refine x_aload hx hb dX5_lock_66 (lv_at hl 0 rfl) ?_
        obtain ⟨hq10, hF⟩ := ifs hF
        refine x_geti cx h fa_X5_134 (f := 3) rfl hq10 dX5_lock_68 ?_
        obtain ⟨rfl, rfl⟩ := rts hF
        exact x_iret cx h dX5_lock_71
      · replace hF := ifn c9 hF
        by_cases c11 : a3 = (2 : Int32)
        · replace hF := ifp c11 hF
          refine lv_tableIn (off := 46) (tgt := 72) hx hb dX5_lock_26 (by rw [c11]; decide) (by rw [c11]; decide) (by rw [c11]; rfl) (by decide) ?_
          refine x_aload hx hb dX5_lock_72 (lv_at hl 0 rfl) ?_
          obtain ⟨hq12, hF⟩ := ifs hF
          refine x_geti cx h fa_X5_137 (f := 4) rfl hq12 dX5_lock_74 ?_
          obtain ⟨rfl, rfl⟩ := rts hF
          exact x_iret cx h dX5_lock_77
        · replace hF := ifn c11 hF
          by_cases c13 : a3 = (3 : Int32)
          · replace hF := ifp c13 hF
            refine lv_tableIn (off := 52) (tgt := 78) hx hb dX5_lock_26 (by rw [c13]; decide) (by rw [c13]; decide) (by rw [c13]; rfl) (by decide) ?_
            refine x_aload hx hb dX5_lock_78 (lv_at hl 0 rfl) ?_
            obtain ⟨hq14, hF⟩ := ifs hF
            obtain ⟨r15, σ15, hc15, hF⟩ := bds hF
            refine x_calli (σ := σ5) g (LEm hc15 (mo_F_X0_isLocked (ar σ5 (gr σ1 120 (gr σ1 200 a0)) r5.toNatClampNeg) _)) (x_runV (As := []) (rest := []) cx h (c_X0_isLocked l D dA base (ar σ5 (gr σ1 120 (gr σ1 200 a0)) r5.toNatClampNeg) hc15) ml_X5_140 mi_X0_isLocked hq14 rfl ⟨Nat.le_of_ble_eq_true rfl, Nat.le_of_ble_eq_true rfl⟩ hl.1 rfl (s8 sN (by decide)) dX5_lock_80 (le_room g (LEm hc15 (mo_F_X0_isLocked (ar σ5 (gr σ1 120 (gr σ1 200 a0)) r5.toNatClampNeg) _)) (LEm hF (mo_ite (mo_B_X5_lock_99   _) (mo_ite (mo_bd (mo_F_X5_isLate a0 (ar σ5 (gr σ1 120 (gr σ1 200 a0)) r5.toNatClampNeg) _) (fun r18 σ18 => (mo_ite (mo_B_X5_lock_99   _) (mo_B_X5_lock_100  (1 : Int32) _)))) mo_none))))) h (fun H locs h g => ?_)
            refine lv_if_eq (tgt := 99) hx hb dX5_lock_83 (by decide) (fun c16 => ?_) (fun c16 => ?_)
            · replace hF := ifp c16 hF
              exact w_X5_lock_99 (σ := σ15) cx    h g (lv_sub hl [] rfl) hF
            · replace hF := ifn c16 hF
              refine x_aload_n hx hb dX5_lock_86 rfl (lv_at hl 1 rfl) ?_
              refine x_aload hx hb dX5_lock_87 (lv_at hl 0 rfl) ?_
              obtain ⟨hq17, hF⟩ := ifs hF
              obtain ⟨r18, σ18, hc18, hF⟩ := bds hF
              refine x_calli (σ := σ15) g (LEm hc18 (mo_F_X5_isLate a0 (ar σ5 (gr σ1 120 (gr σ1 200 a0)) r5.toNatClampNeg) _)) (x_runV (As := [vr (ar σ5 (gr σ1 120 (gr σ1 200 a0)) r5.toNatClampNeg)]) (rest := []) cx h (c_X5_isLate l D dA base a0 (ar σ5 (gr σ1 120 (gr σ1 200 a0)) r5.toNatClampNeg) hc18) ml_X5_144 mi_X5_isLate hq17 rfl ⟨Nat.le_of_ble_eq_true rfl, Nat.le_of_ble_eq_true rfl⟩ hl.1 rfl (s8 sN (by decide)) dX5_lock_89 (le_room g (LEm hc18 (mo_F_X5_isLate a0 (ar σ5 (gr σ1 120 (gr σ1 200 a0)) r5.toNatClampNeg) _)) (LEm hF (mo_ite (mo_B_X5_lock_99   _) (mo_B_X5_lock_100  (1 : Int32) _))))) h (fun H locs h g => ?_)
              refine lv_if_eq (tgt := 99) hx hb dX5_lock_92 (by decide) (fun c19 => ?_) (fun c19 => ?_)
              · replace hF := ifp c19 hF
                exact w_X5_lock_99 (σ := σ18) cx    h g (lv_sub hl [] rfl) hF
              · replace hF := ifn c19 hF
                refine lv_iconst (v := (1 : Int32)) hx hb dX5_lock_95 (by decide) ?_
                refine lv_goto (tgt := 100) hx hb dX5_lock_96 (by decide) ?_
                exact w_X5_lock_100 (σ := σ18) cx   (1 : Int32) h g (lv_sub hl [] rfl) hF
          · replace hF := ifn c13 hF
            by_cases c20 : a3 = (4 : Int32)
            · replace hF := ifp c20 hF
              refine lv_tableIn (off := 75) (tgt := 101) hx hb dX5_lock_26 (by rw [c20]; decide) (by rw [c20]; decide) (by rw [c20]; rfl) (by decide) ?_
              refine x_aload hx hb dX5_lock_101 (lv_at hl 0 rfl) ?_
              obtain ⟨hq21, hF⟩ := ifs hF
              obtain ⟨r22, σ22, hc22, hF⟩ := bds hF
              refine x_calli (σ := σ5) g (LEm hc22 (mo_F_X0_isLocked (ar σ5 (gr σ1 120 (gr σ1 200 a0)) r5.toNatClampNeg) _)) (x_runV (As := []) (rest := []) cx h (c_X0_isLocked l D dA base (ar σ5 (gr σ1 120 (gr σ1 200 a0)) r5.toNatClampNeg) hc22) ml_X5_140 mi_X0_isLocked hq21 rfl ⟨Nat.le_of_ble_eq_true rfl, Nat.le_of_ble_eq_true rfl⟩ hl.1 rfl (s8 sN (by decide)) dX5_lock_103 (le_room g (LEm hc22 (mo_F_X0_isLocked (ar σ5 (gr σ1 120 (gr σ1 200 a0)) r5.toNatClampNeg) _)) (LEm hF (mo_ite (mo_B_X5_lock_125   _) (mo_ite (mo_ite (mo_bd (mo_F_X3_isDecided (gr σ22 200 a0) (ar σ5 (gr σ1 120 (gr σ1 200 a0)) r5.toNatClampNeg) _) (fun r26 σ26 => (mo_ite (mo_B_X5_lock_125   _) (mo_B_X5_lock_126  (1 : Int32) _)))) mo_none) mo_none))))) h (fun H locs h g => ?_)
              refine lv_if_eq (tgt := 125) hx hb dX5_lock_106 (by decide) (fun c23 => ?_) (fun c23 => ?_)
              · replace hF := ifp c23 hF
                exact w_X5_lock_125 (σ := σ22) cx    h g (lv_sub hl [] rfl) hF
              · replace hF := ifn c23 hF
                refine x_aload_n hx hb dX5_lock_109 rfl (lv_at hl 1 rfl) ?_
                obtain ⟨hq24, hF⟩ := ifs hF
                refine x_getr cx h fa_X5_10 (f := 200) rfl hq24 dX5_lock_110 ?_
                refine x_aload hx hb dX5_lock_113 (lv_at hl 0 rfl) ?_
                obtain ⟨hq25, hF⟩ := ifs hF
                obtain ⟨r26, σ26, hc26, hF⟩ := bds hF
                refine x_calli (σ := σ22) g (LEm hc26 (mo_F_X3_isDecided (gr σ22 200 a0) (ar σ5 (gr σ1 120 (gr σ1 200 a0)) r5.toNatClampNeg) _)) (x_runV (As := [vr (ar σ5 (gr σ1 120 (gr σ1 200 a0)) r5.toNatClampNeg)]) (rest := []) cx h (c_X3_isDecided l D dA base (gr σ22 200 a0) (ar σ5 (gr σ1 120 (gr σ1 200 a0)) r5.toNatClampNeg) hc26) ml_X5_148 mi_X3_isDecided hq25 rfl ⟨Nat.le_of_ble_eq_true rfl, Nat.le_of_ble_eq_true rfl⟩ hl.1 rfl (s8 sN (by decide)) dX5_lock_115 (le_room g (LEm hc26 (mo_F_X3_isDecided (gr σ22 200 a0) (ar σ5 (gr σ1 120 (gr σ1 200 a0)) r5.toNatClampNeg) _)) (LEm hF (mo_ite (mo_B_X5_lock_125   _) (mo_B_X5_lock_126  (1 : Int32) _))))) h (fun H locs h g => ?_)
                refine lv_if_eq (tgt := 125) hx hb dX5_lock_118 (by decide) (fun c27 => ?_) (fun c27 => ?_)
                · replace hF := ifp c27 hF
                  exact w_X5_lock_125 (σ := σ26) cx    h g (lv_sub hl [] rfl) hF
                · replace hF := ifn c27 hF
                  refine lv_iconst (v := (1 : Int32)) hx hb dX5_lock_121 (by decide) ?_
                  refine lv_goto (tgt := 126) hx hb dX5_lock_122 (by decide) ?_
                  exact w_X5_lock_126 (σ := σ26) cx   (1 : Int32) h g (lv_sub hl [] rfl) hF
            · replace hF := ifn c20 hF
              refine lv_tableOut (tgt := 127) hx hb dX5_lock_26 (by have b0 := lv_neT c7 (a := 0) rfl; have b1 := lv_neT c9 (a := 1) rfl; have b2 := lv_neT c11 (a := 2) rfl; have b3 := lv_neT c13 (a := 3) rfl; have b4 := lv_neT c20 (a := 4) rfl; omega) (by decide) ?_
              refine lv_bipush (v := (-2 : Int32)) hx hb dX5_lock_127 (by decide) ?_
              obtain ⟨rfl, rfl⟩ := rts hF
              exact x_iret cx h dX5_lock_129
  · replace hF := ifp c2 hF
    refine lv_iconst (v := (-1 : Int32)) hx hb dX5_lock_8 (by decide) ?_
    obtain ⟨rfl, rfl⟩ := rts hF
    exact x_iret cx h dX5_lock_9
def F_X5_versions (a0 : Nat) (a1 : Int32) (a2 : Int32) (σ : HS) : Option (Int32 × HS) :=
  bd (F_X5_isCell a1 a2 σ) (fun r1 σ1 => if r1 = 0 then (some ((-1 : Int32), σ1)) else (if kd σ1 a0 = 6 then (if kd σ1 (gr σ1 200 a0) = 4 then (bd (F_X5_cellIndex a1 a2 σ1) (fun r5 σ5 => if kd σ5 (gr σ1 120 (gr σ1 200 a0)) = 102 ∧ inb r5 (ln σ5 (gr σ1 120 (gr σ1 200 a0))) then (if kd σ5 (ar σ5 (gr σ1 120 (gr σ1 200 a0)) r5.toNatClampNeg) = 1 then (bd (F_X1_count (gr σ5 1 (ar σ5 (gr σ1 120 (gr σ1 200 a0)) r5.toNatClampNeg)) σ5) (fun r8 σ8 => some (r8, σ8))) else none) else none)) else none) else none))
theorem mo_F_X5_versions (a0 : Nat) (a1 : Int32) (a2 : Int32) (σ : HS) : Mo σ (F_X5_versions a0 a1 a2 σ) := by
  unfold F_X5_versions
  exact (mo_bd (mo_F_X5_isCell a1 a2 _) (fun r1 σ1 => (mo_ite mo_ret (mo_ite (mo_ite (mo_bd (mo_F_X5_cellIndex a1 a2 _) (fun r5 σ5 => (mo_ite (mo_ite (mo_bd (mo_F_X1_count (gr σ5 1 (ar σ5 (gr σ1 120 (gr σ1 200 a0)) r5.toNatClampNeg)) _) (fun r8 σ8 => mo_ret)) mo_none) mo_none))) mo_none) mo_none))))
set_option maxHeartbeats 4000000 in
set_option maxRecDepth 100000 in
theorem c_X5_versions (l : Launch) (D : va_G) (dA : Nat → ClassId) (base : Nat) (a0 : Nat) (a1 : Int32) (a2 : Int32) {σ τ : HS} {r : Int32} (hF : F_X5_versions a0 a1 a2 σ = some (r, τ)) : CT l yX5_versions cX5_versions 3 (some .int) 2 41 D dA base [vr a0, .int a1, .int a2] (some (.int r)) σ τ := by
  refine CT.of (lv := [(0, vr a0), (1, .int a1), (2, .int a2)]) (by decide) (vR (vI (vI vN))) (Nat.le_of_ble_eq_true rfl) rfl ?_
  intro p e s m args below meth c ls cx hl h
  have cx : CX p s m args meth c cX5_versions 3 (some .int) RX5 "versions" D dA base := cx
  have g : LE σ σ := LE.rf
  obtain ⟨hx, hb, -⟩ := id cx
  unfold F_X5_versions at hF
  refine lv_iload_n hx hb dX5_versions_0 rfl (lv_at hl 1 rfl) ?_
  refine lv_iload_n hx hb dX5_versions_1 rfl (lv_at hl 2 rfl) ?_
  obtain ⟨r1, σ1, hc1, hF⟩ := bds hF
  refine x_calli (σ := σ) g (LEm hc1 (mo_F_X5_isCell a1 a2 _)) (x_runS (As := [.int a1, .int a2]) (rest := []) cx h (c_X5_isCell l D dA base a1 a2 hc1) ml_X5_59 mi_X5_isCell rfl ⟨Nat.le_of_ble_eq_true rfl, Nat.le_of_ble_eq_true rfl⟩ hl.1 rfl (s8 sN (by decide)) dX5_versions_2 (le_room g (LEm hc1 (mo_F_X5_isCell a1 a2 _)) (LEm hF (mo_ite mo_ret (mo_ite (mo_ite (mo_bd (mo_F_X5_cellIndex a1 a2 _) (fun r5 σ5 => (mo_ite (mo_ite (mo_bd (mo_F_X1_count (gr σ5 1 (ar σ5 (gr σ1 120 (gr σ1 200 a0)) r5.toNatClampNeg)) _) (fun r8 σ8 => mo_ret)) mo_none) mo_none))) mo_none) mo_none))))) h (fun H locs h g => ?_)
  refine lv_if_ne (tgt := 10) hx hb dX5_versions_5 (by decide) (fun c2 => ?_) (fun c2 => ?_)
  · replace hF := ifn c2 hF
    refine x_aload_n hx hb dX5_versions_10 rfl (lv_at hl 0 rfl) ?_
    obtain ⟨hq3, hF⟩ := ifs hF
    refine x_getr cx h fa_X5_10 (f := 200) rfl hq3 dX5_versions_11 ?_
    obtain ⟨hq4, hF⟩ := ifs hF
    refine x_getr cx h fa_X5_125 (f := 120) rfl hq4 dX5_versions_14 ?_
    refine lv_iload_n hx hb dX5_versions_17 rfl (lv_at hl 1 rfl) ?_
    refine lv_iload_n hx hb dX5_versions_18 rfl (lv_at hl 2 rfl) ?_
    obtain ⟨r5, σ5, hc5, hF⟩ := bds hF
    refine x_calli (σ := σ1) g (LEm hc5 (mo_F_X5_cellIndex a1 a2 _)) (x_runS (As := [.int a1, .int a2]) (rest := [vr (gr σ1 120 (gr σ1 200 a0))]) cx h (c_X5_cellIndex l D dA base a1 a2 hc5) ml_X5_63 mi_X5_cellIndex rfl ⟨Nat.le_of_ble_eq_true rfl, Nat.le_of_ble_eq_true rfl⟩ hl.1 rfl (s8 (sR sN) (by decide)) dX5_versions_19 (le_room g (LEm hc5 (mo_F_X5_cellIndex a1 a2 _)) (LEm hF (mo_ite (mo_ite (mo_bd (mo_F_X1_count (gr σ5 1 (ar σ5 (gr σ1 120 (gr σ1 200 a0)) r5.toNatClampNeg)) _) (fun r8 σ8 => mo_ret)) mo_none) mo_none)))) h (fun H locs h g => ?_)
    obtain ⟨hq6, hF⟩ := ifs hF
    refine x_aald cx h RA2 hq6.1 (inb.vp hq6.2) dX5_versions_22 ?_
    obtain ⟨hq7, hF⟩ := ifs hF
    refine x_getr cx h fa_X5_151 (f := 1) rfl hq7 dX5_versions_23 ?_
    obtain ⟨r8, σ8, hc8, hF⟩ := bds hF
    refine x_calli (σ := σ5) g (LEm hc8 (mo_F_X1_count (gr σ5 1 (ar σ5 (gr σ1 120 (gr σ1 200 a0)) r5.toNatClampNeg)) _)) (x_runS (As := [vr (gr σ5 1 (ar σ5 (gr σ1 120 (gr σ1 200 a0)) r5.toNatClampNeg))]) (rest := []) cx h (c_X1_count l D dA base (gr σ5 1 (ar σ5 (gr σ1 120 (gr σ1 200 a0)) r5.toNatClampNeg)) hc8) ml_X5_155 mi_X1_count rfl ⟨Nat.le_of_ble_eq_true rfl, Nat.le_of_ble_eq_true rfl⟩ hl.1 rfl (s8 sN (by decide)) dX5_versions_26 (le_room g (LEm hc8 (mo_F_X1_count (gr σ5 1 (ar σ5 (gr σ1 120 (gr σ1 200 a0)) r5.toNatClampNeg)) _)) (LEm hF mo_ret))) h (fun H locs h g => ?_)
    obtain ⟨rfl, rfl⟩ := rts hF
    exact x_iret cx h dX5_versions_29
  · replace hF := ifp c2 hF
    refine lv_iconst (v := (-1 : Int32)) hx hb dX5_versions_8 (by decide) ?_
    obtain ⟨rfl, rfl⟩ := rts hF
    exact x_iret cx h dX5_versions_9
def B_X5_version_106  (y0 : Int32) (σ : HS) : Option (Int32 × HS) :=
  some (y0, σ)
theorem mo_B_X5_version_106  (y0 : Int32) (σ : HS) : Mo σ (B_X5_version_106  y0 σ) := by
  unfold B_X5_version_106
  exact mo_ret
set_option maxHeartbeats 4000000 in
set_option maxRecDepth 100000 in
theorem w_X5_version_106 {p : Program} {l : Launch} {e : Env} {s : State} {m : MethodId} {args : Array Value} {below : List Frame} {meth : Method} {c : Code} {D : va_G} {dA : Nat → ClassId} {base : Nat} {σ0 τ : HS} {r : Int32} (cx : CX p s m args meth c cX5_version 7 (some .int) RX5 "version" D dA base)  (y0 : Int32) {σ : HS} {H : Heap} {locs : List Loc} {ls : Array Slot} (h : Wd D dA base σ s H locs) (g : LE σ0 σ) (hl : lv_has ls 7 []) (hF : B_X5_version_106  y0 σ = some (r, τ)) : WG p l e s m args below meth c D dA base 2 44 (some (.int r)) σ0 τ σ H locs 106 ls [.int y0] := by
  obtain ⟨hx, hb, -⟩ := id cx
  unfold B_X5_version_106 at hF
  obtain ⟨rfl, rfl⟩ := rts hF
  exact x_iret cx h dX5_version_106
def F_X5_version (a0 : Nat) (a1 : Int32) (a2 : Int32) (a3 : Int32) (a4 : Int32) (σ : HS) : Option (Int32 × HS) :=
  bd (F_X5_isCell a1 a2 σ) (fun r1 σ1 => if r1 = 0 then (some ((-1 : Int32), σ1)) else (if kd σ1 a0 = 6 then (if kd σ1 (gr σ1 200 a0) = 4 then (bd (F_X5_cellIndex a1 a2 σ1) (fun r5 σ5 => if kd σ5 (gr σ1 120 (gr σ1 200 a0)) = 102 ∧ inb r5 (ln σ5 (gr σ1 120 (gr σ1 200 a0))) then (if kd σ5 (ar σ5 (gr σ1 120 (gr σ1 200 a0)) r5.toNatClampNeg) = 1 then (bd (F_X1_atPlace (gr σ5 1 (ar σ5 (gr σ1 120 (gr σ1 200 a0)) r5.toNatClampNeg)) a3 σ5) (fun r8 σ8 => if r8 = 0 then (some ((-1 : Int32), σ8)) else (if a4 = (0 : Int32) then (if kd σ8 r8 = 2 then (some ((gi σ8 40 r8), σ8)) else none) else (if a4 = (1 : Int32) then (if kd σ8 r8 = 2 then (some ((gi σ8 41 r8), σ8)) else none) else (if a4 = (2 : Int32) then (if kd σ8 r8 = 2 then (if (gi σ8 41 r8) = 0 then (B_X5_version_106  (0 : Int32) σ8) else (if kd σ8 (ar σ5 (gr σ1 120 (gr σ1 200 a0)) r5.toNatClampNeg) = 1 then (bd (F_X0_valueOf (ar σ5 (gr σ1 120 (gr σ1 200 a0)) r5.toNatClampNeg) (gi σ8 41 r8) σ8) (fun r18 σ18 => B_X5_version_106  r18 σ18)) else none)) else none) else (some ((-2 : Int32), σ8))))))) else none) else none)) else none) else none))
theorem mo_F_X5_version (a0 : Nat) (a1 : Int32) (a2 : Int32) (a3 : Int32) (a4 : Int32) (σ : HS) : Mo σ (F_X5_version a0 a1 a2 a3 a4 σ) := by
  unfold F_X5_version
  exact (mo_bd (mo_F_X5_isCell a1 a2 _) (fun r1 σ1 => (mo_ite mo_ret (mo_ite (mo_ite (mo_bd (mo_F_X5_cellIndex a1 a2 _) (fun r5 σ5 => (mo_ite (mo_ite (mo_bd (mo_F_X1_atPlace (gr σ5 1 (ar σ5 (gr σ1 120 (gr σ1 200 a0)) r5.toNatClampNeg)) a3 _) (fun r8 σ8 => (mo_ite mo_ret (mo_ite (mo_ite mo_ret mo_none) (mo_ite (mo_ite mo_ret mo_none) (mo_ite (mo_ite (mo_ite (mo_B_X5_version_106  (0 : Int32) _) (mo_ite (mo_bd (mo_F_X0_valueOf (ar σ5 (gr σ1 120 (gr σ1 200 a0)) r5.toNatClampNeg) (gi σ8 41 r8) _) (fun r18 σ18 => (mo_B_X5_version_106  r18 _))) mo_none)) mo_none) mo_ret)))))) mo_none) mo_none))) mo_none) mo_none))))
set_option maxHeartbeats 4000000 in
set_option maxRecDepth 100000 in
theorem c_X5_version (l : Launch) (D : va_G) (dA : Nat → ClassId) (base : Nat) (a0 : Nat) (a1 : Int32) (a2 : Int32) (a3 : Int32) (a4 : Int32) {σ τ : HS} {r : Int32} (hF : F_X5_version a0 a1 a2 a3 a4 σ = some (r, τ)) : CT l yX5_version cX5_version 7 (some .int) 2 44 D dA base [vr a0, .int a1, .int a2, .int a3, .int a4] (some (.int r)) σ τ := by
  refine CT.of (lv := [(0, vr a0), (1, .int a1), (2, .int a2), (3, .int a3), (4, .int a4)]) (by decide) (vR (vI (vI (vI (vI vN))))) (Nat.le_of_ble_eq_true rfl) rfl ?_
  intro p e s m args below meth c ls cx hl h
  have cx : CX p s m args meth c cX5_version 7 (some .int) RX5 "version" D dA base := cx
  have g : LE σ σ := LE.rf
  obtain ⟨hx, hb, -⟩ := id cx
  unfold F_X5_version at hF
  refine lv_iload_n hx hb dX5_version_0 rfl (lv_at hl 1 rfl) ?_
  refine lv_iload_n hx hb dX5_version_1 rfl (lv_at hl 2 rfl) ?_
  obtain ⟨r1, σ1, hc1, hF⟩ := bds hF
  refine x_calli (σ := σ) g (LEm hc1 (mo_F_X5_isCell a1 a2 _)) (x_runS (As := [.int a1, .int a2]) (rest := []) cx h (c_X5_isCell l D dA base a1 a2 hc1) ml_X5_59 mi_X5_isCell rfl ⟨Nat.le_of_ble_eq_true rfl, Nat.le_of_ble_eq_true rfl⟩ hl.1 rfl (s8 sN (by decide)) dX5_version_2 (le_room g (LEm hc1 (mo_F_X5_isCell a1 a2 _)) (LEm hF (mo_ite mo_ret (mo_ite (mo_ite (mo_bd (mo_F_X5_cellIndex a1 a2 _) (fun r5 σ5 => (mo_ite (mo_ite (mo_bd (mo_F_X1_atPlace (gr σ5 1 (ar σ5 (gr σ1 120 (gr σ1 200 a0)) r5.toNatClampNeg)) a3 _) (fun r8 σ8 => (mo_ite mo_ret (mo_ite (mo_ite mo_ret mo_none) (mo_ite (mo_ite mo_ret mo_none) (mo_ite (mo_ite (mo_ite (mo_B_X5_version_106  (0 : Int32) _) (mo_ite (mo_bd (mo_F_X0_valueOf (ar σ5 (gr σ1 120 (gr σ1 200 a0)) r5.toNatClampNeg) (gi σ8 41 r8) _) (fun r18 σ18 => (mo_B_X5_version_106  r18 _))) mo_none)) mo_none) mo_ret)))))) mo_none) mo_none))) mo_none) mo_none))))) h (fun H locs h g => ?_)
  refine lv_if_ne (tgt := 10) hx hb dX5_version_5 (by decide) (fun c2 => ?_) (fun c2 => ?_)
  · replace hF := ifn c2 hF
    refine x_aload_n hx hb dX5_version_10 rfl (lv_at hl 0 rfl) ?_
    obtain ⟨hq3, hF⟩ := ifs hF
    refine x_getr cx h fa_X5_10 (f := 200) rfl hq3 dX5_version_11 ?_
    obtain ⟨hq4, hF⟩ := ifs hF
    refine x_getr cx h fa_X5_125 (f := 120) rfl hq4 dX5_version_14 ?_
    refine lv_iload_n hx hb dX5_version_17 rfl (lv_at hl 1 rfl) ?_
    refine lv_iload_n hx hb dX5_version_18 rfl (lv_at hl 2 rfl) ?_
    obtain ⟨r5, σ5, hc5, hF⟩ := bds hF
    refine x_calli (σ := σ1) g (LEm hc5 (mo_F_X5_cellIndex a1 a2 _)) (x_runS (As := [.int a1, .int a2]) (rest := [vr (gr σ1 120 (gr σ1 200 a0))]) cx h (c_X5_cellIndex l D dA base a1 a2 hc5) ml_X5_63 mi_X5_cellIndex rfl ⟨Nat.le_of_ble_eq_true rfl, Nat.le_of_ble_eq_true rfl⟩ hl.1 rfl (s8 (sR sN) (by decide)) dX5_version_19 (le_room g (LEm hc5 (mo_F_X5_cellIndex a1 a2 _)) (LEm hF (mo_ite (mo_ite (mo_bd (mo_F_X1_atPlace (gr σ5 1 (ar σ5 (gr σ1 120 (gr σ1 200 a0)) r5.toNatClampNeg)) a3 _) (fun r8 σ8 => (mo_ite mo_ret (mo_ite (mo_ite mo_ret mo_none) (mo_ite (mo_ite mo_ret mo_none) (mo_ite (mo_ite (mo_ite (mo_B_X5_version_106  (0 : Int32) _) (mo_ite (mo_bd (mo_F_X0_valueOf (ar σ5 (gr σ1 120 (gr σ1 200 a0)) r5.toNatClampNeg) (gi σ8 41 r8) _) (fun r18 σ18 => (mo_B_X5_version_106  r18 _))) mo_none)) mo_none) mo_ret)))))) mo_none) mo_none)))) h (fun H locs h g => ?_)
    obtain ⟨hq6, hF⟩ := ifs hF
    refine x_aald cx h RA2 hq6.1 (inb.vp hq6.2) dX5_version_22 ?_
    refine x_astore (lv' := [(5, vr (ar σ5 (gr σ1 120 (gr σ1 200 a0)) r5.toNatClampNeg)), (0, vr a0), (1, .int a1), (2, .int a2), (3, .int a3), (4, .int a4)]) hx hb dX5_version_23 hl (by decide) (cR (cI (cI (cI (cI cN))))) rfl (fun ls hl => ?_)
    refine x_aload hx hb dX5_version_25 (lv_at hl 0 rfl) ?_
    obtain ⟨hq7, hF⟩ := ifs hF
    refine x_getr cx h fa_X5_151 (f := 1) rfl hq7 dX5_version_27 ?_
    refine lv_iload_n hx hb dX5_version_30 rfl (lv_at hl 4 rfl) ?_
    obtain ⟨r8, σ8, hc8, hF⟩ := bds hF
    refine x_callr (σ := σ5) g (LEm hc8 (mo_F_X1_atPlace (gr σ5 1 (ar σ5 (gr σ1 120 (gr σ1 200 a0)) r5.toNatClampNeg)) a3 _)) (x_runS (As := [vr (gr σ5 1 (ar σ5 (gr σ1 120 (gr σ1 200 a0)) r5.toNatClampNeg)), .int a3]) (rest := []) cx h (c_X1_atPlace l D dA base (gr σ5 1 (ar σ5 (gr σ1 120 (gr σ1 200 a0)) r5.toNatClampNeg)) a3 hc8) ml_X5_161 mi_X1_atPlace rfl ⟨Nat.le_of_ble_eq_true rfl, Nat.le_of_ble_eq_true rfl⟩ hl.1 rfl (s8 sN (by decide)) dX5_version_31 (le_room g (LEm hc8 (mo_F_X1_atPlace (gr σ5 1 (ar σ5 (gr σ1 120 (gr σ1 200 a0)) r5.toNatClampNeg)) a3 _)) (LEm hF (mo_ite mo_ret (mo_ite (mo_ite mo_ret mo_none) (mo_ite (mo_ite mo_ret mo_none) (mo_ite (mo_ite (mo_ite (mo_B_X5_version_106  (0 : Int32) _) (mo_ite (mo_bd (mo_F_X0_valueOf (ar σ5 (gr σ1 120 (gr σ1 200 a0)) r5.toNatClampNeg) (gi σ8 41 r8) _) (fun r18 σ18 => (mo_B_X5_version_106  r18 _))) mo_none)) mo_none) mo_ret))))))) h (fun H locs h g => ?_)
    refine x_astore (lv' := [(6, vr r8), (5, vr (ar σ5 (gr σ1 120 (gr σ1 200 a0)) r5.toNatClampNeg)), (0, vr a0), (1, .int a1), (2, .int a2), (3, .int a3), (4, .int a4)]) hx hb dX5_version_34 hl (by decide) (cR (cR (cI (cI (cI (cI cN)))))) rfl (fun ls hl => ?_)
    refine x_aload hx hb dX5_version_36 (lv_at hl 0 rfl) ?_
    refine x_ifnonnull (tgt := 43) hx hb dX5_version_38 (by decide) (fun c9 => ?_) (fun c9 => ?_)
    · replace hF := ifn c9 hF
      refine lv_iload hx hb dX5_version_43 (lv_at hl 6 rfl) ?_
      by_cases c10 : a4 = (0 : Int32)
      · replace hF := ifp c10 hF
        refine lv_tableIn (off := 27) (tgt := 72) hx hb dX5_version_45 (by rw [c10]; decide) (by rw [c10]; decide) (by rw [c10]; rfl) (by decide) ?_
        refine x_aload hx hb dX5_version_72 (lv_at hl 0 rfl) ?_
        obtain ⟨hq11, hF⟩ := ifs hF
        refine x_geti cx h fa_X5_165 (f := 40) rfl hq11 dX5_version_74 ?_
        obtain ⟨rfl, rfl⟩ := rts hF
        exact x_iret cx h dX5_version_77
      · replace hF := ifn c10 hF
        by_cases c12 : a4 = (1 : Int32)
        · replace hF := ifp c12 hF
          refine lv_tableIn (off := 33) (tgt := 78) hx hb dX5_version_45 (by rw [c12]; decide) (by rw [c12]; decide) (by rw [c12]; rfl) (by decide) ?_
          refine x_aload hx hb dX5_version_78 (lv_at hl 0 rfl) ?_
          obtain ⟨hq13, hF⟩ := ifs hF
          refine x_geti cx h fa_X5_168 (f := 41) rfl hq13 dX5_version_80 ?_
          obtain ⟨rfl, rfl⟩ := rts hF
          exact x_iret cx h dX5_version_83
        · replace hF := ifn c12 hF
          by_cases c14 : a4 = (2 : Int32)
          · replace hF := ifp c14 hF
            refine lv_tableIn (off := 39) (tgt := 84) hx hb dX5_version_45 (by rw [c14]; decide) (by rw [c14]; decide) (by rw [c14]; rfl) (by decide) ?_
            refine x_aload hx hb dX5_version_84 (lv_at hl 0 rfl) ?_
            obtain ⟨hq15, hF⟩ := ifs hF
            refine x_geti cx h fa_X5_168 (f := 41) rfl hq15 dX5_version_86 ?_
            refine lv_if_ne (tgt := 96) hx hb dX5_version_89 (by decide) (fun c16 => ?_) (fun c16 => ?_)
            · replace hF := ifn c16 hF
              refine x_aload hx hb dX5_version_96 (lv_at hl 1 rfl) ?_
              refine x_aload hx hb dX5_version_98 (lv_at hl 0 rfl) ?_
              refine x_geti cx h fa_X5_168 (f := 41) rfl hq15 dX5_version_100 ?_
              obtain ⟨hq17, hF⟩ := ifs hF
              obtain ⟨r18, σ18, hc18, hF⟩ := bds hF
              refine x_calli (σ := σ8) g (LEm hc18 (mo_F_X0_valueOf (ar σ5 (gr σ1 120 (gr σ1 200 a0)) r5.toNatClampNeg) (gi σ8 41 r8) _)) (x_runV (As := [.int (gi σ8 41 r8)]) (rest := []) cx h (c_X0_valueOf l D dA base (ar σ5 (gr σ1 120 (gr σ1 200 a0)) r5.toNatClampNeg) (gi σ8 41 r8) hc18) ml_X5_171 mi_X0_valueOf hq17 rfl ⟨Nat.le_of_ble_eq_true rfl, Nat.le_of_ble_eq_true rfl⟩ hl.1 rfl (s8 sN (by decide)) dX5_version_103 (le_room g (LEm hc18 (mo_F_X0_valueOf (ar σ5 (gr σ1 120 (gr σ1 200 a0)) r5.toNatClampNeg) (gi σ8 41 r8) _)) (LEm hF (mo_B_X5_version_106  r18 _)))) h (fun H locs h g => ?_)
              exact w_X5_version_106 (σ := σ18) cx   r18 h g (lv_sub hl [] rfl) hF
            · replace hF := ifp c16 hF
              refine lv_iconst (v := (0 : Int32)) hx hb dX5_version_92 (by decide) ?_
              refine lv_goto (tgt := 106) hx hb dX5_version_93 (by decide) ?_
              exact w_X5_version_106 (σ := σ8) cx   (0 : Int32) h g (lv_sub hl [] rfl) hF
          · replace hF := ifn c14 hF
            refine lv_tableOut (tgt := 107) hx hb dX5_version_45 (by have b0 := lv_neT c10 (a := 0) rfl; have b1 := lv_neT c12 (a := 1) rfl; have b2 := lv_neT c14 (a := 2) rfl; omega) (by decide) ?_
            refine lv_bipush (v := (-2 : Int32)) hx hb dX5_version_107 (by decide) ?_
            obtain ⟨rfl, rfl⟩ := rts hF
            exact x_iret cx h dX5_version_109
    · replace hF := ifp c9 hF
      refine lv_iconst (v := (-1 : Int32)) hx hb dX5_version_41 (by decide) ?_
      obtain ⟨rfl, rfl⟩ := rts hF
      exact x_iret cx h dX5_version_42
  · replace hF := ifp c2 hF
    refine lv_iconst (v := (-1 : Int32)) hx hb dX5_version_8 (by decide) ?_
    obtain ⟨rfl, rfl⟩ := rts hF
    exact x_iret cx h dX5_version_9
def B_X5_data_76  (y0 : Int32) (σ : HS) : Option (Int32 × HS) :=
  some (y0, σ)
theorem mo_B_X5_data_76  (y0 : Int32) (σ : HS) : Mo σ (B_X5_data_76  y0 σ) := by
  unfold B_X5_data_76
  exact mo_ret
set_option maxHeartbeats 4000000 in
set_option maxRecDepth 100000 in
theorem w_X5_data_76 {p : Program} {l : Launch} {e : Env} {s : State} {m : MethodId} {args : Array Value} {below : List Frame} {meth : Method} {c : Code} {D : va_G} {dA : Nat → ClassId} {base : Nat} {σ0 τ : HS} {r : Int32} (cx : CX p s m args meth c cX5_data 5 (some .int) RX5 "data" D dA base)  (y0 : Int32) {σ : HS} {H : Heap} {locs : List Loc} {ls : Array Slot} (h : Wd D dA base σ s H locs) (g : LE σ0 σ) (hl : lv_has ls 5 []) (hF : B_X5_data_76  y0 σ = some (r, τ)) : WG p l e s m args below meth c D dA base 2 41 (some (.int r)) σ0 τ σ H locs 76 ls [.int y0] := by
  obtain ⟨hx, hb, -⟩ := id cx
  unfold B_X5_data_76 at hF
  obtain ⟨rfl, rfl⟩ := rts hF
  exact x_iret cx h dX5_data_76
def F_X5_data (a0 : Nat) (a1 : Int32) (a2 : Int32) (a3 : Int32) (σ : HS) : Option (Int32 × HS) :=
  bd (F_X5_isCell a1 a2 σ) (fun r1 σ1 => if r1 = 0 then (some ((-1 : Int32), σ1)) else (if kd σ1 a0 = 6 then (if kd σ1 (gr σ1 200 a0) = 4 then (bd (F_X5_cellIndex a1 a2 σ1) (fun r5 σ5 => if kd σ5 (gr σ1 120 (gr σ1 200 a0)) = 102 ∧ inb r5 (ln σ5 (gr σ1 120 (gr σ1 200 a0))) then (if kd σ5 (ar σ5 (gr σ1 120 (gr σ1 200 a0)) r5.toNatClampNeg) = 1 then (if a3 = (0 : Int32) then (bd (F_X1_count (gr σ5 0 (ar σ5 (gr σ1 120 (gr σ1 200 a0)) r5.toNatClampNeg)) σ5) (fun r9 σ9 => some (r9, σ9))) else (if a3 = (1 : Int32) then (if (gr σ5 0 (ar σ5 (gr σ1 120 (gr σ1 200 a0)) r5.toNatClampNeg)) = 0 then (B_X5_data_76  (0 : Int32) σ5) else (if kd σ5 (gr σ5 0 (ar σ5 (gr σ1 120 (gr σ1 200 a0)) r5.toNatClampNeg)) = 2 then (B_X5_data_76  (gi σ5 40 (gr σ5 0 (ar σ5 (gr σ1 120 (gr σ1 200 a0)) r5.toNatClampNeg))) σ5) else none)) else (some ((-2 : Int32), σ5)))) else none) else none)) else none) else none))
theorem mo_F_X5_data (a0 : Nat) (a1 : Int32) (a2 : Int32) (a3 : Int32) (σ : HS) : Mo σ (F_X5_data a0 a1 a2 a3 σ) := by
  unfold F_X5_data
  exact (mo_bd (mo_F_X5_isCell a1 a2 _) (fun r1 σ1 => (mo_ite mo_ret (mo_ite (mo_ite (mo_bd (mo_F_X5_cellIndex a1 a2 _) (fun r5 σ5 => (mo_ite (mo_ite (mo_ite (mo_bd (mo_F_X1_count (gr σ5 0 (ar σ5 (gr σ1 120 (gr σ1 200 a0)) r5.toNatClampNeg)) _) (fun r9 σ9 => mo_ret)) (mo_ite (mo_ite (mo_B_X5_data_76  (0 : Int32) _) (mo_ite (mo_B_X5_data_76  (gi σ5 40 (gr σ5 0 (ar σ5 (gr σ1 120 (gr σ1 200 a0)) r5.toNatClampNeg))) _) mo_none)) mo_ret)) mo_none) mo_none))) mo_none) mo_none))))
set_option maxHeartbeats 4000000 in
set_option maxRecDepth 100000 in
theorem c_X5_data (l : Launch) (D : va_G) (dA : Nat → ClassId) (base : Nat) (a0 : Nat) (a1 : Int32) (a2 : Int32) (a3 : Int32) {σ τ : HS} {r : Int32} (hF : F_X5_data a0 a1 a2 a3 σ = some (r, τ)) : CT l yX5_data cX5_data 5 (some .int) 2 41 D dA base [vr a0, .int a1, .int a2, .int a3] (some (.int r)) σ τ := by
  refine CT.of (lv := [(0, vr a0), (1, .int a1), (2, .int a2), (3, .int a3)]) (by decide) (vR (vI (vI (vI vN)))) (Nat.le_of_ble_eq_true rfl) rfl ?_
  intro p e s m args below meth c ls cx hl h
  have cx : CX p s m args meth c cX5_data 5 (some .int) RX5 "data" D dA base := cx
  have g : LE σ σ := LE.rf
  obtain ⟨hx, hb, -⟩ := id cx
  unfold F_X5_data at hF
  refine lv_iload_n hx hb dX5_data_0 rfl (lv_at hl 1 rfl) ?_
  refine lv_iload_n hx hb dX5_data_1 rfl (lv_at hl 2 rfl) ?_
  obtain ⟨r1, σ1, hc1, hF⟩ := bds hF
  refine x_calli (σ := σ) g (LEm hc1 (mo_F_X5_isCell a1 a2 _)) (x_runS (As := [.int a1, .int a2]) (rest := []) cx h (c_X5_isCell l D dA base a1 a2 hc1) ml_X5_59 mi_X5_isCell rfl ⟨Nat.le_of_ble_eq_true rfl, Nat.le_of_ble_eq_true rfl⟩ hl.1 rfl (s8 sN (by decide)) dX5_data_2 (le_room g (LEm hc1 (mo_F_X5_isCell a1 a2 _)) (LEm hF (mo_ite mo_ret (mo_ite (mo_ite (mo_bd (mo_F_X5_cellIndex a1 a2 _) (fun r5 σ5 => (mo_ite (mo_ite (mo_ite (mo_bd (mo_F_X1_count (gr σ5 0 (ar σ5 (gr σ1 120 (gr σ1 200 a0)) r5.toNatClampNeg)) _) (fun r9 σ9 => mo_ret)) (mo_ite (mo_ite (mo_B_X5_data_76  (0 : Int32) _) (mo_ite (mo_B_X5_data_76  (gi σ5 40 (gr σ5 0 (ar σ5 (gr σ1 120 (gr σ1 200 a0)) r5.toNatClampNeg))) _) mo_none)) mo_ret)) mo_none) mo_none))) mo_none) mo_none))))) h (fun H locs h g => ?_)
  refine lv_if_ne (tgt := 10) hx hb dX5_data_5 (by decide) (fun c2 => ?_) (fun c2 => ?_)
  · replace hF := ifn c2 hF
    refine x_aload_n hx hb dX5_data_10 rfl (lv_at hl 0 rfl) ?_
    obtain ⟨hq3, hF⟩ := ifs hF
    refine x_getr cx h fa_X5_10 (f := 200) rfl hq3 dX5_data_11 ?_
    obtain ⟨hq4, hF⟩ := ifs hF
    refine x_getr cx h fa_X5_125 (f := 120) rfl hq4 dX5_data_14 ?_
    refine lv_iload_n hx hb dX5_data_17 rfl (lv_at hl 1 rfl) ?_
    refine lv_iload_n hx hb dX5_data_18 rfl (lv_at hl 2 rfl) ?_
    obtain ⟨r5, σ5, hc5, hF⟩ := bds hF
    refine x_calli (σ := σ1) g (LEm hc5 (mo_F_X5_cellIndex a1 a2 _)) (x_runS (As := [.int a1, .int a2]) (rest := [vr (gr σ1 120 (gr σ1 200 a0))]) cx h (c_X5_cellIndex l D dA base a1 a2 hc5) ml_X5_63 mi_X5_cellIndex rfl ⟨Nat.le_of_ble_eq_true rfl, Nat.le_of_ble_eq_true rfl⟩ hl.1 rfl (s8 (sR sN) (by decide)) dX5_data_19 (le_room g (LEm hc5 (mo_F_X5_cellIndex a1 a2 _)) (LEm hF (mo_ite (mo_ite (mo_ite (mo_bd (mo_F_X1_count (gr σ5 0 (ar σ5 (gr σ1 120 (gr σ1 200 a0)) r5.toNatClampNeg)) _) (fun r9 σ9 => mo_ret)) (mo_ite (mo_ite (mo_B_X5_data_76  (0 : Int32) _) (mo_ite (mo_B_X5_data_76  (gi σ5 40 (gr σ5 0 (ar σ5 (gr σ1 120 (gr σ1 200 a0)) r5.toNatClampNeg))) _) mo_none)) mo_ret)) mo_none) mo_none)))) h (fun H locs h g => ?_)
    obtain ⟨hq6, hF⟩ := ifs hF
    refine x_aald cx h RA2 hq6.1 (inb.vp hq6.2) dX5_data_22 ?_
    obtain ⟨hq7, hF⟩ := ifs hF
    refine x_getr cx h fa_X5_174 (f := 0) rfl hq7 dX5_data_23 ?_
    refine x_astore (lv' := [(4, vr (gr σ5 0 (ar σ5 (gr σ1 120 (gr σ1 200 a0)) r5.toNatClampNeg))), (0, vr a0), (1, .int a1), (2, .int a2), (3, .int a3)]) hx hb dX5_data_26 hl (by decide) (cR (cI (cI (cI cN)))) rfl (fun ls hl => ?_)
    refine lv_iload_n hx hb dX5_data_28 rfl (lv_at hl 4 rfl) ?_
    by_cases c8 : a3 = (0 : Int32)
    · replace hF := ifp c8 hF
      refine lv_lookup (off := 27) (tgt := 56) hx hb dX5_data_29 (by decide) (by rw [c8]; rfl) (by decide) ?_
      refine x_aload hx hb dX5_data_56 (lv_at hl 0 rfl) ?_
      obtain ⟨r9, σ9, hc9, hF⟩ := bds hF
      refine x_calli (σ := σ5) g (LEm hc9 (mo_F_X1_count (gr σ5 0 (ar σ5 (gr σ1 120 (gr σ1 200 a0)) r5.toNatClampNeg)) _)) (x_runS (As := [vr (gr σ5 0 (ar σ5 (gr σ1 120 (gr σ1 200 a0)) r5.toNatClampNeg))]) (rest := []) cx h (c_X1_count l D dA base (gr σ5 0 (ar σ5 (gr σ1 120 (gr σ1 200 a0)) r5.toNatClampNeg)) hc9) ml_X5_155 mi_X1_count rfl ⟨Nat.le_of_ble_eq_true rfl, Nat.le_of_ble_eq_true rfl⟩ hl.1 rfl (s8 sN (by decide)) dX5_data_58 (le_room g (LEm hc9 (mo_F_X1_count (gr σ5 0 (ar σ5 (gr σ1 120 (gr σ1 200 a0)) r5.toNatClampNeg)) _)) (LEm hF mo_ret))) h (fun H locs h g => ?_)
      obtain ⟨rfl, rfl⟩ := rts hF
      exact x_iret cx h dX5_data_61
    · replace hF := ifn c8 hF
      by_cases c10 : a3 = (1 : Int32)
      · replace hF := ifp c10 hF
        refine lv_lookup (off := 33) (tgt := 62) hx hb dX5_data_29 (by decide) (by rw [c10]; rfl) (by decide) ?_
        refine x_aload hx hb dX5_data_62 (lv_at hl 0 rfl) ?_
        refine x_ifnonnull (tgt := 71) hx hb dX5_data_64 (by decide) (fun c11 => ?_) (fun c11 => ?_)
        · replace hF := ifn c11 hF
          refine x_aload hx hb dX5_data_71 (lv_at hl 0 rfl) ?_
          obtain ⟨hq12, hF⟩ := ifs hF
          refine x_geti cx h fa_X5_165 (f := 40) rfl hq12 dX5_data_73 ?_
          exact w_X5_data_76 (σ := σ5) cx   (gi σ5 40 (gr σ5 0 (ar σ5 (gr σ1 120 (gr σ1 200 a0)) r5.toNatClampNeg))) h g (lv_sub hl [] rfl) hF
        · replace hF := ifp c11 hF
          refine lv_iconst (v := (0 : Int32)) hx hb dX5_data_67 (by decide) ?_
          refine lv_goto (tgt := 76) hx hb dX5_data_68 (by decide) ?_
          exact w_X5_data_76 (σ := σ5) cx   (0 : Int32) h g (lv_sub hl [] rfl) hF
      · replace hF := ifn c10 hF
        refine lv_lookup (off := 48) (tgt := 77) hx hb dX5_data_29 (by decide) (by show Op.lookupswitch.offset [(0, 27), (1, 33)] 48 _ = 48; rw [lv_osw (a := 0) c8 rfl, lv_osw (a := 1) c10 rfl]; rfl) (by decide) ?_
        refine lv_bipush (v := (-2 : Int32)) hx hb dX5_data_77 (by decide) ?_
        obtain ⟨rfl, rfl⟩ := rts hF
        exact x_iret cx h dX5_data_79
  · replace hF := ifp c2 hF
    refine lv_iconst (v := (-1 : Int32)) hx hb dX5_data_8 (by decide) ?_
    obtain ⟨rfl, rfl⟩ := rts hF
    exact x_iret cx h dX5_data_9
def F_X5_told (a0 : Nat) (a1 : Int32) (σ : HS) : Option (Int32 × HS) :=
  if a1 = (0 : Int32) then (if kd σ a0 = 6 then (if kd σ (gr σ 201 a0) = 3 then (some ((gi σ 80 (gr σ 201 a0)), σ)) else none) else none) else (if a1 = (1 : Int32) then (if kd σ a0 = 6 then (if kd σ (gr σ 201 a0) = 3 then (some ((gi σ 82 (gr σ 201 a0)), σ)) else none) else none) else (if a1 = (2 : Int32) then (if kd σ a0 = 6 then (if kd σ (gr σ 200 a0) = 4 then (some ((gi σ 121 (gr σ 200 a0)), σ)) else none) else none) else (if a1 = (3 : Int32) then (if kd σ a0 = 6 then (if kd σ (gr σ 200 a0) = 4 then (some ((gi σ 122 (gr σ 200 a0)), σ)) else none) else none) else (if a1 = (4 : Int32) then (if kd σ a0 = 6 then (if kd σ (gr σ 200 a0) = 4 then (some ((gi σ 123 (gr σ 200 a0)), σ)) else none) else none) else (if a1 = (5 : Int32) then (if kd σ a0 = 6 then (if kd σ (gr σ 200 a0) = 4 then (some ((gi σ 124 (gr σ 200 a0)), σ)) else none) else none) else (if a1 = (6 : Int32) then (if kd σ a0 = 6 then (some ((gi σ 203 a0), σ)) else none) else (if a1 = (7 : Int32) then (if kd σ a0 = 6 then (some ((gi σ 205 a0), σ)) else none) else (if a1 = (8 : Int32) then (if kd σ a0 = 6 then (if kd σ (gr σ 200 a0) = 4 then (some ((gi σ 125 (gr σ 200 a0)), σ)) else none) else none) else (some ((-2 : Int32), σ))))))))))
theorem mo_F_X5_told (a0 : Nat) (a1 : Int32) (σ : HS) : Mo σ (F_X5_told a0 a1 σ) := by
  unfold F_X5_told
  exact (mo_ite (mo_ite (mo_ite mo_ret mo_none) mo_none) (mo_ite (mo_ite (mo_ite mo_ret mo_none) mo_none) (mo_ite (mo_ite (mo_ite mo_ret mo_none) mo_none) (mo_ite (mo_ite (mo_ite mo_ret mo_none) mo_none) (mo_ite (mo_ite (mo_ite mo_ret mo_none) mo_none) (mo_ite (mo_ite (mo_ite mo_ret mo_none) mo_none) (mo_ite (mo_ite mo_ret mo_none) (mo_ite (mo_ite mo_ret mo_none) (mo_ite (mo_ite (mo_ite mo_ret mo_none) mo_none) mo_ret)))))))))
set_option maxHeartbeats 4000000 in
set_option maxRecDepth 100000 in
theorem c_X5_told (l : Launch) (D : va_G) (dA : Nat → ClassId) (base : Nat) (a0 : Nat) (a1 : Int32) {σ τ : HS} {r : Int32} (hF : F_X5_told a0 a1 σ = some (r, τ)) : CT l yX5_told cX5_told 2 (some .int) 0 0 D dA base [vr a0, .int a1] (some (.int r)) σ τ := by
  refine CT.of (lv := [(0, vr a0), (1, .int a1)]) (by decide) (vR (vI vN)) (Nat.le_of_ble_eq_true rfl) rfl ?_
  intro p e s m args below meth c ls cx hl h
  have cx : CX p s m args meth c cX5_told 2 (some .int) RX5 "told" D dA base := cx
  have g : LE σ σ := LE.rf
  obtain ⟨hx, hb, -⟩ := id cx
  unfold F_X5_told at hF
  refine lv_iload_n hx hb dX5_told_0 rfl (lv_at hl 1 rfl) ?_
  by_cases c1 : a1 = (0 : Int32)
  · replace hF := ifp c1 hF
    refine lv_tableIn (off := 51) (tgt := 52) hx hb dX5_told_1 (by rw [c1]; decide) (by rw [c1]; decide) (by rw [c1]; rfl) (by decide) ?_
    refine x_aload_n hx hb dX5_told_52 rfl (lv_at hl 0 rfl) ?_
    obtain ⟨hq2, hF⟩ := ifs hF
    refine x_getr cx h fa_X5_19 (f := 201) rfl hq2 dX5_told_53 ?_
    obtain ⟨hq3, hF⟩ := ifs hF
    refine x_geti cx h fa_X5_103 (f := 80) rfl hq3 dX5_told_56 ?_
    obtain ⟨rfl, rfl⟩ := rts hF
    exact x_iret cx h dX5_told_59
  · replace hF := ifn c1 hF
    by_cases c4 : a1 = (1 : Int32)
    · replace hF := ifp c4 hF
      refine lv_tableIn (off := 59) (tgt := 60) hx hb dX5_told_1 (by rw [c4]; decide) (by rw [c4]; decide) (by rw [c4]; rfl) (by decide) ?_
      refine x_aload_n hx hb dX5_told_60 rfl (lv_at hl 0 rfl) ?_
      obtain ⟨hq5, hF⟩ := ifs hF
      refine x_getr cx h fa_X5_19 (f := 201) rfl hq5 dX5_told_61 ?_
      obtain ⟨hq6, hF⟩ := ifs hF
      refine x_geti cx h fa_X5_177 (f := 82) rfl hq6 dX5_told_64 ?_
      obtain ⟨rfl, rfl⟩ := rts hF
      exact x_iret cx h dX5_told_67
    · replace hF := ifn c4 hF
      by_cases c7 : a1 = (2 : Int32)
      · replace hF := ifp c7 hF
        refine lv_tableIn (off := 67) (tgt := 68) hx hb dX5_told_1 (by rw [c7]; decide) (by rw [c7]; decide) (by rw [c7]; rfl) (by decide) ?_
        refine x_aload_n hx hb dX5_told_68 rfl (lv_at hl 0 rfl) ?_
        obtain ⟨hq8, hF⟩ := ifs hF
        refine x_getr cx h fa_X5_10 (f := 200) rfl hq8 dX5_told_69 ?_
        obtain ⟨hq9, hF⟩ := ifs hF
        refine x_geti cx h fa_X5_180 (f := 121) rfl hq9 dX5_told_72 ?_
        obtain ⟨rfl, rfl⟩ := rts hF
        exact x_iret cx h dX5_told_75
      · replace hF := ifn c7 hF
        by_cases c10 : a1 = (3 : Int32)
        · replace hF := ifp c10 hF
          refine lv_tableIn (off := 75) (tgt := 76) hx hb dX5_told_1 (by rw [c10]; decide) (by rw [c10]; decide) (by rw [c10]; rfl) (by decide) ?_
          refine x_aload_n hx hb dX5_told_76 rfl (lv_at hl 0 rfl) ?_
          obtain ⟨hq11, hF⟩ := ifs hF
          refine x_getr cx h fa_X5_10 (f := 200) rfl hq11 dX5_told_77 ?_
          obtain ⟨hq12, hF⟩ := ifs hF
          refine x_geti cx h fa_X5_100 (f := 122) rfl hq12 dX5_told_80 ?_
          obtain ⟨rfl, rfl⟩ := rts hF
          exact x_iret cx h dX5_told_83
        · replace hF := ifn c10 hF
          by_cases c13 : a1 = (4 : Int32)
          · replace hF := ifp c13 hF
            refine lv_tableIn (off := 83) (tgt := 84) hx hb dX5_told_1 (by rw [c13]; decide) (by rw [c13]; decide) (by rw [c13]; rfl) (by decide) ?_
            refine x_aload_n hx hb dX5_told_84 rfl (lv_at hl 0 rfl) ?_
            obtain ⟨hq14, hF⟩ := ifs hF
            refine x_getr cx h fa_X5_10 (f := 200) rfl hq14 dX5_told_85 ?_
            obtain ⟨hq15, hF⟩ := ifs hF
            refine x_geti cx h fa_X5_183 (f := 123) rfl hq15 dX5_told_88 ?_
            obtain ⟨rfl, rfl⟩ := rts hF
            exact x_iret cx h dX5_told_91
          · replace hF := ifn c13 hF
            by_cases c16 : a1 = (5 : Int32)
            · replace hF := ifp c16 hF
              refine lv_tableIn (off := 91) (tgt := 92) hx hb dX5_told_1 (by rw [c16]; decide) (by rw [c16]; decide) (by rw [c16]; rfl) (by decide) ?_
              refine x_aload_n hx hb dX5_told_92 rfl (lv_at hl 0 rfl) ?_
              obtain ⟨hq17, hF⟩ := ifs hF
              refine x_getr cx h fa_X5_10 (f := 200) rfl hq17 dX5_told_93 ?_
              obtain ⟨hq18, hF⟩ := ifs hF
              refine x_geti cx h fa_X5_186 (f := 124) rfl hq18 dX5_told_96 ?_
              obtain ⟨rfl, rfl⟩ := rts hF
              exact x_iret cx h dX5_told_99
            · replace hF := ifn c16 hF
              by_cases c19 : a1 = (6 : Int32)
              · replace hF := ifp c19 hF
                refine lv_tableIn (off := 99) (tgt := 100) hx hb dX5_told_1 (by rw [c19]; decide) (by rw [c19]; decide) (by rw [c19]; rfl) (by decide) ?_
                refine x_aload_n hx hb dX5_told_100 rfl (lv_at hl 0 rfl) ?_
                obtain ⟨hq20, hF⟩ := ifs hF
                refine x_geti cx h fa_X5_41 (f := 203) rfl hq20 dX5_told_101 ?_
                obtain ⟨rfl, rfl⟩ := rts hF
                exact x_iret cx h dX5_told_104
              · replace hF := ifn c19 hF
                by_cases c21 : a1 = (7 : Int32)
                · replace hF := ifp c21 hF
                  refine lv_tableIn (off := 104) (tgt := 105) hx hb dX5_told_1 (by rw [c21]; decide) (by rw [c21]; decide) (by rw [c21]; rfl) (by decide) ?_
                  refine x_aload_n hx hb dX5_told_105 rfl (lv_at hl 0 rfl) ?_
                  obtain ⟨hq22, hF⟩ := ifs hF
                  refine x_geti cx h fa_X5_189 (f := 205) rfl hq22 dX5_told_106 ?_
                  obtain ⟨rfl, rfl⟩ := rts hF
                  exact x_iret cx h dX5_told_109
                · replace hF := ifn c21 hF
                  by_cases c23 : a1 = (8 : Int32)
                  · replace hF := ifp c23 hF
                    refine lv_tableIn (off := 109) (tgt := 110) hx hb dX5_told_1 (by rw [c23]; decide) (by rw [c23]; decide) (by rw [c23]; rfl) (by decide) ?_
                    refine x_aload_n hx hb dX5_told_110 rfl (lv_at hl 0 rfl) ?_
                    obtain ⟨hq24, hF⟩ := ifs hF
                    refine x_getr cx h fa_X5_10 (f := 200) rfl hq24 dX5_told_111 ?_
                    obtain ⟨hq25, hF⟩ := ifs hF
                    refine x_geti cx h fa_X5_192 (f := 125) rfl hq25 dX5_told_114 ?_
                    obtain ⟨rfl, rfl⟩ := rts hF
                    exact x_iret cx h dX5_told_117
                  · replace hF := ifn c23 hF
                    refine lv_tableOut (tgt := 118) hx hb dX5_told_1 (by have b0 := lv_neT c1 (a := 0) rfl; have b1 := lv_neT c4 (a := 1) rfl; have b2 := lv_neT c7 (a := 2) rfl; have b3 := lv_neT c10 (a := 3) rfl; have b4 := lv_neT c13 (a := 4) rfl; have b5 := lv_neT c16 (a := 5) rfl; have b6 := lv_neT c19 (a := 6) rfl; have b7 := lv_neT c21 (a := 7) rfl; have b8 := lv_neT c23 (a := 8) rfl; omega) (by decide) ?_
                    refine lv_bipush (v := (-2 : Int32)) hx hb dX5_told_118 (by decide) ?_
                    obtain ⟨rfl, rfl⟩ := rts hF
                    exact x_iret cx h dX5_told_120
def F_X6_init (a0 : Nat) (σ : HS) : Option (Unit × HS) :=
  if kd σ a0 = 7 then (lt1 (nw (si (si σ 242 a0 (10 : Int32)) 243 a0 (1 : Int32)) 100 3000) (fun σ2 => if kd σ2 a0 = 7 then (lt1 (nw (sr σ2 247 a0 (hs (si (si σ 242 a0 (10 : Int32)) 243 a0 (1 : Int32)) + 1)) 100 3000) (fun σ4 => if kd σ4 a0 = 7 then (lt1 (sr σ4 248 a0 (hs (sr σ2 247 a0 (hs (si (si σ 242 a0 (10 : Int32)) 243 a0 (1 : Int32)) + 1)) + 1)) (fun σ6 => lt1 (nw σ6 100 3000) (fun σ7 => if kd σ7 a0 = 7 then (lt1 (nw (sr σ7 249 a0 (hs σ6 + 1)) 100 3000) (fun σ9 => if kd σ9 a0 = 7 then (lt1 (nw (sr σ9 251 a0 (hs (sr σ7 249 a0 (hs σ6 + 1)) + 1)) 100 3000) (fun σ11 => if kd σ11 a0 = 7 then (lt1 (nw (sr σ11 252 a0 (hs (sr σ9 251 a0 (hs (sr σ7 249 a0 (hs σ6 + 1)) + 1)) + 1)) 100 3000) (fun σ13 => if kd σ13 a0 = 7 then (lt1 (sr σ13 253 a0 (hs (sr σ11 252 a0 (hs (sr σ9 251 a0 (hs (sr σ7 249 a0 (hs σ6 + 1)) + 1)) + 1)) + 1)) (fun σ15 => lt1 (nw σ15 101 3000) (fun σ16 => if kd σ16 a0 = 7 then (lt1 (nw (sr σ16 254 a0 (hs σ15 + 1)) 100 256) (fun σ18 => if kd σ18 a0 = 7 then (lt1 (nw (sr σ18 256 a0 (hs (sr σ16 254 a0 (hs σ15 + 1)) + 1)) 100 256) (fun σ20 => if kd σ20 a0 = 7 then (lt1 (nw (sr σ20 257 a0 (hs (sr σ18 256 a0 (hs (sr σ16 254 a0 (hs σ15 + 1)) + 1)) + 1)) 100 256) (fun σ22 => if kd σ22 a0 = 7 then (lt1 (sr σ22 258 a0 (hs (sr σ20 257 a0 (hs (sr σ18 256 a0 (hs (sr σ16 254 a0 (hs σ15 + 1)) + 1)) + 1)) + 1)) (fun σ24 => lt1 (nw σ24 100 8) (fun σ25 => if kd σ25 a0 = 7 then (lt1 (nw (sr σ25 259 a0 (hs σ24 + 1)) 100 8) (fun σ27 => if kd σ27 a0 = 7 then (lt1 (nw (sr σ27 260 a0 (hs (sr σ25 259 a0 (hs σ24 + 1)) + 1)) 100 8) (fun σ29 => if kd σ29 a0 = 7 then (lt1 (nw (sr σ29 261 a0 (hs (sr σ27 260 a0 (hs (sr σ25 259 a0 (hs σ24 + 1)) + 1)) + 1)) 100 8) (fun σ31 => if kd σ31 a0 = 7 then (lt1 (sr σ31 262 a0 (hs (sr σ29 261 a0 (hs (sr σ27 260 a0 (hs (sr σ25 259 a0 (hs σ24 + 1)) + 1)) + 1)) + 1)) (fun σ33 => lt1 (nw σ33 100 128) (fun σ34 => if kd σ34 a0 = 7 then (lt1 (nw (sr σ34 263 a0 (hs σ33 + 1)) 100 128) (fun σ36 => if kd σ36 a0 = 7 then (lt1 (nw (sr σ36 264 a0 (hs (sr σ34 263 a0 (hs σ33 + 1)) + 1)) 100 8) (fun σ38 => if kd σ38 a0 = 7 then (lt1 (nw (sr σ38 265 a0 (hs (sr σ36 264 a0 (hs (sr σ34 263 a0 (hs σ33 + 1)) + 1)) + 1)) 100 8) (fun σ40 => if kd σ40 a0 = 7 then (lt1 (sr σ40 266 a0 (hs (sr σ38 265 a0 (hs (sr σ36 264 a0 (hs (sr σ34 263 a0 (hs σ33 + 1)) + 1)) + 1)) + 1)) (fun σ42 => some ((), (si σ42 267 a0 (0 : Int32))))) else none)) else none)) else none)) else none))) else none)) else none)) else none)) else none))) else none)) else none)) else none)) else none))) else none)) else none)) else none)) else none))) else none)) else none)) else none
theorem mo_F_X6_init (a0 : Nat) (σ : HS) : Mo σ (F_X6_init a0 σ) := by
  unfold F_X6_init
  exact (mo_ite (mo_lt (LE.tr (τ := (si (si σ 242 a0 (10 : Int32)) 243 a0 (1 : Int32))) ⟨Nat.le_refl _, Nat.le_refl _⟩ LE.nw) (fun σ2 => (mo_ite (mo_lt (LE.tr (τ := (sr σ2 247 a0 (hs (si (si σ 242 a0 (10 : Int32)) 243 a0 (1 : Int32)) + 1))) ⟨Nat.le_refl _, Nat.le_refl _⟩ LE.nw) (fun σ4 => (mo_ite (mo_lt ⟨Nat.le_refl _, Nat.le_refl _⟩ (fun σ6 => (mo_lt LE.nw (fun σ7 => (mo_ite (mo_lt (LE.tr (τ := (sr σ7 249 a0 (hs σ6 + 1))) ⟨Nat.le_refl _, Nat.le_refl _⟩ LE.nw) (fun σ9 => (mo_ite (mo_lt (LE.tr (τ := (sr σ9 251 a0 (hs (sr σ7 249 a0 (hs σ6 + 1)) + 1))) ⟨Nat.le_refl _, Nat.le_refl _⟩ LE.nw) (fun σ11 => (mo_ite (mo_lt (LE.tr (τ := (sr σ11 252 a0 (hs (sr σ9 251 a0 (hs (sr σ7 249 a0 (hs σ6 + 1)) + 1)) + 1))) ⟨Nat.le_refl _, Nat.le_refl _⟩ LE.nw) (fun σ13 => (mo_ite (mo_lt ⟨Nat.le_refl _, Nat.le_refl _⟩ (fun σ15 => (mo_lt LE.nw (fun σ16 => (mo_ite (mo_lt (LE.tr (τ := (sr σ16 254 a0 (hs σ15 + 1))) ⟨Nat.le_refl _, Nat.le_refl _⟩ LE.nw) (fun σ18 => (mo_ite (mo_lt (LE.tr (τ := (sr σ18 256 a0 (hs (sr σ16 254 a0 (hs σ15 + 1)) + 1))) ⟨Nat.le_refl _, Nat.le_refl _⟩ LE.nw) (fun σ20 => (mo_ite (mo_lt (LE.tr (τ := (sr σ20 257 a0 (hs (sr σ18 256 a0 (hs (sr σ16 254 a0 (hs σ15 + 1)) + 1)) + 1))) ⟨Nat.le_refl _, Nat.le_refl _⟩ LE.nw) (fun σ22 => (mo_ite (mo_lt ⟨Nat.le_refl _, Nat.le_refl _⟩ (fun σ24 => (mo_lt LE.nw (fun σ25 => (mo_ite (mo_lt (LE.tr (τ := (sr σ25 259 a0 (hs σ24 + 1))) ⟨Nat.le_refl _, Nat.le_refl _⟩ LE.nw) (fun σ27 => (mo_ite (mo_lt (LE.tr (τ := (sr σ27 260 a0 (hs (sr σ25 259 a0 (hs σ24 + 1)) + 1))) ⟨Nat.le_refl _, Nat.le_refl _⟩ LE.nw) (fun σ29 => (mo_ite (mo_lt (LE.tr (τ := (sr σ29 261 a0 (hs (sr σ27 260 a0 (hs (sr σ25 259 a0 (hs σ24 + 1)) + 1)) + 1))) ⟨Nat.le_refl _, Nat.le_refl _⟩ LE.nw) (fun σ31 => (mo_ite (mo_lt ⟨Nat.le_refl _, Nat.le_refl _⟩ (fun σ33 => (mo_lt LE.nw (fun σ34 => (mo_ite (mo_lt (LE.tr (τ := (sr σ34 263 a0 (hs σ33 + 1))) ⟨Nat.le_refl _, Nat.le_refl _⟩ LE.nw) (fun σ36 => (mo_ite (mo_lt (LE.tr (τ := (sr σ36 264 a0 (hs (sr σ34 263 a0 (hs σ33 + 1)) + 1))) ⟨Nat.le_refl _, Nat.le_refl _⟩ LE.nw) (fun σ38 => (mo_ite (mo_lt (LE.tr (τ := (sr σ38 265 a0 (hs (sr σ36 264 a0 (hs (sr σ34 263 a0 (hs σ33 + 1)) + 1)) + 1))) ⟨Nat.le_refl _, Nat.le_refl _⟩ LE.nw) (fun σ40 => (mo_ite (mo_lt ⟨Nat.le_refl _, Nat.le_refl _⟩ (fun σ42 => (mo_le (τ := (si σ42 267 a0 (0 : Int32))) ⟨Nat.le_refl _, Nat.le_refl _⟩ mo_ret))) mo_none))) mo_none))) mo_none))) mo_none))))) mo_none))) mo_none))) mo_none))) mo_none))))) mo_none))) mo_none))) mo_none))) mo_none))))) mo_none))) mo_none))) mo_none))) mo_none))))) mo_none))) mo_none))) mo_none)
set_option maxHeartbeats 4000000 in
set_option maxRecDepth 100000 in
theorem c_X6_init (l : Launch) (D : va_G) (dA : Nat → ClassId) (base : Nat) (a0 : Nat) {σ τ : HS} {r : Unit} (hF : F_X6_init a0 σ = some (r, τ)) : CT l yX6_init cX6_init 1 none 1 20 D dA base [vr a0] none σ τ := by
  refine CT.of (lv := [(0, vr a0)]) (by decide) (vR vN) (Nat.le_of_ble_eq_true rfl) rfl ?_
  intro p e s m args below meth c ls cx hl h
  have cx : CX p s m args meth c cX6_init 1 none RX6 "<init>" D dA base := cx
  have g : LE σ σ := LE.rf
  obtain ⟨hx, hb, -⟩ := id cx
  unfold F_X6_init at hF
  refine x_aload_n hx hb dX6_init_0 rfl (lv_at hl 0 rfl) ?_
  obtain ⟨hq1, hF⟩ := ifs hF
  refine x_obj cx h ml_X6_1 hq1 hl.1 ⟨Nat.le_of_ble_eq_true rfl, Nat.le_of_ble_eq_true rfl⟩ (s8 sN (by decide)) dX6_init_1 ?_
  refine x_aload_n hx hb dX6_init_4 rfl (lv_at hl 0 rfl) ?_
  refine lv_bipush (v := (10 : Int32)) hx hb dX6_init_5 (by decide) ?_
  refine x_sti cx h fa_X6_7 (f := 242) rfl (Or.inl rfl) hq1 dX6_init_7 (fun H locs h => ?_)
  refine x_aload_n hx hb dX6_init_10 rfl (lv_at hl 0 rfl) ?_
  refine lv_iconst (v := (1 : Int32)) hx hb dX6_init_11 (by decide) ?_
  refine x_sti cx h fa_X6_13 (f := 243) rfl (Or.inl rfl) hq1 dX6_init_12 (fun H locs h => ?_)
  refine x_aload_n hx hb dX6_init_15 rfl (lv_at hl 0 rfl) ?_
  refine lv_sipush (v := (3000 : Int32)) hx hb dX6_init_16 (by decide) ?_
  obtain ⟨σ2, e2, hF⟩ := lts hF
  refine x_newaG (σ := (si (si σ 242 a0 (10 : Int32)) 243 a0 (1 : Int32))) (aty := .int) (ty := .int) (j := 0) (N := 3000) cx h g (by rw [← e2]; exact LEm hF (mo_ite (mo_lt (LE.tr (τ := (sr σ2 247 a0 (hs (si (si σ 242 a0 (10 : Int32)) 243 a0 (1 : Int32)) + 1))) ⟨Nat.le_refl _, Nat.le_refl _⟩ LE.nw) (fun σ4 => (mo_ite (mo_lt ⟨Nat.le_refl _, Nat.le_refl _⟩ (fun σ6 => (mo_lt LE.nw (fun σ7 => (mo_ite (mo_lt (LE.tr (τ := (sr σ7 249 a0 (hs σ6 + 1))) ⟨Nat.le_refl _, Nat.le_refl _⟩ LE.nw) (fun σ9 => (mo_ite (mo_lt (LE.tr (τ := (sr σ9 251 a0 (hs (sr σ7 249 a0 (hs σ6 + 1)) + 1))) ⟨Nat.le_refl _, Nat.le_refl _⟩ LE.nw) (fun σ11 => (mo_ite (mo_lt (LE.tr (τ := (sr σ11 252 a0 (hs (sr σ9 251 a0 (hs (sr σ7 249 a0 (hs σ6 + 1)) + 1)) + 1))) ⟨Nat.le_refl _, Nat.le_refl _⟩ LE.nw) (fun σ13 => (mo_ite (mo_lt ⟨Nat.le_refl _, Nat.le_refl _⟩ (fun σ15 => (mo_lt LE.nw (fun σ16 => (mo_ite (mo_lt (LE.tr (τ := (sr σ16 254 a0 (hs σ15 + 1))) ⟨Nat.le_refl _, Nat.le_refl _⟩ LE.nw) (fun σ18 => (mo_ite (mo_lt (LE.tr (τ := (sr σ18 256 a0 (hs (sr σ16 254 a0 (hs σ15 + 1)) + 1))) ⟨Nat.le_refl _, Nat.le_refl _⟩ LE.nw) (fun σ20 => (mo_ite (mo_lt (LE.tr (τ := (sr σ20 257 a0 (hs (sr σ18 256 a0 (hs (sr σ16 254 a0 (hs σ15 + 1)) + 1)) + 1))) ⟨Nat.le_refl _, Nat.le_refl _⟩ LE.nw) (fun σ22 => (mo_ite (mo_lt ⟨Nat.le_refl _, Nat.le_refl _⟩ (fun σ24 => (mo_lt LE.nw (fun σ25 => (mo_ite (mo_lt (LE.tr (τ := (sr σ25 259 a0 (hs σ24 + 1))) ⟨Nat.le_refl _, Nat.le_refl _⟩ LE.nw) (fun σ27 => (mo_ite (mo_lt (LE.tr (τ := (sr σ27 260 a0 (hs (sr σ25 259 a0 (hs σ24 + 1)) + 1))) ⟨Nat.le_refl _, Nat.le_refl _⟩ LE.nw) (fun σ29 => (mo_ite (mo_lt (LE.tr (τ := (sr σ29 261 a0 (hs (sr σ27 260 a0 (hs (sr σ25 259 a0 (hs σ24 + 1)) + 1)) + 1))) ⟨Nat.le_refl _, Nat.le_refl _⟩ LE.nw) (fun σ31 => (mo_ite (mo_lt ⟨Nat.le_refl _, Nat.le_refl _⟩ (fun σ33 => (mo_lt LE.nw (fun σ34 => (mo_ite (mo_lt (LE.tr (τ := (sr σ34 263 a0 (hs σ33 + 1))) ⟨Nat.le_refl _, Nat.le_refl _⟩ LE.nw) (fun σ36 => (mo_ite (mo_lt (LE.tr (τ := (sr σ36 264 a0 (hs (sr σ34 263 a0 (hs σ33 + 1)) + 1))) ⟨Nat.le_refl _, Nat.le_refl _⟩ LE.nw) (fun σ38 => (mo_ite (mo_lt (LE.tr (τ := (sr σ38 265 a0 (hs (sr σ36 264 a0 (hs (sr σ34 263 a0 (hs σ33 + 1)) + 1)) + 1))) ⟨Nat.le_refl _, Nat.le_refl _⟩ LE.nw) (fun σ40 => (mo_ite (mo_lt ⟨Nat.le_refl _, Nat.le_refl _⟩ (fun σ42 => (mo_le (τ := (si σ42 267 a0 (0 : Int32))) ⟨Nat.le_refl _, Nat.le_refl _⟩ mo_ret))) mo_none))) mo_none))) mo_none))) mo_none))))) mo_none))) mo_none))) mo_none))) mo_none))))) mo_none))) mo_none))) mo_none))) mo_none))))) mo_none))) mo_none))) mo_none))) mo_none))))) mo_none))) mo_none)) rfl (Or.inl ⟨rfl, rfl⟩) ac_int (by decide) (by decide) (by decide) dX6_init_19 (fun H h g => ?_)
  have h := Wd.nm e2 h
  have g := LE.nm e2 g
  refine W.cs (cells' := hs σ2 - hs σ) (slots' := ns σ2 - ns σ) (by rw [e2]; try rfl) (by rw [e2]; try rfl) ?_
  obtain ⟨hq3, hF⟩ := ifs hF
  refine x_str cx h fa_X6_16 (f := 247) rfl (Or.inr ⟨rfl, rfl, _, _, rfl⟩) hq3 dX6_init_21 (fun H locs h => ?_)
  refine x_aload_n hx hb dX6_init_24 rfl (lv_at hl 0 rfl) ?_
  refine lv_sipush (v := (3000 : Int32)) hx hb dX6_init_25 (by decide) ?_
  obtain ⟨σ4, e4, hF⟩ := lts hF
  refine x_newaG (σ := (sr σ2 247 a0 (hs (si (si σ 242 a0 (10 : Int32)) 243 a0 (1 : Int32)) + 1))) (aty := .int) (ty := .int) (j := 0) (N := 3000) cx h g (by rw [← e4]; exact LEm hF (mo_ite (mo_lt ⟨Nat.le_refl _, Nat.le_refl _⟩ (fun σ6 => (mo_lt LE.nw (fun σ7 => (mo_ite (mo_lt (LE.tr (τ := (sr σ7 249 a0 (hs σ6 + 1))) ⟨Nat.le_refl _, Nat.le_refl _⟩ LE.nw) (fun σ9 => (mo_ite (mo_lt (LE.tr (τ := (sr σ9 251 a0 (hs (sr σ7 249 a0 (hs σ6 + 1)) + 1))) ⟨Nat.le_refl _, Nat.le_refl _⟩ LE.nw) (fun σ11 => (mo_ite (mo_lt (LE.tr (τ := (sr σ11 252 a0 (hs (sr σ9 251 a0 (hs (sr σ7 249 a0 (hs σ6 + 1)) + 1)) + 1))) ⟨Nat.le_refl _, Nat.le_refl _⟩ LE.nw) (fun σ13 => (mo_ite (mo_lt ⟨Nat.le_refl _, Nat.le_refl _⟩ (fun σ15 => (mo_lt LE.nw (fun σ16 => (mo_ite (mo_lt (LE.tr (τ := (sr σ16 254 a0 (hs σ15 + 1))) ⟨Nat.le_refl _, Nat.le_refl _⟩ LE.nw) (fun σ18 => (mo_ite (mo_lt (LE.tr (τ := (sr σ18 256 a0 (hs (sr σ16 254 a0 (hs σ15 + 1)) + 1))) ⟨Nat.le_refl _, Nat.le_refl _⟩ LE.nw) (fun σ20 => (mo_ite (mo_lt (LE.tr (τ := (sr σ20 257 a0 (hs (sr σ18 256 a0 (hs (sr σ16 254 a0 (hs σ15 + 1)) + 1)) + 1))) ⟨Nat.le_refl _, Nat.le_refl _⟩ LE.nw) (fun σ22 => (mo_ite (mo_lt ⟨Nat.le_refl _, Nat.le_refl _⟩ (fun σ24 => (mo_lt LE.nw (fun σ25 => (mo_ite (mo_lt (LE.tr (τ := (sr σ25 259 a0 (hs σ24 + 1))) ⟨Nat.le_refl _, Nat.le_refl _⟩ LE.nw) (fun σ27 => (mo_ite (mo_lt (LE.tr (τ := (sr σ27 260 a0 (hs (sr σ25 259 a0 (hs σ24 + 1)) + 1))) ⟨Nat.le_refl _, Nat.le_refl _⟩ LE.nw) (fun σ29 => (mo_ite (mo_lt (LE.tr (τ := (sr σ29 261 a0 (hs (sr σ27 260 a0 (hs (sr σ25 259 a0 (hs σ24 + 1)) + 1)) + 1))) ⟨Nat.le_refl _, Nat.le_refl _⟩ LE.nw) (fun σ31 => (mo_ite (mo_lt ⟨Nat.le_refl _, Nat.le_refl _⟩ (fun σ33 => (mo_lt LE.nw (fun σ34 => (mo_ite (mo_lt (LE.tr (τ := (sr σ34 263 a0 (hs σ33 + 1))) ⟨Nat.le_refl _, Nat.le_refl _⟩ LE.nw) (fun σ36 => (mo_ite (mo_lt (LE.tr (τ := (sr σ36 264 a0 (hs (sr σ34 263 a0 (hs σ33 + 1)) + 1))) ⟨Nat.le_refl _, Nat.le_refl _⟩ LE.nw) (fun σ38 => (mo_ite (mo_lt (LE.tr (τ := (sr σ38 265 a0 (hs (sr σ36 264 a0 (hs (sr σ34 263 a0 (hs σ33 + 1)) + 1)) + 1))) ⟨Nat.le_refl _, Nat.le_refl _⟩ LE.nw) (fun σ40 => (mo_ite (mo_lt ⟨Nat.le_refl _, Nat.le_refl _⟩ (fun σ42 => (mo_le (τ := (si σ42 267 a0 (0 : Int32))) ⟨Nat.le_refl _, Nat.le_refl _⟩ mo_ret))) mo_none))) mo_none))) mo_none))) mo_none))))) mo_none))) mo_none))) mo_none))) mo_none))))) mo_none))) mo_none))) mo_none))) mo_none))))) mo_none))) mo_none))) mo_none))) mo_none))))) mo_none)) rfl (Or.inl ⟨rfl, rfl⟩) ac_int (by decide) (by decide) (by decide) dX6_init_28 (fun H h g => ?_)
  have h := Wd.nm e4 h
  have g := LE.nm e4 g
  refine W.cs (cells' := hs σ4 - hs σ) (slots' := ns σ4 - ns σ) (by rw [e4]; try rfl) (by rw [e4]; try rfl) ?_
  obtain ⟨hq5, hF⟩ := ifs hF
  refine x_str cx h fa_X6_20 (f := 248) rfl (Or.inr ⟨rfl, rfl, _, _, rfl⟩) hq5 dX6_init_30 (fun H locs h => ?_)
  obtain ⟨σ6, e6, hF⟩ := lts hF
  have h := Wd.nm e6 h
  have g := LE.nm e6 g
  refine W.cs (cells' := hs σ6 - hs σ) (slots' := ns σ6 - ns σ) (by rw [e6]; try rfl) (by rw [e6]; try rfl) ?_
  refine x_aload_n hx hb dX6_init_33 rfl (lv_at hl 0 rfl) ?_
  refine lv_sipush (v := (3000 : Int32)) hx hb dX6_init_34 (by decide) ?_
  obtain ⟨σ7, e7, hF⟩ := lts hF
  refine x_newaG (σ := σ6) (aty := .int) (ty := .int) (j := 0) (N := 3000) cx h g (by rw [← e7]; exact LEm hF (mo_ite (mo_lt (LE.tr (τ := (sr σ7 249 a0 (hs σ6 + 1))) ⟨Nat.le_refl _, Nat.le_refl _⟩ LE.nw) (fun σ9 => (mo_ite (mo_lt (LE.tr (τ := (sr σ9 251 a0 (hs (sr σ7 249 a0 (hs σ6 + 1)) + 1))) ⟨Nat.le_refl _, Nat.le_refl _⟩ LE.nw) (fun σ11 => (mo_ite (mo_lt (LE.tr (τ := (sr σ11 252 a0 (hs (sr σ9 251 a0 (hs (sr σ7 249 a0 (hs σ6 + 1)) + 1)) + 1))) ⟨Nat.le_refl _, Nat.le_refl _⟩ LE.nw) (fun σ13 => (mo_ite (mo_lt ⟨Nat.le_refl _, Nat.le_refl _⟩ (fun σ15 => (mo_lt LE.nw (fun σ16 => (mo_ite (mo_lt (LE.tr (τ := (sr σ16 254 a0 (hs σ15 + 1))) ⟨Nat.le_refl _, Nat.le_refl _⟩ LE.nw) (fun σ18 => (mo_ite (mo_lt (LE.tr (τ := (sr σ18 256 a0 (hs (sr σ16 254 a0 (hs σ15 + 1)) + 1))) ⟨Nat.le_refl _, Nat.le_refl _⟩ LE.nw) (fun σ20 => (mo_ite (mo_lt (LE.tr (τ := (sr σ20 257 a0 (hs (sr σ18 256 a0 (hs (sr σ16 254 a0 (hs σ15 + 1)) + 1)) + 1))) ⟨Nat.le_refl _, Nat.le_refl _⟩ LE.nw) (fun σ22 => (mo_ite (mo_lt ⟨Nat.le_refl _, Nat.le_refl _⟩ (fun σ24 => (mo_lt LE.nw (fun σ25 => (mo_ite (mo_lt (LE.tr (τ := (sr σ25 259 a0 (hs σ24 + 1))) ⟨Nat.le_refl _, Nat.le_refl _⟩ LE.nw) (fun σ27 => (mo_ite (mo_lt (LE.tr (τ := (sr σ27 260 a0 (hs (sr σ25 259 a0 (hs σ24 + 1)) + 1))) ⟨Nat.le_refl _, Nat.le_refl _⟩ LE.nw) (fun σ29 => (mo_ite (mo_lt (LE.tr (τ := (sr σ29 261 a0 (hs (sr σ27 260 a0 (hs (sr σ25 259 a0 (hs σ24 + 1)) + 1)) + 1))) ⟨Nat.le_refl _, Nat.le_refl _⟩ LE.nw) (fun σ31 => (mo_ite (mo_lt ⟨Nat.le_refl _, Nat.le_refl _⟩ (fun σ33 => (mo_lt LE.nw (fun σ34 => (mo_ite (mo_lt (LE.tr (τ := (sr σ34 263 a0 (hs σ33 + 1))) ⟨Nat.le_refl _, Nat.le_refl _⟩ LE.nw) (fun σ36 => (mo_ite (mo_lt (LE.tr (τ := (sr σ36 264 a0 (hs (sr σ34 263 a0 (hs σ33 + 1)) + 1))) ⟨Nat.le_refl _, Nat.le_refl _⟩ LE.nw) (fun σ38 => (mo_ite (mo_lt (LE.tr (τ := (sr σ38 265 a0 (hs (sr σ36 264 a0 (hs (sr σ34 263 a0 (hs σ33 + 1)) + 1)) + 1))) ⟨Nat.le_refl _, Nat.le_refl _⟩ LE.nw) (fun σ40 => (mo_ite (mo_lt ⟨Nat.le_refl _, Nat.le_refl _⟩ (fun σ42 => (mo_le (τ := (si σ42 267 a0 (0 : Int32))) ⟨Nat.le_refl _, Nat.le_refl _⟩ mo_ret))) mo_none))) mo_none))) mo_none))) mo_none))))) mo_none))) mo_none))) mo_none))) mo_none))))) mo_none))) mo_none))) mo_none))) mo_none))))) mo_none))) mo_none))) mo_none))) mo_none)) rfl (Or.inl ⟨rfl, rfl⟩) ac_int (by decide) (by decide) (by decide) dX6_init_37 (fun H h g => ?_)
  have h := Wd.nm e7 h
  have g := LE.nm e7 g
  refine W.cs (cells' := hs σ7 - hs σ) (slots' := ns σ7 - ns σ) (by rw [e7]; try rfl) (by rw [e7]; try rfl) ?_
  obtain ⟨hq8, hF⟩ := ifs hF
  refine x_str cx h fa_X6_23 (f := 249) rfl (Or.inr ⟨rfl, rfl, _, _, rfl⟩) hq8 dX6_init_39 (fun H locs h => ?_)
  refine x_aload_n hx hb dX6_init_42 rfl (lv_at hl 0 rfl) ?_
  refine lv_sipush (v := (3000 : Int32)) hx hb dX6_init_43 (by decide) ?_
  obtain ⟨σ9, e9, hF⟩ := lts hF
  refine x_newaG (σ := (sr σ7 249 a0 (hs σ6 + 1))) (aty := .int) (ty := .int) (j := 0) (N := 3000) cx h g (by rw [← e9]; exact LEm hF (mo_ite (mo_lt (LE.tr (τ := (sr σ9 251 a0 (hs (sr σ7 249 a0 (hs σ6 + 1)) + 1))) ⟨Nat.le_refl _, Nat.le_refl _⟩ LE.nw) (fun σ11 => (mo_ite (mo_lt (LE.tr (τ := (sr σ11 252 a0 (hs (sr σ9 251 a0 (hs (sr σ7 249 a0 (hs σ6 + 1)) + 1)) + 1))) ⟨Nat.le_refl _, Nat.le_refl _⟩ LE.nw) (fun σ13 => (mo_ite (mo_lt ⟨Nat.le_refl _, Nat.le_refl _⟩ (fun σ15 => (mo_lt LE.nw (fun σ16 => (mo_ite (mo_lt (LE.tr (τ := (sr σ16 254 a0 (hs σ15 + 1))) ⟨Nat.le_refl _, Nat.le_refl _⟩ LE.nw) (fun σ18 => (mo_ite (mo_lt (LE.tr (τ := (sr σ18 256 a0 (hs (sr σ16 254 a0 (hs σ15 + 1)) + 1))) ⟨Nat.le_refl _, Nat.le_refl _⟩ LE.nw) (fun σ20 => (mo_ite (mo_lt (LE.tr (τ := (sr σ20 257 a0 (hs (sr σ18 256 a0 (hs (sr σ16 254 a0 (hs σ15 + 1)) + 1)) + 1))) ⟨Nat.le_refl _, Nat.le_refl _⟩ LE.nw) (fun σ22 => (mo_ite (mo_lt ⟨Nat.le_refl _, Nat.le_refl _⟩ (fun σ24 => (mo_lt LE.nw (fun σ25 => (mo_ite (mo_lt (LE.tr (τ := (sr σ25 259 a0 (hs σ24 + 1))) ⟨Nat.le_refl _, Nat.le_refl _⟩ LE.nw) (fun σ27 => (mo_ite (mo_lt (LE.tr (τ := (sr σ27 260 a0 (hs (sr σ25 259 a0 (hs σ24 + 1)) + 1))) ⟨Nat.le_refl _, Nat.le_refl _⟩ LE.nw) (fun σ29 => (mo_ite (mo_lt (LE.tr (τ := (sr σ29 261 a0 (hs (sr σ27 260 a0 (hs (sr σ25 259 a0 (hs σ24 + 1)) + 1)) + 1))) ⟨Nat.le_refl _, Nat.le_refl _⟩ LE.nw) (fun σ31 => (mo_ite (mo_lt ⟨Nat.le_refl _, Nat.le_refl _⟩ (fun σ33 => (mo_lt LE.nw (fun σ34 => (mo_ite (mo_lt (LE.tr (τ := (sr σ34 263 a0 (hs σ33 + 1))) ⟨Nat.le_refl _, Nat.le_refl _⟩ LE.nw) (fun σ36 => (mo_ite (mo_lt (LE.tr (τ := (sr σ36 264 a0 (hs (sr σ34 263 a0 (hs σ33 + 1)) + 1))) ⟨Nat.le_refl _, Nat.le_refl _⟩ LE.nw) (fun σ38 => (mo_ite (mo_lt (LE.tr (τ := (sr σ38 265 a0 (hs (sr σ36 264 a0 (hs (sr σ34 263 a0 (hs σ33 + 1)) + 1)) + 1))) ⟨Nat.le_refl _, Nat.le_refl _⟩ LE.nw) (fun σ40 => (mo_ite (mo_lt ⟨Nat.le_refl _, Nat.le_refl _⟩ (fun σ42 => (mo_le (τ := (si σ42 267 a0 (0 : Int32))) ⟨Nat.le_refl _, Nat.le_refl _⟩ mo_ret))) mo_none))) mo_none))) mo_none))) mo_none))))) mo_none))) mo_none))) mo_none))) mo_none))))) mo_none))) mo_none))) mo_none))) mo_none))))) mo_none))) mo_none))) mo_none)) rfl (Or.inl ⟨rfl, rfl⟩) ac_int (by decide) (by decide) (by decide) dX6_init_46 (fun H h g => ?_)
  have h := Wd.nm e9 h
  have g := LE.nm e9 g
  refine W.cs (cells' := hs σ9 - hs σ) (slots' := ns σ9 - ns σ) (by rw [e9]; try rfl) (by rw [e9]; try rfl) ?_
  obtain ⟨hq10, hF⟩ := ifs hF
  refine x_str cx h fa_X6_26 (f := 251) rfl (Or.inr ⟨rfl, rfl, _, _, rfl⟩) hq10 dX6_init_48 (fun H locs h => ?_)
  refine x_aload_n hx hb dX6_init_51 rfl (lv_at hl 0 rfl) ?_
  refine lv_sipush (v := (3000 : Int32)) hx hb dX6_init_52 (by decide) ?_
  obtain ⟨σ11, e11, hF⟩ := lts hF
  refine x_newaG (σ := (sr σ9 251 a0 (hs (sr σ7 249 a0 (hs σ6 + 1)) + 1))) (aty := .int) (ty := .int) (j := 0) (N := 3000) cx h g (by rw [← e11]; exact LEm hF (mo_ite (mo_lt (LE.tr (τ := (sr σ11 252 a0 (hs (sr σ9 251 a0 (hs (sr σ7 249 a0 (hs σ6 + 1)) + 1)) + 1))) ⟨Nat.le_refl _, Nat.le_refl _⟩ LE.nw) (fun σ13 => (mo_ite (mo_lt ⟨Nat.le_refl _, Nat.le_refl _⟩ (fun σ15 => (mo_lt LE.nw (fun σ16 => (mo_ite (mo_lt (LE.tr (τ := (sr σ16 254 a0 (hs σ15 + 1))) ⟨Nat.le_refl _, Nat.le_refl _⟩ LE.nw) (fun σ18 => (mo_ite (mo_lt (LE.tr (τ := (sr σ18 256 a0 (hs (sr σ16 254 a0 (hs σ15 + 1)) + 1))) ⟨Nat.le_refl _, Nat.le_refl _⟩ LE.nw) (fun σ20 => (mo_ite (mo_lt (LE.tr (τ := (sr σ20 257 a0 (hs (sr σ18 256 a0 (hs (sr σ16 254 a0 (hs σ15 + 1)) + 1)) + 1))) ⟨Nat.le_refl _, Nat.le_refl _⟩ LE.nw) (fun σ22 => (mo_ite (mo_lt ⟨Nat.le_refl _, Nat.le_refl _⟩ (fun σ24 => (mo_lt LE.nw (fun σ25 => (mo_ite (mo_lt (LE.tr (τ := (sr σ25 259 a0 (hs σ24 + 1))) ⟨Nat.le_refl _, Nat.le_refl _⟩ LE.nw) (fun σ27 => (mo_ite (mo_lt (LE.tr (τ := (sr σ27 260 a0 (hs (sr σ25 259 a0 (hs σ24 + 1)) + 1))) ⟨Nat.le_refl _, Nat.le_refl _⟩ LE.nw) (fun σ29 => (mo_ite (mo_lt (LE.tr (τ := (sr σ29 261 a0 (hs (sr σ27 260 a0 (hs (sr σ25 259 a0 (hs σ24 + 1)) + 1)) + 1))) ⟨Nat.le_refl _, Nat.le_refl _⟩ LE.nw) (fun σ31 => (mo_ite (mo_lt ⟨Nat.le_refl _, Nat.le_refl _⟩ (fun σ33 => (mo_lt LE.nw (fun σ34 => (mo_ite (mo_lt (LE.tr (τ := (sr σ34 263 a0 (hs σ33 + 1))) ⟨Nat.le_refl _, Nat.le_refl _⟩ LE.nw) (fun σ36 => (mo_ite (mo_lt (LE.tr (τ := (sr σ36 264 a0 (hs (sr σ34 263 a0 (hs σ33 + 1)) + 1))) ⟨Nat.le_refl _, Nat.le_refl _⟩ LE.nw) (fun σ38 => (mo_ite (mo_lt (LE.tr (τ := (sr σ38 265 a0 (hs (sr σ36 264 a0 (hs (sr σ34 263 a0 (hs σ33 + 1)) + 1)) + 1))) ⟨Nat.le_refl _, Nat.le_refl _⟩ LE.nw) (fun σ40 => (mo_ite (mo_lt ⟨Nat.le_refl _, Nat.le_refl _⟩ (fun σ42 => (mo_le (τ := (si σ42 267 a0 (0 : Int32))) ⟨Nat.le_refl _, Nat.le_refl _⟩ mo_ret))) mo_none))) mo_none))) mo_none))) mo_none))))) mo_none))) mo_none))) mo_none))) mo_none))))) mo_none))) mo_none))) mo_none))) mo_none))))) mo_none))) mo_none)) rfl (Or.inl ⟨rfl, rfl⟩) ac_int (by decide) (by decide) (by decide) dX6_init_55 (fun H h g => ?_)
  have h := Wd.nm e11 h
  have g := LE.nm e11 g
  refine W.cs (cells' := hs σ11 - hs σ) (slots' := ns σ11 - ns σ) (by rw [e11]; try rfl) (by rw [e11]; try rfl) ?_
  obtain ⟨hq12, hF⟩ := ifs hF
  refine x_str cx h fa_X6_29 (f := 252) rfl (Or.inr ⟨rfl, rfl, _, _, rfl⟩) hq12 dX6_init_57 (fun H locs h => ?_)
  refine x_aload_n hx hb dX6_init_60 rfl (lv_at hl 0 rfl) ?_
  refine lv_sipush (v := (3000 : Int32)) hx hb dX6_init_61 (by decide) ?_
  obtain ⟨σ13, e13, hF⟩ := lts hF
  refine x_newaG (σ := (sr σ11 252 a0 (hs (sr σ9 251 a0 (hs (sr σ7 249 a0 (hs σ6 + 1)) + 1)) + 1))) (aty := .int) (ty := .int) (j := 0) (N := 3000) cx h g (by rw [← e13]; exact LEm hF (mo_ite (mo_lt ⟨Nat.le_refl _, Nat.le_refl _⟩ (fun σ15 => (mo_lt LE.nw (fun σ16 => (mo_ite (mo_lt (LE.tr (τ := (sr σ16 254 a0 (hs σ15 + 1))) ⟨Nat.le_refl _, Nat.le_refl _⟩ LE.nw) (fun σ18 => (mo_ite (mo_lt (LE.tr (τ := (sr σ18 256 a0 (hs (sr σ16 254 a0 (hs σ15 + 1)) + 1))) ⟨Nat.le_refl _, Nat.le_refl _⟩ LE.nw) (fun σ20 => (mo_ite (mo_lt (LE.tr (τ := (sr σ20 257 a0 (hs (sr σ18 256 a0 (hs (sr σ16 254 a0 (hs σ15 + 1)) + 1)) + 1))) ⟨Nat.le_refl _, Nat.le_refl _⟩ LE.nw) (fun σ22 => (mo_ite (mo_lt ⟨Nat.le_refl _, Nat.le_refl _⟩ (fun σ24 => (mo_lt LE.nw (fun σ25 => (mo_ite (mo_lt (LE.tr (τ := (sr σ25 259 a0 (hs σ24 + 1))) ⟨Nat.le_refl _, Nat.le_refl _⟩ LE.nw) (fun σ27 => (mo_ite (mo_lt (LE.tr (τ := (sr σ27 260 a0 (hs (sr σ25 259 a0 (hs σ24 + 1)) + 1))) ⟨Nat.le_refl _, Nat.le_refl _⟩ LE.nw) (fun σ29 => (mo_ite (mo_lt (LE.tr (τ := (sr σ29 261 a0 (hs (sr σ27 260 a0 (hs (sr σ25 259 a0 (hs σ24 + 1)) + 1)) + 1))) ⟨Nat.le_refl _, Nat.le_refl _⟩ LE.nw) (fun σ31 => (mo_ite (mo_lt ⟨Nat.le_refl _, Nat.le_refl _⟩ (fun σ33 => (mo_lt LE.nw (fun σ34 => (mo_ite (mo_lt (LE.tr (τ := (sr σ34 263 a0 (hs σ33 + 1))) ⟨Nat.le_refl _, Nat.le_refl _⟩ LE.nw) (fun σ36 => (mo_ite (mo_lt (LE.tr (τ := (sr σ36 264 a0 (hs (sr σ34 263 a0 (hs σ33 + 1)) + 1))) ⟨Nat.le_refl _, Nat.le_refl _⟩ LE.nw) (fun σ38 => (mo_ite (mo_lt (LE.tr (τ := (sr σ38 265 a0 (hs (sr σ36 264 a0 (hs (sr σ34 263 a0 (hs σ33 + 1)) + 1)) + 1))) ⟨Nat.le_refl _, Nat.le_refl _⟩ LE.nw) (fun σ40 => (mo_ite (mo_lt ⟨Nat.le_refl _, Nat.le_refl _⟩ (fun σ42 => (mo_le (τ := (si σ42 267 a0 (0 : Int32))) ⟨Nat.le_refl _, Nat.le_refl _⟩ mo_ret))) mo_none))) mo_none))) mo_none))) mo_none))))) mo_none))) mo_none))) mo_none))) mo_none))))) mo_none))) mo_none))) mo_none))) mo_none))))) mo_none)) rfl (Or.inl ⟨rfl, rfl⟩) ac_int (by decide) (by decide) (by decide) dX6_init_64 (fun H h g => ?_)
  have h := Wd.nm e13 h
  have g := LE.nm e13 g
  refine W.cs (cells' := hs σ13 - hs σ) (slots' := ns σ13 - ns σ) (by rw [e13]; try rfl) (by rw [e13]; try rfl) ?_
  obtain ⟨hq14, hF⟩ := ifs hF
  refine x_str cx h fa_X6_32 (f := 253) rfl (Or.inr ⟨rfl, rfl, _, _, rfl⟩) hq14 dX6_init_66 (fun H locs h => ?_)
  obtain ⟨σ15, e15, hF⟩ := lts hF
  have h := Wd.nm e15 h
  have g := LE.nm e15 g
  refine W.cs (cells' := hs σ15 - hs σ) (slots' := ns σ15 - ns σ) (by rw [e15]; try rfl) (by rw [e15]; try rfl) ?_
  refine x_aload_n hx hb dX6_init_69 rfl (lv_at hl 0 rfl) ?_
  refine lv_sipush (v := (3000 : Int32)) hx hb dX6_init_70 (by decide) ?_
  obtain ⟨σ16, e16, hF⟩ := lts hF
  refine x_newaG (σ := σ15) (aty := .boolean) (ty := .boolean) (j := 1) (N := 3000) cx h g (by rw [← e16]; exact LEm hF (mo_ite (mo_lt (LE.tr (τ := (sr σ16 254 a0 (hs σ15 + 1))) ⟨Nat.le_refl _, Nat.le_refl _⟩ LE.nw) (fun σ18 => (mo_ite (mo_lt (LE.tr (τ := (sr σ18 256 a0 (hs (sr σ16 254 a0 (hs σ15 + 1)) + 1))) ⟨Nat.le_refl _, Nat.le_refl _⟩ LE.nw) (fun σ20 => (mo_ite (mo_lt (LE.tr (τ := (sr σ20 257 a0 (hs (sr σ18 256 a0 (hs (sr σ16 254 a0 (hs σ15 + 1)) + 1)) + 1))) ⟨Nat.le_refl _, Nat.le_refl _⟩ LE.nw) (fun σ22 => (mo_ite (mo_lt ⟨Nat.le_refl _, Nat.le_refl _⟩ (fun σ24 => (mo_lt LE.nw (fun σ25 => (mo_ite (mo_lt (LE.tr (τ := (sr σ25 259 a0 (hs σ24 + 1))) ⟨Nat.le_refl _, Nat.le_refl _⟩ LE.nw) (fun σ27 => (mo_ite (mo_lt (LE.tr (τ := (sr σ27 260 a0 (hs (sr σ25 259 a0 (hs σ24 + 1)) + 1))) ⟨Nat.le_refl _, Nat.le_refl _⟩ LE.nw) (fun σ29 => (mo_ite (mo_lt (LE.tr (τ := (sr σ29 261 a0 (hs (sr σ27 260 a0 (hs (sr σ25 259 a0 (hs σ24 + 1)) + 1)) + 1))) ⟨Nat.le_refl _, Nat.le_refl _⟩ LE.nw) (fun σ31 => (mo_ite (mo_lt ⟨Nat.le_refl _, Nat.le_refl _⟩ (fun σ33 => (mo_lt LE.nw (fun σ34 => (mo_ite (mo_lt (LE.tr (τ := (sr σ34 263 a0 (hs σ33 + 1))) ⟨Nat.le_refl _, Nat.le_refl _⟩ LE.nw) (fun σ36 => (mo_ite (mo_lt (LE.tr (τ := (sr σ36 264 a0 (hs (sr σ34 263 a0 (hs σ33 + 1)) + 1))) ⟨Nat.le_refl _, Nat.le_refl _⟩ LE.nw) (fun σ38 => (mo_ite (mo_lt (LE.tr (τ := (sr σ38 265 a0 (hs (sr σ36 264 a0 (hs (sr σ34 263 a0 (hs σ33 + 1)) + 1)) + 1))) ⟨Nat.le_refl _, Nat.le_refl _⟩ LE.nw) (fun σ40 => (mo_ite (mo_lt ⟨Nat.le_refl _, Nat.le_refl _⟩ (fun σ42 => (mo_le (τ := (si σ42 267 a0 (0 : Int32))) ⟨Nat.le_refl _, Nat.le_refl _⟩ mo_ret))) mo_none))) mo_none))) mo_none))) mo_none))))) mo_none))) mo_none))) mo_none))) mo_none))))) mo_none))) mo_none))) mo_none))) mo_none)) rfl (Or.inr ⟨rfl, rfl⟩) ac_boolean (by decide) (by decide) (by decide) dX6_init_73 (fun H h g => ?_)
  have h := Wd.nm e16 h
  have g := LE.nm e16 g
  refine W.cs (cells' := hs σ16 - hs σ) (slots' := ns σ16 - ns σ) (by rw [e16]; try rfl) (by rw [e16]; try rfl) ?_
  obtain ⟨hq17, hF⟩ := ifs hF
  refine x_str cx h fa_X6_35 (f := 254) rfl (Or.inr ⟨rfl, rfl, _, _, rfl⟩) hq17 dX6_init_75 (fun H locs h => ?_)
  refine x_aload_n hx hb dX6_init_78 rfl (lv_at hl 0 rfl) ?_
  refine lv_sipush (v := (256 : Int32)) hx hb dX6_init_79 (by decide) ?_
  obtain ⟨σ18, e18, hF⟩ := lts hF
  refine x_newaG (σ := (sr σ16 254 a0 (hs σ15 + 1))) (aty := .int) (ty := .int) (j := 0) (N := 256) cx h g (by rw [← e18]; exact LEm hF (mo_ite (mo_lt (LE.tr (τ := (sr σ18 256 a0 (hs (sr σ16 254 a0 (hs σ15 + 1)) + 1))) ⟨Nat.le_refl _, Nat.le_refl _⟩ LE.nw) (fun σ20 => (mo_ite (mo_lt (LE.tr (τ := (sr σ20 257 a0 (hs (sr σ18 256 a0 (hs (sr σ16 254 a0 (hs σ15 + 1)) + 1)) + 1))) ⟨Nat.le_refl _, Nat.le_refl _⟩ LE.nw) (fun σ22 => (mo_ite (mo_lt ⟨Nat.le_refl _, Nat.le_refl _⟩ (fun σ24 => (mo_lt LE.nw (fun σ25 => (mo_ite (mo_lt (LE.tr (τ := (sr σ25 259 a0 (hs σ24 + 1))) ⟨Nat.le_refl _, Nat.le_refl _⟩ LE.nw) (fun σ27 => (mo_ite (mo_lt (LE.tr (τ := (sr σ27 260 a0 (hs (sr σ25 259 a0 (hs σ24 + 1)) + 1))) ⟨Nat.le_refl _, Nat.le_refl _⟩ LE.nw) (fun σ29 => (mo_ite (mo_lt (LE.tr (τ := (sr σ29 261 a0 (hs (sr σ27 260 a0 (hs (sr σ25 259 a0 (hs σ24 + 1)) + 1)) + 1))) ⟨Nat.le_refl _, Nat.le_refl _⟩ LE.nw) (fun σ31 => (mo_ite (mo_lt ⟨Nat.le_refl _, Nat.le_refl _⟩ (fun σ33 => (mo_lt LE.nw (fun σ34 => (mo_ite (mo_lt (LE.tr (τ := (sr σ34 263 a0 (hs σ33 + 1))) ⟨Nat.le_refl _, Nat.le_refl _⟩ LE.nw) (fun σ36 => (mo_ite (mo_lt (LE.tr (τ := (sr σ36 264 a0 (hs (sr σ34 263 a0 (hs σ33 + 1)) + 1))) ⟨Nat.le_refl _, Nat.le_refl _⟩ LE.nw) (fun σ38 => (mo_ite (mo_lt (LE.tr (τ := (sr σ38 265 a0 (hs (sr σ36 264 a0 (hs (sr σ34 263 a0 (hs σ33 + 1)) + 1)) + 1))) ⟨Nat.le_refl _, Nat.le_refl _⟩ LE.nw) (fun σ40 => (mo_ite (mo_lt ⟨Nat.le_refl _, Nat.le_refl _⟩ (fun σ42 => (mo_le (τ := (si σ42 267 a0 (0 : Int32))) ⟨Nat.le_refl _, Nat.le_refl _⟩ mo_ret))) mo_none))) mo_none))) mo_none))) mo_none))))) mo_none))) mo_none))) mo_none))) mo_none))))) mo_none))) mo_none))) mo_none)) rfl (Or.inl ⟨rfl, rfl⟩) ac_int (by decide) (by decide) (by decide) dX6_init_82 (fun H h g => ?_)
  have h := Wd.nm e18 h
  have g := LE.nm e18 g
  refine W.cs (cells' := hs σ18 - hs σ) (slots' := ns σ18 - ns σ) (by rw [e18]; try rfl) (by rw [e18]; try rfl) ?_
  obtain ⟨hq19, hF⟩ := ifs hF
  refine x_str cx h fa_X6_39 (f := 256) rfl (Or.inr ⟨rfl, rfl, _, _, rfl⟩) hq19 dX6_init_84 (fun H locs h => ?_)
  refine x_aload_n hx hb dX6_init_87 rfl (lv_at hl 0 rfl) ?_
  refine lv_sipush (v := (256 : Int32)) hx hb dX6_init_88 (by decide) ?_
  obtain ⟨σ20, e20, hF⟩ := lts hF
  refine x_newaG (σ := (sr σ18 256 a0 (hs (sr σ16 254 a0 (hs σ15 + 1)) + 1))) (aty := .int) (ty := .int) (j := 0) (N := 256) cx h g (by rw [← e20]; exact LEm hF (mo_ite (mo_lt (LE.tr (τ := (sr σ20 257 a0 (hs (sr σ18 256 a0 (hs (sr σ16 254 a0 (hs σ15 + 1)) + 1)) + 1))) ⟨Nat.le_refl _, Nat.le_refl _⟩ LE.nw) (fun σ22 => (mo_ite (mo_lt ⟨Nat.le_refl _, Nat.le_refl _⟩ (fun σ24 => (mo_lt LE.nw (fun σ25 => (mo_ite (mo_lt (LE.tr (τ := (sr σ25 259 a0 (hs σ24 + 1))) ⟨Nat.le_refl _, Nat.le_refl _⟩ LE.nw) (fun σ27 => (mo_ite (mo_lt (LE.tr (τ := (sr σ27 260 a0 (hs (sr σ25 259 a0 (hs σ24 + 1)) + 1))) ⟨Nat.le_refl _, Nat.le_refl _⟩ LE.nw) (fun σ29 => (mo_ite (mo_lt (LE.tr (τ := (sr σ29 261 a0 (hs (sr σ27 260 a0 (hs (sr σ25 259 a0 (hs σ24 + 1)) + 1)) + 1))) ⟨Nat.le_refl _, Nat.le_refl _⟩ LE.nw) (fun σ31 => (mo_ite (mo_lt ⟨Nat.le_refl _, Nat.le_refl _⟩ (fun σ33 => (mo_lt LE.nw (fun σ34 => (mo_ite (mo_lt (LE.tr (τ := (sr σ34 263 a0 (hs σ33 + 1))) ⟨Nat.le_refl _, Nat.le_refl _⟩ LE.nw) (fun σ36 => (mo_ite (mo_lt (LE.tr (τ := (sr σ36 264 a0 (hs (sr σ34 263 a0 (hs σ33 + 1)) + 1))) ⟨Nat.le_refl _, Nat.le_refl _⟩ LE.nw) (fun σ38 => (mo_ite (mo_lt (LE.tr (τ := (sr σ38 265 a0 (hs (sr σ36 264 a0 (hs (sr σ34 263 a0 (hs σ33 + 1)) + 1)) + 1))) ⟨Nat.le_refl _, Nat.le_refl _⟩ LE.nw) (fun σ40 => (mo_ite (mo_lt ⟨Nat.le_refl _, Nat.le_refl _⟩ (fun σ42 => (mo_le (τ := (si σ42 267 a0 (0 : Int32))) ⟨Nat.le_refl _, Nat.le_refl _⟩ mo_ret))) mo_none))) mo_none))) mo_none))) mo_none))))) mo_none))) mo_none))) mo_none))) mo_none))))) mo_none))) mo_none)) rfl (Or.inl ⟨rfl, rfl⟩) ac_int (by decide) (by decide) (by decide) dX6_init_91 (fun H h g => ?_)
  have h := Wd.nm e20 h
  have g := LE.nm e20 g
  refine W.cs (cells' := hs σ20 - hs σ) (slots' := ns σ20 - ns σ) (by rw [e20]; try rfl) (by rw [e20]; try rfl) ?_
  obtain ⟨hq21, hF⟩ := ifs hF
  refine x_str cx h fa_X6_42 (f := 257) rfl (Or.inr ⟨rfl, rfl, _, _, rfl⟩) hq21 dX6_init_93 (fun H locs h => ?_)
  refine x_aload_n hx hb dX6_init_96 rfl (lv_at hl 0 rfl) ?_
  refine lv_sipush (v := (256 : Int32)) hx hb dX6_init_97 (by decide) ?_
  obtain ⟨σ22, e22, hF⟩ := lts hF
  refine x_newaG (σ := (sr σ20 257 a0 (hs (sr σ18 256 a0 (hs (sr σ16 254 a0 (hs σ15 + 1)) + 1)) + 1))) (aty := .int) (ty := .int) (j := 0) (N := 256) cx h g (by rw [← e22]; exact LEm hF (mo_ite (mo_lt ⟨Nat.le_refl _, Nat.le_refl _⟩ (fun σ24 => (mo_lt LE.nw (fun σ25 => (mo_ite (mo_lt (LE.tr (τ := (sr σ25 259 a0 (hs σ24 + 1))) ⟨Nat.le_refl _, Nat.le_refl _⟩ LE.nw) (fun σ27 => (mo_ite (mo_lt (LE.tr (τ := (sr σ27 260 a0 (hs (sr σ25 259 a0 (hs σ24 + 1)) + 1))) ⟨Nat.le_refl _, Nat.le_refl _⟩ LE.nw) (fun σ29 => (mo_ite (mo_lt (LE.tr (τ := (sr σ29 261 a0 (hs (sr σ27 260 a0 (hs (sr σ25 259 a0 (hs σ24 + 1)) + 1)) + 1))) ⟨Nat.le_refl _, Nat.le_refl _⟩ LE.nw) (fun σ31 => (mo_ite (mo_lt ⟨Nat.le_refl _, Nat.le_refl _⟩ (fun σ33 => (mo_lt LE.nw (fun σ34 => (mo_ite (mo_lt (LE.tr (τ := (sr σ34 263 a0 (hs σ33 + 1))) ⟨Nat.le_refl _, Nat.le_refl _⟩ LE.nw) (fun σ36 => (mo_ite (mo_lt (LE.tr (τ := (sr σ36 264 a0 (hs (sr σ34 263 a0 (hs σ33 + 1)) + 1))) ⟨Nat.le_refl _, Nat.le_refl _⟩ LE.nw) (fun σ38 => (mo_ite (mo_lt (LE.tr (τ := (sr σ38 265 a0 (hs (sr σ36 264 a0 (hs (sr σ34 263 a0 (hs σ33 + 1)) + 1)) + 1))) ⟨Nat.le_refl _, Nat.le_refl _⟩ LE.nw) (fun σ40 => (mo_ite (mo_lt ⟨Nat.le_refl _, Nat.le_refl _⟩ (fun σ42 => (mo_le (τ := (si σ42 267 a0 (0 : Int32))) ⟨Nat.le_refl _, Nat.le_refl _⟩ mo_ret))) mo_none))) mo_none))) mo_none))) mo_none))))) mo_none))) mo_none))) mo_none))) mo_none))))) mo_none)) rfl (Or.inl ⟨rfl, rfl⟩) ac_int (by decide) (by decide) (by decide) dX6_init_100 (fun H h g => ?_)
  have h := Wd.nm e22 h
  have g := LE.nm e22 g
  refine W.cs (cells' := hs σ22 - hs σ) (slots' := ns σ22 - ns σ) (by rw [e22]; try rfl) (by rw [e22]; try rfl) ?_
  obtain ⟨hq23, hF⟩ := ifs hF
  refine x_str cx h fa_X6_45 (f := 258) rfl (Or.inr ⟨rfl, rfl, _, _, rfl⟩) hq23 dX6_init_102 (fun H locs h => ?_)
  obtain ⟨σ24, e24, hF⟩ := lts hF
  have h := Wd.nm e24 h
  have g := LE.nm e24 g
  refine W.cs (cells' := hs σ24 - hs σ) (slots' := ns σ24 - ns σ) (by rw [e24]; try rfl) (by rw [e24]; try rfl) ?_
  refine x_aload_n hx hb dX6_init_105 rfl (lv_at hl 0 rfl) ?_
  refine lv_bipush (v := (8 : Int32)) hx hb dX6_init_106 (by decide) ?_
  obtain ⟨σ25, e25, hF⟩ := lts hF
  refine x_newaG (σ := σ24) (aty := .int) (ty := .int) (j := 0) (N := 8) cx h g (by rw [← e25]; exact LEm hF (mo_ite (mo_lt (LE.tr (τ := (sr σ25 259 a0 (hs σ24 + 1))) ⟨Nat.le_refl _, Nat.le_refl _⟩ LE.nw) (fun σ27 => (mo_ite (mo_lt (LE.tr (τ := (sr σ27 260 a0 (hs (sr σ25 259 a0 (hs σ24 + 1)) + 1))) ⟨Nat.le_refl _, Nat.le_refl _⟩ LE.nw) (fun σ29 => (mo_ite (mo_lt (LE.tr (τ := (sr σ29 261 a0 (hs (sr σ27 260 a0 (hs (sr σ25 259 a0 (hs σ24 + 1)) + 1)) + 1))) ⟨Nat.le_refl _, Nat.le_refl _⟩ LE.nw) (fun σ31 => (mo_ite (mo_lt ⟨Nat.le_refl _, Nat.le_refl _⟩ (fun σ33 => (mo_lt LE.nw (fun σ34 => (mo_ite (mo_lt (LE.tr (τ := (sr σ34 263 a0 (hs σ33 + 1))) ⟨Nat.le_refl _, Nat.le_refl _⟩ LE.nw) (fun σ36 => (mo_ite (mo_lt (LE.tr (τ := (sr σ36 264 a0 (hs (sr σ34 263 a0 (hs σ33 + 1)) + 1))) ⟨Nat.le_refl _, Nat.le_refl _⟩ LE.nw) (fun σ38 => (mo_ite (mo_lt (LE.tr (τ := (sr σ38 265 a0 (hs (sr σ36 264 a0 (hs (sr σ34 263 a0 (hs σ33 + 1)) + 1)) + 1))) ⟨Nat.le_refl _, Nat.le_refl _⟩ LE.nw) (fun σ40 => (mo_ite (mo_lt ⟨Nat.le_refl _, Nat.le_refl _⟩ (fun σ42 => (mo_le (τ := (si σ42 267 a0 (0 : Int32))) ⟨Nat.le_refl _, Nat.le_refl _⟩ mo_ret))) mo_none))) mo_none))) mo_none))) mo_none))))) mo_none))) mo_none))) mo_none))) mo_none)) rfl (Or.inl ⟨rfl, rfl⟩) ac_int (by decide) (by decide) (by decide) dX6_init_108 (fun H h g => ?_)
  have h := Wd.nm e25 h
  have g := LE.nm e25 g
  refine W.cs (cells' := hs σ25 - hs σ) (slots' := ns σ25 - ns σ) (by rw [e25]; try rfl) (by rw [e25]; try rfl) ?_
  obtain ⟨hq26, hF⟩ := ifs hF
  refine x_str cx h fa_X6_48 (f := 259) rfl (Or.inr ⟨rfl, rfl, _, _, rfl⟩) hq26 dX6_init_110 (fun H locs h => ?_)
  refine x_aload_n hx hb dX6_init_113 rfl (lv_at hl 0 rfl) ?_
  refine lv_bipush (v := (8 : Int32)) hx hb dX6_init_114 (by decide) ?_
  obtain ⟨σ27, e27, hF⟩ := lts hF
  refine x_newaG (σ := (sr σ25 259 a0 (hs σ24 + 1))) (aty := .int) (ty := .int) (j := 0) (N := 8) cx h g (by rw [← e27]; exact LEm hF (mo_ite (mo_lt (LE.tr (τ := (sr σ27 260 a0 (hs (sr σ25 259 a0 (hs σ24 + 1)) + 1))) ⟨Nat.le_refl _, Nat.le_refl _⟩ LE.nw) (fun σ29 => (mo_ite (mo_lt (LE.tr (τ := (sr σ29 261 a0 (hs (sr σ27 260 a0 (hs (sr σ25 259 a0 (hs σ24 + 1)) + 1)) + 1))) ⟨Nat.le_refl _, Nat.le_refl _⟩ LE.nw) (fun σ31 => (mo_ite (mo_lt ⟨Nat.le_refl _, Nat.le_refl _⟩ (fun σ33 => (mo_lt LE.nw (fun σ34 => (mo_ite (mo_lt (LE.tr (τ := (sr σ34 263 a0 (hs σ33 + 1))) ⟨Nat.le_refl _, Nat.le_refl _⟩ LE.nw) (fun σ36 => (mo_ite (mo_lt (LE.tr (τ := (sr σ36 264 a0 (hs (sr σ34 263 a0 (hs σ33 + 1)) + 1))) ⟨Nat.le_refl _, Nat.le_refl _⟩ LE.nw) (fun σ38 => (mo_ite (mo_lt (LE.tr (τ := (sr σ38 265 a0 (hs (sr σ36 264 a0 (hs (sr σ34 263 a0 (hs σ33 + 1)) + 1)) + 1))) ⟨Nat.le_refl _, Nat.le_refl _⟩ LE.nw) (fun σ40 => (mo_ite (mo_lt ⟨Nat.le_refl _, Nat.le_refl _⟩ (fun σ42 => (mo_le (τ := (si σ42 267 a0 (0 : Int32))) ⟨Nat.le_refl _, Nat.le_refl _⟩ mo_ret))) mo_none))) mo_none))) mo_none))) mo_none))))) mo_none))) mo_none))) mo_none)) rfl (Or.inl ⟨rfl, rfl⟩) ac_int (by decide) (by decide) (by decide) dX6_init_116 (fun H h g => ?_)
  have h := Wd.nm e27 h
  have g := LE.nm e27 g
  refine W.cs (cells' := hs σ27 - hs σ) (slots' := ns σ27 - ns σ) (by rw [e27]; try rfl) (by rw [e27]; try rfl) ?_
  obtain ⟨hq28, hF⟩ := ifs hF
  refine x_str cx h fa_X6_51 (f := 260) rfl (Or.inr ⟨rfl, rfl, _, _, rfl⟩) hq28 dX6_init_118 (fun H locs h => ?_)
  refine x_aload_n hx hb dX6_init_121 rfl (lv_at hl 0 rfl) ?_
  refine lv_bipush (v := (8 : Int32)) hx hb dX6_init_122 (by decide) ?_
  obtain ⟨σ29, e29, hF⟩ := lts hF
  refine x_newaG (σ := (sr σ27 260 a0 (hs (sr σ25 259 a0 (hs σ24 + 1)) + 1))) (aty := .int) (ty := .int) (j := 0) (N := 8) cx h g (by rw [← e29]; exact LEm hF (mo_ite (mo_lt (LE.tr (τ := (sr σ29 261 a0 (hs (sr σ27 260 a0 (hs (sr σ25 259 a0 (hs σ24 + 1)) + 1)) + 1))) ⟨Nat.le_refl _, Nat.le_refl _⟩ LE.nw) (fun σ31 => (mo_ite (mo_lt ⟨Nat.le_refl _, Nat.le_refl _⟩ (fun σ33 => (mo_lt LE.nw (fun σ34 => (mo_ite (mo_lt (LE.tr (τ := (sr σ34 263 a0 (hs σ33 + 1))) ⟨Nat.le_refl _, Nat.le_refl _⟩ LE.nw) (fun σ36 => (mo_ite (mo_lt (LE.tr (τ := (sr σ36 264 a0 (hs (sr σ34 263 a0 (hs σ33 + 1)) + 1))) ⟨Nat.le_refl _, Nat.le_refl _⟩ LE.nw) (fun σ38 => (mo_ite (mo_lt (LE.tr (τ := (sr σ38 265 a0 (hs (sr σ36 264 a0 (hs (sr σ34 263 a0 (hs σ33 + 1)) + 1)) + 1))) ⟨Nat.le_refl _, Nat.le_refl _⟩ LE.nw) (fun σ40 => (mo_ite (mo_lt ⟨Nat.le_refl _, Nat.le_refl _⟩ (fun σ42 => (mo_le (τ := (si σ42 267 a0 (0 : Int32))) ⟨Nat.le_refl _, Nat.le_refl _⟩ mo_ret))) mo_none))) mo_none))) mo_none))) mo_none))))) mo_none))) mo_none)) rfl (Or.inl ⟨rfl, rfl⟩) ac_int (by decide) (by decide) (by decide) dX6_init_124 (fun H h g => ?_)
  have h := Wd.nm e29 h
  have g := LE.nm e29 g
  refine W.cs (cells' := hs σ29 - hs σ) (slots' := ns σ29 - ns σ) (by rw [e29]; try rfl) (by rw [e29]; try rfl) ?_
  obtain ⟨hq30, hF⟩ := ifs hF
  refine x_str cx h fa_X6_54 (f := 261) rfl (Or.inr ⟨rfl, rfl, _, _, rfl⟩) hq30 dX6_init_126 (fun H locs h => ?_)
  refine x_aload_n hx hb dX6_init_129 rfl (lv_at hl 0 rfl) ?_
  refine lv_bipush (v := (8 : Int32)) hx hb dX6_init_130 (by decide) ?_
  obtain ⟨σ31, e31, hF⟩ := lts hF
  refine x_newaG (σ := (sr σ29 261 a0 (hs (sr σ27 260 a0 (hs (sr σ25 259 a0 (hs σ24 + 1)) + 1)) + 1))) (aty := .int) (ty := .int) (j := 0) (N := 8) cx h g (by rw [← e31]; exact LEm hF (mo_ite (mo_lt ⟨Nat.le_refl _, Nat.le_refl _⟩ (fun σ33 => (mo_lt LE.nw (fun σ34 => (mo_ite (mo_lt (LE.tr (τ := (sr σ34 263 a0 (hs σ33 + 1))) ⟨Nat.le_refl _, Nat.le_refl _⟩ LE.nw) (fun σ36 => (mo_ite (mo_lt (LE.tr (τ := (sr σ36 264 a0 (hs (sr σ34 263 a0 (hs σ33 + 1)) + 1))) ⟨Nat.le_refl _, Nat.le_refl _⟩ LE.nw) (fun σ38 => (mo_ite (mo_lt (LE.tr (τ := (sr σ38 265 a0 (hs (sr σ36 264 a0 (hs (sr σ34 263 a0 (hs σ33 + 1)) + 1)) + 1))) ⟨Nat.le_refl _, Nat.le_refl _⟩ LE.nw) (fun σ40 => (mo_ite (mo_lt ⟨Nat.le_refl _, Nat.le_refl _⟩ (fun σ42 => (mo_le (τ := (si σ42 267 a0 (0 : Int32))) ⟨Nat.le_refl _, Nat.le_refl _⟩ mo_ret))) mo_none))) mo_none))) mo_none))) mo_none))))) mo_none)) rfl (Or.inl ⟨rfl, rfl⟩) ac_int (by decide) (by decide) (by decide) dX6_init_132 (fun H h g => ?_)
  have h := Wd.nm e31 h
  have g := LE.nm e31 g
  refine W.cs (cells' := hs σ31 - hs σ) (slots' := ns σ31 - ns σ) (by rw [e31]; try rfl) (by rw [e31]; try rfl) ?_
  obtain ⟨hq32, hF⟩ := ifs hF
  refine x_str cx h fa_X6_57 (f := 262) rfl (Or.inr ⟨rfl, rfl, _, _, rfl⟩) hq32 dX6_init_134 (fun H locs h => ?_)
  obtain ⟨σ33, e33, hF⟩ := lts hF
  have h := Wd.nm e33 h
  have g := LE.nm e33 g
  refine W.cs (cells' := hs σ33 - hs σ) (slots' := ns σ33 - ns σ) (by rw [e33]; try rfl) (by rw [e33]; try rfl) ?_
  refine x_aload_n hx hb dX6_init_137 rfl (lv_at hl 0 rfl) ?_
  refine lv_sipush (v := (128 : Int32)) hx hb dX6_init_138 (by decide) ?_
  obtain ⟨σ34, e34, hF⟩ := lts hF
  refine x_newaG (σ := σ33) (aty := .int) (ty := .int) (j := 0) (N := 128) cx h g (by rw [← e34]; exact LEm hF (mo_ite (mo_lt (LE.tr (τ := (sr σ34 263 a0 (hs σ33 + 1))) ⟨Nat.le_refl _, Nat.le_refl _⟩ LE.nw) (fun σ36 => (mo_ite (mo_lt (LE.tr (τ := (sr σ36 264 a0 (hs (sr σ34 263 a0 (hs σ33 + 1)) + 1))) ⟨Nat.le_refl _, Nat.le_refl _⟩ LE.nw) (fun σ38 => (mo_ite (mo_lt (LE.tr (τ := (sr σ38 265 a0 (hs (sr σ36 264 a0 (hs (sr σ34 263 a0 (hs σ33 + 1)) + 1)) + 1))) ⟨Nat.le_refl _, Nat.le_refl _⟩ LE.nw) (fun σ40 => (mo_ite (mo_lt ⟨Nat.le_refl _, Nat.le_refl _⟩ (fun σ42 => (mo_le (τ := (si σ42 267 a0 (0 : Int32))) ⟨Nat.le_refl _, Nat.le_refl _⟩ mo_ret))) mo_none))) mo_none))) mo_none))) mo_none)) rfl (Or.inl ⟨rfl, rfl⟩) ac_int (by decide) (by decide) (by decide) dX6_init_141 (fun H h g => ?_)
  have h := Wd.nm e34 h
  have g := LE.nm e34 g
  refine W.cs (cells' := hs σ34 - hs σ) (slots' := ns σ34 - ns σ) (by rw [e34]; try rfl) (by rw [e34]; try rfl) ?_
  obtain ⟨hq35, hF⟩ := ifs hF
  refine x_str cx h fa_X6_60 (f := 263) rfl (Or.inr ⟨rfl, rfl, _, _, rfl⟩) hq35 dX6_init_143 (fun H locs h => ?_)
  refine x_aload_n hx hb dX6_init_146 rfl (lv_at hl 0 rfl) ?_
  refine lv_sipush (v := (128 : Int32)) hx hb dX6_init_147 (by decide) ?_
  obtain ⟨σ36, e36, hF⟩ := lts hF
  refine x_newaG (σ := (sr σ34 263 a0 (hs σ33 + 1))) (aty := .int) (ty := .int) (j := 0) (N := 128) cx h g (by rw [← e36]; exact LEm hF (mo_ite (mo_lt (LE.tr (τ := (sr σ36 264 a0 (hs (sr σ34 263 a0 (hs σ33 + 1)) + 1))) ⟨Nat.le_refl _, Nat.le_refl _⟩ LE.nw) (fun σ38 => (mo_ite (mo_lt (LE.tr (τ := (sr σ38 265 a0 (hs (sr σ36 264 a0 (hs (sr σ34 263 a0 (hs σ33 + 1)) + 1)) + 1))) ⟨Nat.le_refl _, Nat.le_refl _⟩ LE.nw) (fun σ40 => (mo_ite (mo_lt ⟨Nat.le_refl _, Nat.le_refl _⟩ (fun σ42 => (mo_le (τ := (si σ42 267 a0 (0 : Int32))) ⟨Nat.le_refl _, Nat.le_refl _⟩ mo_ret))) mo_none))) mo_none))) mo_none)) rfl (Or.inl ⟨rfl, rfl⟩) ac_int (by decide) (by decide) (by decide) dX6_init_150 (fun H h g => ?_)
  have h := Wd.nm e36 h
  have g := LE.nm e36 g
  refine W.cs (cells' := hs σ36 - hs σ) (slots' := ns σ36 - ns σ) (by rw [e36]; try rfl) (by rw [e36]; try rfl) ?_
  obtain ⟨hq37, hF⟩ := ifs hF
  refine x_str cx h fa_X6_63 (f := 264) rfl (Or.inr ⟨rfl, rfl, _, _, rfl⟩) hq37 dX6_init_152 (fun H locs h => ?_)
  refine x_aload_n hx hb dX6_init_155 rfl (lv_at hl 0 rfl) ?_
  refine lv_bipush (v := (8 : Int32)) hx hb dX6_init_156 (by decide) ?_
  obtain ⟨σ38, e38, hF⟩ := lts hF
  refine x_newaG (σ := (sr σ36 264 a0 (hs (sr σ34 263 a0 (hs σ33 + 1)) + 1))) (aty := .int) (ty := .int) (j := 0) (N := 8) cx h g (by rw [← e38]; exact LEm hF (mo_ite (mo_lt (LE.tr (τ := (sr σ38 265 a0 (hs (sr σ36 264 a0 (hs (sr σ34 263 a0 (hs σ33 + 1)) + 1)) + 1))) ⟨Nat.le_refl _, Nat.le_refl _⟩ LE.nw) (fun σ40 => (mo_ite (mo_lt ⟨Nat.le_refl _, Nat.le_refl _⟩ (fun σ42 => (mo_le (τ := (si σ42 267 a0 (0 : Int32))) ⟨Nat.le_refl _, Nat.le_refl _⟩ mo_ret))) mo_none))) mo_none)) rfl (Or.inl ⟨rfl, rfl⟩) ac_int (by decide) (by decide) (by decide) dX6_init_158 (fun H h g => ?_)
  have h := Wd.nm e38 h
  have g := LE.nm e38 g
  refine W.cs (cells' := hs σ38 - hs σ) (slots' := ns σ38 - ns σ) (by rw [e38]; try rfl) (by rw [e38]; try rfl) ?_
  obtain ⟨hq39, hF⟩ := ifs hF
  refine x_str cx h fa_X6_66 (f := 265) rfl (Or.inr ⟨rfl, rfl, _, _, rfl⟩) hq39 dX6_init_160 (fun H locs h => ?_)
  refine x_aload_n hx hb dX6_init_163 rfl (lv_at hl 0 rfl) ?_
  refine lv_bipush (v := (8 : Int32)) hx hb dX6_init_164 (by decide) ?_
  obtain ⟨σ40, e40, hF⟩ := lts hF
  refine x_newaG (σ := (sr σ38 265 a0 (hs (sr σ36 264 a0 (hs (sr σ34 263 a0 (hs σ33 + 1)) + 1)) + 1))) (aty := .int) (ty := .int) (j := 0) (N := 8) cx h g (by rw [← e40]; exact LEm hF (mo_ite (mo_lt ⟨Nat.le_refl _, Nat.le_refl _⟩ (fun σ42 => (mo_le (τ := (si σ42 267 a0 (0 : Int32))) ⟨Nat.le_refl _, Nat.le_refl _⟩ mo_ret))) mo_none)) rfl (Or.inl ⟨rfl, rfl⟩) ac_int (by decide) (by decide) (by decide) dX6_init_166 (fun H h g => ?_)
  have h := Wd.nm e40 h
  have g := LE.nm e40 g
  refine W.cs (cells' := hs σ40 - hs σ) (slots' := ns σ40 - ns σ) (by rw [e40]; try rfl) (by rw [e40]; try rfl) ?_
  obtain ⟨hq41, hF⟩ := ifs hF
  refine x_str cx h fa_X6_69 (f := 266) rfl (Or.inr ⟨rfl, rfl, _, _, rfl⟩) hq41 dX6_init_168 (fun H locs h => ?_)
  obtain ⟨σ42, e42, hF⟩ := lts hF
  have h := Wd.nm e42 h
  have g := LE.nm e42 g
  refine W.cs (cells' := hs σ42 - hs σ) (slots' := ns σ42 - ns σ) (by rw [e42]; try rfl) (by rw [e42]; try rfl) ?_
  refine x_aload_n hx hb dX6_init_171 rfl (lv_at hl 0 rfl) ?_
  refine lv_iconst (v := (0 : Int32)) hx hb dX6_init_172 (by decide) ?_
  refine x_sti cx h fa_X6_72 (f := 267) rfl (Or.inl rfl) (by rw [e42]; exact hq41) dX6_init_173 (fun H locs h => ?_)
  obtain ⟨rfl, rfl⟩ := rts hF
  exact x_vret cx h dX6_init_176
def B_X6_in_15  (y0 : Int32) (σ : HS) : Option (Int32 × HS) :=
  if y0 = 0 ∨ y0 = 1 then (some (y0, σ)) else none
theorem mo_B_X6_in_15  (y0 : Int32) (σ : HS) : Mo σ (B_X6_in_15  y0 σ) := by
  unfold B_X6_in_15
  exact (mo_ite mo_ret mo_none)
set_option maxHeartbeats 4000000 in
set_option maxRecDepth 100000 in
theorem w_X6_in_15 {p : Program} {l : Launch} {e : Env} {s : State} {m : MethodId} {args : Array Value} {below : List Frame} {meth : Method} {c : Code} {D : va_G} {dA : Nat → ClassId} {base : Nat} {σ0 τ : HS} {r : Int32} (cx : CX p s m args meth c cX6_in 3 (some .boolean) RX6 "in" D dA base)  (y0 : Int32) {σ : HS} {H : Heap} {locs : List Loc} {ls : Array Slot} (h : Wd D dA base σ s H locs) (g : LE σ0 σ) (hl : lv_has ls 3 []) (hF : B_X6_in_15  y0 σ = some (r, τ)) : WG p l e s m args below meth c D dA base 0 0 (some (.int r)) σ0 τ σ H locs 15 ls [.int y0] := by
  obtain ⟨hx, hb, -⟩ := id cx
  unfold B_X6_in_15 at hF
  obtain ⟨hz1, hF⟩ := ifs hF
  obtain ⟨rfl, rfl⟩ := rts hF
  exact x_zret cx h hz1 dX6_in_15
def B_X6_in_14   (σ : HS) : Option (Int32 × HS) :=
  B_X6_in_15  (0 : Int32) σ
theorem mo_B_X6_in_14   (σ : HS) : Mo σ (B_X6_in_14   σ) := by
  unfold B_X6_in_14
  exact (mo_B_X6_in_15  (0 : Int32) _)
set_option maxHeartbeats 4000000 in
set_option maxRecDepth 100000 in
theorem w_X6_in_14 {p : Program} {l : Launch} {e : Env} {s : State} {m : MethodId} {args : Array Value} {below : List Frame} {meth : Method} {c : Code} {D : va_G} {dA : Nat → ClassId} {base : Nat} {σ0 τ : HS} {r : Int32} (cx : CX p s m args meth c cX6_in 3 (some .boolean) RX6 "in" D dA base)   {σ : HS} {H : Heap} {locs : List Loc} {ls : Array Slot} (h : Wd D dA base σ s H locs) (g : LE σ0 σ) (hl : lv_has ls 3 []) (hF : B_X6_in_14   σ = some (r, τ)) : WG p l e s m args below meth c D dA base 0 0 (some (.int r)) σ0 τ σ H locs 14 ls [] := by
  obtain ⟨hx, hb, -⟩ := id cx
  unfold B_X6_in_14 at hF
  refine lv_iconst (v := (0 : Int32)) hx hb dX6_in_14 (by decide) ?_
  exact w_X6_in_15 (σ := σ) cx   (0 : Int32) h g (lv_sub hl [] rfl) hF
def F_X6_in (a0 : Int32) (a1 : Int32) (a2 : Int32) (σ : HS) : Option (Int32 × HS) :=
  if a0 < a1 then (B_X6_in_14   σ) else (if a2 < a0 then (B_X6_in_14   σ) else (B_X6_in_15  (1 : Int32) σ))
theorem mo_F_X6_in (a0 : Int32) (a1 : Int32) (a2 : Int32) (σ : HS) : Mo σ (F_X6_in a0 a1 a2 σ) := by
  unfold F_X6_in
  exact (mo_ite (mo_B_X6_in_14   _) (mo_ite (mo_B_X6_in_14   _) (mo_B_X6_in_15  (1 : Int32) _)))
set_option maxHeartbeats 4000000 in
set_option maxRecDepth 100000 in
theorem c_X6_in (l : Launch) (D : va_G) (dA : Nat → ClassId) (base : Nat) (a0 : Int32) (a1 : Int32) (a2 : Int32) {σ τ : HS} {r : Int32} (hF : F_X6_in a0 a1 a2 σ = some (r, τ)) : CT l yX6_in cX6_in 3 (some .boolean) 0 0 D dA base [.int a0, .int a1, .int a2] (some (.int r)) σ τ := by
  refine CT.of (lv := [(0, .int a0), (1, .int a1), (2, .int a2)]) (by decide) (vI (vI (vI vN))) (Nat.le_of_ble_eq_true rfl) rfl ?_
  intro p e s m args below meth c ls cx hl h
  have cx : CX p s m args meth c cX6_in 3 (some .boolean) RX6 "in" D dA base := cx
  have g : LE σ σ := LE.rf
  obtain ⟨hx, hb, -⟩ := id cx
  unfold F_X6_in at hF
  refine lv_iload_n hx hb dX6_in_0 rfl (lv_at hl 0 rfl) ?_
  refine lv_iload_n hx hb dX6_in_1 rfl (lv_at hl 1 rfl) ?_
  refine lv_icmp_lt (tgt := 14) hx hb dX6_in_2 (by decide) (fun c1 => ?_) (fun c1 => ?_)
  · replace hF := ifp c1 hF
    exact w_X6_in_14 (σ := σ) cx    h g (lv_sub hl [] rfl) hF
  · replace hF := ifn c1 hF
    refine lv_iload_n hx hb dX6_in_5 rfl (lv_at hl 0 rfl) ?_
    refine lv_iload_n hx hb dX6_in_6 rfl (lv_at hl 2 rfl) ?_
    refine lv_icmp_gt (tgt := 14) hx hb dX6_in_7 (by decide) (fun c2 => ?_) (fun c2 => ?_)
    · replace hF := ifp c2 hF
      exact w_X6_in_14 (σ := σ) cx    h g (lv_sub hl [] rfl) hF
    · replace hF := ifn c2 hF
      refine lv_iconst (v := (1 : Int32)) hx hb dX6_in_10 (by decide) ?_
      refine lv_goto (tgt := 15) hx hb dX6_in_11 (by decide) ?_
      exact w_X6_in_15 (σ := σ) cx   (1 : Int32) h g (lv_sub hl [] rfl) hF
def F_X6_records (a0 : Nat) (σ : HS) : Option (Int32 × HS) :=
  if kd σ a0 = 7 then (some ((((gi σ 246 a0) + (gi σ 250 a0)) + ((2 : Int32) * (gi σ 255 a0))), σ)) else none
theorem mo_F_X6_records (a0 : Nat) (σ : HS) : Mo σ (F_X6_records a0 σ) := by
  unfold F_X6_records
  exact (mo_ite mo_ret mo_none)
set_option maxHeartbeats 4000000 in
set_option maxRecDepth 100000 in
theorem c_X6_records (l : Launch) (D : va_G) (dA : Nat → ClassId) (base : Nat) (a0 : Nat) {σ τ : HS} {r : Int32} (hF : F_X6_records a0 σ = some (r, τ)) : CT l yX6_records cX6_records 1 (some .int) 0 0 D dA base [vr a0] (some (.int r)) σ τ := by
  refine CT.of (lv := [(0, vr a0)]) (by decide) (vR vN) (Nat.le_of_ble_eq_true rfl) rfl ?_
  intro p e s m args below meth c ls cx hl h
  have cx : CX p s m args meth c cX6_records 1 (some .int) RX6 "records" D dA base := cx
  have g : LE σ σ := LE.rf
  obtain ⟨hx, hb, -⟩ := id cx
  unfold F_X6_records at hF
  refine x_aload_n hx hb dX6_records_0 rfl (lv_at hl 0 rfl) ?_
  obtain ⟨hq1, hF⟩ := ifs hF
  refine x_geti cx h fa_X6_78 (f := 246) rfl hq1 dX6_records_1 ?_
  refine x_aload_n hx hb dX6_records_4 rfl (lv_at hl 0 rfl) ?_
  refine x_geti cx h fa_X6_81 (f := 250) rfl hq1 dX6_records_5 ?_
  refine lv_iadd hx hb dX6_records_8 ?_
  refine lv_iconst (v := (2 : Int32)) hx hb dX6_records_9 (by decide) ?_
  refine x_aload_n hx hb dX6_records_10 rfl (lv_at hl 0 rfl) ?_
  refine x_geti cx h fa_X6_84 (f := 255) rfl hq1 dX6_records_11 ?_
  refine lv_imul hx hb dX6_records_14 ?_
  refine lv_iadd hx hb dX6_records_15 ?_
  obtain ⟨rfl, rfl⟩ := rts hF
  exact x_iret cx h dX6_records_16
