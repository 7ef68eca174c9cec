def F_X6_step (a0 : Nat) (a1 : Int32) (σ : HS) : Option (Int32 × HS) :=
  if kd σ a0 = 7 then (bd (F_X6_noClient a1 (si σ 240 a0 (0 : Int32))) (fun r2 σ2 => if r2 = 0 then (if kd σ2 a0 = 7 then (if kd σ2 (gr σ2 261 a0) = 100 ∧ inb a1 (ln σ2 (gr σ2 261 a0)) then (if kd (sai σ2 (gr σ2 261 a0) a1.toNatClampNeg (gi σ2 241 a0)) (gr (sai σ2 (gr σ2 261 a0) a1.toNatClampNeg (gi σ2 241 a0)) 259 a0) = 100 ∧ inb a1 (ln (sai σ2 (gr σ2 261 a0) a1.toNatClampNeg (gi σ2 241 a0)) (gr (sai σ2 (gr σ2 261 a0) a1.toNatClampNeg (gi σ2 241 a0)) 259 a0)) then (if (ai (sai σ2 (gr σ2 261 a0) a1.toNatClampNeg (gi σ2 241 a0)) (gr (sai σ2 (gr σ2 261 a0) a1.toNatClampNeg (gi σ2 241 a0)) 259 a0) a1.toNatClampNeg) = (2 : Int32) then (bd (F_X6_lockRow a0 a1 (sai σ2 (gr σ2 261 a0) a1.toNatClampNeg (gi σ2 241 a0))) (fun r8 σ8 => if kd σ8 a0 = 7 then (bd (F_X6_end a0 r8 σ8) (fun r10 σ10 => some (r10, σ10))) else none)) else (if (ai (sai σ2 (gr σ2 261 a0) a1.toNatClampNeg (gi σ2 241 a0)) (gr (sai σ2 (gr σ2 261 a0) a1.toNatClampNeg (gi σ2 241 a0)) 259 a0) a1.toNatClampNeg) = (3 : Int32) then (bd (F_X6_settle a0 a1 (sai σ2 (gr σ2 261 a0) a1.toNatClampNeg (gi σ2 241 a0))) (fun r12 σ12 => if kd σ12 a0 = 7 then (bd (F_X6_end a0 r12 σ12) (fun r14 σ14 => some (r14, σ14))) else none)) else (if (ai (sai σ2 (gr σ2 261 a0) a1.toNatClampNeg (gi σ2 241 a0)) (gr (sai σ2 (gr σ2 261 a0) a1.toNatClampNeg (gi σ2 241 a0)) 259 a0) a1.toNatClampNeg) = (4 : Int32) then (bd (F_X6_undo a0 a1 (sai σ2 (gr σ2 261 a0) a1.toNatClampNeg (gi σ2 241 a0))) (fun r16 σ16 => if kd σ16 a0 = 7 then (bd (F_X6_end a0 r16 σ16) (fun r18 σ18 => some (r18, σ18))) else none)) else (some ((-3 : Int32), (sai σ2 (gr σ2 261 a0) a1.toNatClampNeg (gi σ2 241 a0))))))) else none) else none) else none) else (some ((-1 : Int32), σ2)))) else none
theorem mo_F_X6_step (a0 : Nat) (a1 : Int32) (σ : HS) : Mo σ (F_X6_step a0 a1 σ) := by
  unfold F_X6_step
  exact (mo_ite (mo_le (τ := (si σ 240 a0 (0 : Int32))) ⟨Nat.le_refl _, Nat.le_refl _⟩ (mo_bd (mo_F_X6_noClient a1 _) (fun r2 σ2 => (mo_ite (mo_ite (mo_ite (mo_ite (mo_ite (mo_le (τ := (sai σ2 (gr σ2 261 a0) a1.toNatClampNeg (gi σ2 241 a0))) ⟨Nat.le_refl _, Nat.le_refl _⟩ (mo_bd (mo_F_X6_lockRow a0 a1 _) (fun r8 σ8 => (mo_ite (mo_bd (mo_F_X6_end a0 r8 _) (fun r10 σ10 => mo_ret)) mo_none)))) (mo_ite (mo_le (τ := (sai σ2 (gr σ2 261 a0) a1.toNatClampNeg (gi σ2 241 a0))) ⟨Nat.le_refl _, Nat.le_refl _⟩ (mo_bd (mo_F_X6_settle a0 a1 _) (fun r12 σ12 => (mo_ite (mo_bd (mo_F_X6_end a0 r12 _) (fun r14 σ14 => mo_ret)) mo_none)))) (mo_ite (mo_le (τ := (sai σ2 (gr σ2 261 a0) a1.toNatClampNeg (gi σ2 241 a0))) ⟨Nat.le_refl _, Nat.le_refl _⟩ (mo_bd (mo_F_X6_undo a0 a1 _) (fun r16 σ16 => (mo_ite (mo_bd (mo_F_X6_end a0 r16 _) (fun r18 σ18 => mo_ret)) mo_none)))) (mo_le (τ := (sai σ2 (gr σ2 261 a0) a1.toNatClampNeg (gi σ2 241 a0))) ⟨Nat.le_refl _, Nat.le_refl _⟩ mo_ret)))) mo_none) mo_none) mo_none) mo_ret)))) mo_none)
set_option maxHeartbeats 4000000 in
set_option maxRecDepth 100000 in
theorem c_X6_step (l : Launch) (D : va_G) (dA : Nat → ClassId) (base : Nat) (a0 : Nat) (a1 : Int32) {σ τ : HS} {r : Int32} (hF : F_X6_step a0 a1 σ = some (r, τ)) : CT l yX6_step cX6_step 2 (some .int) 4 96 D dA base [vr a0, .int a1] (some (.int r)) σ τ := by
  refine CT.of (lv := [(0, vr a0), (1, .int a1)]) (by decide) (vR (vI vN)) (Nat.le_of_ble_eq_true rfl) rfl ?_
  intro p e s m args below meth c ls cx hl h
  have cx : CX p s m args meth c cX6_step 2 (some .int) RX6 "step" D dA base := cx
  have g : LE σ σ := LE.rf
  obtain ⟨hx, hb, -⟩ := id cx
  unfold F_X6_step at hF
  refine x_aload_n hx hb dX6_step_0 rfl (lv_at hl 0 rfl) ?_
  refine lv_iconst (v := (0 : Int32)) hx hb dX6_step_1 (by decide) ?_
  obtain ⟨hq1, hF⟩ := ifs hF
  refine x_sti cx h fa_X6_75 (f := 240) rfl (Or.inl rfl) hq1 dX6_step_2 (fun H locs h => ?_)
  refine lv_iload_n hx hb dX6_step_5 rfl (lv_at hl 1 rfl) ?_
  obtain ⟨r2, σ2, hc2, hF⟩ := bds hF
  refine x_calli (σ := (si σ 240 a0 (0 : Int32))) g (LEm hc2 (mo_F_X6_noClient a1 _)) (x_runS (As := [.int a1]) (rest := []) cx h (c_X6_noClient l D dA base a1 hc2) ml_X6_138 mi_X6_noClient rfl ⟨Nat.le_of_ble_eq_true rfl, Nat.le_of_ble_eq_true rfl⟩ hl.1 rfl (s8 sN (by decide)) dX6_step_6 (le_room g (LEm hc2 (mo_F_X6_noClient a1 _)) (LEm hF (mo_ite (mo_ite (mo_ite (mo_ite (mo_ite (mo_le (τ := (sai σ2 (gr σ2 261 a0) a1.toNatClampNeg (gi σ2 241 a0))) ⟨Nat.le_refl _, Nat.le_refl _⟩ (mo_bd (mo_F_X6_lockRow a0 a1 _) (fun r8 σ8 => (mo_ite (mo_bd (mo_F_X6_end a0 r8 _) (fun r10 σ10 => mo_ret)) mo_none)))) (mo_ite (mo_le (τ := (sai σ2 (gr σ2 261 a0) a1.toNatClampNeg (gi σ2 241 a0))) ⟨Nat.le_refl _, Nat.le_refl _⟩ (mo_bd (mo_F_X6_settle a0 a1 _) (fun r12 σ12 => (mo_ite (mo_bd (mo_F_X6_end a0 r12 _) (fun r14 σ14 => mo_ret)) mo_none)))) (mo_ite (mo_le (τ := (sai σ2 (gr σ2 261 a0) a1.toNatClampNeg (gi σ2 241 a0))) ⟨Nat.le_refl _, Nat.le_refl _⟩ (mo_bd (mo_F_X6_undo a0 a1 _) (fun r16 σ16 => (mo_ite (mo_bd (mo_F_X6_end a0 r16 _) (fun r18 σ18 => mo_ret)) mo_none)))) (mo_le (τ := (sai σ2 (gr σ2 261 a0) a1.toNatClampNeg (gi σ2 241 a0))) ⟨Nat.le_refl _, Nat.le_refl _⟩ mo_ret)))) mo_none) mo_none) mo_none) mo_ret)))) h (fun H locs h g => ?_)
  refine lv_if_eq (tgt := 14) hx hb dX6_step_9 (by decide) (fun c3 => ?_) (fun c3 => ?_)
  · replace hF := ifp c3 hF
    refine x_aload_n hx hb dX6_step_14 rfl (lv_at hl 0 rfl) ?_
    obtain ⟨hq4, hF⟩ := ifs hF
    refine x_getr cx h fa_X6_54 (f := 261) rfl hq4 dX6_step_15 ?_
    refine lv_iload_n hx hb dX6_step_18 rfl (lv_at hl 1 rfl) ?_
    refine x_aload_n hx hb dX6_step_19 rfl (lv_at hl 0 rfl) ?_
    refine x_geti cx h fa_X6_103 (f := 241) rfl hq4 dX6_step_20 ?_
    obtain ⟨hq5, hF⟩ := ifs hF
    refine x_iast cx h hq5.1 (inb.vp hq5.2) dX6_step_23 (fun H locs h => ?_)
    refine x_aload_n hx hb dX6_step_24 rfl (lv_at hl 0 rfl) ?_
    refine x_getr cx h fa_X6_48 (f := 259) rfl hq4 dX6_step_25 ?_
    refine lv_iload_n hx hb dX6_step_28 rfl (lv_at hl 1 rfl) ?_
    obtain ⟨hq6, hF⟩ := ifs hF
    refine x_iald cx h hq6.1 (inb.vp hq6.2) dX6_step_29 ?_
    by_cases c7 : (ai (sai σ2 (gr σ2 261 a0) a1.toNatClampNeg (gi σ2 241 a0)) (gr (sai σ2 (gr σ2 261 a0) a1.toNatClampNeg (gi σ2 241 a0)) 259 a0) a1.toNatClampNeg) = (2 : Int32)
    · replace hF := ifp c7 hF
      refine lv_tableIn (off := 26) (tgt := 56) hx hb dX6_step_30 (by rw [c7]; decide) (by rw [c7]; decide) (by rw [c7]; rfl) (by decide) ?_
      refine x_aload_n hx hb dX6_step_56 rfl (lv_at hl 0 rfl) ?_
      refine x_aload_n hx hb dX6_step_57 rfl (lv_at hl 0 rfl) ?_
      refine lv_iload_n hx hb dX6_step_58 rfl (lv_at hl 1 rfl) ?_
      obtain ⟨r8, σ8, hc8, hF⟩ := bds hF
      refine x_calli (σ := (sai σ2 (gr σ2 261 a0) a1.toNatClampNeg (gi σ2 241 a0))) g (LEm hc8 (mo_F_X6_lockRow a0 a1 _)) (x_runV (As := [.int a1]) (rest := [vr a0]) cx h (c_X6_lockRow l D dA base a0 a1 hc8) ml_X6_156 mi_X6_lockRow hq4 rfl ⟨Nat.le_of_ble_eq_true rfl, Nat.le_of_ble_eq_true rfl⟩ hl.1 rfl (s8 (sR sN) (by decide)) dX6_step_59 (le_room g (LEm hc8 (mo_F_X6_lockRow a0 a1 _)) (LEm hF (mo_ite (mo_bd (mo_F_X6_end a0 r8 _) (fun r10 σ10 => mo_ret)) mo_none)))) h (fun H locs h g => ?_)
      obtain ⟨hq9, hF⟩ := ifs hF
      obtain ⟨r10, σ10, hc10, hF⟩ := bds hF
      refine x_calli (σ := σ8) g (LEm hc10 (mo_F_X6_end a0 r8 _)) (x_runV (As := [.int r8]) (rest := []) cx h (c_X6_end l D dA base a0 r8 hc10) ml_X6_152 mi_X6_end hq9 rfl ⟨Nat.le_of_ble_eq_true rfl, Nat.le_of_ble_eq_true rfl⟩ hl.1 rfl (s8 sN (by decide)) dX6_step_62 (le_room g (LEm hc10 (mo_F_X6_end a0 r8 _)) (LEm hF mo_ret))) h (fun H locs h g => ?_)
      obtain ⟨rfl, rfl⟩ := rts hF
      exact x_iret cx h dX6_step_65
    · replace hF := ifn c7 hF
      by_cases c11 : (ai (sai σ2 (gr σ2 261 a0) a1.toNatClampNeg (gi σ2 241 a0)) (gr (sai σ2 (gr σ2 261 a0) a1.toNatClampNeg (gi σ2 241 a0)) 259 a0) a1.toNatClampNeg) = (3 : Int32)
      · replace hF := ifp c11 hF
        refine lv_tableIn (off := 36) (tgt := 66) hx hb dX6_step_30 (by rw [c11]; decide) (by rw [c11]; decide) (by rw [c11]; rfl) (by decide) ?_
        refine x_aload_n hx hb dX6_step_66 rfl (lv_at hl 0 rfl) ?_
        refine x_aload_n hx hb dX6_step_67 rfl (lv_at hl 0 rfl) ?_
        refine lv_iload_n hx hb dX6_step_68 rfl (lv_at hl 1 rfl) ?_
        obtain ⟨r12, σ12, hc12, hF⟩ := bds hF
        refine x_calli (σ := (sai σ2 (gr σ2 261 a0) a1.toNatClampNeg (gi σ2 241 a0))) g (LEm hc12 (mo_F_X6_settle a0 a1 _)) (x_runV (As := [.int a1]) (rest := [vr a0]) cx h (c_X6_settle l D dA base a0 a1 hc12) ml_X6_159 mi_X6_settle hq4 rfl ⟨Nat.le_of_ble_eq_true rfl, Nat.le_of_ble_eq_true rfl⟩ hl.1 rfl (s8 (sR sN) (by decide)) dX6_step_69 (le_room g (LEm hc12 (mo_F_X6_settle a0 a1 _)) (LEm hF (mo_ite (mo_bd (mo_F_X6_end a0 r12 _) (fun r14 σ14 => mo_ret)) mo_none)))) h (fun H locs h g => ?_)
        obtain ⟨hq13, hF⟩ := ifs hF
        obtain ⟨r14, σ14, hc14, hF⟩ := bds hF
        refine x_calli (σ := σ12) g (LEm hc14 (mo_F_X6_end a0 r12 _)) (x_runV (As := [.int r12]) (rest := []) cx h (c_X6_end l D dA base a0 r12 hc14) ml_X6_152 mi_X6_end hq13 rfl ⟨Nat.le_of_ble_eq_true rfl, Nat.le_of_ble_eq_true rfl⟩ hl.1 rfl (s8 sN (by decide)) dX6_step_72 (le_room g (LEm hc14 (mo_F_X6_end a0 r12 _)) (LEm hF mo_ret))) h (fun H locs h g => ?_)
        obtain ⟨rfl, rfl⟩ := rts hF
        exact x_iret cx h dX6_step_75
      · replace hF := ifn c11 hF
        by_cases c15 : (ai (sai σ2 (gr σ2 261 a0) a1.toNatClampNeg (gi σ2 241 a0)) (gr (sai σ2 (gr σ2 261 a0) a1.toNatClampNeg (gi σ2 241 a0)) 259 a0) a1.toNatClampNeg) = (4 : Int32)
        · replace hF := ifp c15 hF
          refine lv_tableIn (off := 46) (tgt := 76) hx hb dX6_step_30 (by rw [c15]; decide) (by rw [c15]; decide) (by rw [c15]; rfl) (by decide) ?_
          refine x_aload_n hx hb dX6_step_76 rfl (lv_at hl 0 rfl) ?_
          refine x_aload_n hx hb dX6_step_77 rfl (lv_at hl 0 rfl) ?_
          refine lv_iload_n hx hb dX6_step_78 rfl (lv_at hl 1 rfl) ?_
          obtain ⟨r16, σ16, hc16, hF⟩ := bds hF
          refine x_calli (σ := (sai σ2 (gr σ2 261 a0) a1.toNatClampNeg (gi σ2 241 a0))) g (LEm hc16 (mo_F_X6_undo a0 a1 _)) (x_runV (As := [.int a1]) (rest := [vr a0]) cx h (c_X6_undo l D dA base a0 a1 hc16) ml_X6_162 mi_X6_undo hq4 rfl ⟨Nat.le_of_ble_eq_true rfl, Nat.le_of_ble_eq_true rfl⟩ hl.1 rfl (s8 (sR sN) (by decide)) dX6_step_79 (le_room g (LEm hc16 (mo_F_X6_undo a0 a1 _)) (LEm hF (mo_ite (mo_bd (mo_F_X6_end a0 r16 _) (fun r18 σ18 => mo_ret)) mo_none)))) h (fun H locs h g => ?_)
          obtain ⟨hq17, hF⟩ := ifs hF
          obtain ⟨r18, σ18, hc18, hF⟩ := bds hF
          refine x_calli (σ := σ16) g (LEm hc18 (mo_F_X6_end a0 r16 _)) (x_runV (As := [.int r16]) (rest := []) cx h (c_X6_end l D dA base a0 r16 hc18) ml_X6_152 mi_X6_end hq17 rfl ⟨Nat.le_of_ble_eq_true rfl, Nat.le_of_ble_eq_true rfl⟩ hl.1 rfl (s8 sN (by decide)) dX6_step_82 (le_room g (LEm hc18 (mo_F_X6_end a0 r16 _)) (LEm hF mo_ret))) h (fun H locs h g => ?_)
          obtain ⟨rfl, rfl⟩ := rts hF
          exact x_iret cx h dX6_step_85
        · replace hF := ifn c15 hF
          refine lv_tableOut (tgt := 86) hx hb dX6_step_30 (by have b2 := lv_neT c7 (a := 2) rfl; have b3 := lv_neT c11 (a := 3) rfl; have b4 := lv_neT c15 (a := 4) rfl; omega) (by decide) ?_
          refine lv_bipush (v := (-3 : Int32)) hx hb dX6_step_86 (by decide) ?_
          obtain ⟨rfl, rfl⟩ := rts hF
          exact x_iret cx h dX6_step_88
  · replace hF := ifn c3 hF
    refine lv_iconst (v := (-1 : Int32)) hx hb dX6_step_12 (by decide) ?_
    obtain ⟨rfl, rfl⟩ := rts hF
    exact x_iret cx h dX6_step_13
def B_X6_crash_28  (x0 : Nat) (x1 : Int32) (y0 : Int32) (σ : HS) : Option (Int32 × HS) :=
  if kd σ x0 = 7 then (if kd σ (gr σ 259 x0) = 100 ∧ inb x1 (ln σ (gr σ 259 x0)) then (some (y0, (sai σ (gr σ 259 x0) x1.toNatClampNeg (0 : Int32)))) else none) else none
theorem mo_B_X6_crash_28  (x0 : Nat) (x1 : Int32) (y0 : Int32) (σ : HS) : Mo σ (B_X6_crash_28  x0 x1 y0 σ) := by
  unfold B_X6_crash_28
  exact (mo_ite (mo_ite (mo_le (τ := (sai σ (gr σ 259 x0) x1.toNatClampNeg (0 : Int32))) ⟨Nat.le_refl _, Nat.le_refl _⟩ mo_ret) mo_none) mo_none)
set_option maxHeartbeats 4000000 in
set_option maxRecDepth 100000 in
theorem w_X6_crash_28 {p : Program} {l : Launch} {e : Env} {s : State} {m : MethodId} {args : Array Value} {below : List Frame} {meth : Method} {c : Code} {D : va_G} {dA : Nat → ClassId} {base : Nat} {σ0 τ : HS} {r : Int32} (cx : CX p s m args meth c cX6_crash 3 (some .int) RX6 "crash" D dA base)  (x0 : Nat) (x1 : Int32) (y0 : Int32) {σ : HS} {H : Heap} {locs : List Loc} {ls : Array Slot} (h : Wd D dA base σ s H locs) (g : LE σ0 σ) (hl : lv_has ls 3 [(0, vr x0), (1, .int x1)]) (hF : B_X6_crash_28  x0 x1 y0 σ = some (r, τ)) : WG p l e s m args below meth c D dA base 2 42 (some (.int r)) σ0 τ σ H locs 28 ls [.int y0] := by
  obtain ⟨hx, hb, -⟩ := id cx
  unfold B_X6_crash_28 at hF
  refine x_istore_n (lv' := [(2, .int y0), (0, vr x0), (1, .int x1)]) hx hb dX6_crash_28 rfl hl (by decide) (cR (cI cN)) rfl (fun ls hl => ?_)
  refine x_aload_n hx hb dX6_crash_29 rfl (lv_at hl 1 rfl) ?_
  obtain ⟨hq1, hF⟩ := ifs hF
  refine x_getr cx h fa_X6_48 (f := 259) rfl hq1 dX6_crash_30 ?_
  refine lv_iload_n hx hb dX6_crash_33 rfl (lv_at hl 2 rfl) ?_
  refine lv_iconst (v := (0 : Int32)) hx hb dX6_crash_34 (by decide) ?_
  obtain ⟨hq2, hF⟩ := ifs hF
  refine x_iast cx h hq2.1 (inb.vp hq2.2) dX6_crash_35 (fun H locs h => ?_)
  refine lv_iload_n hx hb dX6_crash_36 rfl (lv_at hl 0 rfl) ?_
  obtain ⟨rfl, rfl⟩ := rts hF
  exact x_iret cx h dX6_crash_37
def F_X6_crash (a0 : Nat) (a1 : Int32) (σ : HS) : Option (Int32 × HS) :=
  if kd σ a0 = 7 then (bd (F_X6_noClient a1 (si σ 240 a0 (0 : Int32))) (fun r2 σ2 => if r2 = 0 then (if kd σ2 a0 = 7 then (if kd σ2 (gr σ2 259 a0) = 100 ∧ inb a1 (ln σ2 (gr σ2 259 a0)) then (if (ai σ2 (gr σ2 259 a0) a1.toNatClampNeg) ≤ 0 then (B_X6_crash_28  a0 a1 (0 : Int32) σ2) else (B_X6_crash_28  a0 a1 (1 : Int32) σ2)) else none) else none) else (some ((-1 : Int32), σ2)))) else none
theorem mo_F_X6_crash (a0 : Nat) (a1 : Int32) (σ : HS) : Mo σ (F_X6_crash a0 a1 σ) := by
  unfold F_X6_crash
  exact (mo_ite (mo_le (τ := (si σ 240 a0 (0 : Int32))) ⟨Nat.le_refl _, Nat.le_refl _⟩ (mo_bd (mo_F_X6_noClient a1 _) (fun r2 σ2 => (mo_ite (mo_ite (mo_ite (mo_ite (mo_B_X6_crash_28  a0 a1 (0 : Int32) _) (mo_B_X6_crash_28  a0 a1 (1 : Int32) _)) mo_none) mo_none) mo_ret)))) mo_none)
set_option maxHeartbeats 4000000 in
set_option maxRecDepth 100000 in
theorem c_X6_crash (l : Launch) (D : va_G) (dA : Nat → ClassId) (base : Nat) (a0 : Nat) (a1 : Int32) {σ τ : HS} {r : Int32} (hF : F_X6_crash a0 a1 σ = some (r, τ)) : CT l yX6_crash cX6_crash 3 (some .int) 2 42 D dA base [vr a0, .int a1] (some (.int r)) σ τ := by
  refine CT.of (lv := [(0, vr a0), (1, .int a1)]) (by decide) (vR (vI vN)) (Nat.le_of_ble_eq_true rfl) rfl ?_
  intro p e s m args below meth c ls cx hl h
  have cx : CX p s m args meth c cX6_crash 3 (some .int) RX6 "crash" D dA base := cx
  have g : LE σ σ := LE.rf
  obtain ⟨hx, hb, -⟩ := id cx
  unfold F_X6_crash at hF
  refine x_aload_n hx hb dX6_crash_0 rfl (lv_at hl 0 rfl) ?_
  refine lv_iconst (v := (0 : Int32)) hx hb dX6_crash_1 (by decide) ?_
  obtain ⟨hq1, hF⟩ := ifs hF
  refine x_sti cx h fa_X6_75 (f := 240) rfl (Or.inl rfl) hq1 dX6_crash_2 (fun H locs h => ?_)
  refine lv_iload_n hx hb dX6_crash_5 rfl (lv_at hl 1 rfl) ?_
  obtain ⟨r2, σ2, hc2, hF⟩ := bds hF
  refine x_calli (σ := (si σ 240 a0 (0 : Int32))) g (LEm hc2 (mo_F_X6_noClient a1 _)) (x_runS (As := [.int a1]) (rest := []) cx h (c_X6_noClient l D dA base a1 hc2) ml_X6_138 mi_X6_noClient rfl ⟨Nat.le_of_ble_eq_true rfl, Nat.le_of_ble_eq_true rfl⟩ hl.1 rfl (s8 sN (by decide)) dX6_crash_6 (le_room g (LEm hc2 (mo_F_X6_noClient a1 _)) (LEm hF (mo_ite (mo_ite (mo_ite (mo_ite (mo_B_X6_crash_28  a0 a1 (0 : Int32) _) (mo_B_X6_crash_28  a0 a1 (1 : Int32) _)) mo_none) mo_none) mo_ret)))) h (fun H locs h g => ?_)
  refine lv_if_eq (tgt := 14) hx hb dX6_crash_9 (by decide) (fun c3 => ?_) (fun c3 => ?_)
  · replace hF := ifp c3 hF
    refine x_aload_n hx hb dX6_crash_14 rfl (lv_at hl 0 rfl) ?_
    obtain ⟨hq4, hF⟩ := ifs hF
    refine x_getr cx h fa_X6_48 (f := 259) rfl hq4 dX6_crash_15 ?_
    refine lv_iload_n hx hb dX6_crash_18 rfl (lv_at hl 1 rfl) ?_
    obtain ⟨hq5, hF⟩ := ifs hF
    refine x_iald cx h hq5.1 (inb.vp hq5.2) dX6_crash_19 ?_
    refine lv_if_le (tgt := 27) hx hb dX6_crash_20 (by decide) (fun c6 => ?_) (fun c6 => ?_)
    · replace hF := ifp c6 hF
      refine lv_iconst (v := (0 : Int32)) hx hb dX6_crash_27 (by decide) ?_
      exact w_X6_crash_28 (σ := σ2) cx   a0 a1 (0 : Int32) h g (lv_sub hl [0, 1] rfl) hF
    · replace hF := ifn c6 hF
      refine lv_iconst (v := (1 : Int32)) hx hb dX6_crash_23 (by decide) ?_
      refine lv_goto (tgt := 28) hx hb dX6_crash_24 (by decide) ?_
      exact w_X6_crash_28 (σ := σ2) cx   a0 a1 (1 : Int32) h g (lv_sub hl [0, 1] rfl) hF
  · replace hF := ifn c3 hF
    refine lv_iconst (v := (-1 : Int32)) hx hb dX6_crash_12 (by decide) ?_
    obtain ⟨rfl, rfl⟩ := rts hF
    exact x_iret cx h dX6_crash_13
def B_X6_tick_26   (σ : HS) : Option (Int32 × HS) :=
  some ((-2 : Int32), σ)
theorem mo_B_X6_tick_26   (σ : HS) : Mo σ (B_X6_tick_26   σ) := by
  unfold B_X6_tick_26
  exact mo_ret
set_option maxHeartbeats 4000000 in
set_option maxRecDepth 100000 in
theorem w_X6_tick_26 {p : Program} {l : Launch} {e : Env} {s : State} {m : MethodId} {args : Array Value} {below : List Frame} {meth : Method} {c : Code} {D : va_G} {dA : Nat → ClassId} {base : Nat} {σ0 τ : HS} {r : Int32} (cx : CX p s m args meth c cX6_tick 2 (some .int) RX6 "tick" D dA base)   {σ : HS} {H : Heap} {locs : List Loc} {ls : Array Slot} (h : Wd D dA base σ s H locs) (g : LE σ0 σ) (hl : lv_has ls 2 []) (hF : B_X6_tick_26   σ = some (r, τ)) : WG p l e s m args below meth c D dA base 1 22 (some (.int r)) σ0 τ σ H locs 26 ls [] := by
  obtain ⟨hx, hb, -⟩ := id cx
  unfold B_X6_tick_26 at hF
  refine lv_bipush (v := (-2 : Int32)) hx hb dX6_tick_26 (by decide) ?_
  obtain ⟨rfl, rfl⟩ := rts hF
  exact x_iret cx h dX6_tick_28
def F_X6_tick (a0 : Nat) (a1 : Int32) (σ : HS) : Option (Int32 × HS) :=
  if kd σ a0 = 7 then (bd (F_X6_in a1 (0 : Int32) (100000 : Int32) (si σ 240 a0 (0 : Int32))) (fun r2 σ2 => if r2 = 0 then (B_X6_tick_26   σ2) else (if kd σ2 a0 = 7 then (if a1 ≤ ((2147483647 : Int32) - (gi σ2 241 a0)) then (some ((gi (si σ2 241 a0 ((gi σ2 241 a0) + a1)) 241 a0), (si σ2 241 a0 ((gi σ2 241 a0) + a1)))) else (B_X6_tick_26   σ2)) else none))) else none
theorem mo_F_X6_tick (a0 : Nat) (a1 : Int32) (σ : HS) : Mo σ (F_X6_tick a0 a1 σ) := by
  unfold F_X6_tick
  exact (mo_ite (mo_le (τ := (si σ 240 a0 (0 : Int32))) ⟨Nat.le_refl _, Nat.le_refl _⟩ (mo_bd (mo_F_X6_in a1 (0 : Int32) (100000 : Int32) _) (fun r2 σ2 => (mo_ite (mo_B_X6_tick_26   _) (mo_ite (mo_ite (mo_le (τ := (si σ2 241 a0 ((gi σ2 241 a0) + a1))) ⟨Nat.le_refl _, Nat.le_refl _⟩ mo_ret) (mo_B_X6_tick_26   _)) mo_none))))) mo_none)
set_option maxHeartbeats 4000000 in
set_option maxRecDepth 100000 in
theorem c_X6_tick (l : Launch) (D : va_G) (dA : Nat → ClassId) (base : Nat) (a0 : Nat) (a1 : Int32) {σ τ : HS} {r : Int32} (hF : F_X6_tick a0 a1 σ = some (r, τ)) : CT l yX6_tick cX6_tick 2 (some .int) 1 22 D dA base [vr a0, .int a1] (some (.int r)) σ τ := by
  refine CT.of (lv := [(0, vr a0), (1, .int a1)]) (by decide) (vR (vI vN)) (Nat.le_of_ble_eq_true rfl) rfl ?_
  intro p e s m args below meth c ls cx hl h
  have cx : CX p s m args meth c cX6_tick 2 (some .int) RX6 "tick" D dA base := cx
  have g : LE σ σ := LE.rf
  obtain ⟨hx, hb, -⟩ := id cx
  unfold F_X6_tick at hF
  refine x_aload_n hx hb dX6_tick_0 rfl (lv_at hl 0 rfl) ?_
  refine lv_iconst (v := (0 : Int32)) hx hb dX6_tick_1 (by decide) ?_
  obtain ⟨hq1, hF⟩ := ifs hF
  refine x_sti cx h fa_X6_75 (f := 240) rfl (Or.inl rfl) hq1 dX6_tick_2 (fun H locs h => ?_)
  refine lv_iload_n hx hb dX6_tick_5 rfl (lv_at hl 1 rfl) ?_
  refine lv_iconst (v := (0 : Int32)) hx hb dX6_tick_6 (by decide) ?_
  refine lv_ldc hx hb cx.2.2.2.1 (cx.2.2.2.2.1 _ wc_X6_190) dX6_tick_7 ?_
  obtain ⟨r2, σ2, hc2, hF⟩ := bds hF
  refine x_calli (σ := (si σ 240 a0 (0 : Int32))) g (LEm hc2 (mo_F_X6_in a1 (0 : Int32) (100000 : Int32) _)) (x_runS (As := [.int a1, .int (0 : Int32), .int (100000 : Int32)]) (rest := []) cx h (c_X6_in l D dA base a1 (0 : Int32) (100000 : Int32) hc2) ml_X6_134 mi_X6_in rfl ⟨Nat.le_of_ble_eq_true rfl, Nat.le_of_ble_eq_true rfl⟩ hl.1 rfl (s8 sN (by decide)) dX6_tick_9 (le_room g (LEm hc2 (mo_F_X6_in a1 (0 : Int32) (100000 : Int32) _)) (LEm hF (mo_ite (mo_B_X6_tick_26   _) (mo_ite (mo_ite (mo_le (τ := (si σ2 241 a0 ((gi σ2 241 a0) + a1))) ⟨Nat.le_refl _, Nat.le_refl _⟩ mo_ret) (mo_B_X6_tick_26   _)) mo_none))))) h (fun H locs h g => ?_)
  refine lv_if_eq (tgt := 26) hx hb dX6_tick_12 (by decide) (fun c3 => ?_) (fun c3 => ?_)
  · replace hF := ifp c3 hF
    exact w_X6_tick_26 (σ := σ2) cx    h g (lv_sub hl [] rfl) hF
  · replace hF := ifn c3 hF
    refine lv_iload_n hx hb dX6_tick_15 rfl (lv_at hl 1 rfl) ?_
    refine lv_ldc hx hb cx.2.2.2.1 (cx.2.2.2.2.1 _ wc_X6_191) dX6_tick_16 ?_
    refine x_aload_n hx hb dX6_tick_18 rfl (lv_at hl 0 rfl) ?_
    obtain ⟨hq4, hF⟩ := ifs hF
    refine x_geti cx h fa_X6_103 (f := 241) rfl hq4 dX6_tick_19 ?_
    refine lv_isub hx hb dX6_tick_22 ?_
    refine lv_icmp_le (tgt := 29) hx hb dX6_tick_23 (by decide) (fun c5 => ?_) (fun c5 => ?_)
    · replace hF := ifp c5 hF
      refine x_aload_n hx hb dX6_tick_29 rfl (lv_at hl 0 rfl) ?_
      refine lv_dup hx hb dX6_tick_30 (vr_cat _) ?_
      refine x_geti cx h fa_X6_103 (f := 241) rfl hq4 dX6_tick_31 ?_
      refine lv_iload_n hx hb dX6_tick_34 rfl (lv_at hl 1 rfl) ?_
      refine lv_iadd hx hb dX6_tick_35 ?_
      refine x_sti cx h fa_X6_103 (f := 241) rfl (Or.inl rfl) hq4 dX6_tick_36 (fun H locs h => ?_)
      refine x_aload_n hx hb dX6_tick_39 rfl (lv_at hl 0 rfl) ?_
      refine x_geti cx h fa_X6_103 (f := 241) rfl hq4 dX6_tick_40 ?_
      obtain ⟨rfl, rfl⟩ := rts hF
      exact x_iret cx h dX6_tick_43
    · replace hF := ifn c5 hF
      exact w_X6_tick_26 (σ := σ2) cx    h g (lv_sub hl [] rfl) hF
def F_X6_timeout (a0 : Nat) (a1 : Int32) (σ : HS) : Option (Int32 × HS) :=
  if kd σ a0 = 7 then (bd (F_X6_in a1 (0 : Int32) (100000 : Int32) (si σ 240 a0 (0 : Int32))) (fun r2 σ2 => if r2 = 0 then (some ((-2 : Int32), σ2)) else (if kd σ2 a0 = 7 then (some ((gi σ2 242 a0), (si σ2 242 a0 a1))) else none))) else none
theorem mo_F_X6_timeout (a0 : Nat) (a1 : Int32) (σ : HS) : Mo σ (F_X6_timeout a0 a1 σ) := by
  unfold F_X6_timeout
  exact (mo_ite (mo_le (τ := (si σ 240 a0 (0 : Int32))) ⟨Nat.le_refl _, Nat.le_refl _⟩ (mo_bd (mo_F_X6_in a1 (0 : Int32) (100000 : Int32) _) (fun r2 σ2 => (mo_ite mo_ret (mo_ite (mo_le (τ := (si σ2 242 a0 a1)) ⟨Nat.le_refl _, Nat.le_refl _⟩ mo_ret) mo_none))))) mo_none)
set_option maxHeartbeats 4000000 in
set_option maxRecDepth 100000 in
theorem c_X6_timeout (l : Launch) (D : va_G) (dA : Nat → ClassId) (base : Nat) (a0 : Nat) (a1 : Int32) {σ τ : HS} {r : Int32} (hF : F_X6_timeout a0 a1 σ = some (r, τ)) : CT l yX6_timeout cX6_timeout 3 (some .int) 1 22 D dA base [vr a0, .int a1] (some (.int r)) σ τ := by
  refine CT.of (lv := [(0, vr a0), (1, .int a1)]) (by decide) (vR (vI vN)) (Nat.le_of_ble_eq_true rfl) rfl ?_
  intro p e s m args below meth c ls cx hl h
  have cx : CX p s m args meth c cX6_timeout 3 (some .int) RX6 "timeout" D dA base := cx
  have g : LE σ σ := LE.rf
  obtain ⟨hx, hb, -⟩ := id cx
  unfold F_X6_timeout at hF
  refine x_aload_n hx hb dX6_timeout_0 rfl (lv_at hl 0 rfl) ?_
  refine lv_iconst (v := (0 : Int32)) hx hb dX6_timeout_1 (by decide) ?_
  obtain ⟨hq1, hF⟩ := ifs hF
  refine x_sti cx h fa_X6_75 (f := 240) rfl (Or.inl rfl) hq1 dX6_timeout_2 (fun H locs h => ?_)
  refine lv_iload_n hx hb dX6_timeout_5 rfl (lv_at hl 1 rfl) ?_
  refine lv_iconst (v := (0 : Int32)) hx hb dX6_timeout_6 (by decide) ?_
  refine lv_ldc hx hb cx.2.2.2.1 (cx.2.2.2.2.1 _ wc_X6_190) dX6_timeout_7 ?_
  obtain ⟨r2, σ2, hc2, hF⟩ := bds hF
  refine x_calli (σ := (si σ 240 a0 (0 : Int32))) g (LEm hc2 (mo_F_X6_in a1 (0 : Int32) (100000 : Int32) _)) (x_runS (As := [.int a1, .int (0 : Int32), .int (100000 : Int32)]) (rest := []) cx h (c_X6_in l D dA base a1 (0 : Int32) (100000 : Int32) hc2) ml_X6_134 mi_X6_in rfl ⟨Nat.le_of_ble_eq_true rfl, Nat.le_of_ble_eq_true rfl⟩ hl.1 rfl (s8 sN (by decide)) dX6_timeout_9 (le_room g (LEm hc2 (mo_F_X6_in a1 (0 : Int32) (100000 : Int32) _)) (LEm hF (mo_ite mo_ret (mo_ite (mo_le (τ := (si σ2 242 a0 a1)) ⟨Nat.le_refl _, Nat.le_refl _⟩ mo_ret) mo_none))))) h (fun H locs h g => ?_)
  refine lv_if_ne (tgt := 18) hx hb dX6_timeout_12 (by decide) (fun c3 => ?_) (fun c3 => ?_)
  · replace hF := ifn c3 hF
    refine x_aload_n hx hb dX6_timeout_18 rfl (lv_at hl 0 rfl) ?_
    obtain ⟨hq4, hF⟩ := ifs hF
    refine x_geti cx h fa_X6_7 (f := 242) rfl hq4 dX6_timeout_19 ?_
    refine x_istore_n (lv' := [(2, .int (gi σ2 242 a0)), (0, vr a0), (1, .int a1)]) hx hb dX6_timeout_22 rfl hl (by decide) (cR (cI cN)) rfl (fun ls hl => ?_)
    refine x_aload_n hx hb dX6_timeout_23 rfl (lv_at hl 1 rfl) ?_
    refine lv_iload_n hx hb dX6_timeout_24 rfl (lv_at hl 2 rfl) ?_
    refine x_sti cx h fa_X6_7 (f := 242) rfl (Or.inl rfl) hq4 dX6_timeout_25 (fun H locs h => ?_)
    refine lv_iload_n hx hb dX6_timeout_28 rfl (lv_at hl 0 rfl) ?_
    obtain ⟨rfl, rfl⟩ := rts hF
    exact x_iret cx h dX6_timeout_29
  · replace hF := ifp c3 hF
    refine lv_bipush (v := (-2 : Int32)) hx hb dX6_timeout_15 (by decide) ?_
    obtain ⟨rfl, rfl⟩ := rts hF
    exact x_iret cx h dX6_timeout_17
def F_X6_fallOracle (a0 : Nat) (σ : HS) : Option (Int32 × HS) :=
  if kd σ a0 = 7 then (lt1 (si (si σ 240 a0 (0 : Int32)) 243 a0 ((gi (si σ 240 a0 (0 : Int32)) 245 a0) + (1 : Int32))) (fun σ2 => some ((gi σ2 243 a0), σ2))) else none
theorem mo_F_X6_fallOracle (a0 : Nat) (σ : HS) : Mo σ (F_X6_fallOracle a0 σ) := by
  unfold F_X6_fallOracle
  exact (mo_ite (mo_lt ⟨Nat.le_refl _, Nat.le_refl _⟩ (fun σ2 => mo_ret)) mo_none)
set_option maxHeartbeats 4000000 in
set_option maxRecDepth 100000 in
theorem c_X6_fallOracle (l : Launch) (D : va_G) (dA : Nat → ClassId) (base : Nat) (a0 : Nat) {σ τ : HS} {r : Int32} (hF : F_X6_fallOracle a0 σ = some (r, τ)) : CT l yX6_fallOracle cX6_fallOracle 1 (some .int) 0 0 D dA base [vr a0] (some (.int r)) σ τ := by
  refine CT.of (lv := [(0, vr a0)]) (by decide) (vR vN) (Nat.le_of_ble_eq_true rfl) rfl ?_
  intro p e s m args below meth c ls cx hl h
  have cx : CX p s m args meth c cX6_fallOracle 1 (some .int) RX6 "fallOracle" D dA base := cx
  have g : LE σ σ := LE.rf
  obtain ⟨hx, hb, -⟩ := id cx
  unfold F_X6_fallOracle at hF
  refine x_aload_n hx hb dX6_fallOracle_0 rfl (lv_at hl 0 rfl) ?_
  refine lv_iconst (v := (0 : Int32)) hx hb dX6_fallOracle_1 (by decide) ?_
  obtain ⟨hq1, hF⟩ := ifs hF
  refine x_sti cx h fa_X6_75 (f := 240) rfl (Or.inl rfl) hq1 dX6_fallOracle_2 (fun H locs h => ?_)
  refine x_aload_n hx hb dX6_fallOracle_5 rfl (lv_at hl 0 rfl) ?_
  refine x_aload_n hx hb dX6_fallOracle_6 rfl (lv_at hl 0 rfl) ?_
  refine x_geti cx h fa_X6_93 (f := 245) rfl hq1 dX6_fallOracle_7 ?_
  refine lv_iconst (v := (1 : Int32)) hx hb dX6_fallOracle_10 (by decide) ?_
  refine lv_iadd hx hb dX6_fallOracle_11 ?_
  refine x_sti cx h fa_X6_13 (f := 243) rfl (Or.inl rfl) hq1 dX6_fallOracle_12 (fun H locs h => ?_)
  obtain ⟨σ2, e2, hF⟩ := lts hF
  have h := Wd.nm e2 h
  have g := LE.nm e2 g
  refine W.cs (cells' := hs σ2 - hs σ) (slots' := ns σ2 - ns σ) (by rw [e2]; try rfl) (by rw [e2]; try rfl) ?_
  refine x_aload_n hx hb dX6_fallOracle_15 rfl (lv_at hl 0 rfl) ?_
  refine x_geti cx h fa_X6_13 (f := 243) rfl (by rw [e2]; exact hq1) dX6_fallOracle_16 ?_
  obtain ⟨rfl, rfl⟩ := rts hF
  exact x_iret cx h dX6_fallOracle_19
def F_X6_fall (a0 : Nat) (σ : HS) : Option (Int32 × HS) :=
  if kd σ a0 = 7 then (some ((gi (si σ 240 a0 (0 : Int32)) 267 a0), (si σ 240 a0 (0 : Int32)))) else none
theorem mo_F_X6_fall (a0 : Nat) (σ : HS) : Mo σ (F_X6_fall a0 σ) := by
  unfold F_X6_fall
  exact (mo_ite (mo_le (τ := (si σ 240 a0 (0 : Int32))) ⟨Nat.le_refl _, Nat.le_refl _⟩ mo_ret) mo_none)
set_option maxHeartbeats 4000000 in
set_option maxRecDepth 100000 in
theorem c_X6_fall (l : Launch) (D : va_G) (dA : Nat → ClassId) (base : Nat) (a0 : Nat) {σ τ : HS} {r : Int32} (hF : F_X6_fall a0 σ = some (r, τ)) : CT l yX6_fall cX6_fall 1 (some .int) 0 0 D dA base [vr a0] (some (.int r)) σ τ := by
  refine CT.of (lv := [(0, vr a0)]) (by decide) (vR vN) (Nat.le_of_ble_eq_true rfl) rfl ?_
  intro p e s m args below meth c ls cx hl h
  have cx : CX p s m args meth c cX6_fall 1 (some .int) RX6 "fall" D dA base := cx
  have g : LE σ σ := LE.rf
  obtain ⟨hx, hb, -⟩ := id cx
  unfold F_X6_fall at hF
  refine x_aload_n hx hb dX6_fall_0 rfl (lv_at hl 0 rfl) ?_
  refine lv_iconst (v := (0 : Int32)) hx hb dX6_fall_1 (by decide) ?_
  obtain ⟨hq1, hF⟩ := ifs hF
  refine x_sti cx h fa_X6_75 (f := 240) rfl (Or.inl rfl) hq1 dX6_fall_2 (fun H locs h => ?_)
  refine x_aload_n hx hb dX6_fall_5 rfl (lv_at hl 0 rfl) ?_
  refine x_geti cx h fa_X6_72 (f := 267) rfl hq1 dX6_fall_6 ?_
  obtain ⟨rfl, rfl⟩ := rts hF
  exact x_iret cx h dX6_fall_9
def B_X6_sweepCell_224 (k90 : Nat → Int32 → Int32 → Int32 → Int32 → HS → Option (Unit × HS)) (x0 : Nat) (x1 : Int32) (x2 : Int32) (x3 : Int32) (x4 : Int32) (σ : HS) : Option (Unit × HS) :=
  k90 x0 x1 x2 x3 x4 σ
theorem mo_B_X6_sweepCell_224 {k90 : Nat → Int32 → Int32 → Int32 → Int32 → HS → Option (Unit × HS)} (mk90 : ∀ x0 x1 x2 x3 x4 σ, Mo σ (k90 x0 x1 x2 x3 x4 σ)) (x0 : Nat) (x1 : Int32) (x2 : Int32) (x3 : Int32) (x4 : Int32) (σ : HS) : Mo σ (B_X6_sweepCell_224 k90 x0 x1 x2 x3 x4 σ) := by
  unfold B_X6_sweepCell_224
  exact (mk90 x0 x1 x2 x3 x4 _)
set_option maxHeartbeats 4000000 in
set_option maxRecDepth 100000 in
theorem w_X6_sweepCell_224 {p : Program} {l : Launch} {e : Env} {s : State} {m : MethodId} {args : Array Value} {below : List Frame} {meth : Method} {c : Code} {D : va_G} {dA : Nat → ClassId} {base : Nat} {σ0 τ : HS} {r : Unit} (cx : CX p s m args meth c cX6_sweepCell 7 none RX6 "sweepCell" D dA base) {k90 : Nat → Int32 → Int32 → Int32 → Int32 → HS → Option (Unit × HS)} (mk90 : ∀ x0 x1 x2 x3 x4 σ, Mo σ (k90 x0 x1 x2 x3 x4 σ)) (hk90 : ∀ x0 x1 x2 x3 x4 σ H locs ls, Wd D dA base σ s H locs → LE σ0 σ → lv_has ls 7 [(0, vr x0), (1, .int x1), (2, .int x2), (3, .int x3), (4, .int x4)] → k90 x0 x1 x2 x3 x4 σ = some (r, τ) → WG p l e s m args below meth c D dA base 2 46 none σ0 τ σ H locs 90 ls []) (x0 : Nat) (x1 : Int32) (x2 : Int32) (x3 : Int32) (x4 : Int32) {σ : HS} {H : Heap} {locs : List Loc} {ls : Array Slot} (h : Wd D dA base σ s H locs) (g : LE σ0 σ) (hl : lv_has ls 7 [(0, vr x0), (1, .int x1), (2, .int x2), (3, .int x3), (4, .int x4)]) (hF : B_X6_sweepCell_224 k90 x0 x1 x2 x3 x4 σ = some (r, τ)) : WG p l e s m args below meth c D dA base 2 46 none σ0 τ σ H locs 224 ls [] := by
  obtain ⟨hx, hb, -⟩ := id cx
  unfold B_X6_sweepCell_224 at hF
  refine lv_goto (tgt := 90) hx hb dX6_sweepCell_224 (by decide) ?_
  exact hk90 x0 x1 x2 x3 x4 σ _ _ _ h g (lv_sub hl [0, 1, 2, 3, 4] rfl) hF
def B_X6_sweepCell_207 (k90 : Nat → Int32 → Int32 → Int32 → Int32 → HS → Option (Unit × HS)) (x0 : Nat) (x1 : Int32) (x2 : Int32) (x3 : Int32) (x4 : Int32) (x5 : Int32) (σ : HS) : Option (Unit × HS) :=
  if x5 = 0 then (B_X6_sweepCell_224 k90 x0 x1 x2 x3 (x4 + (1 : Int32)) σ) else (if kd σ x0 = 7 then (bd (F_X6_dropWrite x0 x4 σ) (fun r3 σ3 => B_X6_sweepCell_224 k90 x0 x1 x2 x3 x4 σ3)) else none)
theorem mo_B_X6_sweepCell_207 {k90 : Nat → Int32 → Int32 → Int32 → Int32 → HS → Option (Unit × HS)} (mk90 : ∀ x0 x1 x2 x3 x4 σ, Mo σ (k90 x0 x1 x2 x3 x4 σ)) (x0 : Nat) (x1 : Int32) (x2 : Int32) (x3 : Int32) (x4 : Int32) (x5 : Int32) (σ : HS) : Mo σ (B_X6_sweepCell_207 k90 x0 x1 x2 x3 x4 x5 σ) := by
  unfold B_X6_sweepCell_207
  exact (mo_ite (mo_B_X6_sweepCell_224 mk90 x0 x1 x2 x3 (x4 + (1 : Int32)) _) (mo_ite (mo_bd (mo_F_X6_dropWrite x0 x4 _) (fun r3 σ3 => (mo_B_X6_sweepCell_224 mk90 x0 x1 x2 x3 x4 _))) mo_none))
set_option maxHeartbeats 4000000 in
set_option maxRecDepth 100000 in
theorem w_X6_sweepCell_207 {p : Program} {l : Launch} {e : Env} {s : State} {m : MethodId} {args : Array Value} {below : List Frame} {meth : Method} {c : Code} {D : va_G} {dA : Nat → ClassId} {base : Nat} {σ0 τ : HS} {r : Unit} (cx : CX p s m args meth c cX6_sweepCell 7 none RX6 "sweepCell" D dA base) {k90 : Nat → Int32 → Int32 → Int32 → Int32 → HS → Option (Unit × HS)} (mk90 : ∀ x0 x1 x2 x3 x4 σ, Mo σ (k90 x0 x1 x2 x3 x4 σ)) (hk90 : ∀ x0 x1 x2 x3 x4 σ H locs ls, Wd D dA base σ s H locs → LE σ0 σ → lv_has ls 7 [(0, vr x0), (1, .int x1), (2, .int x2), (3, .int x3), (4, .int x4)] → k90 x0 x1 x2 x3 x4 σ = some (r, τ) → WG p l e s m args below meth c D dA base 2 46 none σ0 τ σ H locs 90 ls []) (x0 : Nat) (x1 : Int32) (x2 : Int32) (x3 : Int32) (x4 : Int32) (x5 : Int32) {σ : HS} {H : Heap} {locs : List Loc} {ls : Array Slot} (h : Wd D dA base σ s H locs) (g : LE σ0 σ) (hl : lv_has ls 7 [(0, vr x0), (1, .int x1), (2, .int x2), (3, .int x3), (4, .int x4), (5, .int x5)]) (hF : B_X6_sweepCell_207 k90 x0 x1 x2 x3 x4 x5 σ = some (r, τ)) : WG p l e s m args below meth c D dA base 2 46 none σ0 τ σ H locs 207 ls [] := by
  obtain ⟨hx, hb, -⟩ := id cx
  unfold B_X6_sweepCell_207 at hF
  refine lv_iload hx hb dX6_sweepCell_207 (lv_at hl 5 rfl) ?_
  refine lv_if_eq (tgt := 221) hx hb dX6_sweepCell_209 (by decide) (fun c1 => ?_) (fun c1 => ?_)
  · replace hF := ifp c1 hF
    refine x_iinc (k := 4) (v := (1 : Int32)) (lv' := [(4, .int (x4 + (1 : Int32))), (0, vr x0), (1, .int x1), (2, .int x2), (3, .int x3), (5, .int x5)]) hx hb dX6_sweepCell_221 hl rfl (by decide) (by decide) (cR (cI (cI (cI (cI (cI cN)))))) rfl (fun ls hl => ?_)
    exact w_X6_sweepCell_224 (σ := σ) cx mk90 hk90 x0 x1 x2 x3 (x4 + (1 : Int32)) h g (lv_sub hl [1, 2, 3, 4, 0] rfl) hF
  · replace hF := ifn c1 hF
    refine x_aload_n hx hb dX6_sweepCell_212 rfl (lv_at hl 0 rfl) ?_
    refine lv_iload hx hb dX6_sweepCell_213 (lv_at hl 4 rfl) ?_
    obtain ⟨hq2, hF⟩ := ifs hF
    obtain ⟨r3, σ3, hc3, hF⟩ := bds hF
    refine x_callv (σ := σ) g (LEm hc3 (mo_F_X6_dropWrite x0 x4 _)) (x_runV (As := [.int x4]) (rest := []) cx h (c_X6_dropWrite l D dA base x0 x4 hc3) ml_X6_195 mi_X6_dropWrite hq2 rfl ⟨Nat.le_of_ble_eq_true rfl, Nat.le_of_ble_eq_true rfl⟩ hl.1 rfl (s8 sN (by decide)) dX6_sweepCell_215 (le_room g (LEm hc3 (mo_F_X6_dropWrite x0 x4 _)) (LEm hF (mo_B_X6_sweepCell_224 mk90 x0 x1 x2 x3 x4 _)))) h (fun H locs h g => ?_)
    refine lv_goto (tgt := 224) hx hb dX6_sweepCell_218 (by decide) ?_
    exact w_X6_sweepCell_224 (σ := σ3) cx mk90 hk90 x0 x1 x2 x3 x4 h g (lv_sub hl [0, 1, 2, 3, 4] rfl) hF
def B_X6_sweepCell_188 (k90 : Nat → Int32 → Int32 → Int32 → Int32 → HS → Option (Unit × HS)) (x0 : Nat) (x1 : Int32) (x2 : Int32) (x3 : Int32) (x4 : Int32) (y0 : Int32) (σ : HS) : Option (Unit × HS) :=
  if y0 = 0 then (B_X6_sweepCell_207 k90 x0 x1 x2 x3 x4 y0 σ) else (if kd σ x0 = 7 then (if kd σ (gr σ 253 x0) = 100 ∧ inb x4 (ln σ (gr σ 253 x0)) then (bd (F_X6_dropData x0 x1 (ai σ (gr σ 253 x0) x4.toNatClampNeg) σ) (fun r4 σ4 => B_X6_sweepCell_207 k90 x0 x1 x2 x3 x4 y0 σ4)) else none) else none)
theorem mo_B_X6_sweepCell_188 {k90 : Nat → Int32 → Int32 → Int32 → Int32 → HS → Option (Unit × HS)} (mk90 : ∀ x0 x1 x2 x3 x4 σ, Mo σ (k90 x0 x1 x2 x3 x4 σ)) (x0 : Nat) (x1 : Int32) (x2 : Int32) (x3 : Int32) (x4 : Int32) (y0 : Int32) (σ : HS) : Mo σ (B_X6_sweepCell_188 k90 x0 x1 x2 x3 x4 y0 σ) := by
  unfold B_X6_sweepCell_188
  exact (mo_ite (mo_B_X6_sweepCell_207 mk90 x0 x1 x2 x3 x4 y0 _) (mo_ite (mo_ite (mo_bd (mo_F_X6_dropData x0 x1 (ai σ (gr σ 253 x0) x4.toNatClampNeg) _) (fun r4 σ4 => (mo_B_X6_sweepCell_207 mk90 x0 x1 x2 x3 x4 y0 _))) mo_none) mo_none))
set_option maxHeartbeats 4000000 in
set_option maxRecDepth 100000 in
theorem w_X6_sweepCell_188 {p : Program} {l : Launch} {e : Env} {s : State} {m : MethodId} {args : Array Value} {below : List Frame} {meth : Method} {c : Code} {D : va_G} {dA : Nat → ClassId} {base : Nat} {σ0 τ : HS} {r : Unit} (cx : CX p s m args meth c cX6_sweepCell 7 none RX6 "sweepCell" D dA base) {k90 : Nat → Int32 → Int32 → Int32 → Int32 → HS → Option (Unit × HS)} (mk90 : ∀ x0 x1 x2 x3 x4 σ, Mo σ (k90 x0 x1 x2 x3 x4 σ)) (hk90 : ∀ x0 x1 x2 x3 x4 σ H locs ls, Wd D dA base σ s H locs → LE σ0 σ → lv_has ls 7 [(0, vr x0), (1, .int x1), (2, .int x2), (3, .int x3), (4, .int x4)] → k90 x0 x1 x2 x3 x4 σ = some (r, τ) → WG p l e s m args below meth c D dA base 2 46 none σ0 τ σ H locs 90 ls []) (x0 : Nat) (x1 : Int32) (x2 : Int32) (x3 : Int32) (x4 : Int32) (y0 : Int32) {σ : HS} {H : Heap} {locs : List Loc} {ls : Array Slot} (h : Wd D dA base σ s H locs) (g : LE σ0 σ) (hl : lv_has ls 7 [(0, vr x0), (1, .int x1), (2, .int x2), (3, .int x3), (4, .int x4)]) (hF : B_X6_sweepCell_188 k90 x0 x1 x2 x3 x4 y0 σ = some (r, τ)) : WG p l e s m args below meth c D dA base 2 46 none σ0 τ σ H locs 188 ls [.int y0] := by
  obtain ⟨hx, hb, -⟩ := id cx
  unfold B_X6_sweepCell_188 at hF
  refine x_istore (lv' := [(5, .int y0), (0, vr x0), (1, .int x1), (2, .int x2), (3, .int x3), (4, .int x4)]) hx hb dX6_sweepCell_188 hl (by decide) (cR (cI (cI (cI (cI cN))))) rfl (fun ls hl => ?_)
  refine lv_iload hx hb dX6_sweepCell_190 (lv_at hl 0 rfl) ?_
  refine lv_if_eq (tgt := 207) hx hb dX6_sweepCell_192 (by decide) (fun c1 => ?_) (fun c1 => ?_)
  · replace hF := ifp c1 hF
    exact w_X6_sweepCell_207 (σ := σ) cx mk90 hk90 x0 x1 x2 x3 x4 y0 h g (lv_sub hl [1, 2, 3, 4, 5, 0] rfl) hF
  · replace hF := ifn c1 hF
    refine x_aload_n hx hb dX6_sweepCell_195 rfl (lv_at hl 1 rfl) ?_
    refine lv_iload_n hx hb dX6_sweepCell_196 rfl (lv_at hl 2 rfl) ?_
    refine x_aload_n hx hb dX6_sweepCell_197 rfl (lv_at hl 1 rfl) ?_
    obtain ⟨hq2, hF⟩ := ifs hF
    refine x_getr cx h fa_X6_32 (f := 253) rfl hq2 dX6_sweepCell_198 ?_
    refine lv_iload hx hb dX6_sweepCell_201 (lv_at hl 5 rfl) ?_
    obtain ⟨hq3, hF⟩ := ifs hF
    refine x_iald cx h hq3.1 (inb.vp hq3.2) dX6_sweepCell_203 ?_
    obtain ⟨r4, σ4, hc4, hF⟩ := bds hF
    refine x_callv (σ := σ) g (LEm hc4 (mo_F_X6_dropData x0 x1 (ai σ (gr σ 253 x0) x4.toNatClampNeg) _)) (x_runV (As := [.int x1, .int (ai σ (gr σ 253 x0) x4.toNatClampNeg)]) (rest := []) cx h (c_X6_dropData l D dA base x0 x1 (ai σ (gr σ 253 x0) x4.toNatClampNeg) hc4) ml_X6_113 mi_X6_dropData hq2 rfl ⟨Nat.le_of_ble_eq_true rfl, Nat.le_of_ble_eq_true rfl⟩ hl.1 rfl (s8 sN (by decide)) dX6_sweepCell_204 (le_room g (LEm hc4 (mo_F_X6_dropData x0 x1 (ai σ (gr σ 253 x0) x4.toNatClampNeg) _)) (LEm hF (mo_B_X6_sweepCell_207 mk90 x0 x1 x2 x3 x4 y0 _)))) h (fun H locs h g => ?_)
    exact w_X6_sweepCell_207 (σ := σ4) cx mk90 hk90 x0 x1 x2 x3 x4 y0 h g (lv_sub hl [1, 2, 3, 4, 5, 0] rfl) hF
def B_X6_sweepCell_183 (k90 : Nat → Int32 → Int32 → Int32 → Int32 → HS → Option (Unit × HS)) (x0 : Nat) (x1 : Int32) (x2 : Int32) (x3 : Int32) (x4 : Int32) (σ : HS) : Option (Unit × HS) :=
  B_X6_sweepCell_188 k90 x0 x1 x2 x3 x4 (1 : Int32) σ
theorem mo_B_X6_sweepCell_183 {k90 : Nat → Int32 → Int32 → Int32 → Int32 → HS → Option (Unit × HS)} (mk90 : ∀ x0 x1 x2 x3 x4 σ, Mo σ (k90 x0 x1 x2 x3 x4 σ)) (x0 : Nat) (x1 : Int32) (x2 : Int32) (x3 : Int32) (x4 : Int32) (σ : HS) : Mo σ (B_X6_sweepCell_183 k90 x0 x1 x2 x3 x4 σ) := by
  unfold B_X6_sweepCell_183
  exact (mo_B_X6_sweepCell_188 mk90 x0 x1 x2 x3 x4 (1 : Int32) _)
set_option maxHeartbeats 4000000 in
set_option maxRecDepth 100000 in
theorem w_X6_sweepCell_183 {p : Program} {l : Launch} {e : Env} {s : State} {m : MethodId} {args : Array Value} {below : List Frame} {meth : Method} {c : Code} {D : va_G} {dA : Nat → ClassId} {base : Nat} {σ0 τ : HS} {r : Unit} (cx : CX p s m args meth c cX6_sweepCell 7 none RX6 "sweepCell" D dA base) {k90 : Nat → Int32 → Int32 → Int32 → Int32 → HS → Option (Unit × HS)} (mk90 : ∀ x0 x1 x2 x3 x4 σ, Mo σ (k90 x0 x1 x2 x3 x4 σ)) (hk90 : ∀ x0 x1 x2 x3 x4 σ H locs ls, Wd D dA base σ s H locs → LE σ0 σ → lv_has ls 7 [(0, vr x0), (1, .int x1), (2, .int x2), (3, .int x3), (4, .int x4)] → k90 x0 x1 x2 x3 x4 σ = some (r, τ) → WG p l e s m args below meth c D dA base 2 46 none σ0 τ σ H locs 90 ls []) (x0 : Nat) (x1 : Int32) (x2 : Int32) (x3 : Int32) (x4 : Int32) {σ : HS} {H : Heap} {locs : List Loc} {ls : Array Slot} (h : Wd D dA base σ s H locs) (g : LE σ0 σ) (hl : lv_has ls 7 [(0, vr x0), (1, .int x1), (2, .int x2), (3, .int x3), (4, .int x4)]) (hF : B_X6_sweepCell_183 k90 x0 x1 x2 x3 x4 σ = some (r, τ)) : WG p l e s m args below meth c D dA base 2 46 none σ0 τ σ H locs 183 ls [] := by
  obtain ⟨hx, hb, -⟩ := id cx
  unfold B_X6_sweepCell_183 at hF
  refine lv_iconst (v := (1 : Int32)) hx hb dX6_sweepCell_183 (by decide) ?_
  refine lv_goto (tgt := 188) hx hb dX6_sweepCell_184 (by decide) ?_
  exact w_X6_sweepCell_188 (σ := σ) cx mk90 hk90 x0 x1 x2 x3 x4 (1 : Int32) h g (lv_sub hl [0, 1, 2, 3, 4] rfl) hF
def B_X6_sweepCell_187 (k90 : Nat → Int32 → Int32 → Int32 → Int32 → HS → Option (Unit × HS)) (x0 : Nat) (x1 : Int32) (x2 : Int32) (x3 : Int32) (x4 : Int32) (σ : HS) : Option (Unit × HS) :=
  B_X6_sweepCell_188 k90 x0 x1 x2 x3 x4 (0 : Int32) σ
theorem mo_B_X6_sweepCell_187 {k90 : Nat → Int32 → Int32 → Int32 → Int32 → HS → Option (Unit × HS)} (mk90 : ∀ x0 x1 x2 x3 x4 σ, Mo σ (k90 x0 x1 x2 x3 x4 σ)) (x0 : Nat) (x1 : Int32) (x2 : Int32) (x3 : Int32) (x4 : Int32) (σ : HS) : Mo σ (B_X6_sweepCell_187 k90 x0 x1 x2 x3 x4 σ) := by
  unfold B_X6_sweepCell_187
  exact (mo_B_X6_sweepCell_188 mk90 x0 x1 x2 x3 x4 (0 : Int32) _)
set_option maxHeartbeats 4000000 in
set_option maxRecDepth 100000 in
theorem w_X6_sweepCell_187 {p : Program} {l : Launch} {e : Env} {s : State} {m : MethodId} {args : Array Value} {below : List Frame} {meth : Method} {c : Code} {D : va_G} {dA : Nat → ClassId} {base : Nat} {σ0 τ : HS} {r : Unit} (cx : CX p s m args meth c cX6_sweepCell 7 none RX6 "sweepCell" D dA base) {k90 : Nat → Int32 → Int32 → Int32 → Int32 → HS → Option (Unit × HS)} (mk90 : ∀ x0 x1 x2 x3 x4 σ, Mo σ (k90 x0 x1 x2 x3 x4 σ)) (hk90 : ∀ x0 x1 x2 x3 x4 σ H locs ls, Wd D dA base σ s H locs → LE σ0 σ → lv_has ls 7 [(0, vr x0), (1, .int x1), (2, .int x2), (3, .int x3), (4, .int x4)] → k90 x0 x1 x2 x3 x4 σ = some (r, τ) → WG p l e s m args below meth c D dA base 2 46 none σ0 τ σ H locs 90 ls []) (x0 : Nat) (x1 : Int32) (x2 : Int32) (x3 : Int32) (x4 : Int32) {σ : HS} {H : Heap} {locs : List Loc} {ls : Array Slot} (h : Wd D dA base σ s H locs) (g : LE σ0 σ) (hl : lv_has ls 7 [(0, vr x0), (1, .int x1), (2, .int x2), (3, .int x3), (4, .int x4)]) (hF : B_X6_sweepCell_187 k90 x0 x1 x2 x3 x4 σ = some (r, τ)) : WG p l e s m args below meth c D dA base 2 46 none σ0 τ σ H locs 187 ls [] := by
  obtain ⟨hx, hb, -⟩ := id cx
  unfold B_X6_sweepCell_187 at hF
  refine lv_iconst (v := (0 : Int32)) hx hb dX6_sweepCell_187 (by decide) ?_
  exact w_X6_sweepCell_188 (σ := σ) cx mk90 hk90 x0 x1 x2 x3 x4 (0 : Int32) h g (lv_sub hl [0, 1, 2, 3, 4] rfl) hF
def B_X6_sweepCell_126 (k90 : Nat → Int32 → Int32 → Int32 → Int32 → HS → Option (Unit × HS)) (x0 : Nat) (x1 : Int32) (x2 : Int32) (x3 : Int32) (x4 : Int32) (y0 : Int32) (σ : HS) : Option (Unit × HS) :=
  if y0 = 0 then (B_X6_sweepCell_207 k90 x0 x1 x2 x3 x4 y0 σ) else (if kd σ x0 = 7 then (if kd σ (gr σ 254 x0) = 101 ∧ inb x4 (ln σ (gr σ 254 x0)) then (if (ai σ (gr σ 254 x0) x4.toNatClampNeg) = 0 then (if kd σ (gr σ 253 x0) = 100 ∧ inb x4 (ln σ (gr σ 253 x0)) then (bd (F_X6_dataAt x0 x1 (ai σ (gr σ 253 x0) x4.toNatClampNeg) σ) (fun r6 σ6 => if kd σ6 x0 = 7 then (if kd σ6 (gr σ6 252 x0) = 100 ∧ inb x4 (ln σ6 (gr σ6 252 x0)) then (if (ai σ6 (gr σ6 252 x0) x4.toNatClampNeg) = x3 then (if r6 < 0 then (B_X6_sweepCell_187 k90 x0 x1 x2 x3 x4 σ6) else (if kd σ6 (gr σ6 249 x0) = 100 ∧ inb r6 (ln σ6 (gr σ6 249 x0)) then (if 0 ≤ (ai σ6 (gr σ6 249 x0) r6.toNatClampNeg) then (B_X6_sweepCell_187 k90 x0 x1 x2 x3 x4 σ6) else (B_X6_sweepCell_183 k90 x0 x1 x2 x3 x4 σ6)) else none)) else (B_X6_sweepCell_183 k90 x0 x1 x2 x3 x4 σ6)) else none) else none)) else none) else (B_X6_sweepCell_207 k90 x0 x1 x2 x3 x4 y0 σ)) else none) else none)
theorem mo_B_X6_sweepCell_126 {k90 : Nat → Int32 → Int32 → Int32 → Int32 → HS → Option (Unit × HS)} (mk90 : ∀ x0 x1 x2 x3 x4 σ, Mo σ (k90 x0 x1 x2 x3 x4 σ)) (x0 : Nat) (x1 : Int32) (x2 : Int32) (x3 : Int32) (x4 : Int32) (y0 : Int32) (σ : HS) : Mo σ (B_X6_sweepCell_126 k90 x0 x1 x2 x3 x4 y0 σ) := by
  unfold B_X6_sweepCell_126
  exact (mo_ite (mo_B_X6_sweepCell_207 mk90 x0 x1 x2 x3 x4 y0 _) (mo_ite (mo_ite (mo_ite (mo_ite (mo_bd (mo_F_X6_dataAt x0 x1 (ai σ (gr σ 253 x0) x4.toNatClampNeg) _) (fun r6 σ6 => (mo_ite (mo_ite (mo_ite (mo_ite (mo_B_X6_sweepCell_187 mk90 x0 x1 x2 x3 x4 _) (mo_ite (mo_ite (mo_B_X6_sweepCell_187 mk90 x0 x1 x2 x3 x4 _) (mo_B_X6_sweepCell_183 mk90 x0 x1 x2 x3 x4 _)) mo_none)) (mo_B_X6_sweepCell_183 mk90 x0 x1 x2 x3 x4 _)) mo_none) mo_none))) mo_none) (mo_B_X6_sweepCell_207 mk90 x0 x1 x2 x3 x4 y0 _)) mo_none) mo_none))
set_option maxHeartbeats 4000000 in
set_option maxRecDepth 100000 in
theorem w_X6_sweepCell_126 {p : Program} {l : Launch} {e : Env} {s : State} {m : MethodId} {args : Array Value} {below : List Frame} {meth : Method} {c : Code} {D : va_G} {dA : Nat → ClassId} {base : Nat} {σ0 τ : HS} {r : Unit} (cx : CX p s m args meth c cX6_sweepCell 7 none RX6 "sweepCell" D dA base) {k90 : Nat → Int32 → Int32 → Int32 → Int32 → HS → Option (Unit × HS)} (mk90 : ∀ x0 x1 x2 x3 x4 σ, Mo σ (k90 x0 x1 x2 x3 x4 σ)) (hk90 : ∀ x0 x1 x2 x3 x4 σ H locs ls, Wd D dA base σ s H locs → LE σ0 σ → lv_has ls 7 [(0, vr x0), (1, .int x1), (2, .int x2), (3, .int x3), (4, .int x4)] → k90 x0 x1 x2 x3 x4 σ = some (r, τ) → WG p l e s m args below meth c D dA base 2 46 none σ0 τ σ H locs 90 ls []) (x0 : Nat) (x1 : Int32) (x2 : Int32) (x3 : Int32) (x4 : Int32) (y0 : Int32) {σ : HS} {H : Heap} {locs : List Loc} {ls : Array Slot} (h : Wd D dA base σ s H locs) (g : LE σ0 σ) (hl : lv_has ls 7 [(0, vr x0), (1, .int x1), (2, .int x2), (3, .int x3), (4, .int x4)]) (hF : B_X6_sweepCell_126 k90 x0 x1 x2 x3 x4 y0 σ = some (r, τ)) : WG p l e s m args below meth c D dA base 2 46 none σ0 τ σ H locs 126 ls [.int y0] := by
  obtain ⟨hx, hb, -⟩ := id cx
  unfold B_X6_sweepCell_126 at hF
  refine x_istore (lv' := [(5, .int y0), (0, vr x0), (1, .int x1), (2, .int x2), (3, .int x3), (4, .int x4)]) hx hb dX6_sweepCell_126 hl (by decide) (cR (cI (cI (cI (cI cN))))) rfl (fun ls hl => ?_)
  refine lv_iload hx hb dX6_sweepCell_128 (lv_at hl 0 rfl) ?_
  refine lv_if_eq (tgt := 207) hx hb dX6_sweepCell_130 (by decide) (fun c1 => ?_) (fun c1 => ?_)
  · replace hF := ifp c1 hF
    exact w_X6_sweepCell_207 (σ := σ) cx mk90 hk90 x0 x1 x2 x3 x4 y0 h g (lv_sub hl [1, 2, 3, 4, 5, 0] rfl) hF
  · replace hF := ifn c1 hF
    refine x_aload_n hx hb dX6_sweepCell_133 rfl (lv_at hl 1 rfl) ?_
    obtain ⟨hq2, hF⟩ := ifs hF
    refine x_getr cx h fa_X6_35 (f := 254) rfl hq2 dX6_sweepCell_134 ?_
    refine lv_iload hx hb dX6_sweepCell_137 (lv_at hl 5 rfl) ?_
    obtain ⟨hq3, hF⟩ := ifs hF
    refine x_zald cx h hq3.1 (inb.vp hq3.2) dX6_sweepCell_139 ?_
    refine lv_if_ne (tgt := 207) hx hb dX6_sweepCell_140 (by decide) (fun c4 => ?_) (fun c4 => ?_)
    · replace hF := ifn c4 hF
      exact w_X6_sweepCell_207 (σ := σ) cx mk90 hk90 x0 x1 x2 x3 x4 y0 h g (lv_sub hl [1, 2, 3, 4, 5, 0] rfl) hF
    · replace hF := ifp c4 hF
      refine x_aload_n hx hb dX6_sweepCell_143 rfl (lv_at hl 1 rfl) ?_
      refine lv_iload_n hx hb dX6_sweepCell_144 rfl (lv_at hl 2 rfl) ?_
      refine x_aload_n hx hb dX6_sweepCell_145 rfl (lv_at hl 1 rfl) ?_
      refine x_getr cx h fa_X6_32 (f := 253) rfl hq2 dX6_sweepCell_146 ?_
      refine lv_iload hx hb dX6_sweepCell_149 (lv_at hl 5 rfl) ?_
      obtain ⟨hq5, hF⟩ := ifs hF
      refine x_iald cx h hq5.1 (inb.vp hq5.2) dX6_sweepCell_151 ?_
      obtain ⟨r6, σ6, hc6, hF⟩ := bds hF
      refine x_calli (σ := σ) g (LEm hc6 (mo_F_X6_dataAt x0 x1 (ai σ (gr σ 253 x0) x4.toNatClampNeg) _)) (x_runV (As := [.int x1, .int (ai σ (gr σ 253 x0) x4.toNatClampNeg)]) (rest := []) cx h (c_X6_dataAt l D dA base x0 x1 (ai σ (gr σ 253 x0) x4.toNatClampNeg) hc6) ml_X6_99 mi_X6_dataAt hq2 rfl ⟨Nat.le_of_ble_eq_true rfl, Nat.le_of_ble_eq_true rfl⟩ hl.1 rfl (s8 sN (by decide)) dX6_sweepCell_152 (le_room g (LEm hc6 (mo_F_X6_dataAt x0 x1 (ai σ (gr σ 253 x0) x4.toNatClampNeg) _)) (LEm hF (mo_ite (mo_ite (mo_ite (mo_ite (mo_B_X6_sweepCell_187 mk90 x0 x1 x2 x3 x4 _) (mo_ite (mo_ite (mo_B_X6_sweepCell_187 mk90 x0 x1 x2 x3 x4 _) (mo_B_X6_sweepCell_183 mk90 x0 x1 x2 x3 x4 _)) mo_none)) (mo_B_X6_sweepCell_183 mk90 x0 x1 x2 x3 x4 _)) mo_none) mo_none)))) h (fun H locs h g => ?_)
      refine x_istore (lv' := [(6, .int r6), (5, .int y0), (0, vr x0), (1, .int x1), (2, .int x2), (3, .int x3), (4, .int x4)]) hx hb dX6_sweepCell_155 hl (by decide) (cI (cR (cI (cI (cI (cI cN)))))) rfl (fun ls hl => ?_)
      refine x_aload_n hx hb dX6_sweepCell_157 rfl (lv_at hl 2 rfl) ?_
      obtain ⟨hq7, hF⟩ := ifs hF
      refine x_getr cx h fa_X6_29 (f := 252) rfl hq7 dX6_sweepCell_158 ?_
      refine lv_iload hx hb dX6_sweepCell_161 (lv_at hl 6 rfl) ?_
      obtain ⟨hq8, hF⟩ := ifs hF
      refine x_iald cx h hq8.1 (inb.vp hq8.2) dX6_sweepCell_163 ?_
      refine lv_iload_n hx hb dX6_sweepCell_164 rfl (lv_at hl 5 rfl) ?_
      refine lv_icmp_ne (tgt := 183) hx hb dX6_sweepCell_165 (by decide) (fun c9 => ?_) (fun c9 => ?_)
      · replace hF := ifn c9 hF
        exact w_X6_sweepCell_183 (σ := σ6) cx mk90 hk90 x0 x1 x2 x3 x4 h g (lv_sub hl [2, 3, 4, 5, 6] rfl) hF
      · replace hF := ifp c9 hF
        refine lv_iload hx hb dX6_sweepCell_168 (lv_at hl 0 rfl) ?_
        refine lv_if_lt (tgt := 187) hx hb dX6_sweepCell_170 (by decide) (fun c10 => ?_) (fun c10 => ?_)
        · replace hF := ifp c10 hF
          exact w_X6_sweepCell_187 (σ := σ6) cx mk90 hk90 x0 x1 x2 x3 x4 h g (lv_sub hl [2, 3, 4, 5, 6] rfl) hF
        · replace hF := ifn c10 hF
          refine x_aload_n hx hb dX6_sweepCell_173 rfl (lv_at hl 2 rfl) ?_
          refine x_getr cx h fa_X6_23 (f := 249) rfl hq7 dX6_sweepCell_174 ?_
          refine lv_iload hx hb dX6_sweepCell_177 (lv_at hl 0 rfl) ?_
          obtain ⟨hq11, hF⟩ := ifs hF
          refine x_iald cx h hq11.1 (inb.vp hq11.2) dX6_sweepCell_179 ?_
          refine lv_if_ge (tgt := 187) hx hb dX6_sweepCell_180 (by decide) (fun c12 => ?_) (fun c12 => ?_)
          · replace hF := ifp c12 hF
            exact w_X6_sweepCell_187 (σ := σ6) cx mk90 hk90 x0 x1 x2 x3 x4 h g (lv_sub hl [2, 3, 4, 5, 6] rfl) hF
          · replace hF := ifn c12 hF
            exact w_X6_sweepCell_183 (σ := σ6) cx mk90 hk90 x0 x1 x2 x3 x4 h g (lv_sub hl [2, 3, 4, 5, 6] rfl) hF
def B_X6_sweepCell_125 (k90 : Nat → Int32 → Int32 → Int32 → Int32 → HS → Option (Unit × HS)) (x0 : Nat) (x1 : Int32) (x2 : Int32) (x3 : Int32) (x4 : Int32) (σ : HS) : Option (Unit × HS) :=
  B_X6_sweepCell_126 k90 x0 x1 x2 x3 x4 (0 : Int32) σ
theorem mo_B_X6_sweepCell_125 {k90 : Nat → Int32 → Int32 → Int32 → Int32 → HS → Option (Unit × HS)} (mk90 : ∀ x0 x1 x2 x3 x4 σ, Mo σ (k90 x0 x1 x2 x3 x4 σ)) (x0 : Nat) (x1 : Int32) (x2 : Int32) (x3 : Int32) (x4 : Int32) (σ : HS) : Mo σ (B_X6_sweepCell_125 k90 x0 x1 x2 x3 x4 σ) := by
  unfold B_X6_sweepCell_125
  exact (mo_B_X6_sweepCell_126 mk90 x0 x1 x2 x3 x4 (0 : Int32) _)
set_option maxHeartbeats 4000000 in
set_option maxRecDepth 100000 in
theorem w_X6_sweepCell_125 {p : Program} {l : Launch} {e : Env} {s : State} {m : MethodId} {args : Array Value} {below : List Frame} {meth : Method} {c : Code} {D : va_G} {dA : Nat → ClassId} {base : Nat} {σ0 τ : HS} {r : Unit} (cx : CX p s m args meth c cX6_sweepCell 7 none RX6 "sweepCell" D dA base) {k90 : Nat → Int32 → Int32 → Int32 → Int32 → HS → Option (Unit × HS)} (mk90 : ∀ x0 x1 x2 x3 x4 σ, Mo σ (k90 x0 x1 x2 x3 x4 σ)) (hk90 : ∀ x0 x1 x2 x3 x4 σ H locs ls, Wd D dA base σ s H locs → LE σ0 σ → lv_has ls 7 [(0, vr x0), (1, .int x1), (2, .int x2), (3, .int x3), (4, .int x4)] → k90 x0 x1 x2 x3 x4 σ = some (r, τ) → WG p l e s m args below meth c D dA base 2 46 none σ0 τ σ H locs 90 ls []) (x0 : Nat) (x1 : Int32) (x2 : Int32) (x3 : Int32) (x4 : Int32) {σ : HS} {H : Heap} {locs : List Loc} {ls : Array Slot} (h : Wd D dA base σ s H locs) (g : LE σ0 σ) (hl : lv_has ls 7 [(0, vr x0), (1, .int x1), (2, .int x2), (3, .int x3), (4, .int x4)]) (hF : B_X6_sweepCell_125 k90 x0 x1 x2 x3 x4 σ = some (r, τ)) : WG p l e s m args below meth c D dA base 2 46 none σ0 τ σ H locs 125 ls [] := by
  obtain ⟨hx, hb, -⟩ := id cx
  unfold B_X6_sweepCell_125 at hF
  refine lv_iconst (v := (0 : Int32)) hx hb dX6_sweepCell_125 (by decide) ?_
  exact w_X6_sweepCell_126 (σ := σ) cx mk90 hk90 x0 x1 x2 x3 x4 (0 : Int32) h g (lv_sub hl [0, 1, 2, 3, 4] rfl) hF
def B_X6_sweepCell_90 (k90 : Nat → Int32 → Int32 → Int32 → Int32 → HS → Option (Unit × HS)) (x0 : Nat) (x1 : Int32) (x2 : Int32) (x3 : Int32) (x4 : Int32) (σ : HS) : Option (Unit × HS) :=
  if kd σ x0 = 7 then (if (gi σ 250 x0) ≤ x4 then (some ((), σ)) else (if kd σ (gr σ 251 x0) = 100 ∧ inb x4 (ln σ (gr σ 251 x0)) then (if (ai σ (gr σ 251 x0) x4.toNatClampNeg) = x1 then (if kd σ (gr σ 252 x0) = 100 ∧ inb x4 (ln σ (gr σ 252 x0)) then (if x2 < (ai σ (gr σ 252 x0) x4.toNatClampNeg) then (B_X6_sweepCell_125 k90 x0 x1 x2 x3 x4 σ) else (B_X6_sweepCell_126 k90 x0 x1 x2 x3 x4 (1 : Int32) σ)) else none) else (B_X6_sweepCell_125 k90 x0 x1 x2 x3 x4 σ)) else none)) else none
theorem mo_B_X6_sweepCell_90 {k90 : Nat → Int32 → Int32 → Int32 → Int32 → HS → Option (Unit × HS)} (mk90 : ∀ x0 x1 x2 x3 x4 σ, Mo σ (k90 x0 x1 x2 x3 x4 σ)) (x0 : Nat) (x1 : Int32) (x2 : Int32) (x3 : Int32) (x4 : Int32) (σ : HS) : Mo σ (B_X6_sweepCell_90 k90 x0 x1 x2 x3 x4 σ) := by
  unfold B_X6_sweepCell_90
  exact (mo_ite (mo_ite mo_ret (mo_ite (mo_ite (mo_ite (mo_ite (mo_B_X6_sweepCell_125 mk90 x0 x1 x2 x3 x4 _) (mo_B_X6_sweepCell_126 mk90 x0 x1 x2 x3 x4 (1 : Int32) _)) mo_none) (mo_B_X6_sweepCell_125 mk90 x0 x1 x2 x3 x4 _)) mo_none)) mo_none)
set_option maxHeartbeats 4000000 in
set_option maxRecDepth 100000 in
theorem w_X6_sweepCell_90 {p : Program} {l : Launch} {e : Env} {s : State} {m : MethodId} {args : Array Value} {below : List Frame} {meth : Method} {c : Code} {D : va_G} {dA : Nat → ClassId} {base : Nat} {σ0 τ : HS} {r : Unit} (cx : CX p s m args meth c cX6_sweepCell 7 none RX6 "sweepCell" D dA base) {k90 : Nat → Int32 → Int32 → Int32 → Int32 → HS → Option (Unit × HS)} (mk90 : ∀ x0 x1 x2 x3 x4 σ, Mo σ (k90 x0 x1 x2 x3 x4 σ)) (hk90 : ∀ x0 x1 x2 x3 x4 σ H locs ls, Wd D dA base σ s H locs → LE σ0 σ → lv_has ls 7 [(0, vr x0), (1, .int x1), (2, .int x2), (3, .int x3), (4, .int x4)] → k90 x0 x1 x2 x3 x4 σ = some (r, τ) → WG p l e s m args below meth c D dA base 2 46 none σ0 τ σ H locs 90 ls []) (x0 : Nat) (x1 : Int32) (x2 : Int32) (x3 : Int32) (x4 : Int32) {σ : HS} {H : Heap} {locs : List Loc} {ls : Array Slot} (h : Wd D dA base σ s H locs) (g : LE σ0 σ) (hl : lv_has ls 7 [(0, vr x0), (1, .int x1), (2, .int x2), (3, .int x3), (4, .int x4)]) (hF : B_X6_sweepCell_90 k90 x0 x1 x2 x3 x4 σ = some (r, τ)) : WG p l e s m args below meth c D dA base 2 46 none σ0 τ σ H locs 90 ls [] := by
  obtain ⟨hx, hb, -⟩ := id cx
  unfold B_X6_sweepCell_90 at hF
  refine lv_iload hx hb dX6_sweepCell_90 (lv_at hl 4 rfl) ?_
  refine x_aload_n hx hb dX6_sweepCell_92 rfl (lv_at hl 0 rfl) ?_
  obtain ⟨hq1, hF⟩ := ifs hF
  refine x_geti cx h fa_X6_81 (f := 250) rfl hq1 dX6_sweepCell_93 ?_
  refine lv_icmp_ge (tgt := 227) hx hb dX6_sweepCell_96 (by decide) (fun c2 => ?_) (fun c2 => ?_)
  · replace hF := ifp c2 hF
    obtain ⟨rfl, rfl⟩ := rts hF
    exact x_vret cx h dX6_sweepCell_227
  · replace hF := ifn c2 hF
    refine x_aload_n hx hb dX6_sweepCell_99 rfl (lv_at hl 0 rfl) ?_
    refine x_getr cx h fa_X6_26 (f := 251) rfl hq1 dX6_sweepCell_100 ?_
    refine lv_iload hx hb dX6_sweepCell_103 (lv_at hl 4 rfl) ?_
    obtain ⟨hq3, hF⟩ := ifs hF
    refine x_iald cx h hq3.1 (inb.vp hq3.2) dX6_sweepCell_105 ?_
    refine lv_iload_n hx hb dX6_sweepCell_106 rfl (lv_at hl 1 rfl) ?_
    refine lv_icmp_ne (tgt := 125) hx hb dX6_sweepCell_107 (by decide) (fun c4 => ?_) (fun c4 => ?_)
    · replace hF := ifn c4 hF
      exact w_X6_sweepCell_125 (σ := σ) cx mk90 hk90 x0 x1 x2 x3 x4 h g (lv_sub hl [0, 1, 2, 3, 4] rfl) hF
    · replace hF := ifp c4 hF
      refine x_aload_n hx hb dX6_sweepCell_110 rfl (lv_at hl 0 rfl) ?_
      refine x_getr cx h fa_X6_29 (f := 252) rfl hq1 dX6_sweepCell_111 ?_
      refine lv_iload hx hb dX6_sweepCell_114 (lv_at hl 4 rfl) ?_
      obtain ⟨hq5, hF⟩ := ifs hF
      refine x_iald cx h hq5.1 (inb.vp hq5.2) dX6_sweepCell_116 ?_
      refine lv_iload_n hx hb dX6_sweepCell_117 rfl (lv_at hl 2 rfl) ?_
      refine lv_icmp_gt (tgt := 125) hx hb dX6_sweepCell_118 (by decide) (fun c6 => ?_) (fun c6 => ?_)
      · replace hF := ifp c6 hF
        exact w_X6_sweepCell_125 (σ := σ) cx mk90 hk90 x0 x1 x2 x3 x4 h g (lv_sub hl [0, 1, 2, 3, 4] rfl) hF
      · replace hF := ifn c6 hF
        refine lv_iconst (v := (1 : Int32)) hx hb dX6_sweepCell_121 (by decide) ?_
        refine lv_goto (tgt := 126) hx hb dX6_sweepCell_122 (by decide) ?_
        exact w_X6_sweepCell_126 (σ := σ) cx mk90 hk90 x0 x1 x2 x3 x4 (1 : Int32) h g (lv_sub hl [0, 1, 2, 3, 4] rfl) hF
def L_X6_sweepCell_90  : Nat → Nat → Int32 → Int32 → Int32 → Int32 → HS → Option (Unit × HS)
  | 0, _, _, _, _, _, _ => none
  | N + 1, x0, x1, x2, x3, x4, σ => B_X6_sweepCell_90 (L_X6_sweepCell_90  N) x0 x1 x2 x3 x4 σ
theorem mo_L_X6_sweepCell_90  : ∀ (N : Nat) (x0 : Nat) (x1 : Int32) (x2 : Int32) (x3 : Int32) (x4 : Int32) (σ : HS), Mo σ (L_X6_sweepCell_90  N x0 x1 x2 x3 x4 σ) := by
  intro N
  induction N with
  | zero => intro x0 x1 x2 x3 x4 σ; exact mo_none
  | succ N ih => intro x0 x1 x2 x3 x4 σ; exact mo_B_X6_sweepCell_90 ih x0 x1 x2 x3 x4 σ
theorem wl_X6_sweepCell_90 {p : Program} {l : Launch} {e : Env} {s : State} {m : MethodId} {args : Array Value} {below : List Frame} {meth : Method} {c : Code} {D : va_G} {dA : Nat → ClassId} {base : Nat} {σ0 τ : HS} {r : Unit} (cx : CX p s m args meth c cX6_sweepCell 7 none RX6 "sweepCell" D dA base)  : ∀ (N : Nat) (x0 : Nat) (x1 : Int32) (x2 : Int32) (x3 : Int32) (x4 : Int32) (σ : HS) (H : Heap) (locs : List Loc) (ls : Array Slot), Wd D dA base σ s H locs → LE σ0 σ → lv_has ls 7 [(0, vr x0), (1, .int x1), (2, .int x2), (3, .int x3), (4, .int x4)] → L_X6_sweepCell_90  N x0 x1 x2 x3 x4 σ = some (r, τ) → WG p l e s m args below meth c D dA base 2 46 none σ0 τ σ H locs 90 ls [] := by
  intro N
  induction N with
  | zero => intro x0 x1 x2 x3 x4 σ H locs ls h g hl hF; cases hF
  | succ N ih => intro x0 x1 x2 x3 x4 σ H locs ls h g hl hF; exact w_X6_sweepCell_90 cx (mo_L_X6_sweepCell_90  N) ih x0 x1 x2 x3 x4 h g hl hF
def B_X6_sweepCell_80 (k5 : Nat → Int32 → Int32 → Int32 → Int32 → HS → Option (Unit × HS)) (x0 : Nat) (x1 : Int32) (x2 : Int32) (x4 : Int32) (y0 : Int32) (σ : HS) : Option (Unit × HS) :=
  k5 x0 x1 x2 y0 (x4 + (1 : Int32)) σ
theorem mo_B_X6_sweepCell_80 {k5 : Nat → Int32 → Int32 → Int32 → Int32 → HS → Option (Unit × HS)} (mk5 : ∀ x0 x1 x2 x3 x4 σ, Mo σ (k5 x0 x1 x2 x3 x4 σ)) (x0 : Nat) (x1 : Int32) (x2 : Int32) (x4 : Int32) (y0 : Int32) (σ : HS) : Mo σ (B_X6_sweepCell_80 k5 x0 x1 x2 x4 y0 σ) := by
  unfold B_X6_sweepCell_80
  exact (mk5 x0 x1 x2 y0 (x4 + (1 : Int32)) _)
set_option maxHeartbeats 4000000 in
set_option maxRecDepth 100000 in
theorem w_X6_sweepCell_80 {p : Program} {l : Launch} {e : Env} {s : State} {m : MethodId} {args : Array Value} {below : List Frame} {meth : Method} {c : Code} {D : va_G} {dA : Nat → ClassId} {base : Nat} {σ0 τ : HS} {r : Unit} (cx : CX p s m args meth c cX6_sweepCell 7 none RX6 "sweepCell" D dA base) {k5 : Nat → Int32 → Int32 → Int32 → Int32 → HS → Option (Unit × HS)} (mk5 : ∀ x0 x1 x2 x3 x4 σ, Mo σ (k5 x0 x1 x2 x3 x4 σ)) (hk5 : ∀ x0 x1 x2 x3 x4 σ H locs ls, Wd D dA base σ s H locs → LE σ0 σ → lv_has ls 7 [(0, vr x0), (1, .int x1), (2, .int x2), (3, .int x3), (4, .int x4)] → k5 x0 x1 x2 x3 x4 σ = some (r, τ) → WG p l e s m args below meth c D dA base 2 46 none σ0 τ σ H locs 5 ls []) (x0 : Nat) (x1 : Int32) (x2 : Int32) (x4 : Int32) (y0 : Int32) {σ : HS} {H : Heap} {locs : List Loc} {ls : Array Slot} (h : Wd D dA base σ s H locs) (g : LE σ0 σ) (hl : lv_has ls 7 [(0, vr x0), (1, .int x1), (2, .int x2), (4, .int x4)]) (hF : B_X6_sweepCell_80 k5 x0 x1 x2 x4 y0 σ = some (r, τ)) : WG p l e s m args below meth c D dA base 2 46 none σ0 τ σ H locs 80 ls [.int y0] := by
  obtain ⟨hx, hb, -⟩ := id cx
  unfold B_X6_sweepCell_80 at hF
  refine x_istore_n (lv' := [(3, .int y0), (0, vr x0), (1, .int x1), (2, .int x2), (4, .int x4)]) hx hb dX6_sweepCell_80 rfl hl (by decide) (cR (cI (cI (cI cN)))) rfl (fun ls hl => ?_)
  refine x_iinc (k := 4) (v := (1 : Int32)) (lv' := [(4, .int (x4 + (1 : Int32))), (3, .int y0), (0, vr x0), (1, .int x1), (2, .int x2)]) hx hb dX6_sweepCell_81 hl rfl (by decide) (by decide) (cI (cR (cI (cI (cI cN))))) rfl (fun ls hl => ?_)
  refine lv_goto (tgt := 5) hx hb dX6_sweepCell_84 (by decide) ?_
  exact hk5 x0 x1 x2 y0 (x4 + (1 : Int32)) σ _ _ _ h g (lv_sub hl [2, 3, 4, 1, 0] rfl) hF
def B_X6_sweepCell_79 (k5 : Nat → Int32 → Int32 → Int32 → Int32 → HS → Option (Unit × HS)) (x0 : Nat) (x1 : Int32) (x2 : Int32) (x3 : Int32) (x4 : Int32) (σ : HS) : Option (Unit × HS) :=
  B_X6_sweepCell_80 k5 x0 x1 x2 x4 x3 σ
theorem mo_B_X6_sweepCell_79 {k5 : Nat → Int32 → Int32 → Int32 → Int32 → HS → Option (Unit × HS)} (mk5 : ∀ x0 x1 x2 x3 x4 σ, Mo σ (k5 x0 x1 x2 x3 x4 σ)) (x0 : Nat) (x1 : Int32) (x2 : Int32) (x3 : Int32) (x4 : Int32) (σ : HS) : Mo σ (B_X6_sweepCell_79 k5 x0 x1 x2 x3 x4 σ) := by
  unfold B_X6_sweepCell_79
  exact (mo_B_X6_sweepCell_80 mk5 x0 x1 x2 x4 x3 _)
set_option maxHeartbeats 4000000 in
set_option maxRecDepth 100000 in
theorem w_X6_sweepCell_79 {p : Program} {l : Launch} {e : Env} {s : State} {m : MethodId} {args : Array Value} {below : List Frame} {meth : Method} {c : Code} {D : va_G} {dA : Nat → ClassId} {base : Nat} {σ0 τ : HS} {r : Unit} (cx : CX p s m args meth c cX6_sweepCell 7 none RX6 "sweepCell" D dA base) {k5 : Nat → Int32 → Int32 → Int32 → Int32 → HS → Option (Unit × HS)} (mk5 : ∀ x0 x1 x2 x3 x4 σ, Mo σ (k5 x0 x1 x2 x3 x4 σ)) (hk5 : ∀ x0 x1 x2 x3 x4 σ H locs ls, Wd D dA base σ s H locs → LE σ0 σ → lv_has ls 7 [(0, vr x0), (1, .int x1), (2, .int x2), (3, .int x3), (4, .int x4)] → k5 x0 x1 x2 x3 x4 σ = some (r, τ) → WG p l e s m args below meth c D dA base 2 46 none σ0 τ σ H locs 5 ls []) (x0 : Nat) (x1 : Int32) (x2 : Int32) (x3 : Int32) (x4 : Int32) {σ : HS} {H : Heap} {locs : List Loc} {ls : Array Slot} (h : Wd D dA base σ s H locs) (g : LE σ0 σ) (hl : lv_has ls 7 [(0, vr x0), (1, .int x1), (2, .int x2), (3, .int x3), (4, .int x4)]) (hF : B_X6_sweepCell_79 k5 x0 x1 x2 x3 x4 σ = some (r, τ)) : WG p l e s m args below meth c D dA base 2 46 none σ0 τ σ H locs 79 ls [] := by
  obtain ⟨hx, hb, -⟩ := id cx
  unfold B_X6_sweepCell_79 at hF
  refine lv_iload_n hx hb dX6_sweepCell_79 rfl (lv_at hl 3 rfl) ?_
  exact w_X6_sweepCell_80 (σ := σ) cx mk5 hk5 x0 x1 x2 x4 x3 h g (lv_sub hl [0, 1, 2, 4] rfl) hF
def B_X6_sweepCell_51 (k5 : Nat → Int32 → Int32 → Int32 → Int32 → HS → Option (Unit × HS)) (x0 : Nat) (x1 : Int32) (x2 : Int32) (x3 : Int32) (x4 : Int32) (y0 : Int32) (σ : HS) : Option (Unit × HS) :=
  if y0 = 0 then (B_X6_sweepCell_79 k5 x0 x1 x2 x3 x4 σ) else (if kd σ x0 = 7 then (if kd σ (gr σ 252 x0) = 100 ∧ inb x4 (ln σ (gr σ 252 x0)) then (if (ai σ (gr σ 252 x0) x4.toNatClampNeg) ≤ x3 then (B_X6_sweepCell_79 k5 x0 x1 x2 x3 x4 σ) else (B_X6_sweepCell_80 k5 x0 x1 x2 x4 (ai σ (gr σ 252 x0) x4.toNatClampNeg) σ)) else none) else none)
theorem mo_B_X6_sweepCell_51 {k5 : Nat → Int32 → Int32 → Int32 → Int32 → HS → Option (Unit × HS)} (mk5 : ∀ x0 x1 x2 x3 x4 σ, Mo σ (k5 x0 x1 x2 x3 x4 σ)) (x0 : Nat) (x1 : Int32) (x2 : Int32) (x3 : Int32) (x4 : Int32) (y0 : Int32) (σ : HS) : Mo σ (B_X6_sweepCell_51 k5 x0 x1 x2 x3 x4 y0 σ) := by
  unfold B_X6_sweepCell_51
  exact (mo_ite (mo_B_X6_sweepCell_79 mk5 x0 x1 x2 x3 x4 _) (mo_ite (mo_ite (mo_ite (mo_B_X6_sweepCell_79 mk5 x0 x1 x2 x3 x4 _) (mo_B_X6_sweepCell_80 mk5 x0 x1 x2 x4 (ai σ (gr σ 252 x0) x4.toNatClampNeg) _)) mo_none) mo_none))
set_option maxHeartbeats 4000000 in
set_option maxRecDepth 100000 in
theorem w_X6_sweepCell_51 {p : Program} {l : Launch} {e : Env} {s : State} {m : MethodId} {args : Array Value} {below : List Frame} {meth : Method} {c : Code} {D : va_G} {dA : Nat → ClassId} {base : Nat} {σ0 τ : HS} {r : Unit} (cx : CX p s m args meth c cX6_sweepCell 7 none RX6 "sweepCell" D dA base) {k5 : Nat → Int32 → Int32 → Int32 → Int32 → HS → Option (Unit × HS)} (mk5 : ∀ x0 x1 x2 x3 x4 σ, Mo σ (k5 x0 x1 x2 x3 x4 σ)) (hk5 : ∀ x0 x1 x2 x3 x4 σ H locs ls, Wd D dA base σ s H locs → LE σ0 σ → lv_has ls 7 [(0, vr x0), (1, .int x1), (2, .int x2), (3, .int x3), (4, .int x4)] → k5 x0 x1 x2 x3 x4 σ = some (r, τ) → WG p l e s m args below meth c D dA base 2 46 none σ0 τ σ H locs 5 ls []) (x0 : Nat) (x1 : Int32) (x2 : Int32) (x3 : Int32) (x4 : Int32) (y0 : Int32) {σ : HS} {H : Heap} {locs : List Loc} {ls : Array Slot} (h : Wd D dA base σ s H locs) (g : LE σ0 σ) (hl : lv_has ls 7 [(0, vr x0), (1, .int x1), (2, .int x2), (3, .int x3), (4, .int x4)]) (hF : B_X6_sweepCell_51 k5 x0 x1 x2 x3 x4 y0 σ = some (r, τ)) : WG p l e s m args below meth c D dA base 2 46 none σ0 τ σ H locs 51 ls [.int y0] := by
  obtain ⟨hx, hb, -⟩ := id cx
  unfold B_X6_sweepCell_51 at hF
  refine x_istore (lv' := [(5, .int y0), (0, vr x0), (1, .int x1), (2, .int x2), (3, .int x3), (4, .int x4)]) hx hb dX6_sweepCell_51 hl (by decide) (cR (cI (cI (cI (cI cN))))) rfl (fun ls hl => ?_)
  refine lv_iload hx hb dX6_sweepCell_53 (lv_at hl 0 rfl) ?_
  refine lv_if_eq (tgt := 79) hx hb dX6_sweepCell_55 (by decide) (fun c1 => ?_) (fun c1 => ?_)
  · replace hF := ifp c1 hF
    exact w_X6_sweepCell_79 (σ := σ) cx mk5 hk5 x0 x1 x2 x3 x4 h g (lv_sub hl [1, 2, 3, 4, 5] rfl) hF
  · replace hF := ifn c1 hF
    refine x_aload_n hx hb dX6_sweepCell_58 rfl (lv_at hl 1 rfl) ?_
    obtain ⟨hq2, hF⟩ := ifs hF
    refine x_getr cx h fa_X6_29 (f := 252) rfl hq2 dX6_sweepCell_59 ?_
    refine lv_iload hx hb dX6_sweepCell_62 (lv_at hl 5 rfl) ?_
    obtain ⟨hq3, hF⟩ := ifs hF
    refine x_iald cx h hq3.1 (inb.vp hq3.2) dX6_sweepCell_64 ?_
    refine lv_iload_n hx hb dX6_sweepCell_65 rfl (lv_at hl 4 rfl) ?_
    refine lv_icmp_le (tgt := 79) hx hb dX6_sweepCell_66 (by decide) (fun c4 => ?_) (fun c4 => ?_)
    · replace hF := ifp c4 hF
      exact w_X6_sweepCell_79 (σ := σ) cx mk5 hk5 x0 x1 x2 x3 x4 h g (lv_sub hl [1, 2, 3, 4, 5] rfl) hF
    · replace hF := ifn c4 hF
      refine x_aload_n hx hb dX6_sweepCell_69 rfl (lv_at hl 1 rfl) ?_
      refine x_getr cx h fa_X6_29 (f := 252) rfl hq2 dX6_sweepCell_70 ?_
      refine lv_iload hx hb dX6_sweepCell_73 (lv_at hl 5 rfl) ?_
      refine x_iald cx h hq3.1 (inb.vp hq3.2) dX6_sweepCell_75 ?_
      refine lv_goto (tgt := 80) hx hb dX6_sweepCell_76 (by decide) ?_
      exact w_X6_sweepCell_80 (σ := σ) cx mk5 hk5 x0 x1 x2 x4 (ai σ (gr σ 252 x0) x4.toNatClampNeg) h g (lv_sub hl [1, 2, 3, 5] rfl) hF
def B_X6_sweepCell_50 (k5 : Nat → Int32 → Int32 → Int32 → Int32 → HS → Option (Unit × HS)) (x0 : Nat) (x1 : Int32) (x2 : Int32) (x3 : Int32) (x4 : Int32) (σ : HS) : Option (Unit × HS) :=
  B_X6_sweepCell_51 k5 x0 x1 x2 x3 x4 (0 : Int32) σ
theorem mo_B_X6_sweepCell_50 {k5 : Nat → Int32 → Int32 → Int32 → Int32 → HS → Option (Unit × HS)} (mk5 : ∀ x0 x1 x2 x3 x4 σ, Mo σ (k5 x0 x1 x2 x3 x4 σ)) (x0 : Nat) (x1 : Int32) (x2 : Int32) (x3 : Int32) (x4 : Int32) (σ : HS) : Mo σ (B_X6_sweepCell_50 k5 x0 x1 x2 x3 x4 σ) := by
  unfold B_X6_sweepCell_50
  exact (mo_B_X6_sweepCell_51 mk5 x0 x1 x2 x3 x4 (0 : Int32) _)
set_option maxHeartbeats 4000000 in
set_option maxRecDepth 100000 in
theorem w_X6_sweepCell_50 {p : Program} {l : Launch} {e : Env} {s : State} {m : MethodId} {args : Array Value} {below : List Frame} {meth : Method} {c : Code} {D : va_G} {dA : Nat → ClassId} {base : Nat} {σ0 τ : HS} {r : Unit} (cx : CX p s m args meth c cX6_sweepCell 7 none RX6 "sweepCell" D dA base) {k5 : Nat → Int32 → Int32 → Int32 → Int32 → HS → Option (Unit × HS)} (mk5 : ∀ x0 x1 x2 x3 x4 σ, Mo σ (k5 x0 x1 x2 x3 x4 σ)) (hk5 : ∀ x0 x1 x2 x3 x4 σ H locs ls, Wd D dA base σ s H locs → LE σ0 σ → lv_has ls 7 [(0, vr x0), (1, .int x1), (2, .int x2), (3, .int x3), (4, .int x4)] → k5 x0 x1 x2 x3 x4 σ = some (r, τ) → WG p l e s m args below meth c D dA base 2 46 none σ0 τ σ H locs 5 ls []) (x0 : Nat) (x1 : Int32) (x2 : Int32) (x3 : Int32) (x4 : Int32) {σ : HS} {H : Heap} {locs : List Loc} {ls : Array Slot} (h : Wd D dA base σ s H locs) (g : LE σ0 σ) (hl : lv_has ls 7 [(0, vr x0), (1, .int x1), (2, .int x2), (3, .int x3), (4, .int x4)]) (hF : B_X6_sweepCell_50 k5 x0 x1 x2 x3 x4 σ = some (r, τ)) : WG p l e s m args below meth c D dA base 2 46 none σ0 τ σ H locs 50 ls [] := by
  obtain ⟨hx, hb, -⟩ := id cx
  unfold B_X6_sweepCell_50 at hF
  refine lv_iconst (v := (0 : Int32)) hx hb dX6_sweepCell_50 (by decide) ?_
  exact w_X6_sweepCell_51 (σ := σ) cx mk5 hk5 x0 x1 x2 x3 x4 (0 : Int32) h g (lv_sub hl [0, 1, 2, 3, 4] rfl) hF
def B_X6_sweepCell_5 (k5 : Nat → Int32 → Int32 → Int32 → Int32 → HS → Option (Unit × HS)) (x0 : Nat) (x1 : Int32) (x2 : Int32) (x3 : Int32) (x4 : Int32) (σ : HS) : Option (Unit × HS) :=
  if kd σ x0 = 7 then (if (gi σ 250 x0) ≤ x4 then (L_X6_sweepCell_90  NF x0 x1 x2 x3 (0 : Int32) σ) else (if kd σ (gr σ 251 x0) = 100 ∧ inb x4 (ln σ (gr σ 251 x0)) then (if (ai σ (gr σ 251 x0) x4.toNatClampNeg) = x1 then (if kd σ (gr σ 254 x0) = 101 ∧ inb x4 (ln σ (gr σ 254 x0)) then (if (ai σ (gr σ 254 x0) x4.toNatClampNeg) = 0 then (if kd σ (gr σ 252 x0) = 100 ∧ inb x4 (ln σ (gr σ 252 x0)) then (if x2 < (ai σ (gr σ 252 x0) x4.toNatClampNeg) then (B_X6_sweepCell_50 k5 x0 x1 x2 x3 x4 σ) else (B_X6_sweepCell_51 k5 x0 x1 x2 x3 x4 (1 : Int32) σ)) else none) else (B_X6_sweepCell_50 k5 x0 x1 x2 x3 x4 σ)) else none) else (B_X6_sweepCell_50 k5 x0 x1 x2 x3 x4 σ)) else none)) else none
theorem mo_B_X6_sweepCell_5 {k5 : Nat → Int32 → Int32 → Int32 → Int32 → HS → Option (Unit × HS)} (mk5 : ∀ x0 x1 x2 x3 x4 σ, Mo σ (k5 x0 x1 x2 x3 x4 σ)) (x0 : Nat) (x1 : Int32) (x2 : Int32) (x3 : Int32) (x4 : Int32) (σ : HS) : Mo σ (B_X6_sweepCell_5 k5 x0 x1 x2 x3 x4 σ) := by
  unfold B_X6_sweepCell_5
  exact (mo_ite (mo_ite (mo_L_X6_sweepCell_90  NF x0 x1 x2 x3 (0 : Int32) _) (mo_ite (mo_ite (mo_ite (mo_ite (mo_ite (mo_ite (mo_B_X6_sweepCell_50 mk5 x0 x1 x2 x3 x4 _) (mo_B_X6_sweepCell_51 mk5 x0 x1 x2 x3 x4 (1 : Int32) _)) mo_none) (mo_B_X6_sweepCell_50 mk5 x0 x1 x2 x3 x4 _)) mo_none) (mo_B_X6_sweepCell_50 mk5 x0 x1 x2 x3 x4 _)) mo_none)) mo_none)
set_option maxHeartbeats 4000000 in
set_option maxRecDepth 100000 in
theorem w_X6_sweepCell_5 {p : Program} {l : Launch} {e : Env} {s : State} {m : MethodId} {args : Array Value} {below : List Frame} {meth : Method} {c : Code} {D : va_G} {dA : Nat → ClassId} {base : Nat} {σ0 τ : HS} {r : Unit} (cx : CX p s m args meth c cX6_sweepCell 7 none RX6 "sweepCell" D dA base) {k5 : Nat → Int32 → Int32 → Int32 → Int32 → HS → Option (Unit × HS)} (mk5 : ∀ x0 x1 x2 x3 x4 σ, Mo σ (k5 x0 x1 x2 x3 x4 σ)) (hk5 : ∀ x0 x1 x2 x3 x4 σ H locs ls, Wd D dA base σ s H locs → LE σ0 σ → lv_has ls 7 [(0, vr x0), (1, .int x1), (2, .int x2), (3, .int x3), (4, .int x4)] → k5 x0 x1 x2 x3 x4 σ = some (r, τ) → WG p l e s m args below meth c D dA base 2 46 none σ0 τ σ H locs 5 ls []) (x0 : Nat) (x1 : Int32) (x2 : Int32) (x3 : Int32) (x4 : Int32) {σ : HS} {H : Heap} {locs : List Loc} {ls : Array Slot} (h : Wd D dA base σ s H locs) (g : LE σ0 σ) (hl : lv_has ls 7 [(0, vr x0), (1, .int x1), (2, .int x2), (3, .int x3), (4, .int x4)]) (hF : B_X6_sweepCell_5 k5 x0 x1 x2 x3 x4 σ = some (r, τ)) : WG p l e s m args below meth c D dA base 2 46 none σ0 τ σ H locs 5 ls [] := by
  obtain ⟨hx, hb, -⟩ := id cx
  unfold B_X6_sweepCell_5 at hF
  refine lv_iload hx hb dX6_sweepCell_5 (lv_at hl 4 rfl) ?_
  refine x_aload_n hx hb dX6_sweepCell_7 rfl (lv_at hl 0 rfl) ?_
  obtain ⟨hq1, hF⟩ := ifs hF
  refine x_geti cx h fa_X6_81 (f := 250) rfl hq1 dX6_sweepCell_8 ?_
  refine lv_icmp_ge (tgt := 87) hx hb dX6_sweepCell_11 (by decide) (fun c2 => ?_) (fun c2 => ?_)
  · replace hF := ifp c2 hF
    refine lv_iconst (v := (0 : Int32)) hx hb dX6_sweepCell_87 (by decide) ?_
    refine x_istore (lv' := [(4, .int (0 : Int32)), (0, vr x0), (1, .int x1), (2, .int x2), (3, .int x3)]) hx hb dX6_sweepCell_88 hl (by decide) (cR (cI (cI (cI (cI cN))))) rfl (fun ls hl => ?_)
    exact wl_X6_sweepCell_90 cx   NF x0 x1 x2 x3 (0 : Int32) σ _ _ _ h g (lv_sub hl [1, 2, 3, 4, 0] rfl) hF
  · replace hF := ifn c2 hF
    refine x_aload_n hx hb dX6_sweepCell_14 rfl (lv_at hl 0 rfl) ?_
    refine x_getr cx h fa_X6_26 (f := 251) rfl hq1 dX6_sweepCell_15 ?_
    refine lv_iload hx hb dX6_sweepCell_18 (lv_at hl 4 rfl) ?_
    obtain ⟨hq3, hF⟩ := ifs hF
    refine x_iald cx h hq3.1 (inb.vp hq3.2) dX6_sweepCell_20 ?_
    refine lv_iload_n hx hb dX6_sweepCell_21 rfl (lv_at hl 1 rfl) ?_
    refine lv_icmp_ne (tgt := 50) hx hb dX6_sweepCell_22 (by decide) (fun c4 => ?_) (fun c4 => ?_)
    · replace hF := ifn c4 hF
      exact w_X6_sweepCell_50 (σ := σ) cx mk5 hk5 x0 x1 x2 x3 x4 h g (lv_sub hl [0, 1, 2, 3, 4] rfl) hF
    · replace hF := ifp c4 hF
      refine x_aload_n hx hb dX6_sweepCell_25 rfl (lv_at hl 0 rfl) ?_
      refine x_getr cx h fa_X6_35 (f := 254) rfl hq1 dX6_sweepCell_26 ?_
      refine lv_iload hx hb dX6_sweepCell_29 (lv_at hl 4 rfl) ?_
      obtain ⟨hq5, hF⟩ := ifs hF
      refine x_zald cx h hq5.1 (inb.vp hq5.2) dX6_sweepCell_31 ?_
      refine lv_if_ne (tgt := 50) hx hb dX6_sweepCell_32 (by decide) (fun c6 => ?_) (fun c6 => ?_)
      · replace hF := ifn c6 hF
        exact w_X6_sweepCell_50 (σ := σ) cx mk5 hk5 x0 x1 x2 x3 x4 h g (lv_sub hl [0, 1, 2, 3, 4] rfl) hF
      · replace hF := ifp c6 hF
        refine x_aload_n hx hb dX6_sweepCell_35 rfl (lv_at hl 0 rfl) ?_
        refine x_getr cx h fa_X6_29 (f := 252) rfl hq1 dX6_sweepCell_36 ?_
        refine lv_iload hx hb dX6_sweepCell_39 (lv_at hl 4 rfl) ?_
        obtain ⟨hq7, hF⟩ := ifs hF
        refine x_iald cx h hq7.1 (inb.vp hq7.2) dX6_sweepCell_41 ?_
        refine lv_iload_n hx hb dX6_sweepCell_42 rfl (lv_at hl 2 rfl) ?_
        refine lv_icmp_gt (tgt := 50) hx hb dX6_sweepCell_43 (by decide) (fun c8 => ?_) (fun c8 => ?_)
        · replace hF := ifp c8 hF
          exact w_X6_sweepCell_50 (σ := σ) cx mk5 hk5 x0 x1 x2 x3 x4 h g (lv_sub hl [0, 1, 2, 3, 4] rfl) hF
        · replace hF := ifn c8 hF
          refine lv_iconst (v := (1 : Int32)) hx hb dX6_sweepCell_46 (by decide) ?_
          refine lv_goto (tgt := 51) hx hb dX6_sweepCell_47 (by decide) ?_
          exact w_X6_sweepCell_51 (σ := σ) cx mk5 hk5 x0 x1 x2 x3 x4 (1 : Int32) h g (lv_sub hl [0, 1, 2, 3, 4] rfl) hF
def L_X6_sweepCell_5  : Nat → Nat → Int32 → Int32 → Int32 → Int32 → HS → Option (Unit × HS)
  | 0, _, _, _, _, _, _ => none
  | N + 1, x0, x1, x2, x3, x4, σ => B_X6_sweepCell_5 (L_X6_sweepCell_5  N) x0 x1 x2 x3 x4 σ
theorem mo_L_X6_sweepCell_5  : ∀ (N : Nat) (x0 : Nat) (x1 : Int32) (x2 : Int32) (x3 : Int32) (x4 : Int32) (σ : HS), Mo σ (L_X6_sweepCell_5  N x0 x1 x2 x3 x4 σ) := by
  intro N
  induction N with
  | zero => intro x0 x1 x2 x3 x4 σ; exact mo_none
  | succ N ih => intro x0 x1 x2 x3 x4 σ; exact mo_B_X6_sweepCell_5 ih x0 x1 x2 x3 x4 σ
theorem wl_X6_sweepCell_5 {p : Program} {l : Launch} {e : Env} {s : State} {m : MethodId} {args : Array Value} {below : List Frame} {meth : Method} {c : Code} {D : va_G} {dA : Nat → ClassId} {base : Nat} {σ0 τ : HS} {r : Unit} (cx : CX p s m args meth c cX6_sweepCell 7 none RX6 "sweepCell" D dA base)  : ∀ (N : Nat) (x0 : Nat) (x1 : Int32) (x2 : Int32) (x3 : Int32) (x4 : Int32) (σ : HS) (H : Heap) (locs : List Loc) (ls : Array Slot), Wd D dA base σ s H locs → LE σ0 σ → lv_has ls 7 [(0, vr x0), (1, .int x1), (2, .int x2), (3, .int x3), (4, .int x4)] → L_X6_sweepCell_5  N x0 x1 x2 x3 x4 σ = some (r, τ) → WG p l e s m args below meth c D dA base 2 46 none σ0 τ σ H locs 5 ls [] := by
  intro N
  induction N with
  | zero => intro x0 x1 x2 x3 x4 σ H locs ls h g hl hF; cases hF
  | succ N ih => intro x0 x1 x2 x3 x4 σ H locs ls h g hl hF; exact w_X6_sweepCell_5 cx (mo_L_X6_sweepCell_5  N) ih x0 x1 x2 x3 x4 h g hl hF
def F_X6_sweepCell (a0 : Nat) (a1 : Int32) (a2 : Int32) (σ : HS) : Option (Unit × HS) :=
  L_X6_sweepCell_5  NF a0 a1 a2 (-1 : Int32) (0 : Int32) σ
theorem mo_F_X6_sweepCell (a0 : Nat) (a1 : Int32) (a2 : Int32) (σ : HS) : Mo σ (F_X6_sweepCell a0 a1 a2 σ) := by
  unfold F_X6_sweepCell
  exact (mo_L_X6_sweepCell_5  NF a0 a1 a2 (-1 : Int32) (0 : Int32) _)
set_option maxHeartbeats 4000000 in
set_option maxRecDepth 100000 in
theorem c_X6_sweepCell (l : Launch) (D : va_G) (dA : Nat → ClassId) (base : Nat) (a0 : Nat) (a1 : Int32) (a2 : Int32) {σ τ : HS} {r : Unit} (hF : F_X6_sweepCell a0 a1 a2 σ = some (r, τ)) : CT l yX6_sweepCell cX6_sweepCell 7 none 2 46 D dA base [vr a0, .int a1, .int a2] none σ τ := by
  refine CT.of (lv := [(0, vr a0), (1, .int a1), (2, .int a2)]) (by decide) (vR (vI (vI vN))) (Nat.le_of_ble_eq_true rfl) rfl ?_
  intro p e s m args below meth c ls cx hl h
  have cx : CX p s m args meth c cX6_sweepCell 7 none RX6 "sweepCell" D dA base := cx
  have g : LE σ σ := LE.rf
  obtain ⟨hx, hb, -⟩ := id cx
  unfold F_X6_sweepCell at hF
  refine lv_iconst (v := (-1 : Int32)) hx hb dX6_sweepCell_0 (by decide) ?_
  refine x_istore_n (lv' := [(3, .int (-1 : Int32)), (0, vr a0), (1, .int a1), (2, .int a2)]) hx hb dX6_sweepCell_1 rfl hl (by decide) (cR (cI (cI cN))) rfl (fun ls hl => ?_)
  refine lv_iconst (v := (0 : Int32)) hx hb dX6_sweepCell_2 (by decide) ?_
  refine x_istore (lv' := [(4, .int (0 : Int32)), (3, .int (-1 : Int32)), (0, vr a0), (1, .int a1), (2, .int a2)]) hx hb dX6_sweepCell_3 hl (by decide) (cI (cR (cI (cI cN)))) rfl (fun ls hl => ?_)
  exact wl_X6_sweepCell_5 cx   NF a0 a1 a2 (-1 : Int32) (0 : Int32) σ _ _ _ h g (lv_sub hl [2, 3, 4, 1, 0] rfl) hF
def B_X6_sweep_17   (σ : HS) : Option (Int32 × HS) :=
  some ((-2 : Int32), σ)
theorem mo_B_X6_sweep_17   (σ : HS) : Mo σ (B_X6_sweep_17   σ) := by
  unfold B_X6_sweep_17
  exact mo_ret
set_option maxHeartbeats 4000000 in
set_option maxRecDepth 100000 in
theorem w_X6_sweep_17 {p : Program} {l : Launch} {e : Env} {s : State} {m : MethodId} {args : Array Value} {below : List Frame} {meth : Method} {c : Code} {D : va_G} {dA : Nat → ClassId} {base : Nat} {σ0 τ : HS} {r : Int32} (cx : CX p s m args meth c cX6_sweep 4 (some .int) RX6 "sweep" D dA base)   {σ : HS} {H : Heap} {locs : List Loc} {ls : Array Slot} (h : Wd D dA base σ s H locs) (g : LE σ0 σ) (hl : lv_has ls 4 []) (hF : B_X6_sweep_17   σ = some (r, τ)) : WG p l e s m args below meth c D dA base 3 72 (some (.int r)) σ0 τ σ H locs 17 ls [] := by
  obtain ⟨hx, hb, -⟩ := id cx
  unfold B_X6_sweep_17 at hF
  refine lv_bipush (v := (-2 : Int32)) hx hb dX6_sweep_17 (by decide) ?_
  obtain ⟨rfl, rfl⟩ := rts hF
  exact x_iret cx h dX6_sweep_19
def B_X6_sweep_100 (k100 : Nat → Int32 → Int32 → Int32 → HS → Option (Int32 × HS)) (x0 : Nat) (x1 : Int32) (x2 : Int32) (x3 : Int32) (σ : HS) : Option (Int32 × HS) :=
  if (256 : Int32) ≤ x3 then (if kd σ x0 = 7 then (bd (F_X6_records x0 σ) (fun r3 σ3 => if kd σ3 x0 = 7 then (bd (F_X6_end x0 (x2 - r3) σ3) (fun r5 σ5 => some (r5, σ5))) else none)) else none) else (if kd σ x0 = 7 then (bd (F_X6_sweepCell x0 x3 x1 σ) (fun r7 σ7 => k100 x0 x1 x2 (x3 + (1 : Int32)) σ7)) else none)
theorem mo_B_X6_sweep_100 {k100 : Nat → Int32 → Int32 → Int32 → HS → Option (Int32 × HS)} (mk100 : ∀ x0 x1 x2 x3 σ, Mo σ (k100 x0 x1 x2 x3 σ)) (x0 : Nat) (x1 : Int32) (x2 : Int32) (x3 : Int32) (σ : HS) : Mo σ (B_X6_sweep_100 k100 x0 x1 x2 x3 σ) := by
  unfold B_X6_sweep_100
  exact (mo_ite (mo_ite (mo_bd (mo_F_X6_records x0 _) (fun r3 σ3 => (mo_ite (mo_bd (mo_F_X6_end x0 (x2 - r3) _) (fun r5 σ5 => mo_ret)) mo_none))) mo_none) (mo_ite (mo_bd (mo_F_X6_sweepCell x0 x3 x1 _) (fun r7 σ7 => (mk100 x0 x1 x2 (x3 + (1 : Int32)) _))) mo_none))
set_option maxHeartbeats 4000000 in
set_option maxRecDepth 100000 in
theorem w_X6_sweep_100 {p : Program} {l : Launch} {e : Env} {s : State} {m : MethodId} {args : Array Value} {below : List Frame} {meth : Method} {c : Code} {D : va_G} {dA : Nat → ClassId} {base : Nat} {σ0 τ : HS} {r : Int32} (cx : CX p s m args meth c cX6_sweep 4 (some .int) RX6 "sweep" D dA base) {k100 : Nat → Int32 → Int32 → Int32 → HS → Option (Int32 × HS)} (mk100 : ∀ x0 x1 x2 x3 σ, Mo σ (k100 x0 x1 x2 x3 σ)) (hk100 : ∀ x0 x1 x2 x3 σ H locs ls, Wd D dA base σ s H locs → LE σ0 σ → lv_has ls 4 [(0, vr x0), (1, .int x1), (2, .int x2), (3, .int x3)] → k100 x0 x1 x2 x3 σ = some (r, τ) → WG p l e s m args below meth c D dA base 3 72 (some (.int r)) σ0 τ σ H locs 100 ls []) (x0 : Nat) (x1 : Int32) (x2 : Int32) (x3 : Int32) {σ : HS} {H : Heap} {locs : List Loc} {ls : Array Slot} (h : Wd D dA base σ s H locs) (g : LE σ0 σ) (hl : lv_has ls 4 [(0, vr x0), (1, .int x1), (2, .int x2), (3, .int x3)]) (hF : B_X6_sweep_100 k100 x0 x1 x2 x3 σ = some (r, τ)) : WG p l e s m args below meth c D dA base 3 72 (some (.int r)) σ0 τ σ H locs 100 ls [] := by
  obtain ⟨hx, hb, -⟩ := id cx
  unfold B_X6_sweep_100 at hF
  refine lv_iload_n hx hb dX6_sweep_100 rfl (lv_at hl 3 rfl) ?_
  refine lv_sipush (v := (256 : Int32)) hx hb dX6_sweep_101 (by decide) ?_
  refine lv_icmp_ge (tgt := 119) hx hb dX6_sweep_104 (by decide) (fun c1 => ?_) (fun c1 => ?_)
  · replace hF := ifp c1 hF
    refine x_aload_n hx hb dX6_sweep_119 rfl (lv_at hl 0 rfl) ?_
    refine lv_iload_n hx hb dX6_sweep_120 rfl (lv_at hl 2 rfl) ?_
    refine x_aload_n hx hb dX6_sweep_121 rfl (lv_at hl 0 rfl) ?_
    obtain ⟨hq2, hF⟩ := ifs hF
    obtain ⟨r3, σ3, hc3, hF⟩ := bds hF
    refine x_calli (σ := σ) g (LEm hc3 (mo_F_X6_records x0 _)) (x_runV (As := []) (rest := [.int x2, vr x0]) cx h (c_X6_records l D dA base x0 hc3) ml_X6_174 mi_X6_records hq2 rfl ⟨Nat.le_of_ble_eq_true rfl, Nat.le_of_ble_eq_true rfl⟩ hl.1 rfl (s8 (sI (sR sN)) (by decide)) dX6_sweep_122 (le_room g (LEm hc3 (mo_F_X6_records x0 _)) (LEm hF (mo_ite (mo_bd (mo_F_X6_end x0 (x2 - r3) _) (fun r5 σ5 => mo_ret)) mo_none)))) h (fun H locs h g => ?_)
    refine lv_isub hx hb dX6_sweep_125 ?_
    obtain ⟨hq4, hF⟩ := ifs hF
    obtain ⟨r5, σ5, hc5, hF⟩ := bds hF
    refine x_calli (σ := σ3) g (LEm hc5 (mo_F_X6_end x0 (x2 - r3) _)) (x_runV (As := [.int (x2 - r3)]) (rest := []) cx h (c_X6_end l D dA base x0 (x2 - r3) hc5) ml_X6_152 mi_X6_end hq4 rfl ⟨Nat.le_of_ble_eq_true rfl, Nat.le_of_ble_eq_true rfl⟩ hl.1 rfl (s8 sN (by decide)) dX6_sweep_126 (le_room g (LEm hc5 (mo_F_X6_end x0 (x2 - r3) _)) (LEm hF mo_ret))) h (fun H locs h g => ?_)
    obtain ⟨rfl, rfl⟩ := rts hF
    exact x_iret cx h dX6_sweep_129
  · replace hF := ifn c1 hF
    refine x_aload_n hx hb dX6_sweep_107 rfl (lv_at hl 0 rfl) ?_
    refine lv_iload_n hx hb dX6_sweep_108 rfl (lv_at hl 3 rfl) ?_
    refine lv_iload_n hx hb dX6_sweep_109 rfl (lv_at hl 1 rfl) ?_
    obtain ⟨hq6, hF⟩ := ifs hF
    obtain ⟨r7, σ7, hc7, hF⟩ := bds hF
    refine x_callv (σ := σ) g (LEm hc7 (mo_F_X6_sweepCell x0 x3 x1 _)) (x_runV (As := [.int x3, .int x1]) (rest := []) cx h (c_X6_sweepCell l D dA base x0 x3 x1 hc7) ml_X6_192 mi_X6_sweepCell hq6 rfl ⟨Nat.le_of_ble_eq_true rfl, Nat.le_of_ble_eq_true rfl⟩ hl.1 rfl (s8 sN (by decide)) dX6_sweep_110 (le_room g (LEm hc7 (mo_F_X6_sweepCell x0 x3 x1 _)) (LEm hF (mk100 x0 x1 x2 (x3 + (1 : Int32)) _)))) h (fun H locs h g => ?_)
    refine x_iinc (k := 3) (v := (1 : Int32)) (lv' := [(3, .int (x3 + (1 : Int32))), (0, vr x0), (1, .int x1), (2, .int x2)]) hx hb dX6_sweep_113 hl rfl (by decide) (by decide) (cR (cI (cI (cI cN)))) rfl (fun ls hl => ?_)
    refine lv_goto (tgt := 100) hx hb dX6_sweep_116 (by decide) ?_
    exact hk100 x0 x1 x2 (x3 + (1 : Int32)) σ7 _ _ _ h g (lv_sub hl [1, 2, 3, 0] rfl) hF
def L_X6_sweep_100  : Nat → Nat → Int32 → Int32 → Int32 → HS → Option (Int32 × HS)
  | 0, _, _, _, _, _ => none
  | N + 1, x0, x1, x2, x3, σ => B_X6_sweep_100 (L_X6_sweep_100  N) x0 x1 x2 x3 σ
theorem mo_L_X6_sweep_100  : ∀ (N : Nat) (x0 : Nat) (x1 : Int32) (x2 : Int32) (x3 : Int32) (σ : HS), Mo σ (L_X6_sweep_100  N x0 x1 x2 x3 σ) := by
  intro N
  induction N with
  | zero => intro x0 x1 x2 x3 σ; exact mo_none
  | succ N ih => intro x0 x1 x2 x3 σ; exact mo_B_X6_sweep_100 ih x0 x1 x2 x3 σ
theorem wl_X6_sweep_100 {p : Program} {l : Launch} {e : Env} {s : State} {m : MethodId} {args : Array Value} {below : List Frame} {meth : Method} {c : Code} {D : va_G} {dA : Nat → ClassId} {base : Nat} {σ0 τ : HS} {r : Int32} (cx : CX p s m args meth c cX6_sweep 4 (some .int) RX6 "sweep" D dA base)  : ∀ (N : Nat) (x0 : Nat) (x1 : Int32) (x2 : Int32) (x3 : Int32) (σ : HS) (H : Heap) (locs : List Loc) (ls : Array Slot), Wd D dA base σ s H locs → LE σ0 σ → lv_has ls 4 [(0, vr x0), (1, .int x1), (2, .int x2), (3, .int x3)] → L_X6_sweep_100  N x0 x1 x2 x3 σ = some (r, τ) → WG p l e s m args below meth c D dA base 3 72 (some (.int r)) σ0 τ σ H locs 100 ls [] := by
  intro N
  induction N with
  | zero => intro x0 x1 x2 x3 σ H locs ls h g hl hF; cases hF
  | succ N ih => intro x0 x1 x2 x3 σ H locs ls h g hl hF; exact w_X6_sweep_100 cx (mo_L_X6_sweep_100  N) ih x0 x1 x2 x3 h g hl hF
def B_X6_sweep_87 (k58 : Nat → Int32 → Int32 → HS → Option (Int32 × HS)) (x0 : Nat) (x1 : Int32) (x2 : Int32) (σ : HS) : Option (Int32 × HS) :=
  k58 x0 x1 (x2 + (1 : Int32)) σ
theorem mo_B_X6_sweep_87 {k58 : Nat → Int32 → Int32 → HS → Option (Int32 × HS)} (mk58 : ∀ x0 x1 x2 σ, Mo σ (k58 x0 x1 x2 σ)) (x0 : Nat) (x1 : Int32) (x2 : Int32) (σ : HS) : Mo σ (B_X6_sweep_87 k58 x0 x1 x2 σ) := by
  unfold B_X6_sweep_87
  exact (mk58 x0 x1 (x2 + (1 : Int32)) _)
set_option maxHeartbeats 4000000 in
set_option maxRecDepth 100000 in
theorem w_X6_sweep_87 {p : Program} {l : Launch} {e : Env} {s : State} {m : MethodId} {args : Array Value} {below : List Frame} {meth : Method} {c : Code} {D : va_G} {dA : Nat → ClassId} {base : Nat} {σ0 τ : HS} {r : Int32} (cx : CX p s m args meth c cX6_sweep 4 (some .int) RX6 "sweep" D dA base) {k58 : Nat → Int32 → Int32 → HS → Option (Int32 × HS)} (mk58 : ∀ x0 x1 x2 σ, Mo σ (k58 x0 x1 x2 σ)) (hk58 : ∀ x0 x1 x2 σ H locs ls, Wd D dA base σ s H locs → LE σ0 σ → lv_has ls 4 [(0, vr x0), (1, .int x1), (2, .int x2)] → k58 x0 x1 x2 σ = some (r, τ) → WG p l e s m args below meth c D dA base 3 72 (some (.int r)) σ0 τ σ H locs 58 ls []) (x0 : Nat) (x1 : Int32) (x2 : Int32) {σ : HS} {H : Heap} {locs : List Loc} {ls : Array Slot} (h : Wd D dA base σ s H locs) (g : LE σ0 σ) (hl : lv_has ls 4 [(0, vr x0), (1, .int x1), (2, .int x2)]) (hF : B_X6_sweep_87 k58 x0 x1 x2 σ = some (r, τ)) : WG p l e s m args below meth c D dA base 3 72 (some (.int r)) σ0 τ σ H locs 87 ls [] := by
  obtain ⟨hx, hb, -⟩ := id cx
  unfold B_X6_sweep_87 at hF
  refine x_iinc (k := 2) (v := (1 : Int32)) (lv' := [(2, .int (x2 + (1 : Int32))), (0, vr x0), (1, .int x1)]) hx hb dX6_sweep_87 hl rfl (by decide) (by decide) (cR (cI (cI cN))) rfl (fun ls hl => ?_)
  refine lv_goto (tgt := 58) hx hb dX6_sweep_90 (by decide) ?_
  exact hk58 x0 x1 (x2 + (1 : Int32)) σ _ _ _ h g (lv_sub hl [1, 2, 0] rfl) hF
def B_X6_sweep_58 (k58 : Nat → Int32 → Int32 → HS → Option (Int32 × HS)) (x0 : Nat) (x1 : Int32) (x2 : Int32) (σ : HS) : Option (Int32 × HS) :=
  if (256 : Int32) ≤ x2 then (if kd σ x0 = 7 then (bd (F_X6_records x0 σ) (fun r3 σ3 => L_X6_sweep_100  NF x0 x1 r3 (0 : Int32) σ3)) else none) else (if kd σ x0 = 7 then (if kd σ (gr σ 256 x0) = 100 ∧ inb x2 (ln σ (gr σ 256 x0)) then (if (ai σ (gr σ 256 x0) x2.toNatClampNeg) ≤ 0 then (B_X6_sweep_87 k58 x0 x1 x2 σ) else (if x1 < (ai σ (gr σ 256 x0) x2.toNatClampNeg) then (B_X6_sweep_87 k58 x0 x1 x2 σ) else (some ((-3 : Int32), σ)))) else none) else none)
theorem mo_B_X6_sweep_58 {k58 : Nat → Int32 → Int32 → HS → Option (Int32 × HS)} (mk58 : ∀ x0 x1 x2 σ, Mo σ (k58 x0 x1 x2 σ)) (x0 : Nat) (x1 : Int32) (x2 : Int32) (σ : HS) : Mo σ (B_X6_sweep_58 k58 x0 x1 x2 σ) := by
  unfold B_X6_sweep_58
  exact (mo_ite (mo_ite (mo_bd (mo_F_X6_records x0 _) (fun r3 σ3 => (mo_L_X6_sweep_100  NF x0 x1 r3 (0 : Int32) _))) mo_none) (mo_ite (mo_ite (mo_ite (mo_B_X6_sweep_87 mk58 x0 x1 x2 _) (mo_ite (mo_B_X6_sweep_87 mk58 x0 x1 x2 _) mo_ret)) mo_none) mo_none))
set_option maxHeartbeats 4000000 in
set_option maxRecDepth 100000 in
theorem w_X6_sweep_58 {p : Program} {l : Launch} {e : Env} {s : State} {m : MethodId} {args : Array Value} {below : List Frame} {meth : Method} {c : Code} {D : va_G} {dA : Nat → ClassId} {base : Nat} {σ0 τ : HS} {r : Int32} (cx : CX p s m args meth c cX6_sweep 4 (some .int) RX6 "sweep" D dA base) {k58 : Nat → Int32 → Int32 → HS → Option (Int32 × HS)} (mk58 : ∀ x0 x1 x2 σ, Mo σ (k58 x0 x1 x2 σ)) (hk58 : ∀ x0 x1 x2 σ H locs ls, Wd D dA base σ s H locs → LE σ0 σ → lv_has ls 4 [(0, vr x0), (1, .int x1), (2, .int x2)] → k58 x0 x1 x2 σ = some (r, τ) → WG p l e s m args below meth c D dA base 3 72 (some (.int r)) σ0 τ σ H locs 58 ls []) (x0 : Nat) (x1 : Int32) (x2 : Int32) {σ : HS} {H : Heap} {locs : List Loc} {ls : Array Slot} (h : Wd D dA base σ s H locs) (g : LE σ0 σ) (hl : lv_has ls 4 [(0, vr x0), (1, .int x1), (2, .int x2)]) (hF : B_X6_sweep_58 k58 x0 x1 x2 σ = some (r, τ)) : WG p l e s m args below meth c D dA base 3 72 (some (.int r)) σ0 τ σ H locs 58 ls [] := by
  obtain ⟨hx, hb, -⟩ := id cx
  unfold B_X6_sweep_58 at hF
  refine lv_iload_n hx hb dX6_sweep_58 rfl (lv_at hl 2 rfl) ?_
  refine lv_sipush (v := (256 : Int32)) hx hb dX6_sweep_59 (by decide) ?_
  refine lv_icmp_ge (tgt := 93) hx hb dX6_sweep_62 (by decide) (fun c1 => ?_) (fun c1 => ?_)
  · replace hF := ifp c1 hF
    refine x_aload_n hx hb dX6_sweep_93 rfl (lv_at hl 0 rfl) ?_
    obtain ⟨hq2, hF⟩ := ifs hF
    obtain ⟨r3, σ3, hc3, hF⟩ := bds hF
    refine x_calli (σ := σ) g (LEm hc3 (mo_F_X6_records x0 _)) (x_runV (As := []) (rest := []) cx h (c_X6_records l D dA base x0 hc3) ml_X6_174 mi_X6_records hq2 rfl ⟨Nat.le_of_ble_eq_true rfl, Nat.le_of_ble_eq_true rfl⟩ hl.1 rfl (s8 sN (by decide)) dX6_sweep_94 (le_room g (LEm hc3 (mo_F_X6_records x0 _)) (LEm hF (mo_L_X6_sweep_100  NF x0 x1 r3 (0 : Int32) _)))) h (fun H locs h g => ?_)
    refine x_istore_n (lv' := [(2, .int r3), (0, vr x0), (1, .int x1)]) hx hb dX6_sweep_97 rfl hl (by decide) (cR (cI (cI cN))) rfl (fun ls hl => ?_)
    refine lv_iconst (v := (0 : Int32)) hx hb dX6_sweep_98 (by decide) ?_
    refine x_istore_n (lv' := [(3, .int (0 : Int32)), (2, .int r3), (0, vr x0), (1, .int x1)]) hx hb dX6_sweep_99 rfl hl (by decide) (cI (cR (cI cN))) rfl (fun ls hl => ?_)
    exact wl_X6_sweep_100 cx   NF x0 x1 r3 (0 : Int32) σ3 _ _ _ h g (lv_sub hl [2, 3, 1, 0] rfl) hF
  · replace hF := ifn c1 hF
    refine x_aload_n hx hb dX6_sweep_65 rfl (lv_at hl 0 rfl) ?_
    obtain ⟨hq4, hF⟩ := ifs hF
    refine x_getr cx h fa_X6_39 (f := 256) rfl hq4 dX6_sweep_66 ?_
    refine lv_iload_n hx hb dX6_sweep_69 rfl (lv_at hl 2 rfl) ?_
    obtain ⟨hq5, hF⟩ := ifs hF
    refine x_iald cx h hq5.1 (inb.vp hq5.2) dX6_sweep_70 ?_
    refine lv_if_le (tgt := 87) hx hb dX6_sweep_71 (by decide) (fun c6 => ?_) (fun c6 => ?_)
    · replace hF := ifp c6 hF
      exact w_X6_sweep_87 (σ := σ) cx mk58 hk58 x0 x1 x2 h g (lv_sub hl [0, 1, 2] rfl) hF
    · replace hF := ifn c6 hF
      refine x_aload_n hx hb dX6_sweep_74 rfl (lv_at hl 0 rfl) ?_
      refine x_getr cx h fa_X6_39 (f := 256) rfl hq4 dX6_sweep_75 ?_
      refine lv_iload_n hx hb dX6_sweep_78 rfl (lv_at hl 2 rfl) ?_
      refine x_iald cx h hq5.1 (inb.vp hq5.2) dX6_sweep_79 ?_
      refine lv_iload_n hx hb dX6_sweep_80 rfl (lv_at hl 1 rfl) ?_
      refine lv_icmp_gt (tgt := 87) hx hb dX6_sweep_81 (by decide) (fun c7 => ?_) (fun c7 => ?_)
      · replace hF := ifp c7 hF
        exact w_X6_sweep_87 (σ := σ) cx mk58 hk58 x0 x1 x2 h g (lv_sub hl [0, 1, 2] rfl) hF
      · replace hF := ifn c7 hF
        refine lv_bipush (v := (-3 : Int32)) hx hb dX6_sweep_84 (by decide) ?_
        obtain ⟨rfl, rfl⟩ := rts hF
        exact x_iret cx h dX6_sweep_86
def L_X6_sweep_58  : Nat → Nat → Int32 → Int32 → HS → Option (Int32 × HS)
  | 0, _, _, _, _ => none
  | N + 1, x0, x1, x2, σ => B_X6_sweep_58 (L_X6_sweep_58  N) x0 x1 x2 σ
theorem mo_L_X6_sweep_58  : ∀ (N : Nat) (x0 : Nat) (x1 : Int32) (x2 : Int32) (σ : HS), Mo σ (L_X6_sweep_58  N x0 x1 x2 σ) := by
  intro N
  induction N with
  | zero => intro x0 x1 x2 σ; exact mo_none
  | succ N ih => intro x0 x1 x2 σ; exact mo_B_X6_sweep_58 ih x0 x1 x2 σ
theorem wl_X6_sweep_58 {p : Program} {l : Launch} {e : Env} {s : State} {m : MethodId} {args : Array Value} {below : List Frame} {meth : Method} {c : Code} {D : va_G} {dA : Nat → ClassId} {base : Nat} {σ0 τ : HS} {r : Int32} (cx : CX p s m args meth c cX6_sweep 4 (some .int) RX6 "sweep" D dA base)  : ∀ (N : Nat) (x0 : Nat) (x1 : Int32) (x2 : Int32) (σ : HS) (H : Heap) (locs : List Loc) (ls : Array Slot), Wd D dA base σ s H locs → LE σ0 σ → lv_has ls 4 [(0, vr x0), (1, .int x1), (2, .int x2)] → L_X6_sweep_58  N x0 x1 x2 σ = some (r, τ) → WG p l e s m args below meth c D dA base 3 72 (some (.int r)) σ0 τ σ H locs 58 ls [] := by
  intro N
  induction N with
  | zero => intro x0 x1 x2 σ H locs ls h g hl hF; cases hF
  | succ N ih => intro x0 x1 x2 σ H locs ls h g hl hF; exact w_X6_sweep_58 cx (mo_L_X6_sweep_58  N) ih x0 x1 x2 h g hl hF
def B_X6_sweep_50 (k22 : Nat → Int32 → Int32 → HS → Option (Int32 × HS)) (x0 : Nat) (x1 : Int32) (x2 : Int32) (σ : HS) : Option (Int32 × HS) :=
  k22 x0 x1 (x2 + (1 : Int32)) σ
theorem mo_B_X6_sweep_50 {k22 : Nat → Int32 → Int32 → HS → Option (Int32 × HS)} (mk22 : ∀ x0 x1 x2 σ, Mo σ (k22 x0 x1 x2 σ)) (x0 : Nat) (x1 : Int32) (x2 : Int32) (σ : HS) : Mo σ (B_X6_sweep_50 k22 x0 x1 x2 σ) := by
  unfold B_X6_sweep_50
  exact (mk22 x0 x1 (x2 + (1 : Int32)) _)
set_option maxHeartbeats 4000000 in
set_option maxRecDepth 100000 in
theorem w_X6_sweep_50 {p : Program} {l : Launch} {e : Env} {s : State} {m : MethodId} {args : Array Value} {below : List Frame} {meth : Method} {c : Code} {D : va_G} {dA : Nat → ClassId} {base : Nat} {σ0 τ : HS} {r : Int32} (cx : CX p s m args meth c cX6_sweep 4 (some .int) RX6 "sweep" D dA base) {k22 : Nat → Int32 → Int32 → HS → Option (Int32 × HS)} (mk22 : ∀ x0 x1 x2 σ, Mo σ (k22 x0 x1 x2 σ)) (hk22 : ∀ x0 x1 x2 σ H locs ls, Wd D dA base σ s H locs → LE σ0 σ → lv_has ls 4 [(0, vr x0), (1, .int x1), (2, .int x2)] → k22 x0 x1 x2 σ = some (r, τ) → WG p l e s m args below meth c D dA base 3 72 (some (.int r)) σ0 τ σ H locs 22 ls []) (x0 : Nat) (x1 : Int32) (x2 : Int32) {σ : HS} {H : Heap} {locs : List Loc} {ls : Array Slot} (h : Wd D dA base σ s H locs) (g : LE σ0 σ) (hl : lv_has ls 4 [(0, vr x0), (1, .int x1), (2, .int x2)]) (hF : B_X6_sweep_50 k22 x0 x1 x2 σ = some (r, τ)) : WG p l e s m args below meth c D dA base 3 72 (some (.int r)) σ0 τ σ H locs 50 ls [] := by
  obtain ⟨hx, hb, -⟩ := id cx
  unfold B_X6_sweep_50 at hF
  refine x_iinc (k := 2) (v := (1 : Int32)) (lv' := [(2, .int (x2 + (1 : Int32))), (0, vr x0), (1, .int x1)]) hx hb dX6_sweep_50 hl rfl (by decide) (by decide) (cR (cI (cI cN))) rfl (fun ls hl => ?_)
  refine lv_goto (tgt := 22) hx hb dX6_sweep_53 (by decide) ?_
  exact hk22 x0 x1 (x2 + (1 : Int32)) σ _ _ _ h g (lv_sub hl [1, 2, 0] rfl) hF
def B_X6_sweep_22 (k22 : Nat → Int32 → Int32 → HS → Option (Int32 × HS)) (x0 : Nat) (x1 : Int32) (x2 : Int32) (σ : HS) : Option (Int32 × HS) :=
  if (8 : Int32) ≤ x2 then (L_X6_sweep_58  NF x0 x1 (0 : Int32) σ) else (if kd σ x0 = 7 then (if kd σ (gr σ 259 x0) = 100 ∧ inb x2 (ln σ (gr σ 259 x0)) then (if (ai σ (gr σ 259 x0) x2.toNatClampNeg) ≤ 0 then (B_X6_sweep_50 k22 x0 x1 x2 σ) else (if kd σ (gr σ 260 x0) = 100 ∧ inb x2 (ln σ (gr σ 260 x0)) then (if x1 ≤ (ai σ (gr σ 260 x0) x2.toNatClampNeg) then (B_X6_sweep_50 k22 x0 x1 x2 σ) else (some ((-3 : Int32), σ))) else none)) else none) else none)
theorem mo_B_X6_sweep_22 {k22 : Nat → Int32 → Int32 → HS → Option (Int32 × HS)} (mk22 : ∀ x0 x1 x2 σ, Mo σ (k22 x0 x1 x2 σ)) (x0 : Nat) (x1 : Int32) (x2 : Int32) (σ : HS) : Mo σ (B_X6_sweep_22 k22 x0 x1 x2 σ) := by
  unfold B_X6_sweep_22
  exact (mo_ite (mo_L_X6_sweep_58  NF x0 x1 (0 : Int32) _) (mo_ite (mo_ite (mo_ite (mo_B_X6_sweep_50 mk22 x0 x1 x2 _) (mo_ite (mo_ite (mo_B_X6_sweep_50 mk22 x0 x1 x2 _) mo_ret) mo_none)) mo_none) mo_none))
set_option maxHeartbeats 4000000 in
set_option maxRecDepth 100000 in
theorem w_X6_sweep_22 {p : Program} {l : Launch} {e : Env} {s : State} {m : MethodId} {args : Array Value} {below : List Frame} {meth : Method} {c : Code} {D : va_G} {dA : Nat → ClassId} {base : Nat} {σ0 τ : HS} {r : Int32} (cx : CX p s m args meth c cX6_sweep 4 (some .int) RX6 "sweep" D dA base) {k22 : Nat → Int32 → Int32 → HS → Option (Int32 × HS)} (mk22 : ∀ x0 x1 x2 σ, Mo σ (k22 x0 x1 x2 σ)) (hk22 : ∀ x0 x1 x2 σ H locs ls, Wd D dA base σ s H locs → LE σ0 σ → lv_has ls 4 [(0, vr x0), (1, .int x1), (2, .int x2)] → k22 x0 x1 x2 σ = some (r, τ) → WG p l e s m args below meth c D dA base 3 72 (some (.int r)) σ0 τ σ H locs 22 ls []) (x0 : Nat) (x1 : Int32) (x2 : Int32) {σ : HS} {H : Heap} {locs : List Loc} {ls : Array Slot} (h : Wd D dA base σ s H locs) (g : LE σ0 σ) (hl : lv_has ls 4 [(0, vr x0), (1, .int x1), (2, .int x2)]) (hF : B_X6_sweep_22 k22 x0 x1 x2 σ = some (r, τ)) : WG p l e s m args below meth c D dA base 3 72 (some (.int r)) σ0 τ σ H locs 22 ls [] := by
  obtain ⟨hx, hb, -⟩ := id cx
  unfold B_X6_sweep_22 at hF
  refine lv_iload_n hx hb dX6_sweep_22 rfl (lv_at hl 2 rfl) ?_
  refine lv_bipush (v := (8 : Int32)) hx hb dX6_sweep_23 (by decide) ?_
  refine lv_icmp_ge (tgt := 56) hx hb dX6_sweep_25 (by decide) (fun c1 => ?_) (fun c1 => ?_)
  · replace hF := ifp c1 hF
    refine lv_iconst (v := (0 : Int32)) hx hb dX6_sweep_56 (by decide) ?_
    refine x_istore_n (lv' := [(2, .int (0 : Int32)), (0, vr x0), (1, .int x1)]) hx hb dX6_sweep_57 rfl hl (by decide) (cR (cI (cI cN))) rfl (fun ls hl => ?_)
    exact wl_X6_sweep_58 cx   NF x0 x1 (0 : Int32) σ _ _ _ h g (lv_sub hl [1, 2, 0] rfl) hF
  · replace hF := ifn c1 hF
    refine x_aload_n hx hb dX6_sweep_28 rfl (lv_at hl 0 rfl) ?_
    obtain ⟨hq2, hF⟩ := ifs hF
    refine x_getr cx h fa_X6_48 (f := 259) rfl hq2 dX6_sweep_29 ?_
    refine lv_iload_n hx hb dX6_sweep_32 rfl (lv_at hl 2 rfl) ?_
    obtain ⟨hq3, hF⟩ := ifs hF
    refine x_iald cx h hq3.1 (inb.vp hq3.2) dX6_sweep_33 ?_
    refine lv_if_le (tgt := 50) hx hb dX6_sweep_34 (by decide) (fun c4 => ?_) (fun c4 => ?_)
    · replace hF := ifp c4 hF
      exact w_X6_sweep_50 (σ := σ) cx mk22 hk22 x0 x1 x2 h g (lv_sub hl [0, 1, 2] rfl) hF
    · replace hF := ifn c4 hF
      refine x_aload_n hx hb dX6_sweep_37 rfl (lv_at hl 0 rfl) ?_
      refine x_getr cx h fa_X6_51 (f := 260) rfl hq2 dX6_sweep_38 ?_
      refine lv_iload_n hx hb dX6_sweep_41 rfl (lv_at hl 2 rfl) ?_
      obtain ⟨hq5, hF⟩ := ifs hF
      refine x_iald cx h hq5.1 (inb.vp hq5.2) dX6_sweep_42 ?_
      refine lv_iload_n hx hb dX6_sweep_43 rfl (lv_at hl 1 rfl) ?_
      refine lv_icmp_ge (tgt := 50) hx hb dX6_sweep_44 (by decide) (fun c6 => ?_) (fun c6 => ?_)
      · replace hF := ifp c6 hF
        exact w_X6_sweep_50 (σ := σ) cx mk22 hk22 x0 x1 x2 h g (lv_sub hl [0, 1, 2] rfl) hF
      · replace hF := ifn c6 hF
        refine lv_bipush (v := (-3 : Int32)) hx hb dX6_sweep_47 (by decide) ?_
        obtain ⟨rfl, rfl⟩ := rts hF
        exact x_iret cx h dX6_sweep_49
def L_X6_sweep_22  : Nat → Nat → Int32 → Int32 → HS → Option (Int32 × HS)
  | 0, _, _, _, _ => none
  | N + 1, x0, x1, x2, σ => B_X6_sweep_22 (L_X6_sweep_22  N) x0 x1 x2 σ
theorem mo_L_X6_sweep_22  : ∀ (N : Nat) (x0 : Nat) (x1 : Int32) (x2 : Int32) (σ : HS), Mo σ (L_X6_sweep_22  N x0 x1 x2 σ) := by
  intro N
  induction N with
  | zero => intro x0 x1 x2 σ; exact mo_none
  | succ N ih => intro x0 x1 x2 σ; exact mo_B_X6_sweep_22 ih x0 x1 x2 σ
theorem wl_X6_sweep_22 {p : Program} {l : Launch} {e : Env} {s : State} {m : MethodId} {args : Array Value} {below : List Frame} {meth : Method} {c : Code} {D : va_G} {dA : Nat → ClassId} {base : Nat} {σ0 τ : HS} {r : Int32} (cx : CX p s m args meth c cX6_sweep 4 (some .int) RX6 "sweep" D dA base)  : ∀ (N : Nat) (x0 : Nat) (x1 : Int32) (x2 : Int32) (σ : HS) (H : Heap) (locs : List Loc) (ls : Array Slot), Wd D dA base σ s H locs → LE σ0 σ → lv_has ls 4 [(0, vr x0), (1, .int x1), (2, .int x2)] → L_X6_sweep_22  N x0 x1 x2 σ = some (r, τ) → WG p l e s m args below meth c D dA base 3 72 (some (.int r)) σ0 τ σ H locs 22 ls [] := by
  intro N
  induction N with
  | zero => intro x0 x1 x2 σ H locs ls h g hl hF; cases hF
  | succ N ih => intro x0 x1 x2 σ H locs ls h g hl hF; exact w_X6_sweep_22 cx (mo_L_X6_sweep_22  N) ih x0 x1 x2 h g hl hF
def F_X6_sweep (a0 : Nat) (a1 : Int32) (σ : HS) : Option (Int32 × HS) :=
  if kd σ a0 = 7 then (if a1 < 0 then (B_X6_sweep_17   (si σ 240 a0 (0 : Int32))) else (if a1 ≤ (gi (si σ 240 a0 (0 : Int32)) 244 a0) then (L_X6_sweep_22  NF a0 a1 (0 : Int32) (si σ 240 a0 (0 : Int32))) else (B_X6_sweep_17   (si σ 240 a0 (0 : Int32))))) else none
theorem mo_F_X6_sweep (a0 : Nat) (a1 : Int32) (σ : HS) : Mo σ (F_X6_sweep a0 a1 σ) := by
  unfold F_X6_sweep
  exact (mo_ite (mo_ite (mo_le (τ := (si σ 240 a0 (0 : Int32))) ⟨Nat.le_refl _, Nat.le_refl _⟩ (mo_B_X6_sweep_17   _)) (mo_ite (mo_le (τ := (si σ 240 a0 (0 : Int32))) ⟨Nat.le_refl _, Nat.le_refl _⟩ (mo_L_X6_sweep_22  NF a0 a1 (0 : Int32) _)) (mo_le (τ := (si σ 240 a0 (0 : Int32))) ⟨Nat.le_refl _, Nat.le_refl _⟩ (mo_B_X6_sweep_17   _)))) mo_none)
set_option maxHeartbeats 4000000 in
set_option maxRecDepth 100000 in
theorem c_X6_sweep (l : Launch) (D : va_G) (dA : Nat → ClassId) (base : Nat) (a0 : Nat) (a1 : Int32) {σ τ : HS} {r : Int32} (hF : F_X6_sweep a0 a1 σ = some (r, τ)) : CT l yX6_sweep cX6_sweep 4 (some .int) 3 72 D dA base [vr a0, .int a1] (some (.int r)) σ τ := by
  refine CT.of (lv := [(0, vr a0), (1, .int a1)]) (by decide) (vR (vI vN)) (Nat.le_of_ble_eq_true rfl) rfl ?_
  intro p e s m args below meth c ls cx hl h
  have cx : CX p s m args meth c cX6_sweep 4 (some .int) RX6 "sweep" D dA base := cx
  have g : LE σ σ := LE.rf
  obtain ⟨hx, hb, -⟩ := id cx
  unfold F_X6_sweep at hF
  refine x_aload_n hx hb dX6_sweep_0 rfl (lv_at hl 0 rfl) ?_
  refine lv_iconst (v := (0 : Int32)) hx hb dX6_sweep_1 (by decide) ?_
  obtain ⟨hq1, hF⟩ := ifs hF
  refine x_sti cx h fa_X6_75 (f := 240) rfl (Or.inl rfl) hq1 dX6_sweep_2 (fun H locs h => ?_)
  refine lv_iload_n hx hb dX6_sweep_5 rfl (lv_at hl 1 rfl) ?_
  refine lv_if_lt (tgt := 17) hx hb dX6_sweep_6 (by decide) (fun c2 => ?_) (fun c2 => ?_)
  · replace hF := ifp c2 hF
    exact w_X6_sweep_17 (σ := (si σ 240 a0 (0 : Int32))) cx    h g (lv_sub hl [] rfl) hF
  · replace hF := ifn c2 hF
    refine lv_iload_n hx hb dX6_sweep_9 rfl (lv_at hl 1 rfl) ?_
    refine x_aload_n hx hb dX6_sweep_10 rfl (lv_at hl 0 rfl) ?_
    refine x_geti cx h fa_X6_96 (f := 244) rfl hq1 dX6_sweep_11 ?_
    refine lv_icmp_le (tgt := 20) hx hb dX6_sweep_14 (by decide) (fun c3 => ?_) (fun c3 => ?_)
    · replace hF := ifp c3 hF
      refine lv_iconst (v := (0 : Int32)) hx hb dX6_sweep_20 (by decide) ?_
      refine x_istore_n (lv' := [(2, .int (0 : Int32)), (0, vr a0), (1, .int a1)]) hx hb dX6_sweep_21 rfl hl (by decide) (cR (cI cN)) rfl (fun ls hl => ?_)
      exact wl_X6_sweep_22 cx   NF a0 a1 (0 : Int32) (si σ 240 a0 (0 : Int32)) _ _ _ h g (lv_sub hl [1, 2, 0] rfl) hF
    · replace hF := ifn c3 hF
      exact w_X6_sweep_17 (σ := (si σ 240 a0 (0 : Int32))) cx    h g (lv_sub hl [] rfl) hF
