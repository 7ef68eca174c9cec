def B_X3_putDownLog_48   (σ : HS) : Option (Unit × HS) :=
  some ((), σ)
theorem mo_B_X3_putDownLog_48   (σ : HS) : Mo σ (B_X3_putDownLog_48   σ) := by
  unfold B_X3_putDownLog_48
  exact mo_ret
set_option maxHeartbeats 4000000 in
set_option maxRecDepth 100000 in
theorem w_X3_putDownLog_48 {p : Program} {l : Launch} {e : Env} {s : State} {m : MethodId} {args : Array Value} {below : List Frame} {meth : Method} {c : Code} {D : va_G} {dA : Nat → ClassId} {base : Nat} {σ0 τ : HS} {r : Unit} (cx : CX p s m args meth c cX3_putDownLog 1 none RX3 "putDownLog" D dA base)   {σ : HS} {H : Heap} {locs : List Loc} {ls : Array Slot} (h : Wd D dA base σ s H locs) (g : LE σ0 σ) (hl : lv_has ls 1 []) (hF : B_X3_putDownLog_48   σ = some (r, τ)) : WG p l e s m args below meth c D dA base 0 0 none σ0 τ σ H locs 48 ls [] := by
  obtain ⟨hx, hb, -⟩ := id cx
  unfold B_X3_putDownLog_48 at hF
  obtain ⟨rfl, rfl⟩ := rts hF
  exact x_vret cx h dX3_putDownLog_48
def F_X3_putDownLog (a0 : Nat) (σ : HS) : Option (Unit × HS) :=
  if kd σ a0 = 4 then (if (64 : Int32) ≤ (gi σ 122 a0) then (lt1 (si (si σ 122 a0 (0 : Int32)) 123 a0 ((gi (si σ 122 a0 (0 : Int32)) 123 a0) + (1 : Int32))) (fun σ3 => if (gi σ3 123 a0) = (4 : Int32) then (lt1 (si (si σ3 123 a0 (1 : Int32)) 124 a0 ((gi (si σ3 123 a0 (1 : Int32)) 124 a0) + (1 : Int32))) (fun σ5 => B_X3_putDownLog_48   σ5)) else (B_X3_putDownLog_48   σ3))) else (some ((), σ))) else none
theorem mo_F_X3_putDownLog (a0 : Nat) (σ : HS) : Mo σ (F_X3_putDownLog a0 σ) := by
  unfold F_X3_putDownLog
  exact (mo_ite (mo_ite (mo_lt ⟨Nat.le_refl _, Nat.le_refl _⟩ (fun σ3 => (mo_ite (mo_lt ⟨Nat.le_refl _, Nat.le_refl _⟩ (fun σ5 => (mo_B_X3_putDownLog_48   _))) (mo_B_X3_putDownLog_48   _)))) mo_ret) mo_none)
set_option maxHeartbeats 4000000 in
set_option maxRecDepth 100000 in
theorem c_X3_putDownLog (l : Launch) (D : va_G) (dA : Nat → ClassId) (base : Nat) (a0 : Nat) {σ τ : HS} {r : Unit} (hF : F_X3_putDownLog a0 σ = some (r, τ)) : CT l yX3_putDownLog cX3_putDownLog 1 none 0 0 D dA base [vr a0] none σ τ := by
  refine CT.of (lv := [(0, vr a0)]) (by decide) (vR vN) (Nat.le_of_ble_eq_true rfl) rfl ?_
  intro p e s m args below meth c ls cx hl h
  have cx : CX p s m args meth c cX3_putDownLog 1 none RX3 "putDownLog" D dA base := cx
  have g : LE σ σ := LE.rf
  obtain ⟨hx, hb, -⟩ := id cx
  unfold F_X3_putDownLog at hF
  refine x_aload_n hx hb dX3_putDownLog_0 rfl (lv_at hl 0 rfl) ?_
  obtain ⟨hq1, hF⟩ := ifs hF
  refine x_geti cx h fa_X3_55 (f := 122) rfl hq1 dX3_putDownLog_1 ?_
  refine lv_bipush (v := (64 : Int32)) hx hb dX3_putDownLog_4 (by decide) ?_
  refine lv_icmp_ge (tgt := 10) hx hb dX3_putDownLog_6 (by decide) (fun c2 => ?_) (fun c2 => ?_)
  · replace hF := ifp c2 hF
    refine x_aload_n hx hb dX3_putDownLog_10 rfl (lv_at hl 0 rfl) ?_
    refine lv_iconst (v := (0 : Int32)) hx hb dX3_putDownLog_11 (by decide) ?_
    refine x_sti cx h fa_X3_55 (f := 122) rfl (Or.inl rfl) hq1 dX3_putDownLog_12 (fun H locs h => ?_)
    refine x_aload_n hx hb dX3_putDownLog_15 rfl (lv_at hl 0 rfl) ?_
    refine lv_dup hx hb dX3_putDownLog_16 (vr_cat _) ?_
    refine x_geti cx h fa_X3_58 (f := 123) rfl hq1 dX3_putDownLog_17 ?_
    refine lv_iconst (v := (1 : Int32)) hx hb dX3_putDownLog_20 (by decide) ?_
    refine lv_iadd hx hb dX3_putDownLog_21 ?_
    refine x_sti cx h fa_X3_58 (f := 123) rfl (Or.inl rfl) hq1 dX3_putDownLog_22 (fun H locs h => ?_)
    obtain ⟨σ3, e3, hF⟩ := lts hF
    have h := Wd.nm e3 h
    have g := LE.nm e3 g
    refine W.cs (cells' := hs σ3 - hs σ) (slots' := ns σ3 - ns σ) (by rw [e3]; try rfl) (by rw [e3]; try rfl) ?_
    refine x_aload_n hx hb dX3_putDownLog_25 rfl (lv_at hl 0 rfl) ?_
    refine x_geti cx h fa_X3_58 (f := 123) rfl (by rw [e3]; exact hq1) dX3_putDownLog_26 ?_
    refine lv_iconst (v := (4 : Int32)) hx hb dX3_putDownLog_29 (by decide) ?_
    refine lv_icmp_ne (tgt := 48) hx hb dX3_putDownLog_30 (by decide) (fun c4 => ?_) (fun c4 => ?_)
    · replace hF := ifn c4 hF
      exact w_X3_putDownLog_48 (σ := σ3) cx    h g (lv_sub hl [] rfl) hF
    · replace hF := ifp c4 hF
      refine x_aload_n hx hb dX3_putDownLog_33 rfl (lv_at hl 0 rfl) ?_
      refine lv_iconst (v := (1 : Int32)) hx hb dX3_putDownLog_34 (by decide) ?_
      refine x_sti cx h fa_X3_58 (f := 123) rfl (Or.inl rfl) (by rw [e3]; exact hq1) dX3_putDownLog_35 (fun H locs h => ?_)
      refine x_aload_n hx hb dX3_putDownLog_38 rfl (lv_at hl 0 rfl) ?_
      refine lv_dup hx hb dX3_putDownLog_39 (vr_cat _) ?_
      refine x_geti cx h fa_X3_61 (f := 124) rfl (by rw [e3]; exact hq1) dX3_putDownLog_40 ?_
      refine lv_iconst (v := (1 : Int32)) hx hb dX3_putDownLog_43 (by decide) ?_
      refine lv_iadd hx hb dX3_putDownLog_44 ?_
      refine x_sti cx h fa_X3_61 (f := 124) rfl (Or.inl rfl) (by rw [e3]; exact hq1) dX3_putDownLog_45 (fun H locs h => ?_)
      obtain ⟨σ5, e5, hF⟩ := lts hF
      have h := Wd.nm e5 h
      have g := LE.nm e5 g
      refine W.cs (cells' := hs σ5 - hs σ) (slots' := ns σ5 - ns σ) (by rw [e5]; try rfl) (by rw [e5]; try rfl) ?_
      exact w_X3_putDownLog_48 (σ := σ5) cx    h g (lv_sub hl [] rfl) hF
  · replace hF := ifn c2 hF
    obtain ⟨rfl, rfl⟩ := rts hF
    exact x_vret cx h dX3_putDownLog_9
def B_X3_isDecided_24  (y0 : Int32) (σ : HS) : Option (Int32 × HS) :=
  if y0 = 0 ∨ y0 = 1 then (some (y0, σ)) else none
theorem mo_B_X3_isDecided_24  (y0 : Int32) (σ : HS) : Mo σ (B_X3_isDecided_24  y0 σ) := by
  unfold B_X3_isDecided_24
  exact (mo_ite mo_ret mo_none)
set_option maxHeartbeats 4000000 in
set_option maxRecDepth 100000 in
theorem w_X3_isDecided_24 {p : Program} {l : Launch} {e : Env} {s : State} {m : MethodId} {args : Array Value} {below : List Frame} {meth : Method} {c : Code} {D : va_G} {dA : Nat → ClassId} {base : Nat} {σ0 τ : HS} {r : Int32} (cx : CX p s m args meth c cX3_isDecided 2 (some .boolean) RX3 "isDecided" D dA base)  (y0 : Int32) {σ : HS} {H : Heap} {locs : List Loc} {ls : Array Slot} (h : Wd D dA base σ s H locs) (g : LE σ0 σ) (hl : lv_has ls 2 []) (hF : B_X3_isDecided_24  y0 σ = some (r, τ)) : WG p l e s m args below meth c D dA base 0 0 (some (.int r)) σ0 τ σ H locs 24 ls [.int y0] := by
  obtain ⟨hx, hb, -⟩ := id cx
  unfold B_X3_isDecided_24 at hF
  obtain ⟨hz1, hF⟩ := ifs hF
  obtain ⟨rfl, rfl⟩ := rts hF
  exact x_zret cx h hz1 dX3_isDecided_24
def F_X3_isDecided (a0 : Nat) (a1 : Nat) (σ : HS) : Option (Int32 × HS) :=
  if kd σ a0 = 4 then (if kd σ a1 = 1 then (if kd σ (gr σ 120 a0) = 102 ∧ inb (gi σ 3 a1) (ln σ (gr σ 120 a0)) then (if kd σ (ar σ (gr σ 120 a0) (gi σ 3 a1).toNatClampNeg) = 1 then (if (gi σ 2 (ar σ (gr σ 120 a0) (gi σ 3 a1).toNatClampNeg)) = (gi σ 2 a1) then (B_X3_isDecided_24  (0 : Int32) σ) else (B_X3_isDecided_24  (1 : Int32) σ)) else none) else none) else none) else none
theorem mo_F_X3_isDecided (a0 : Nat) (a1 : Nat) (σ : HS) : Mo σ (F_X3_isDecided a0 a1 σ) := by
  unfold F_X3_isDecided
  exact (mo_ite (mo_ite (mo_ite (mo_ite (mo_ite (mo_B_X3_isDecided_24  (0 : Int32) _) (mo_B_X3_isDecided_24  (1 : Int32) _)) mo_none) mo_none) mo_none) mo_none)
set_option maxHeartbeats 4000000 in
set_option maxRecDepth 100000 in
theorem c_X3_isDecided (l : Launch) (D : va_G) (dA : Nat → ClassId) (base : Nat) (a0 : Nat) (a1 : Nat) {σ τ : HS} {r : Int32} (hF : F_X3_isDecided a0 a1 σ = some (r, τ)) : CT l yX3_isDecided cX3_isDecided 2 (some .boolean) 0 0 D dA base [vr a0, vr a1] (some (.int r)) σ τ := by
  refine CT.of (lv := [(0, vr a0), (1, vr a1)]) (by decide) (vR (vR vN)) (Nat.le_of_ble_eq_true rfl) rfl ?_
  intro p e s m args below meth c ls cx hl h
  have cx : CX p s m args meth c cX3_isDecided 2 (some .boolean) RX3 "isDecided" D dA base := cx
  have g : LE σ σ := LE.rf
  obtain ⟨hx, hb, -⟩ := id cx
  unfold F_X3_isDecided at hF
  refine x_aload_n hx hb dX3_isDecided_0 rfl (lv_at hl 0 rfl) ?_
  obtain ⟨hq1, hF⟩ := ifs hF
  refine x_getr cx h fa_X3_11 (f := 120) rfl hq1 dX3_isDecided_1 ?_
  refine x_aload_n hx hb dX3_isDecided_4 rfl (lv_at hl 1 rfl) ?_
  obtain ⟨hq2, hF⟩ := ifs hF
  refine x_geti cx h fa_X3_46 (f := 3) rfl hq2 dX3_isDecided_5 ?_
  obtain ⟨hq3, hF⟩ := ifs hF
  refine x_aald cx h RA2 hq3.1 (inb.vp hq3.2) dX3_isDecided_8 ?_
  obtain ⟨hq4, hF⟩ := ifs hF
  refine x_geti cx h fa_X3_42 (f := 2) rfl hq4 dX3_isDecided_9 ?_
  refine x_aload_n hx hb dX3_isDecided_12 rfl (lv_at hl 1 rfl) ?_
  refine x_geti cx h fa_X3_42 (f := 2) rfl hq2 dX3_isDecided_13 ?_
  refine lv_icmp_eq (tgt := 23) hx hb dX3_isDecided_16 (by decide) (fun c5 => ?_) (fun c5 => ?_)
  · replace hF := ifp c5 hF
    refine lv_iconst (v := (0 : Int32)) hx hb dX3_isDecided_23 (by decide) ?_
    exact w_X3_isDecided_24 (σ := σ) cx   (0 : Int32) h g (lv_sub hl [] rfl) hF
  · replace hF := ifn c5 hF
    refine lv_iconst (v := (1 : Int32)) hx hb dX3_isDecided_19 (by decide) ?_
    refine lv_goto (tgt := 24) hx hb dX3_isDecided_20 (by decide) ?_
    exact w_X3_isDecided_24 (σ := σ) cx   (1 : Int32) h g (lv_sub hl [] rfl) hF
def B_X3_undo_27   (σ : HS) : Option (Unit × HS) :=
  some ((), σ)
theorem mo_B_X3_undo_27   (σ : HS) : Mo σ (B_X3_undo_27   σ) := by
  unfold B_X3_undo_27
  exact mo_ret
set_option maxHeartbeats 4000000 in
set_option maxRecDepth 100000 in
theorem w_X3_undo_27 {p : Program} {l : Launch} {e : Env} {s : State} {m : MethodId} {args : Array Value} {below : List Frame} {meth : Method} {c : Code} {D : va_G} {dA : Nat → ClassId} {base : Nat} {σ0 τ : HS} {r : Unit} (cx : CX p s m args meth c cX3_undo 4 none RX3 "undo" D dA base)   {σ : HS} {H : Heap} {locs : List Loc} {ls : Array Slot} (h : Wd D dA base σ s H locs) (g : LE σ0 σ) (hl : lv_has ls 4 []) (hF : B_X3_undo_27   σ = some (r, τ)) : WG p l e s m args below meth c D dA base 3 66 none σ0 τ σ H locs 27 ls [] := by
  obtain ⟨hx, hb, -⟩ := id cx
  unfold B_X3_undo_27 at hF
  obtain ⟨rfl, rfl⟩ := rts hF
  exact x_vret cx h dX3_undo_27
def F_X3_undo (a0 : Nat) (a1 : Nat) (a2 : Int32) (σ : HS) : Option (Unit × HS) :=
  if kd σ a1 = 1 then (if kd σ a0 = 4 then (bd (F_X3_dropLock a0 a1 σ) (fun r3 σ3 => if kd σ3 a0 = 4 then (bd (F_X3_dropData a0 a1 (gi σ 2 a1) σ3) (fun r5 σ5 => if a2 = 0 then (B_X3_undo_27   σ5) else (if kd σ5 a0 = 4 then (bd (F_X3_addWrite a0 a1 (gi σ 2 a1) (0 : Int32) σ5) (fun r8 σ8 => B_X3_undo_27   σ8)) else none))) else none)) else none) else none
theorem mo_F_X3_undo (a0 : Nat) (a1 : Nat) (a2 : Int32) (σ : HS) : Mo σ (F_X3_undo a0 a1 a2 σ) := by
  unfold F_X3_undo
  exact (mo_ite (mo_ite (mo_bd (mo_F_X3_dropLock a0 a1 _) (fun r3 σ3 => (mo_ite (mo_bd (mo_F_X3_dropData a0 a1 (gi σ 2 a1) _) (fun r5 σ5 => (mo_ite (mo_B_X3_undo_27   _) (mo_ite (mo_bd (mo_F_X3_addWrite a0 a1 (gi σ 2 a1) (0 : Int32) _) (fun r8 σ8 => (mo_B_X3_undo_27   _))) mo_none)))) mo_none))) mo_none) mo_none)
set_option maxHeartbeats 4000000 in
set_option maxRecDepth 100000 in
theorem c_X3_undo (l : Launch) (D : va_G) (dA : Nat → ClassId) (base : Nat) (a0 : Nat) (a1 : Nat) (a2 : Int32) {σ τ : HS} {r : Unit} (hF : F_X3_undo a0 a1 a2 σ = some (r, τ)) : CT l yX3_undo cX3_undo 4 none 3 66 D dA base [vr a0, vr a1, .int a2] none σ τ := by
  refine CT.of (lv := [(0, vr a0), (1, vr a1), (2, .int a2)]) (by decide) (vR (vR (vI vN))) (Nat.le_of_ble_eq_true rfl) rfl ?_
  intro p e s m args below meth c ls cx hl h
  have cx : CX p s m args meth c cX3_undo 4 none RX3 "undo" D dA base := cx
  have g : LE σ σ := LE.rf
  obtain ⟨hx, hb, -⟩ := id cx
  unfold F_X3_undo at hF
  refine x_aload_n hx hb dX3_undo_0 rfl (lv_at hl 1 rfl) ?_
  obtain ⟨hq1, hF⟩ := ifs hF
  refine x_geti cx h fa_X3_42 (f := 2) rfl hq1 dX3_undo_1 ?_
  refine x_istore_n (lv' := [(3, .int (gi σ 2 a1)), (0, vr a0), (1, vr a1), (2, .int a2)]) hx hb dX3_undo_4 rfl hl (by decide) (cR (cR (cI cN))) rfl (fun ls hl => ?_)
  refine x_aload_n hx hb dX3_undo_5 rfl (lv_at hl 1 rfl) ?_
  refine x_aload_n hx hb dX3_undo_6 rfl (lv_at hl 2 rfl) ?_
  obtain ⟨hq2, hF⟩ := ifs hF
  obtain ⟨r3, σ3, hc3, hF⟩ := bds hF
  refine x_callv (σ := σ) g (LEm hc3 (mo_F_X3_dropLock a0 a1 _)) (x_runV (As := [vr a1]) (rest := []) cx h (c_X3_dropLock l D dA base a0 a1 hc3) ml_X3_85 mi_X3_dropLock hq2 rfl ⟨Nat.le_of_ble_eq_true rfl, Nat.le_of_ble_eq_true rfl⟩ hl.1 rfl (s8 sN (by decide)) dX3_undo_7 (le_room g (LEm hc3 (mo_F_X3_dropLock a0 a1 _)) (LEm hF (mo_ite (mo_bd (mo_F_X3_dropData a0 a1 (gi σ 2 a1) _) (fun r5 σ5 => (mo_ite (mo_B_X3_undo_27   _) (mo_ite (mo_bd (mo_F_X3_addWrite a0 a1 (gi σ 2 a1) (0 : Int32) _) (fun r8 σ8 => (mo_B_X3_undo_27   _))) mo_none)))) mo_none)))) h (fun H locs h g => ?_)
  refine x_aload_n hx hb dX3_undo_10 rfl (lv_at hl 1 rfl) ?_
  refine x_aload_n hx hb dX3_undo_11 rfl (lv_at hl 2 rfl) ?_
  refine lv_iload_n hx hb dX3_undo_12 rfl (lv_at hl 0 rfl) ?_
  obtain ⟨hq4, hF⟩ := ifs hF
  obtain ⟨r5, σ5, hc5, hF⟩ := bds hF
  refine x_callv (σ := σ3) g (LEm hc5 (mo_F_X3_dropData a0 a1 (gi σ 2 a1) _)) (x_runV (As := [vr a1, .int (gi σ 2 a1)]) (rest := []) cx h (c_X3_dropData l D dA base a0 a1 (gi σ 2 a1) hc5) ml_X3_89 mi_X3_dropData hq4 rfl ⟨Nat.le_of_ble_eq_true rfl, Nat.le_of_ble_eq_true rfl⟩ hl.1 rfl (s8 sN (by decide)) dX3_undo_13 (le_room g (LEm hc5 (mo_F_X3_dropData a0 a1 (gi σ 2 a1) _)) (LEm hF (mo_ite (mo_B_X3_undo_27   _) (mo_ite (mo_bd (mo_F_X3_addWrite a0 a1 (gi σ 2 a1) (0 : Int32) _) (fun r8 σ8 => (mo_B_X3_undo_27   _))) mo_none))))) h (fun H locs h g => ?_)
  refine lv_iload_n hx hb dX3_undo_16 rfl (lv_at hl 3 rfl) ?_
  refine lv_if_eq (tgt := 27) hx hb dX3_undo_17 (by decide) (fun c6 => ?_) (fun c6 => ?_)
  · replace hF := ifp c6 hF
    exact w_X3_undo_27 (σ := σ5) cx    h g (lv_sub hl [] rfl) hF
  · replace hF := ifn c6 hF
    refine x_aload_n hx hb dX3_undo_20 rfl (lv_at hl 1 rfl) ?_
    refine x_aload_n hx hb dX3_undo_21 rfl (lv_at hl 2 rfl) ?_
    refine lv_iload_n hx hb dX3_undo_22 rfl (lv_at hl 0 rfl) ?_
    refine lv_iconst (v := (0 : Int32)) hx hb dX3_undo_23 (by decide) ?_
    obtain ⟨hq7, hF⟩ := ifs hF
    obtain ⟨r8, σ8, hc8, hF⟩ := bds hF
    refine x_callv (σ := σ5) g (LEm hc8 (mo_F_X3_addWrite a0 a1 (gi σ 2 a1) (0 : Int32) _)) (x_runV (As := [vr a1, .int (gi σ 2 a1), .int (0 : Int32)]) (rest := []) cx h (c_X3_addWrite l D dA base a0 a1 (gi σ 2 a1) (0 : Int32) hc8) ml_X3_81 mi_X3_addWrite hq7 rfl ⟨Nat.le_of_ble_eq_true rfl, Nat.le_of_ble_eq_true rfl⟩ hl.1 rfl (s8 sN (by decide)) dX3_undo_24 (le_room g (LEm hc8 (mo_F_X3_addWrite a0 a1 (gi σ 2 a1) (0 : Int32) _)) (LEm hF (mo_B_X3_undo_27   _)))) h (fun H locs h g => ?_)
    exact w_X3_undo_27 (σ := σ8) cx    h g (lv_sub hl [] rfl) hF
def F_X3_clean (a0 : Nat) (a1 : Nat) (σ : HS) : Option (Unit × HS) :=
  if kd σ a0 = 4 then (if kd (si σ 125 a0 ((gi σ 125 a0) + (1 : Int32))) a1 = 1 then (if kd (si σ 125 a0 ((gi σ 125 a0) + (1 : Int32))) (gr (si σ 125 a0 ((gi σ 125 a0) + (1 : Int32))) 120 a0) = 102 ∧ inb (gi (si σ 125 a0 ((gi σ 125 a0) + (1 : Int32))) 3 a1) (ln (si σ 125 a0 ((gi σ 125 a0) + (1 : Int32))) (gr (si σ 125 a0 ((gi σ 125 a0) + (1 : Int32))) 120 a0)) then (bd (F_X3_isDecided a0 a1 (si σ 125 a0 ((gi σ 125 a0) + (1 : Int32)))) (fun r4 σ4 => if r4 = 0 then (if kd σ4 a0 = 4 then (bd (F_X3_undo a0 (ar (si σ 125 a0 ((gi σ 125 a0) + (1 : Int32))) (gr (si σ 125 a0 ((gi σ 125 a0) + (1 : Int32))) 120 a0) (gi (si σ 125 a0 ((gi σ 125 a0) + (1 : Int32))) 3 a1).toNatClampNeg) (1 : Int32) σ4) (fun r19 σ19 => some ((), σ19))) else none) else (if kd σ4 (ar (si σ 125 a0 ((gi σ 125 a0) + (1 : Int32))) (gr (si σ 125 a0 ((gi σ 125 a0) + (1 : Int32))) 120 a0) (gi (si σ 125 a0 ((gi σ 125 a0) + (1 : Int32))) 3 a1).toNatClampNeg) = 1 then (if kd σ4 a1 = 1 then (bd (F_X1_withInfo (gr σ4 1 (ar (si σ 125 a0 ((gi σ 125 a0) + (1 : Int32))) (gr (si σ 125 a0 ((gi σ 125 a0) + (1 : Int32))) 120 a0) (gi (si σ 125 a0 ((gi σ 125 a0) + (1 : Int32))) 3 a1).toNatClampNeg)) (gi σ4 2 a1) σ4) (fun r8 σ8 => if r8 = 0 then (if kd σ8 a0 = 4 then (bd (F_X3_undo a0 a1 (0 : Int32) σ8) (fun r17 σ17 => some ((), σ17))) else none) else (if kd σ8 r8 = 2 then (if kd σ8 a1 = 1 then (if kd σ8 a0 = 4 then (bd (F_X3_addWrite a0 a1 (gi σ8 40 r8) (gi σ8 2 a1) σ8) (fun r13 σ13 => if kd σ13 a0 = 4 then (bd (F_X3_dropLock a0 a1 σ13) (fun r15 σ15 => some ((), σ15))) else none)) else none) else none) else none))) else none) else none))) else none) else none) else none
theorem mo_F_X3_clean (a0 : Nat) (a1 : Nat) (σ : HS) : Mo σ (F_X3_clean a0 a1 σ) := by
  unfold F_X3_clean
  exact (mo_ite (mo_ite (mo_ite (mo_le (τ := (si σ 125 a0 ((gi σ 125 a0) + (1 : Int32)))) ⟨Nat.le_refl _, Nat.le_refl _⟩ (mo_bd (mo_F_X3_isDecided a0 a1 _) (fun r4 σ4 => (mo_ite (mo_ite (mo_bd (mo_F_X3_undo a0 (ar (si σ 125 a0 ((gi σ 125 a0) + (1 : Int32))) (gr (si σ 125 a0 ((gi σ 125 a0) + (1 : Int32))) 120 a0) (gi (si σ 125 a0 ((gi σ 125 a0) + (1 : Int32))) 3 a1).toNatClampNeg) (1 : Int32) _) (fun r19 σ19 => mo_ret)) mo_none) (mo_ite (mo_ite (mo_bd (mo_F_X1_withInfo (gr σ4 1 (ar (si σ 125 a0 ((gi σ 125 a0) + (1 : Int32))) (gr (si σ 125 a0 ((gi σ 125 a0) + (1 : Int32))) 120 a0) (gi (si σ 125 a0 ((gi σ 125 a0) + (1 : Int32))) 3 a1).toNatClampNeg)) (gi σ4 2 a1) _) (fun r8 σ8 => (mo_ite (mo_ite (mo_bd (mo_F_X3_undo a0 a1 (0 : Int32) _) (fun r17 σ17 => mo_ret)) mo_none) (mo_ite (mo_ite (mo_ite (mo_bd (mo_F_X3_addWrite a0 a1 (gi σ8 40 r8) (gi σ8 2 a1) _) (fun r13 σ13 => (mo_ite (mo_bd (mo_F_X3_dropLock a0 a1 _) (fun r15 σ15 => mo_ret)) mo_none))) mo_none) mo_none) mo_none)))) mo_none) mo_none))))) mo_none) mo_none) mo_none)
set_option maxHeartbeats 4000000 in
set_option maxRecDepth 100000 in
theorem c_X3_clean (l : Launch) (D : va_G) (dA : Nat → ClassId) (base : Nat) (a0 : Nat) (a1 : Nat) {σ τ : HS} {r : Unit} (hF : F_X3_clean a0 a1 σ = some (r, τ)) : CT l yX3_clean cX3_clean 4 none 4 89 D dA base [vr a0, vr a1] none σ τ := by
  refine CT.of (lv := [(0, vr a0), (1, vr a1)]) (by decide) (vR (vR vN)) (Nat.le_of_ble_eq_true rfl) rfl ?_
  intro p e s m args below meth c ls cx hl h
  have cx : CX p s m args meth c cX3_clean 4 none RX3 "clean" D dA base := cx
  have g : LE σ σ := LE.rf
  obtain ⟨hx, hb, -⟩ := id cx
  unfold F_X3_clean at hF
  refine x_aload_n hx hb dX3_clean_0 rfl (lv_at hl 0 rfl) ?_
  refine lv_dup hx hb dX3_clean_1 (vr_cat _) ?_
  obtain ⟨hq1, hF⟩ := ifs hF
  refine x_geti cx h fa_X3_64 (f := 125) rfl hq1 dX3_clean_2 ?_
  refine lv_iconst (v := (1 : Int32)) hx hb dX3_clean_5 (by decide) ?_
  refine lv_iadd hx hb dX3_clean_6 ?_
  refine x_sti cx h fa_X3_64 (f := 125) rfl (Or.inl rfl) hq1 dX3_clean_7 (fun H locs h => ?_)
  refine x_aload_n hx hb dX3_clean_10 rfl (lv_at hl 0 rfl) ?_
  refine x_getr cx h fa_X3_11 (f := 120) rfl hq1 dX3_clean_11 ?_
  refine x_aload_n hx hb dX3_clean_14 rfl (lv_at hl 1 rfl) ?_
  obtain ⟨hq2, hF⟩ := ifs hF
  refine x_geti cx h fa_X3_46 (f := 3) rfl hq2 dX3_clean_15 ?_
  obtain ⟨hq3, hF⟩ := ifs hF
  refine x_aald cx h RA2 hq3.1 (inb.vp hq3.2) dX3_clean_18 ?_
  refine x_astore_n (lv' := [(2, vr (ar (si σ 125 a0 ((gi σ 125 a0) + (1 : Int32))) (gr (si σ 125 a0 ((gi σ 125 a0) + (1 : Int32))) 120 a0) (gi (si σ 125 a0 ((gi σ 125 a0) + (1 : Int32))) 3 a1).toNatClampNeg)), (0, vr a0), (1, vr a1)]) hx hb dX3_clean_19 rfl hl (by decide) (cR (cR cN)) rfl (fun ls hl => ?_)
  refine x_aload_n hx hb dX3_clean_20 rfl (lv_at hl 1 rfl) ?_
  refine x_aload_n hx hb dX3_clean_21 rfl (lv_at hl 2 rfl) ?_
  obtain ⟨r4, σ4, hc4, hF⟩ := bds hF
  refine x_calli (σ := (si σ 125 a0 ((gi σ 125 a0) + (1 : Int32)))) g (LEm hc4 (mo_F_X3_isDecided a0 a1 _)) (x_runV (As := [vr a1]) (rest := []) cx h (c_X3_isDecided l D dA base a0 a1 hc4) ml_X3_67 mi_X3_isDecided hq1 rfl ⟨Nat.le_of_ble_eq_true rfl, Nat.le_of_ble_eq_true rfl⟩ hl.1 rfl (s8 sN (by decide)) dX3_clean_22 (le_room g (LEm hc4 (mo_F_X3_isDecided a0 a1 _)) (LEm hF (mo_ite (mo_ite (mo_bd (mo_F_X3_undo a0 (ar (si σ 125 a0 ((gi σ 125 a0) + (1 : Int32))) (gr (si σ 125 a0 ((gi σ 125 a0) + (1 : Int32))) 120 a0) (gi (si σ 125 a0 ((gi σ 125 a0) + (1 : Int32))) 3 a1).toNatClampNeg) (1 : Int32) _) (fun r19 σ19 => mo_ret)) mo_none) (mo_ite (mo_ite (mo_bd (mo_F_X1_withInfo (gr σ4 1 (ar (si σ 125 a0 ((gi σ 125 a0) + (1 : Int32))) (gr (si σ 125 a0 ((gi σ 125 a0) + (1 : Int32))) 120 a0) (gi (si σ 125 a0 ((gi σ 125 a0) + (1 : Int32))) 3 a1).toNatClampNeg)) (gi σ4 2 a1) _) (fun r8 σ8 => (mo_ite (mo_ite (mo_bd (mo_F_X3_undo a0 a1 (0 : Int32) _) (fun r17 σ17 => mo_ret)) mo_none) (mo_ite (mo_ite (mo_ite (mo_bd (mo_F_X3_addWrite a0 a1 (gi σ8 40 r8) (gi σ8 2 a1) _) (fun r13 σ13 => (mo_ite (mo_bd (mo_F_X3_dropLock a0 a1 _) (fun r15 σ15 => mo_ret)) mo_none))) mo_none) mo_none) mo_none)))) mo_none) mo_none))))) h (fun H locs h g => ?_)
  refine lv_if_ne (tgt := 35) hx hb dX3_clean_25 (by decide) (fun c5 => ?_) (fun c5 => ?_)
  · replace hF := ifn c5 hF
    refine x_aload_n hx hb dX3_clean_35 rfl (lv_at hl 0 rfl) ?_
    obtain ⟨hq6, hF⟩ := ifs hF
    refine x_getr cx h fa_X3_39 (f := 1) rfl hq6 dX3_clean_36 ?_
    refine x_aload_n hx hb dX3_clean_39 rfl (lv_at hl 2 rfl) ?_
    obtain ⟨hq7, hF⟩ := ifs hF
    refine x_geti cx h fa_X3_42 (f := 2) rfl hq7 dX3_clean_40 ?_
    obtain ⟨r8, σ8, hc8, hF⟩ := bds hF
    refine x_callr (σ := σ4) g (LEm hc8 (mo_F_X1_withInfo (gr σ4 1 (ar (si σ 125 a0 ((gi σ 125 a0) + (1 : Int32))) (gr (si σ 125 a0 ((gi σ 125 a0) + (1 : Int32))) 120 a0) (gi (si σ 125 a0 ((gi σ 125 a0) + (1 : Int32))) 3 a1).toNatClampNeg)) (gi σ4 2 a1) _)) (x_runS (As := [vr (gr σ4 1 (ar (si σ 125 a0 ((gi σ 125 a0) + (1 : Int32))) (gr (si σ 125 a0 ((gi σ 125 a0) + (1 : Int32))) 120 a0) (gi (si σ 125 a0 ((gi σ 125 a0) + (1 : Int32))) 3 a1).toNatClampNeg)), .int (gi σ4 2 a1)]) (rest := []) cx h (c_X1_withInfo l D dA base (gr σ4 1 (ar (si σ 125 a0 ((gi σ 125 a0) + (1 : Int32))) (gr (si σ 125 a0 ((gi σ 125 a0) + (1 : Int32))) 120 a0) (gi (si σ 125 a0 ((gi σ 125 a0) + (1 : Int32))) 3 a1).toNatClampNeg)) (gi σ4 2 a1) hc8) ml_X3_75 mi_X1_withInfo rfl ⟨Nat.le_of_ble_eq_true rfl, Nat.le_of_ble_eq_true rfl⟩ hl.1 rfl (s8 sN (by decide)) dX3_clean_43 (le_room g (LEm hc8 (mo_F_X1_withInfo (gr σ4 1 (ar (si σ 125 a0 ((gi σ 125 a0) + (1 : Int32))) (gr (si σ 125 a0 ((gi σ 125 a0) + (1 : Int32))) 120 a0) (gi (si σ 125 a0 ((gi σ 125 a0) + (1 : Int32))) 3 a1).toNatClampNeg)) (gi σ4 2 a1) _)) (LEm hF (mo_ite (mo_ite (mo_bd (mo_F_X3_undo a0 a1 (0 : Int32) _) (fun r17 σ17 => mo_ret)) mo_none) (mo_ite (mo_ite (mo_ite (mo_bd (mo_F_X3_addWrite a0 a1 (gi σ8 40 r8) (gi σ8 2 a1) _) (fun r13 σ13 => (mo_ite (mo_bd (mo_F_X3_dropLock a0 a1 _) (fun r15 σ15 => mo_ret)) mo_none))) mo_none) mo_none) mo_none))))) h (fun H locs h g => ?_)
    refine x_astore_n (lv' := [(3, vr r8), (2, vr (ar (si σ 125 a0 ((gi σ 125 a0) + (1 : Int32))) (gr (si σ 125 a0 ((gi σ 125 a0) + (1 : Int32))) 120 a0) (gi (si σ 125 a0 ((gi σ 125 a0) + (1 : Int32))) 3 a1).toNatClampNeg)), (0, vr a0), (1, vr a1)]) hx hb dX3_clean_46 rfl hl (by decide) (cR (cR (cR cN))) rfl (fun ls hl => ?_)
    refine x_aload_n hx hb dX3_clean_47 rfl (lv_at hl 0 rfl) ?_
    refine x_ifnonnull (tgt := 58) hx hb dX3_clean_48 (by decide) (fun c9 => ?_) (fun c9 => ?_)
    · replace hF := ifn c9 hF
      refine x_aload_n hx hb dX3_clean_58 rfl (lv_at hl 2 rfl) ?_
      refine x_aload_n hx hb dX3_clean_59 rfl (lv_at hl 3 rfl) ?_
      refine x_aload_n hx hb dX3_clean_60 rfl (lv_at hl 0 rfl) ?_
      obtain ⟨hq10, hF⟩ := ifs hF
      refine x_geti cx h fa_X3_78 (f := 40) rfl hq10 dX3_clean_61 ?_
      refine x_aload_n hx hb dX3_clean_64 rfl (lv_at hl 3 rfl) ?_
      obtain ⟨hq11, hF⟩ := ifs hF
      refine x_geti cx h fa_X3_42 (f := 2) rfl hq11 dX3_clean_65 ?_
      obtain ⟨hq12, hF⟩ := ifs hF
      obtain ⟨r13, σ13, hc13, hF⟩ := bds hF
      refine x_callv (σ := σ8) g (LEm hc13 (mo_F_X3_addWrite a0 a1 (gi σ8 40 r8) (gi σ8 2 a1) _)) (x_runV (As := [vr a1, .int (gi σ8 40 r8), .int (gi σ8 2 a1)]) (rest := []) cx h (c_X3_addWrite l D dA base a0 a1 (gi σ8 40 r8) (gi σ8 2 a1) hc13) ml_X3_81 mi_X3_addWrite hq12 rfl ⟨Nat.le_of_ble_eq_true rfl, Nat.le_of_ble_eq_true rfl⟩ hl.1 rfl (s8 sN (by decide)) dX3_clean_68 (le_room g (LEm hc13 (mo_F_X3_addWrite a0 a1 (gi σ8 40 r8) (gi σ8 2 a1) _)) (LEm hF (mo_ite (mo_bd (mo_F_X3_dropLock a0 a1 _) (fun r15 σ15 => mo_ret)) mo_none)))) h (fun H locs h g => ?_)
      refine x_aload_n hx hb dX3_clean_71 rfl (lv_at hl 2 rfl) ?_
      refine x_aload_n hx hb dX3_clean_72 rfl (lv_at hl 3 rfl) ?_
      obtain ⟨hq14, hF⟩ := ifs hF
      obtain ⟨r15, σ15, hc15, hF⟩ := bds hF
      refine x_callv (σ := σ13) g (LEm hc15 (mo_F_X3_dropLock a0 a1 _)) (x_runV (As := [vr a1]) (rest := []) cx h (c_X3_dropLock l D dA base a0 a1 hc15) ml_X3_85 mi_X3_dropLock hq14 rfl ⟨Nat.le_of_ble_eq_true rfl, Nat.le_of_ble_eq_true rfl⟩ hl.1 rfl (s8 sN (by decide)) dX3_clean_73 (le_room g (LEm hc15 (mo_F_X3_dropLock a0 a1 _)) (LEm hF mo_ret))) h (fun H locs h g => ?_)
      obtain ⟨rfl, rfl⟩ := rts hF
      exact x_vret cx h dX3_clean_76
    · replace hF := ifp c9 hF
      refine x_aload_n hx hb dX3_clean_51 rfl (lv_at hl 2 rfl) ?_
      refine x_aload_n hx hb dX3_clean_52 rfl (lv_at hl 3 rfl) ?_
      refine lv_iconst (v := (0 : Int32)) hx hb dX3_clean_53 (by decide) ?_
      obtain ⟨hq16, hF⟩ := ifs hF
      obtain ⟨r17, σ17, hc17, hF⟩ := bds hF
      refine x_callv (σ := σ8) g (LEm hc17 (mo_F_X3_undo a0 a1 (0 : Int32) _)) (x_runV (As := [vr a1, .int (0 : Int32)]) (rest := []) cx h (c_X3_undo l D dA base a0 a1 (0 : Int32) hc17) ml_X3_71 mi_X3_undo hq16 rfl ⟨Nat.le_of_ble_eq_true rfl, Nat.le_of_ble_eq_true rfl⟩ hl.1 rfl (s8 sN (by decide)) dX3_clean_54 (le_room g (LEm hc17 (mo_F_X3_undo a0 a1 (0 : Int32) _)) (LEm hF mo_ret))) h (fun H locs h g => ?_)
      obtain ⟨rfl, rfl⟩ := rts hF
      exact x_vret cx h dX3_clean_57
  · replace hF := ifp c5 hF
    refine x_aload_n hx hb dX3_clean_28 rfl (lv_at hl 1 rfl) ?_
    refine x_aload_n hx hb dX3_clean_29 rfl (lv_at hl 0 rfl) ?_
    refine lv_iconst (v := (1 : Int32)) hx hb dX3_clean_30 (by decide) ?_
    obtain ⟨hq18, hF⟩ := ifs hF
    obtain ⟨r19, σ19, hc19, hF⟩ := bds hF
    refine x_callv (σ := σ4) g (LEm hc19 (mo_F_X3_undo a0 (ar (si σ 125 a0 ((gi σ 125 a0) + (1 : Int32))) (gr (si σ 125 a0 ((gi σ 125 a0) + (1 : Int32))) 120 a0) (gi (si σ 125 a0 ((gi σ 125 a0) + (1 : Int32))) 3 a1).toNatClampNeg) (1 : Int32) _)) (x_runV (As := [vr (ar (si σ 125 a0 ((gi σ 125 a0) + (1 : Int32))) (gr (si σ 125 a0 ((gi σ 125 a0) + (1 : Int32))) 120 a0) (gi (si σ 125 a0 ((gi σ 125 a0) + (1 : Int32))) 3 a1).toNatClampNeg), .int (1 : Int32)]) (rest := []) cx h (c_X3_undo l D dA base a0 (ar (si σ 125 a0 ((gi σ 125 a0) + (1 : Int32))) (gr (si σ 125 a0 ((gi σ 125 a0) + (1 : Int32))) 120 a0) (gi (si σ 125 a0 ((gi σ 125 a0) + (1 : Int32))) 3 a1).toNatClampNeg) (1 : Int32) hc19) ml_X3_71 mi_X3_undo hq18 rfl ⟨Nat.le_of_ble_eq_true rfl, Nat.le_of_ble_eq_true rfl⟩ hl.1 rfl (s8 sN (by decide)) dX3_clean_31 (le_room g (LEm hc19 (mo_F_X3_undo a0 (ar (si σ 125 a0 ((gi σ 125 a0) + (1 : Int32))) (gr (si σ 125 a0 ((gi σ 125 a0) + (1 : Int32))) 120 a0) (gi (si σ 125 a0 ((gi σ 125 a0) + (1 : Int32))) 3 a1).toNatClampNeg) (1 : Int32) _)) (LEm hF mo_ret))) h (fun H locs h g => ?_)
    obtain ⟨rfl, rfl⟩ := rts hF
    exact x_vret cx h dX3_clean_34
def B_X3_hasLockNotAbove_36 (k2 : Nat → Int32 → Int32 → HS → Option (Int32 × HS)) (x0 : Nat) (x1 : Int32) (x2 : Int32) (σ : HS) : Option (Int32 × HS) :=
  k2 x0 x1 (x2 + (1 : Int32)) σ
theorem mo_B_X3_hasLockNotAbove_36 {k2 : Nat → Int32 → Int32 → HS → Option (Int32 × HS)} (mk2 : ∀ x0 x1 x2 σ, Mo σ (k2 x0 x1 x2 σ)) (x0 : Nat) (x1 : Int32) (x2 : Int32) (σ : HS) : Mo σ (B_X3_hasLockNotAbove_36 k2 x0 x1 x2 σ) := by
  unfold B_X3_hasLockNotAbove_36
  exact (mk2 x0 x1 (x2 + (1 : Int32)) _)
set_option maxHeartbeats 4000000 in
set_option maxRecDepth 100000 in
theorem w_X3_hasLockNotAbove_36 {p : Program} {l : Launch} {e : Env} {s : State} {m : MethodId} {args : Array Value} {below : List Frame} {meth : Method} {c : Code} {D : va_G} {dA : Nat → ClassId} {base : Nat} {σ0 τ : HS} {r : Int32} (cx : CX p s m args meth c cX3_hasLockNotAbove 3 (some .boolean) RX3 "hasLockNotAbove" D dA base) {k2 : Nat → Int32 → Int32 → HS → Option (Int32 × HS)} (mk2 : ∀ x0 x1 x2 σ, Mo σ (k2 x0 x1 x2 σ)) (hk2 : ∀ x0 x1 x2 σ H locs ls, Wd D dA base σ s H locs → LE σ0 σ → lv_has ls 3 [(0, vr x0), (1, .int x1), (2, .int x2)] → k2 x0 x1 x2 σ = some (r, τ) → WG p l e s m args below meth c D dA base 1 20 (some (.int r)) σ0 τ σ H locs 2 ls []) (x0 : Nat) (x1 : Int32) (x2 : Int32) {σ : HS} {H : Heap} {locs : List Loc} {ls : Array Slot} (h : Wd D dA base σ s H locs) (g : LE σ0 σ) (hl : lv_has ls 3 [(0, vr x0), (1, .int x1), (2, .int x2)]) (hF : B_X3_hasLockNotAbove_36 k2 x0 x1 x2 σ = some (r, τ)) : WG p l e s m args below meth c D dA base 1 20 (some (.int r)) σ0 τ σ H locs 36 ls [] := by
  obtain ⟨hx, hb, -⟩ := id cx
  unfold B_X3_hasLockNotAbove_36 at hF
  refine x_iinc (k := 2) (v := (1 : Int32)) (lv' := [(2, .int (x2 + (1 : Int32))), (0, vr x0), (1, .int x1)]) hx hb dX3_hasLockNotAbove_36 hl rfl (by decide) (by decide) (cR (cI (cI cN))) rfl (fun ls hl => ?_)
  refine lv_goto (tgt := 2) hx hb dX3_hasLockNotAbove_39 (by decide) ?_
  exact hk2 x0 x1 (x2 + (1 : Int32)) σ _ _ _ h g (lv_sub hl [1, 2, 0] rfl) hF
def B_X3_hasLockNotAbove_2 (k2 : Nat → Int32 → Int32 → HS → Option (Int32 × HS)) (x0 : Nat) (x1 : Int32) (x2 : Int32) (σ : HS) : Option (Int32 × HS) :=
  if (256 : Int32) ≤ x2 then (some ((0 : Int32), σ)) else (if kd σ x0 = 4 then (if kd σ (gr σ 120 x0) = 102 ∧ inb x2 (ln σ (gr σ 120 x0)) then (if kd σ (ar σ (gr σ 120 x0) x2.toNatClampNeg) = 1 then (bd (F_X0_isLocked (ar σ (gr σ 120 x0) x2.toNatClampNeg) σ) (fun r5 σ5 => if r5 = 0 then (B_X3_hasLockNotAbove_36 k2 x0 x1 x2 σ5) else (if kd σ5 x0 = 4 then (if kd σ5 (gr σ5 120 x0) = 102 ∧ inb x2 (ln σ5 (gr σ5 120 x0)) then (if kd σ5 (ar σ5 (gr σ5 120 x0) x2.toNatClampNeg) = 1 then (if x1 < (gi σ5 2 (ar σ5 (gr σ5 120 x0) x2.toNatClampNeg)) then (B_X3_hasLockNotAbove_36 k2 x0 x1 x2 σ5) else (some ((1 : Int32), σ5))) else none) else none) else none))) else none) else none) else none)
theorem mo_B_X3_hasLockNotAbove_2 {k2 : Nat → Int32 → Int32 → HS → Option (Int32 × HS)} (mk2 : ∀ x0 x1 x2 σ, Mo σ (k2 x0 x1 x2 σ)) (x0 : Nat) (x1 : Int32) (x2 : Int32) (σ : HS) : Mo σ (B_X3_hasLockNotAbove_2 k2 x0 x1 x2 σ) := by
  unfold B_X3_hasLockNotAbove_2
  exact (mo_ite mo_ret (mo_ite (mo_ite (mo_ite (mo_bd (mo_F_X0_isLocked (ar σ (gr σ 120 x0) x2.toNatClampNeg) _) (fun r5 σ5 => (mo_ite (mo_B_X3_hasLockNotAbove_36 mk2 x0 x1 x2 _) (mo_ite (mo_ite (mo_ite (mo_ite (mo_B_X3_hasLockNotAbove_36 mk2 x0 x1 x2 _) mo_ret) mo_none) mo_none) mo_none)))) mo_none) mo_none) mo_none))
set_option maxHeartbeats 4000000 in
set_option maxRecDepth 100000 in
theorem w_X3_hasLockNotAbove_2 {p : Program} {l : Launch} {e : Env} {s : State} {m : MethodId} {args : Array Value} {below : List Frame} {meth : Method} {c : Code} {D : va_G} {dA : Nat → ClassId} {base : Nat} {σ0 τ : HS} {r : Int32} (cx : CX p s m args meth c cX3_hasLockNotAbove 3 (some .boolean) RX3 "hasLockNotAbove" D dA base) {k2 : Nat → Int32 → Int32 → HS → Option (Int32 × HS)} (mk2 : ∀ x0 x1 x2 σ, Mo σ (k2 x0 x1 x2 σ)) (hk2 : ∀ x0 x1 x2 σ H locs ls, Wd D dA base σ s H locs → LE σ0 σ → lv_has ls 3 [(0, vr x0), (1, .int x1), (2, .int x2)] → k2 x0 x1 x2 σ = some (r, τ) → WG p l e s m args below meth c D dA base 1 20 (some (.int r)) σ0 τ σ H locs 2 ls []) (x0 : Nat) (x1 : Int32) (x2 : Int32) {σ : HS} {H : Heap} {locs : List Loc} {ls : Array Slot} (h : Wd D dA base σ s H locs) (g : LE σ0 σ) (hl : lv_has ls 3 [(0, vr x0), (1, .int x1), (2, .int x2)]) (hF : B_X3_hasLockNotAbove_2 k2 x0 x1 x2 σ = some (r, τ)) : WG p l e s m args below meth c D dA base 1 20 (some (.int r)) σ0 τ σ H locs 2 ls [] := by
  obtain ⟨hx, hb, -⟩ := id cx
  unfold B_X3_hasLockNotAbove_2 at hF
  refine lv_iload_n hx hb dX3_hasLockNotAbove_2 rfl (lv_at hl 2 rfl) ?_
  refine lv_sipush (v := (256 : Int32)) hx hb dX3_hasLockNotAbove_3 (by decide) ?_
  refine lv_icmp_ge (tgt := 42) hx hb dX3_hasLockNotAbove_6 (by decide) (fun c1 => ?_) (fun c1 => ?_)
  · replace hF := ifp c1 hF
    refine lv_iconst (v := (0 : Int32)) hx hb dX3_hasLockNotAbove_42 (by decide) ?_
    obtain ⟨rfl, rfl⟩ := rts hF
    exact x_zret cx h (Or.inl rfl) dX3_hasLockNotAbove_43
  · replace hF := ifn c1 hF
    refine x_aload_n hx hb dX3_hasLockNotAbove_9 rfl (lv_at hl 0 rfl) ?_
    obtain ⟨hq2, hF⟩ := ifs hF
    refine x_getr cx h fa_X3_11 (f := 120) rfl hq2 dX3_hasLockNotAbove_10 ?_
    refine lv_iload_n hx hb dX3_hasLockNotAbove_13 rfl (lv_at hl 2 rfl) ?_
    obtain ⟨hq3, hF⟩ := ifs hF
    refine x_aald cx h RA2 hq3.1 (inb.vp hq3.2) dX3_hasLockNotAbove_14 ?_
    obtain ⟨hq4, hF⟩ := ifs hF
    obtain ⟨r5, σ5, hc5, hF⟩ := bds hF
    refine x_calli (σ := σ) g (LEm hc5 (mo_F_X0_isLocked (ar σ (gr σ 120 x0) x2.toNatClampNeg) _)) (x_runV (As := []) (rest := []) cx h (c_X0_isLocked l D dA base (ar σ (gr σ 120 x0) x2.toNatClampNeg) hc5) ml_X3_93 mi_X0_isLocked hq4 rfl ⟨Nat.le_of_ble_eq_true rfl, Nat.le_of_ble_eq_true rfl⟩ hl.1 rfl (s8 sN (by decide)) dX3_hasLockNotAbove_15 (le_room g (LEm hc5 (mo_F_X0_isLocked (ar σ (gr σ 120 x0) x2.toNatClampNeg) _)) (LEm hF (mo_ite (mo_B_X3_hasLockNotAbove_36 mk2 x0 x1 x2 _) (mo_ite (mo_ite (mo_ite (mo_ite (mo_B_X3_hasLockNotAbove_36 mk2 x0 x1 x2 _) mo_ret) mo_none) mo_none) mo_none))))) h (fun H locs h g => ?_)
    refine lv_if_eq (tgt := 36) hx hb dX3_hasLockNotAbove_18 (by decide) (fun c6 => ?_) (fun c6 => ?_)
    · replace hF := ifp c6 hF
      exact w_X3_hasLockNotAbove_36 (σ := σ5) cx mk2 hk2 x0 x1 x2 h g (lv_sub hl [0, 1, 2] rfl) hF
    · replace hF := ifn c6 hF
      refine x_aload_n hx hb dX3_hasLockNotAbove_21 rfl (lv_at hl 0 rfl) ?_
      obtain ⟨hq7, hF⟩ := ifs hF
      refine x_getr cx h fa_X3_11 (f := 120) rfl hq7 dX3_hasLockNotAbove_22 ?_
      refine lv_iload_n hx hb dX3_hasLockNotAbove_25 rfl (lv_at hl 2 rfl) ?_
      obtain ⟨hq8, hF⟩ := ifs hF
      refine x_aald cx h RA2 hq8.1 (inb.vp hq8.2) dX3_hasLockNotAbove_26 ?_
      obtain ⟨hq9, hF⟩ := ifs hF
      refine x_geti cx h fa_X3_42 (f := 2) rfl hq9 dX3_hasLockNotAbove_27 ?_
      refine lv_iload_n hx hb dX3_hasLockNotAbove_30 rfl (lv_at hl 1 rfl) ?_
      refine lv_icmp_gt (tgt := 36) hx hb dX3_hasLockNotAbove_31 (by decide) (fun c10 => ?_) (fun c10 => ?_)
      · replace hF := ifp c10 hF
        exact w_X3_hasLockNotAbove_36 (σ := σ5) cx mk2 hk2 x0 x1 x2 h g (lv_sub hl [0, 1, 2] rfl) hF
      · replace hF := ifn c10 hF
        refine lv_iconst (v := (1 : Int32)) hx hb dX3_hasLockNotAbove_34 (by decide) ?_
        obtain ⟨rfl, rfl⟩ := rts hF
        exact x_zret cx h (Or.inr rfl) dX3_hasLockNotAbove_35
def L_X3_hasLockNotAbove_2  : Nat → Nat → Int32 → Int32 → HS → Option (Int32 × HS)
  | 0, _, _, _, _ => none
  | N + 1, x0, x1, x2, σ => B_X3_hasLockNotAbove_2 (L_X3_hasLockNotAbove_2  N) x0 x1 x2 σ
theorem mo_L_X3_hasLockNotAbove_2  : ∀ (N : Nat) (x0 : Nat) (x1 : Int32) (x2 : Int32) (σ : HS), Mo σ (L_X3_hasLockNotAbove_2  N x0 x1 x2 σ) := by
  intro N
  induction N with
  | zero => intro x0 x1 x2 σ; exact mo_none
  | succ N ih => intro x0 x1 x2 σ; exact mo_B_X3_hasLockNotAbove_2 ih x0 x1 x2 σ
theorem wl_X3_hasLockNotAbove_2 {p : Program} {l : Launch} {e : Env} {s : State} {m : MethodId} {args : Array Value} {below : List Frame} {meth : Method} {c : Code} {D : va_G} {dA : Nat → ClassId} {base : Nat} {σ0 τ : HS} {r : Int32} (cx : CX p s m args meth c cX3_hasLockNotAbove 3 (some .boolean) RX3 "hasLockNotAbove" D dA base)  : ∀ (N : Nat) (x0 : Nat) (x1 : Int32) (x2 : Int32) (σ : HS) (H : Heap) (locs : List Loc) (ls : Array Slot), Wd D dA base σ s H locs → LE σ0 σ → lv_has ls 3 [(0, vr x0), (1, .int x1), (2, .int x2)] → L_X3_hasLockNotAbove_2  N x0 x1 x2 σ = some (r, τ) → WG p l e s m args below meth c D dA base 1 20 (some (.int r)) σ0 τ σ H locs 2 ls [] := by
  intro N
  induction N with
  | zero => intro x0 x1 x2 σ H locs ls h g hl hF; cases hF
  | succ N ih => intro x0 x1 x2 σ H locs ls h g hl hF; exact w_X3_hasLockNotAbove_2 cx (mo_L_X3_hasLockNotAbove_2  N) ih x0 x1 x2 h g hl hF
def F_X3_hasLockNotAbove (a0 : Nat) (a1 : Int32) (σ : HS) : Option (Int32 × HS) :=
  L_X3_hasLockNotAbove_2  NF a0 a1 (0 : Int32) σ
theorem mo_F_X3_hasLockNotAbove (a0 : Nat) (a1 : Int32) (σ : HS) : Mo σ (F_X3_hasLockNotAbove a0 a1 σ) := by
  unfold F_X3_hasLockNotAbove
  exact (mo_L_X3_hasLockNotAbove_2  NF a0 a1 (0 : Int32) _)
set_option maxHeartbeats 4000000 in
set_option maxRecDepth 100000 in
theorem c_X3_hasLockNotAbove (l : Launch) (D : va_G) (dA : Nat → ClassId) (base : Nat) (a0 : Nat) (a1 : Int32) {σ τ : HS} {r : Int32} (hF : F_X3_hasLockNotAbove a0 a1 σ = some (r, τ)) : CT l yX3_hasLockNotAbove cX3_hasLockNotAbove 3 (some .boolean) 1 20 D dA base [vr a0, .int a1] (some (.int r)) σ τ := by
  refine CT.of (lv := [(0, vr a0), (1, .int a1)]) (by decide) (vR (vI vN)) (Nat.le_of_ble_eq_true rfl) rfl ?_
  intro p e s m args below meth c ls cx hl h
  have cx : CX p s m args meth c cX3_hasLockNotAbove 3 (some .boolean) RX3 "hasLockNotAbove" D dA base := cx
  have g : LE σ σ := LE.rf
  obtain ⟨hx, hb, -⟩ := id cx
  unfold F_X3_hasLockNotAbove at hF
  refine lv_iconst (v := (0 : Int32)) hx hb dX3_hasLockNotAbove_0 (by decide) ?_
  refine x_istore_n (lv' := [(2, .int (0 : Int32)), (0, vr a0), (1, .int a1)]) hx hb dX3_hasLockNotAbove_1 rfl hl (by decide) (cR (cI cN)) rfl (fun ls hl => ?_)
  exact wl_X3_hasLockNotAbove_2 cx   NF a0 a1 (0 : Int32) σ _ _ _ h g (lv_sub hl [1, 2, 0] rfl) hF
def B_X3_dropUnseenOf_84 (k8 : Nat → Nat → Int32 → Int32 → Nat → HS → Option (Unit × HS)) (x0 : Nat) (x1 : Nat) (x2 : Int32) (x3 : Int32) (x4 : Nat) (σ : HS) : Option (Unit × HS) :=
  if kd σ x4 = 2 then (k8 x0 x1 x2 x3 (gr σ 42 x4) σ) else none
theorem mo_B_X3_dropUnseenOf_84 {k8 : Nat → Nat → Int32 → Int32 → Nat → HS → Option (Unit × HS)} (mk8 : ∀ x0 x1 x2 x3 x4 σ, Mo σ (k8 x0 x1 x2 x3 x4 σ)) (x0 : Nat) (x1 : Nat) (x2 : Int32) (x3 : Int32) (x4 : Nat) (σ : HS) : Mo σ (B_X3_dropUnseenOf_84 k8 x0 x1 x2 x3 x4 σ) := by
  unfold B_X3_dropUnseenOf_84
  exact (mo_ite (mk8 x0 x1 x2 x3 (gr σ 42 x4) _) mo_none)
set_option maxHeartbeats 4000000 in
set_option maxRecDepth 100000 in
theorem w_X3_dropUnseenOf_84 {p : Program} {l : Launch} {e : Env} {s : State} {m : MethodId} {args : Array Value} {below : List Frame} {meth : Method} {c : Code} {D : va_G} {dA : Nat → ClassId} {base : Nat} {σ0 τ : HS} {r : Unit} (cx : CX p s m args meth c cX3_dropUnseenOf 5 none RX3 "dropUnseenOf" D dA base) {k8 : Nat → Nat → Int32 → Int32 → Nat → HS → Option (Unit × HS)} (mk8 : ∀ x0 x1 x2 x3 x4 σ, Mo σ (k8 x0 x1 x2 x3 x4 σ)) (hk8 : ∀ x0 x1 x2 x3 x4 σ H locs ls, Wd D dA base σ s H locs → LE σ0 σ → lv_has ls 5 [(0, vr x0), (1, vr x1), (2, .int x2), (3, .int x3), (4, vr x4)] → k8 x0 x1 x2 x3 x4 σ = some (r, τ) → WG p l e s m args below meth c D dA base 2 45 none σ0 τ σ H locs 8 ls []) (x0 : Nat) (x1 : Nat) (x2 : Int32) (x3 : Int32) (x4 : Nat) {σ : HS} {H : Heap} {locs : List Loc} {ls : Array Slot} (h : Wd D dA base σ s H locs) (g : LE σ0 σ) (hl : lv_has ls 5 [(0, vr x0), (1, vr x1), (2, .int x2), (3, .int x3), (4, vr x4)]) (hF : B_X3_dropUnseenOf_84 k8 x0 x1 x2 x3 x4 σ = some (r, τ)) : WG p l e s m args below meth c D dA base 2 45 none σ0 τ σ H locs 84 ls [] := by
  obtain ⟨hx, hb, -⟩ := id cx
  unfold B_X3_dropUnseenOf_84 at hF
  refine x_aload hx hb dX3_dropUnseenOf_84 (lv_at hl 4 rfl) ?_
  obtain ⟨hq1, hF⟩ := ifs hF
  refine x_getr cx h fa_X3_111 (f := 42) rfl hq1 dX3_dropUnseenOf_86 ?_
  refine x_astore (lv' := [(4, vr (gr σ 42 x4)), (0, vr x0), (1, vr x1), (2, .int x2), (3, .int x3)]) hx hb dX3_dropUnseenOf_89 hl (by decide) (cR (cR (cI (cI (cR cN))))) rfl (fun ls hl => ?_)
  refine lv_goto (tgt := 8) hx hb dX3_dropUnseenOf_91 (by decide) ?_
  exact hk8 x0 x1 x2 x3 (gr σ 42 x4) σ _ _ _ h g (lv_sub hl [1, 2, 3, 4, 0] rfl) hF
def B_X3_dropUnseenOf_60 (k8 : Nat → Nat → Int32 → Int32 → Nat → HS → Option (Unit × HS)) (x0 : Nat) (x1 : Nat) (x2 : Int32) (x4 : Nat) (σ : HS) : Option (Unit × HS) :=
  if kd σ x0 = 4 then (bd (F_X3_dropWrite x0 x1 x4 σ) (fun r2 σ2 => if kd σ2 x4 = 2 then (if kd σ2 x0 = 4 then (bd (F_X3_dropData x0 x1 (gi σ2 41 x4) σ2) (fun r5 σ5 => B_X3_dropUnseenOf_84 k8 x0 x1 x2 (1 : Int32) x4 σ5)) else none) else none)) else none
theorem mo_B_X3_dropUnseenOf_60 {k8 : Nat → Nat → Int32 → Int32 → Nat → HS → Option (Unit × HS)} (mk8 : ∀ x0 x1 x2 x3 x4 σ, Mo σ (k8 x0 x1 x2 x3 x4 σ)) (x0 : Nat) (x1 : Nat) (x2 : Int32) (x4 : Nat) (σ : HS) : Mo σ (B_X3_dropUnseenOf_60 k8 x0 x1 x2 x4 σ) := by
  unfold B_X3_dropUnseenOf_60
  exact (mo_ite (mo_bd (mo_F_X3_dropWrite x0 x1 x4 _) (fun r2 σ2 => (mo_ite (mo_ite (mo_bd (mo_F_X3_dropData x0 x1 (gi σ2 41 x4) _) (fun r5 σ5 => (mo_B_X3_dropUnseenOf_84 mk8 x0 x1 x2 (1 : Int32) x4 _))) mo_none) mo_none))) mo_none)
set_option maxHeartbeats 4000000 in
set_option maxRecDepth 100000 in
theorem w_X3_dropUnseenOf_60 {p : Program} {l : Launch} {e : Env} {s : State} {m : MethodId} {args : Array Value} {below : List Frame} {meth : Method} {c : Code} {D : va_G} {dA : Nat → ClassId} {base : Nat} {σ0 τ : HS} {r : Unit} (cx : CX p s m args meth c cX3_dropUnseenOf 5 none RX3 "dropUnseenOf" D dA base) {k8 : Nat → Nat → Int32 → Int32 → Nat → HS → Option (Unit × HS)} (mk8 : ∀ x0 x1 x2 x3 x4 σ, Mo σ (k8 x0 x1 x2 x3 x4 σ)) (hk8 : ∀ x0 x1 x2 x3 x4 σ H locs ls, Wd D dA base σ s H locs → LE σ0 σ → lv_has ls 5 [(0, vr x0), (1, vr x1), (2, .int x2), (3, .int x3), (4, vr x4)] → k8 x0 x1 x2 x3 x4 σ = some (r, τ) → WG p l e s m args below meth c D dA base 2 45 none σ0 τ σ H locs 8 ls []) (x0 : Nat) (x1 : Nat) (x2 : Int32) (x4 : Nat) {σ : HS} {H : Heap} {locs : List Loc} {ls : Array Slot} (h : Wd D dA base σ s H locs) (g : LE σ0 σ) (hl : lv_has ls 5 [(0, vr x0), (1, vr x1), (2, .int x2), (4, vr x4)]) (hF : B_X3_dropUnseenOf_60 k8 x0 x1 x2 x4 σ = some (r, τ)) : WG p l e s m args below meth c D dA base 2 45 none σ0 τ σ H locs 60 ls [] := by
  obtain ⟨hx, hb, -⟩ := id cx
  unfold B_X3_dropUnseenOf_60 at hF
  refine lv_iconst (v := (1 : Int32)) hx hb dX3_dropUnseenOf_60 (by decide) ?_
  refine x_istore_n (lv' := [(3, .int (1 : Int32)), (0, vr x0), (1, vr x1), (2, .int x2), (4, vr x4)]) hx hb dX3_dropUnseenOf_61 rfl hl (by decide) (cR (cR (cI (cR cN)))) rfl (fun ls hl => ?_)
  refine x_aload_n hx hb dX3_dropUnseenOf_62 rfl (lv_at hl 1 rfl) ?_
  refine x_aload_n hx hb dX3_dropUnseenOf_63 rfl (lv_at hl 2 rfl) ?_
  refine x_aload hx hb dX3_dropUnseenOf_64 (lv_at hl 4 rfl) ?_
  obtain ⟨hq1, hF⟩ := ifs hF
  obtain ⟨r2, σ2, hc2, hF⟩ := bds hF
  refine x_callv (σ := σ) g (LEm hc2 (mo_F_X3_dropWrite x0 x1 x4 _)) (x_runV (As := [vr x1, vr x4]) (rest := []) cx h (c_X3_dropWrite l D dA base x0 x1 x4 hc2) ml_X3_103 mi_X3_dropWrite hq1 rfl ⟨Nat.le_of_ble_eq_true rfl, Nat.le_of_ble_eq_true rfl⟩ hl.1 rfl (s8 sN (by decide)) dX3_dropUnseenOf_66 (le_room g (LEm hc2 (mo_F_X3_dropWrite x0 x1 x4 _)) (LEm hF (mo_ite (mo_ite (mo_bd (mo_F_X3_dropData x0 x1 (gi σ2 41 x4) _) (fun r5 σ5 => (mo_B_X3_dropUnseenOf_84 mk8 x0 x1 x2 (1 : Int32) x4 _))) mo_none) mo_none)))) h (fun H locs h g => ?_)
  refine x_aload_n hx hb dX3_dropUnseenOf_69 rfl (lv_at hl 1 rfl) ?_
  refine x_aload_n hx hb dX3_dropUnseenOf_70 rfl (lv_at hl 2 rfl) ?_
  refine x_aload hx hb dX3_dropUnseenOf_71 (lv_at hl 4 rfl) ?_
  obtain ⟨hq3, hF⟩ := ifs hF
  refine x_geti cx h fa_X3_100 (f := 41) rfl hq3 dX3_dropUnseenOf_73 ?_
  obtain ⟨hq4, hF⟩ := ifs hF
  obtain ⟨r5, σ5, hc5, hF⟩ := bds hF
  refine x_callv (σ := σ2) g (LEm hc5 (mo_F_X3_dropData x0 x1 (gi σ2 41 x4) _)) (x_runV (As := [vr x1, .int (gi σ2 41 x4)]) (rest := []) cx h (c_X3_dropData l D dA base x0 x1 (gi σ2 41 x4) hc5) ml_X3_89 mi_X3_dropData hq4 rfl ⟨Nat.le_of_ble_eq_true rfl, Nat.le_of_ble_eq_true rfl⟩ hl.1 rfl (s8 sN (by decide)) dX3_dropUnseenOf_76 (le_room g (LEm hc5 (mo_F_X3_dropData x0 x1 (gi σ2 41 x4) _)) (LEm hF (mo_B_X3_dropUnseenOf_84 mk8 x0 x1 x2 (1 : Int32) x4 _)))) h (fun H locs h g => ?_)
  refine lv_goto (tgt := 84) hx hb dX3_dropUnseenOf_79 (by decide) ?_
  exact w_X3_dropUnseenOf_84 (σ := σ5) cx mk8 hk8 x0 x1 x2 (1 : Int32) x4 h g (lv_sub hl [1, 2, 3, 0, 4] rfl) hF
def B_X3_dropUnseenOf_8 (k8 : Nat → Nat → Int32 → Int32 → Nat → HS → Option (Unit × HS)) (x0 : Nat) (x1 : Nat) (x2 : Int32) (x3 : Int32) (x4 : Nat) (σ : HS) : Option (Unit × HS) :=
  if x4 = 0 then (some ((), σ)) else (if kd σ x4 = 2 then (if (gi σ 40 x4) ≤ x2 then (if (gi σ 41 x4) = 0 then (if kd σ x0 = 4 then (bd (F_X3_dropWrite x0 x1 x4 σ) (fun r10 σ10 => B_X3_dropUnseenOf_84 k8 x0 x1 x2 x3 x4 σ10)) else none) else (if x3 = 0 then (if kd σ x1 = 1 then (bd (F_X0_valueOf x1 (gi σ 41 x4) σ) (fun r7 σ7 => if r7 = (-1 : Int32) then (B_X3_dropUnseenOf_60 k8 x0 x1 x2 x4 σ7) else (B_X3_dropUnseenOf_84 k8 x0 x1 x2 (1 : Int32) x4 σ7))) else none) else (B_X3_dropUnseenOf_60 k8 x0 x1 x2 x4 σ))) else (B_X3_dropUnseenOf_84 k8 x0 x1 x2 x3 x4 σ)) else none)
theorem mo_B_X3_dropUnseenOf_8 {k8 : Nat → Nat → Int32 → Int32 → Nat → HS → Option (Unit × HS)} (mk8 : ∀ x0 x1 x2 x3 x4 σ, Mo σ (k8 x0 x1 x2 x3 x4 σ)) (x0 : Nat) (x1 : Nat) (x2 : Int32) (x3 : Int32) (x4 : Nat) (σ : HS) : Mo σ (B_X3_dropUnseenOf_8 k8 x0 x1 x2 x3 x4 σ) := by
  unfold B_X3_dropUnseenOf_8
  exact (mo_ite mo_ret (mo_ite (mo_ite (mo_ite (mo_ite (mo_bd (mo_F_X3_dropWrite x0 x1 x4 _) (fun r10 σ10 => (mo_B_X3_dropUnseenOf_84 mk8 x0 x1 x2 x3 x4 _))) mo_none) (mo_ite (mo_ite (mo_bd (mo_F_X0_valueOf x1 (gi σ 41 x4) _) (fun r7 σ7 => (mo_ite (mo_B_X3_dropUnseenOf_60 mk8 x0 x1 x2 x4 _) (mo_B_X3_dropUnseenOf_84 mk8 x0 x1 x2 (1 : Int32) x4 _)))) mo_none) (mo_B_X3_dropUnseenOf_60 mk8 x0 x1 x2 x4 _))) (mo_B_X3_dropUnseenOf_84 mk8 x0 x1 x2 x3 x4 _)) mo_none))
set_option maxHeartbeats 4000000 in
set_option maxRecDepth 100000 in
theorem w_X3_dropUnseenOf_8 {p : Program} {l : Launch} {e : Env} {s : State} {m : MethodId} {args : Array Value} {below : List Frame} {meth : Method} {c : Code} {D : va_G} {dA : Nat → ClassId} {base : Nat} {σ0 τ : HS} {r : Unit} (cx : CX p s m args meth c cX3_dropUnseenOf 5 none RX3 "dropUnseenOf" D dA base) {k8 : Nat → Nat → Int32 → Int32 → Nat → HS → Option (Unit × HS)} (mk8 : ∀ x0 x1 x2 x3 x4 σ, Mo σ (k8 x0 x1 x2 x3 x4 σ)) (hk8 : ∀ x0 x1 x2 x3 x4 σ H locs ls, Wd D dA base σ s H locs → LE σ0 σ → lv_has ls 5 [(0, vr x0), (1, vr x1), (2, .int x2), (3, .int x3), (4, vr x4)] → k8 x0 x1 x2 x3 x4 σ = some (r, τ) → WG p l e s m args below meth c D dA base 2 45 none σ0 τ σ H locs 8 ls []) (x0 : Nat) (x1 : Nat) (x2 : Int32) (x3 : Int32) (x4 : Nat) {σ : HS} {H : Heap} {locs : List Loc} {ls : Array Slot} (h : Wd D dA base σ s H locs) (g : LE σ0 σ) (hl : lv_has ls 5 [(0, vr x0), (1, vr x1), (2, .int x2), (3, .int x3), (4, vr x4)]) (hF : B_X3_dropUnseenOf_8 k8 x0 x1 x2 x3 x4 σ = some (r, τ)) : WG p l e s m args below meth c D dA base 2 45 none σ0 τ σ H locs 8 ls [] := by
  obtain ⟨hx, hb, -⟩ := id cx
  unfold B_X3_dropUnseenOf_8 at hF
  refine x_aload hx hb dX3_dropUnseenOf_8 (lv_at hl 4 rfl) ?_
  refine x_ifnull (tgt := 94) hx hb dX3_dropUnseenOf_10 (by decide) (fun c1 => ?_) (fun c1 => ?_)
  · replace hF := ifp c1 hF
    obtain ⟨rfl, rfl⟩ := rts hF
    exact x_vret cx h dX3_dropUnseenOf_94
  · replace hF := ifn c1 hF
    refine x_aload hx hb dX3_dropUnseenOf_13 (lv_at hl 4 rfl) ?_
    obtain ⟨hq2, hF⟩ := ifs hF
    refine x_geti cx h fa_X3_78 (f := 40) rfl hq2 dX3_dropUnseenOf_15 ?_
    refine lv_iload_n hx hb dX3_dropUnseenOf_18 rfl (lv_at hl 2 rfl) ?_
    refine lv_icmp_le (tgt := 25) hx hb dX3_dropUnseenOf_19 (by decide) (fun c3 => ?_) (fun c3 => ?_)
    · replace hF := ifp c3 hF
      refine x_aload hx hb dX3_dropUnseenOf_25 (lv_at hl 4 rfl) ?_
      refine x_geti cx h fa_X3_100 (f := 41) rfl hq2 dX3_dropUnseenOf_27 ?_
      refine lv_if_ne (tgt := 43) hx hb dX3_dropUnseenOf_30 (by decide) (fun c4 => ?_) (fun c4 => ?_)
      · replace hF := ifn c4 hF
        refine lv_iload_n hx hb dX3_dropUnseenOf_43 rfl (lv_at hl 3 rfl) ?_
        refine lv_if_ne (tgt := 60) hx hb dX3_dropUnseenOf_44 (by decide) (fun c5 => ?_) (fun c5 => ?_)
        · replace hF := ifn c5 hF
          exact w_X3_dropUnseenOf_60 (σ := σ) cx mk8 hk8 x0 x1 x2 x4 h g (lv_sub hl [0, 1, 2, 4] rfl) hF
        · replace hF := ifp c5 hF
          refine x_aload_n hx hb dX3_dropUnseenOf_47 rfl (lv_at hl 1 rfl) ?_
          refine x_aload hx hb dX3_dropUnseenOf_48 (lv_at hl 4 rfl) ?_
          refine x_geti cx h fa_X3_100 (f := 41) rfl hq2 dX3_dropUnseenOf_50 ?_
          obtain ⟨hq6, hF⟩ := ifs hF
          obtain ⟨r7, σ7, hc7, hF⟩ := bds hF
          refine x_calli (σ := σ) g (LEm hc7 (mo_F_X0_valueOf x1 (gi σ 41 x4) _)) (x_runV (As := [.int (gi σ 41 x4)]) (rest := []) cx h (c_X0_valueOf l D dA base x1 (gi σ 41 x4) hc7) ml_X3_107 mi_X0_valueOf hq6 rfl ⟨Nat.le_of_ble_eq_true rfl, Nat.le_of_ble_eq_true rfl⟩ hl.1 rfl (s8 sN (by decide)) dX3_dropUnseenOf_53 (le_room g (LEm hc7 (mo_F_X0_valueOf x1 (gi σ 41 x4) _)) (LEm hF (mo_ite (mo_B_X3_dropUnseenOf_60 mk8 x0 x1 x2 x4 _) (mo_B_X3_dropUnseenOf_84 mk8 x0 x1 x2 (1 : Int32) x4 _))))) h (fun H locs h g => ?_)
          refine lv_iconst (v := (-1 : Int32)) hx hb dX3_dropUnseenOf_56 (by decide) ?_
          refine lv_icmp_ne (tgt := 82) hx hb dX3_dropUnseenOf_57 (by decide) (fun c8 => ?_) (fun c8 => ?_)
          · replace hF := ifn c8 hF
            refine lv_iconst (v := (1 : Int32)) hx hb dX3_dropUnseenOf_82 (by decide) ?_
            refine x_istore_n (lv' := [(3, .int (1 : Int32)), (0, vr x0), (1, vr x1), (2, .int x2), (4, vr x4)]) hx hb dX3_dropUnseenOf_83 rfl hl (by decide) (cR (cR (cI (cI (cR cN))))) rfl (fun ls hl => ?_)
            exact w_X3_dropUnseenOf_84 (σ := σ7) cx mk8 hk8 x0 x1 x2 (1 : Int32) x4 h g (lv_sub hl [1, 2, 3, 0, 4] rfl) hF
          · replace hF := ifp c8 hF
            exact w_X3_dropUnseenOf_60 (σ := σ7) cx mk8 hk8 x0 x1 x2 x4 h g (lv_sub hl [0, 1, 2, 4] rfl) hF
      · replace hF := ifp c4 hF
        refine x_aload_n hx hb dX3_dropUnseenOf_33 rfl (lv_at hl 0 rfl) ?_
        refine x_aload_n hx hb dX3_dropUnseenOf_34 rfl (lv_at hl 1 rfl) ?_
        refine x_aload hx hb dX3_dropUnseenOf_35 (lv_at hl 4 rfl) ?_
        obtain ⟨hq9, hF⟩ := ifs hF
        obtain ⟨r10, σ10, hc10, hF⟩ := bds hF
        refine x_callv (σ := σ) g (LEm hc10 (mo_F_X3_dropWrite x0 x1 x4 _)) (x_runV (As := [vr x1, vr x4]) (rest := []) cx h (c_X3_dropWrite l D dA base x0 x1 x4 hc10) ml_X3_103 mi_X3_dropWrite hq9 rfl ⟨Nat.le_of_ble_eq_true rfl, Nat.le_of_ble_eq_true rfl⟩ hl.1 rfl (s8 sN (by decide)) dX3_dropUnseenOf_37 (le_room g (LEm hc10 (mo_F_X3_dropWrite x0 x1 x4 _)) (LEm hF (mo_B_X3_dropUnseenOf_84 mk8 x0 x1 x2 x3 x4 _)))) h (fun H locs h g => ?_)
        refine lv_goto (tgt := 84) hx hb dX3_dropUnseenOf_40 (by decide) ?_
        exact w_X3_dropUnseenOf_84 (σ := σ10) cx mk8 hk8 x0 x1 x2 x3 x4 h g (lv_sub hl [0, 1, 2, 3, 4] rfl) hF
    · replace hF := ifn c3 hF
      refine lv_goto (tgt := 84) hx hb dX3_dropUnseenOf_22 (by decide) ?_
      exact w_X3_dropUnseenOf_84 (σ := σ) cx mk8 hk8 x0 x1 x2 x3 x4 h g (lv_sub hl [0, 1, 2, 3, 4] rfl) hF
def L_X3_dropUnseenOf_8  : Nat → Nat → Nat → Int32 → Int32 → Nat → HS → Option (Unit × HS)
  | 0, _, _, _, _, _, _ => none
  | N + 1, x0, x1, x2, x3, x4, σ => B_X3_dropUnseenOf_8 (L_X3_dropUnseenOf_8  N) x0 x1 x2 x3 x4 σ
theorem mo_L_X3_dropUnseenOf_8  : ∀ (N : Nat) (x0 : Nat) (x1 : Nat) (x2 : Int32) (x3 : Int32) (x4 : Nat) (σ : HS), Mo σ (L_X3_dropUnseenOf_8  N x0 x1 x2 x3 x4 σ) := by
  intro N
  induction N with
  | zero => intro x0 x1 x2 x3 x4 σ; exact mo_none
  | succ N ih => intro x0 x1 x2 x3 x4 σ; exact mo_B_X3_dropUnseenOf_8 ih x0 x1 x2 x3 x4 σ
theorem wl_X3_dropUnseenOf_8 {p : Program} {l : Launch} {e : Env} {s : State} {m : MethodId} {args : Array Value} {below : List Frame} {meth : Method} {c : Code} {D : va_G} {dA : Nat → ClassId} {base : Nat} {σ0 τ : HS} {r : Unit} (cx : CX p s m args meth c cX3_dropUnseenOf 5 none RX3 "dropUnseenOf" D dA base)  : ∀ (N : Nat) (x0 : Nat) (x1 : Nat) (x2 : Int32) (x3 : Int32) (x4 : Nat) (σ : HS) (H : Heap) (locs : List Loc) (ls : Array Slot), Wd D dA base σ s H locs → LE σ0 σ → lv_has ls 5 [(0, vr x0), (1, vr x1), (2, .int x2), (3, .int x3), (4, vr x4)] → L_X3_dropUnseenOf_8  N x0 x1 x2 x3 x4 σ = some (r, τ) → WG p l e s m args below meth c D dA base 2 45 none σ0 τ σ H locs 8 ls [] := by
  intro N
  induction N with
  | zero => intro x0 x1 x2 x3 x4 σ H locs ls h g hl hF; cases hF
  | succ N ih => intro x0 x1 x2 x3 x4 σ H locs ls h g hl hF; exact w_X3_dropUnseenOf_8 cx (mo_L_X3_dropUnseenOf_8  N) ih x0 x1 x2 x3 x4 h g hl hF
def F_X3_dropUnseenOf (a0 : Nat) (a1 : Nat) (a2 : Int32) (σ : HS) : Option (Unit × HS) :=
  if kd σ a1 = 1 then (L_X3_dropUnseenOf_8  NF a0 a1 a2 (0 : Int32) (gr σ 1 a1) σ) else none
theorem mo_F_X3_dropUnseenOf (a0 : Nat) (a1 : Nat) (a2 : Int32) (σ : HS) : Mo σ (F_X3_dropUnseenOf a0 a1 a2 σ) := by
  unfold F_X3_dropUnseenOf
  exact (mo_ite (mo_L_X3_dropUnseenOf_8  NF a0 a1 a2 (0 : Int32) (gr σ 1 a1) _) mo_none)
set_option maxHeartbeats 4000000 in
set_option maxRecDepth 100000 in
theorem c_X3_dropUnseenOf (l : Launch) (D : va_G) (dA : Nat → ClassId) (base : Nat) (a0 : Nat) (a1 : Nat) (a2 : Int32) {σ τ : HS} {r : Unit} (hF : F_X3_dropUnseenOf a0 a1 a2 σ = some (r, τ)) : CT l yX3_dropUnseenOf cX3_dropUnseenOf 5 none 2 45 D dA base [vr a0, vr a1, .int a2] none σ τ := by
  refine CT.of (lv := [(0, vr a0), (1, vr a1), (2, .int a2)]) (by decide) (vR (vR (vI vN))) (Nat.le_of_ble_eq_true rfl) rfl ?_
  intro p e s m args below meth c ls cx hl h
  have cx : CX p s m args meth c cX3_dropUnseenOf 5 none RX3 "dropUnseenOf" D dA base := cx
  have g : LE σ σ := LE.rf
  obtain ⟨hx, hb, -⟩ := id cx
  unfold F_X3_dropUnseenOf at hF
  refine lv_iconst (v := (0 : Int32)) hx hb dX3_dropUnseenOf_0 (by decide) ?_
  refine x_istore_n (lv' := [(3, .int (0 : Int32)), (0, vr a0), (1, vr a1), (2, .int a2)]) hx hb dX3_dropUnseenOf_1 rfl hl (by decide) (cR (cR (cI cN))) rfl (fun ls hl => ?_)
  refine x_aload_n hx hb dX3_dropUnseenOf_2 rfl (lv_at hl 2 rfl) ?_
  obtain ⟨hq1, hF⟩ := ifs hF
  refine x_getr cx h fa_X3_39 (f := 1) rfl hq1 dX3_dropUnseenOf_3 ?_
  refine x_astore (lv' := [(4, vr (gr σ 1 a1)), (3, .int (0 : Int32)), (0, vr a0), (1, vr a1), (2, .int a2)]) hx hb dX3_dropUnseenOf_6 hl (by decide) (cI (cR (cR (cI cN)))) rfl (fun ls hl => ?_)
  exact wl_X3_dropUnseenOf_8 cx   NF a0 a1 a2 (0 : Int32) (gr σ 1 a1) σ _ _ _ h g (lv_sub hl [2, 3, 4, 1, 0] rfl) hF
def B_X3_dropUnseen_7 (k7 : Nat → Int32 → Int32 → Int32 → HS → Option (Int32 × HS)) (x0 : Nat) (x1 : Int32) (x2 : Int32) (x3 : Int32) (σ : HS) : Option (Int32 × HS) :=
  if (256 : Int32) ≤ x3 then (if kd σ x0 = 4 then (some ((x2 - (gi σ 121 x0)), σ)) else none) else (if kd σ x0 = 4 then (if kd σ (gr σ 120 x0) = 102 ∧ inb x3 (ln σ (gr σ 120 x0)) then (bd (F_X3_dropUnseenOf x0 (ar σ (gr σ 120 x0) x3.toNatClampNeg) x1 σ) (fun r5 σ5 => k7 x0 x1 x2 (x3 + (1 : Int32)) σ5)) else none) else none)
theorem mo_B_X3_dropUnseen_7 {k7 : Nat → Int32 → Int32 → Int32 → HS → Option (Int32 × HS)} (mk7 : ∀ x0 x1 x2 x3 σ, Mo σ (k7 x0 x1 x2 x3 σ)) (x0 : Nat) (x1 : Int32) (x2 : Int32) (x3 : Int32) (σ : HS) : Mo σ (B_X3_dropUnseen_7 k7 x0 x1 x2 x3 σ) := by
  unfold B_X3_dropUnseen_7
  exact (mo_ite (mo_ite mo_ret mo_none) (mo_ite (mo_ite (mo_bd (mo_F_X3_dropUnseenOf x0 (ar σ (gr σ 120 x0) x3.toNatClampNeg) x1 _) (fun r5 σ5 => (mk7 x0 x1 x2 (x3 + (1 : Int32)) _))) mo_none) mo_none))
set_option maxHeartbeats 4000000 in
set_option maxRecDepth 100000 in
theorem w_X3_dropUnseen_7 {p : Program} {l : Launch} {e : Env} {s : State} {m : MethodId} {args : Array Value} {below : List Frame} {meth : Method} {c : Code} {D : va_G} {dA : Nat → ClassId} {base : Nat} {σ0 τ : HS} {r : Int32} (cx : CX p s m args meth c cX3_dropUnseen 4 (some .int) RX3 "dropUnseen" D dA base) {k7 : Nat → Int32 → Int32 → Int32 → HS → Option (Int32 × HS)} (mk7 : ∀ x0 x1 x2 x3 σ, Mo σ (k7 x0 x1 x2 x3 σ)) (hk7 : ∀ x0 x1 x2 x3 σ H locs ls, Wd D dA base σ s H locs → LE σ0 σ → lv_has ls 4 [(0, vr x0), (1, .int x1), (2, .int x2), (3, .int x3)] → k7 x0 x1 x2 x3 σ = some (r, τ) → WG p l e s m args below meth c D dA base 3 69 (some (.int r)) σ0 τ σ H locs 7 ls []) (x0 : Nat) (x1 : Int32) (x2 : Int32) (x3 : Int32) {σ : HS} {H : Heap} {locs : List Loc} {ls : Array Slot} (h : Wd D dA base σ s H locs) (g : LE σ0 σ) (hl : lv_has ls 4 [(0, vr x0), (1, .int x1), (2, .int x2), (3, .int x3)]) (hF : B_X3_dropUnseen_7 k7 x0 x1 x2 x3 σ = some (r, τ)) : WG p l e s m args below meth c D dA base 3 69 (some (.int r)) σ0 τ σ H locs 7 ls [] := by
  obtain ⟨hx, hb, -⟩ := id cx
  unfold B_X3_dropUnseen_7 at hF
  refine lv_iload_n hx hb dX3_dropUnseen_7 rfl (lv_at hl 3 rfl) ?_
  refine lv_sipush (v := (256 : Int32)) hx hb dX3_dropUnseen_8 (by decide) ?_
  refine lv_icmp_ge (tgt := 31) hx hb dX3_dropUnseen_11 (by decide) (fun c1 => ?_) (fun c1 => ?_)
  · replace hF := ifp c1 hF
    refine lv_iload_n hx hb dX3_dropUnseen_31 rfl (lv_at hl 2 rfl) ?_
    refine x_aload_n hx hb dX3_dropUnseen_32 rfl (lv_at hl 0 rfl) ?_
    obtain ⟨hq2, hF⟩ := ifs hF
    refine x_geti cx h fa_X3_52 (f := 121) rfl hq2 dX3_dropUnseen_33 ?_
    refine lv_isub hx hb dX3_dropUnseen_36 ?_
    obtain ⟨rfl, rfl⟩ := rts hF
    exact x_iret cx h dX3_dropUnseen_37
  · replace hF := ifn c1 hF
    refine x_aload_n hx hb dX3_dropUnseen_14 rfl (lv_at hl 0 rfl) ?_
    refine x_aload_n hx hb dX3_dropUnseen_15 rfl (lv_at hl 0 rfl) ?_
    obtain ⟨hq3, hF⟩ := ifs hF
    refine x_getr cx h fa_X3_11 (f := 120) rfl hq3 dX3_dropUnseen_16 ?_
    refine lv_iload_n hx hb dX3_dropUnseen_19 rfl (lv_at hl 3 rfl) ?_
    obtain ⟨hq4, hF⟩ := ifs hF
    refine x_aald cx h RA2 hq4.1 (inb.vp hq4.2) dX3_dropUnseen_20 ?_
    refine lv_iload_n hx hb dX3_dropUnseen_21 rfl (lv_at hl 1 rfl) ?_
    obtain ⟨r5, σ5, hc5, hF⟩ := bds hF
    refine x_callv (σ := σ) g (LEm hc5 (mo_F_X3_dropUnseenOf x0 (ar σ (gr σ 120 x0) x3.toNatClampNeg) x1 _)) (x_runV (As := [vr (ar σ (gr σ 120 x0) x3.toNatClampNeg), .int x1]) (rest := []) cx h (c_X3_dropUnseenOf l D dA base x0 (ar σ (gr σ 120 x0) x3.toNatClampNeg) x1 hc5) ml_X3_97 mi_X3_dropUnseenOf hq3 rfl ⟨Nat.le_of_ble_eq_true rfl, Nat.le_of_ble_eq_true rfl⟩ hl.1 rfl (s8 sN (by decide)) dX3_dropUnseen_22 (le_room g (LEm hc5 (mo_F_X3_dropUnseenOf x0 (ar σ (gr σ 120 x0) x3.toNatClampNeg) x1 _)) (LEm hF (mk7 x0 x1 x2 (x3 + (1 : Int32)) _)))) h (fun H locs h g => ?_)
    refine x_iinc (k := 3) (v := (1 : Int32)) (lv' := [(3, .int (x3 + (1 : Int32))), (0, vr x0), (1, .int x1), (2, .int x2)]) hx hb dX3_dropUnseen_25 hl rfl (by decide) (by decide) (cR (cI (cI (cI cN)))) rfl (fun ls hl => ?_)
    refine lv_goto (tgt := 7) hx hb dX3_dropUnseen_28 (by decide) ?_
    exact hk7 x0 x1 x2 (x3 + (1 : Int32)) σ5 _ _ _ h g (lv_sub hl [1, 2, 3, 0] rfl) hF
def L_X3_dropUnseen_7  : Nat → Nat → Int32 → Int32 → Int32 → HS → Option (Int32 × HS)
  | 0, _, _, _, _, _ => none
  | N + 1, x0, x1, x2, x3, σ => B_X3_dropUnseen_7 (L_X3_dropUnseen_7  N) x0 x1 x2 x3 σ
theorem mo_L_X3_dropUnseen_7  : ∀ (N : Nat) (x0 : Nat) (x1 : Int32) (x2 : Int32) (x3 : Int32) (σ : HS), Mo σ (L_X3_dropUnseen_7  N x0 x1 x2 x3 σ) := by
  intro N
  induction N with
  | zero => intro x0 x1 x2 x3 σ; exact mo_none
  | succ N ih => intro x0 x1 x2 x3 σ; exact mo_B_X3_dropUnseen_7 ih x0 x1 x2 x3 σ
theorem wl_X3_dropUnseen_7 {p : Program} {l : Launch} {e : Env} {s : State} {m : MethodId} {args : Array Value} {below : List Frame} {meth : Method} {c : Code} {D : va_G} {dA : Nat → ClassId} {base : Nat} {σ0 τ : HS} {r : Int32} (cx : CX p s m args meth c cX3_dropUnseen 4 (some .int) RX3 "dropUnseen" D dA base)  : ∀ (N : Nat) (x0 : Nat) (x1 : Int32) (x2 : Int32) (x3 : Int32) (σ : HS) (H : Heap) (locs : List Loc) (ls : Array Slot), Wd D dA base σ s H locs → LE σ0 σ → lv_has ls 4 [(0, vr x0), (1, .int x1), (2, .int x2), (3, .int x3)] → L_X3_dropUnseen_7  N x0 x1 x2 x3 σ = some (r, τ) → WG p l e s m args below meth c D dA base 3 69 (some (.int r)) σ0 τ σ H locs 7 ls [] := by
  intro N
  induction N with
  | zero => intro x0 x1 x2 x3 σ H locs ls h g hl hF; cases hF
  | succ N ih => intro x0 x1 x2 x3 σ H locs ls h g hl hF; exact w_X3_dropUnseen_7 cx (mo_L_X3_dropUnseen_7  N) ih x0 x1 x2 x3 h g hl hF
def F_X3_dropUnseen (a0 : Nat) (a1 : Int32) (σ : HS) : Option (Int32 × HS) :=
  if kd σ a0 = 4 then (L_X3_dropUnseen_7  NF a0 a1 (gi σ 121 a0) (0 : Int32) σ) else none
theorem mo_F_X3_dropUnseen (a0 : Nat) (a1 : Int32) (σ : HS) : Mo σ (F_X3_dropUnseen a0 a1 σ) := by
  unfold F_X3_dropUnseen
  exact (mo_ite (mo_L_X3_dropUnseen_7  NF a0 a1 (gi σ 121 a0) (0 : Int32) _) mo_none)
set_option maxHeartbeats 4000000 in
set_option maxRecDepth 100000 in
theorem c_X3_dropUnseen (l : Launch) (D : va_G) (dA : Nat → ClassId) (base : Nat) (a0 : Nat) (a1 : Int32) {σ τ : HS} {r : Int32} (hF : F_X3_dropUnseen a0 a1 σ = some (r, τ)) : CT l yX3_dropUnseen cX3_dropUnseen 4 (some .int) 3 69 D dA base [vr a0, .int a1] (some (.int r)) σ τ := by
  refine CT.of (lv := [(0, vr a0), (1, .int a1)]) (by decide) (vR (vI vN)) (Nat.le_of_ble_eq_true rfl) rfl ?_
  intro p e s m args below meth c ls cx hl h
  have cx : CX p s m args meth c cX3_dropUnseen 4 (some .int) RX3 "dropUnseen" D dA base := cx
  have g : LE σ σ := LE.rf
  obtain ⟨hx, hb, -⟩ := id cx
  unfold F_X3_dropUnseen at hF
  refine x_aload_n hx hb dX3_dropUnseen_0 rfl (lv_at hl 0 rfl) ?_
  obtain ⟨hq1, hF⟩ := ifs hF
  refine x_geti cx h fa_X3_52 (f := 121) rfl hq1 dX3_dropUnseen_1 ?_
  refine x_istore_n (lv' := [(2, .int (gi σ 121 a0)), (0, vr a0), (1, .int a1)]) hx hb dX3_dropUnseen_4 rfl hl (by decide) (cR (cI cN)) rfl (fun ls hl => ?_)
  refine lv_iconst (v := (0 : Int32)) hx hb dX3_dropUnseen_5 (by decide) ?_
  refine x_istore_n (lv' := [(3, .int (0 : Int32)), (2, .int (gi σ 121 a0)), (0, vr a0), (1, .int a1)]) hx hb dX3_dropUnseen_6 rfl hl (by decide) (cI (cR (cI cN))) rfl (fun ls hl => ?_)
  exact wl_X3_dropUnseen_7 cx   NF a0 a1 (gi σ 121 a0) (0 : Int32) σ _ _ _ h g (lv_sub hl [2, 3, 1, 0] rfl) hF
def F_X4_init (a0 : Nat) (σ : HS) : Option (Unit × HS) :=
  if kd σ a0 = 5 then (lt1 (nw σ 100 16) (fun σ2 => if kd σ2 a0 = 5 then (lt1 (nw (sr σ2 165 a0 (hs σ + 1)) 100 16) (fun σ4 => if kd σ4 a0 = 5 then (lt1 (nw (sr σ4 166 a0 (hs (sr σ2 165 a0 (hs σ + 1)) + 1)) 100 16) (fun σ6 => if kd σ6 a0 = 5 then (some ((), (sr σ6 168 a0 (hs (sr σ4 166 a0 (hs (sr σ2 165 a0 (hs σ + 1)) + 1)) + 1)))) else none)) else none)) else none)) else none
theorem mo_F_X4_init (a0 : Nat) (σ : HS) : Mo σ (F_X4_init a0 σ) := by
  unfold F_X4_init
  exact (mo_ite (mo_lt LE.nw (fun σ2 => (mo_ite (mo_lt (LE.tr (τ := (sr σ2 165 a0 (hs σ + 1))) ⟨Nat.le_refl _, Nat.le_refl _⟩ LE.nw) (fun σ4 => (mo_ite (mo_lt (LE.tr (τ := (sr σ4 166 a0 (hs (sr σ2 165 a0 (hs σ + 1)) + 1))) ⟨Nat.le_refl _, Nat.le_refl _⟩ LE.nw) (fun σ6 => (mo_ite (mo_le (τ := (sr σ6 168 a0 (hs (sr σ4 166 a0 (hs (sr σ2 165 a0 (hs σ + 1)) + 1)) + 1))) ⟨Nat.le_refl _, Nat.le_refl _⟩ mo_ret) mo_none))) mo_none))) mo_none))) mo_none)
set_option maxHeartbeats 4000000 in
set_option maxRecDepth 100000 in
theorem c_X4_init (l : Launch) (D : va_G) (dA : Nat → ClassId) (base : Nat) (a0 : Nat) {σ τ : HS} {r : Unit} (hF : F_X4_init a0 σ = some (r, τ)) : CT l yX4_init cX4_init 1 none 1 20 D dA base [vr a0] none σ τ := by
  refine CT.of (lv := [(0, vr a0)]) (by decide) (vR vN) (Nat.le_of_ble_eq_true rfl) rfl ?_
  intro p e s m args below meth c ls cx hl h
  have cx : CX p s m args meth c cX4_init 1 none RX4 "<init>" D dA base := cx
  have g : LE σ σ := LE.rf
  obtain ⟨hx, hb, -⟩ := id cx
  unfold F_X4_init at hF
  refine x_aload_n hx hb dX4_init_0 rfl (lv_at hl 0 rfl) ?_
  obtain ⟨hq1, hF⟩ := ifs hF
  refine x_obj cx h ml_X4_3 hq1 hl.1 ⟨Nat.le_of_ble_eq_true rfl, Nat.le_of_ble_eq_true rfl⟩ (s8 sN (by decide)) dX4_init_1 ?_
  refine x_aload_n hx hb dX4_init_4 rfl (lv_at hl 0 rfl) ?_
  refine lv_bipush (v := (16 : Int32)) hx hb dX4_init_5 (by decide) ?_
  obtain ⟨σ2, e2, hF⟩ := lts hF
  refine x_newaG (σ := σ) (aty := .int) (ty := .int) (j := 0) (N := 16) cx h g (by rw [← e2]; exact LEm hF (mo_ite (mo_lt (LE.tr (τ := (sr σ2 165 a0 (hs σ + 1))) ⟨Nat.le_refl _, Nat.le_refl _⟩ LE.nw) (fun σ4 => (mo_ite (mo_lt (LE.tr (τ := (sr σ4 166 a0 (hs (sr σ2 165 a0 (hs σ + 1)) + 1))) ⟨Nat.le_refl _, Nat.le_refl _⟩ LE.nw) (fun σ6 => (mo_ite (mo_le (τ := (sr σ6 168 a0 (hs (sr σ4 166 a0 (hs (sr σ2 165 a0 (hs σ + 1)) + 1)) + 1))) ⟨Nat.le_refl _, Nat.le_refl _⟩ mo_ret) mo_none))) mo_none))) mo_none)) rfl (Or.inl ⟨rfl, rfl⟩) ac_int (by decide) (by decide) (by decide) dX4_init_7 (fun H h g => ?_)
  have h := Wd.nm e2 h
  have g := LE.nm e2 g
  refine W.cs (cells' := hs σ2 - hs σ) (slots' := ns σ2 - ns σ) (by rw [e2]; try rfl) (by rw [e2]; try rfl) ?_
  obtain ⟨hq3, hF⟩ := ifs hF
  refine x_str cx h fa_X4_9 (f := 165) rfl (Or.inr ⟨rfl, rfl, _, _, rfl⟩) hq3 dX4_init_9 (fun H locs h => ?_)
  refine x_aload_n hx hb dX4_init_12 rfl (lv_at hl 0 rfl) ?_
  refine lv_bipush (v := (16 : Int32)) hx hb dX4_init_13 (by decide) ?_
  obtain ⟨σ4, e4, hF⟩ := lts hF
  refine x_newaG (σ := (sr σ2 165 a0 (hs σ + 1))) (aty := .int) (ty := .int) (j := 0) (N := 16) cx h g (by rw [← e4]; exact LEm hF (mo_ite (mo_lt (LE.tr (τ := (sr σ4 166 a0 (hs (sr σ2 165 a0 (hs σ + 1)) + 1))) ⟨Nat.le_refl _, Nat.le_refl _⟩ LE.nw) (fun σ6 => (mo_ite (mo_le (τ := (sr σ6 168 a0 (hs (sr σ4 166 a0 (hs (sr σ2 165 a0 (hs σ + 1)) + 1)) + 1))) ⟨Nat.le_refl _, Nat.le_refl _⟩ mo_ret) mo_none))) mo_none)) rfl (Or.inl ⟨rfl, rfl⟩) ac_int (by decide) (by decide) (by decide) dX4_init_15 (fun H h g => ?_)
  have h := Wd.nm e4 h
  have g := LE.nm e4 g
  refine W.cs (cells' := hs σ4 - hs σ) (slots' := ns σ4 - ns σ) (by rw [e4]; try rfl) (by rw [e4]; try rfl) ?_
  obtain ⟨hq5, hF⟩ := ifs hF
  refine x_str cx h fa_X4_15 (f := 166) rfl (Or.inr ⟨rfl, rfl, _, _, rfl⟩) hq5 dX4_init_17 (fun H locs h => ?_)
  refine x_aload_n hx hb dX4_init_20 rfl (lv_at hl 0 rfl) ?_
  refine lv_bipush (v := (16 : Int32)) hx hb dX4_init_21 (by decide) ?_
  obtain ⟨σ6, e6, hF⟩ := lts hF
  refine x_newaG (σ := (sr σ4 166 a0 (hs (sr σ2 165 a0 (hs σ + 1)) + 1))) (aty := .int) (ty := .int) (j := 0) (N := 16) cx h g (by rw [← e6]; exact LEm hF (mo_ite (mo_le (τ := (sr σ6 168 a0 (hs (sr σ4 166 a0 (hs (sr σ2 165 a0 (hs σ + 1)) + 1)) + 1))) ⟨Nat.le_refl _, Nat.le_refl _⟩ mo_ret) mo_none)) rfl (Or.inl ⟨rfl, rfl⟩) ac_int (by decide) (by decide) (by decide) dX4_init_23 (fun H h g => ?_)
  have h := Wd.nm e6 h
  have g := LE.nm e6 g
  refine W.cs (cells' := hs σ6 - hs σ) (slots' := ns σ6 - ns σ) (by rw [e6]; try rfl) (by rw [e6]; try rfl) ?_
  obtain ⟨hq7, hF⟩ := ifs hF
  refine x_str cx h fa_X4_18 (f := 168) rfl (Or.inr ⟨rfl, rfl, _, _, rfl⟩) hq7 dX4_init_25 (fun H locs h => ?_)
  obtain ⟨rfl, rfl⟩ := rts hF
  exact x_vret cx h dX4_init_28
def F_X4_open (a0 : Nat) (a1 : Int32) (a2 : Int32) (σ : HS) : Option (Unit × HS) :=
  if kd σ a0 = 5 then (some ((), (si (si (si σ 160 a0 (1 : Int32)) 161 a0 a1) 162 a0 a2))) else none
theorem mo_F_X4_open (a0 : Nat) (a1 : Int32) (a2 : Int32) (σ : HS) : Mo σ (F_X4_open a0 a1 a2 σ) := by
  unfold F_X4_open
  exact (mo_ite (mo_le (τ := (si (si (si σ 160 a0 (1 : Int32)) 161 a0 a1) 162 a0 a2)) ⟨Nat.le_refl _, Nat.le_refl _⟩ mo_ret) mo_none)
set_option maxHeartbeats 4000000 in
set_option maxRecDepth 100000 in
theorem c_X4_open (l : Launch) (D : va_G) (dA : Nat → ClassId) (base : Nat) (a0 : Nat) (a1 : Int32) (a2 : Int32) {σ τ : HS} {r : Unit} (hF : F_X4_open a0 a1 a2 σ = some (r, τ)) : CT l yX4_open cX4_open 3 none 0 0 D dA base [vr a0, .int a1, .int a2] none σ τ := by
  refine CT.of (lv := [(0, vr a0), (1, .int a1), (2, .int a2)]) (by decide) (vR (vI (vI vN))) (Nat.le_of_ble_eq_true rfl) rfl ?_
  intro p e s m args below meth c ls cx hl h
  have cx : CX p s m args meth c cX4_open 3 none RX4 "open" D dA base := cx
  have g : LE σ σ := LE.rf
  obtain ⟨hx, hb, -⟩ := id cx
  unfold F_X4_open at hF
  refine x_aload_n hx hb dX4_open_0 rfl (lv_at hl 0 rfl) ?_
  refine lv_iconst (v := (1 : Int32)) hx hb dX4_open_1 (by decide) ?_
  obtain ⟨hq1, hF⟩ := ifs hF
  refine x_sti cx h fa_X4_21 (f := 160) rfl (Or.inl rfl) hq1 dX4_open_2 (fun H locs h => ?_)
  refine x_aload_n hx hb dX4_open_5 rfl (lv_at hl 0 rfl) ?_
  refine lv_iload_n hx hb dX4_open_6 rfl (lv_at hl 1 rfl) ?_
  refine x_sti cx h fa_X4_25 (f := 161) rfl (Or.inl rfl) hq1 dX4_open_7 (fun H locs h => ?_)
  refine x_aload_n hx hb dX4_open_10 rfl (lv_at hl 0 rfl) ?_
  refine lv_iload_n hx hb dX4_open_11 rfl (lv_at hl 2 rfl) ?_
  refine x_sti cx h fa_X4_28 (f := 162) rfl (Or.inl rfl) hq1 dX4_open_12 (fun H locs h => ?_)
  obtain ⟨rfl, rfl⟩ := rts hF
  exact x_vret cx h dX4_open_15
def F_X4_end (a0 : Nat) (σ : HS) : Option (Unit × HS) :=
  if kd σ a0 = 5 then (lt1 (si (si (si (si σ 160 a0 (0 : Int32)) 161 a0 (0 : Int32)) 162 a0 (0 : Int32)) 163 a0 (0 : Int32)) (fun σ2 => some ((), (si (si (si σ2 164 a0 (0 : Int32)) 167 a0 (0 : Int32)) 169 a0 (0 : Int32))))) else none
theorem mo_F_X4_end (a0 : Nat) (σ : HS) : Mo σ (F_X4_end a0 σ) := by
  unfold F_X4_end
  exact (mo_ite (mo_lt ⟨Nat.le_refl _, Nat.le_refl _⟩ (fun σ2 => (mo_le (τ := (si (si (si σ2 164 a0 (0 : Int32)) 167 a0 (0 : Int32)) 169 a0 (0 : Int32))) ⟨Nat.le_refl _, Nat.le_refl _⟩ mo_ret))) mo_none)
set_option maxHeartbeats 4000000 in
set_option maxRecDepth 100000 in
theorem c_X4_end (l : Launch) (D : va_G) (dA : Nat → ClassId) (base : Nat) (a0 : Nat) {σ τ : HS} {r : Unit} (hF : F_X4_end a0 σ = some (r, τ)) : CT l yX4_end cX4_end 1 none 0 0 D dA base [vr a0] none σ τ := by
  refine CT.of (lv := [(0, vr a0)]) (by decide) (vR vN) (Nat.le_of_ble_eq_true rfl) rfl ?_
  intro p e s m args below meth c ls cx hl h
  have cx : CX p s m args meth c cX4_end 1 none RX4 "end" D dA base := cx
  have g : LE σ σ := LE.rf
  obtain ⟨hx, hb, -⟩ := id cx
  unfold F_X4_end at hF
  refine x_aload_n hx hb dX4_end_0 rfl (lv_at hl 0 rfl) ?_
  refine lv_iconst (v := (0 : Int32)) hx hb dX4_end_1 (by decide) ?_
  obtain ⟨hq1, hF⟩ := ifs hF
  refine x_sti cx h fa_X4_21 (f := 160) rfl (Or.inl rfl) hq1 dX4_end_2 (fun H locs h => ?_)
  refine x_aload_n hx hb dX4_end_5 rfl (lv_at hl 0 rfl) ?_
  refine lv_iconst (v := (0 : Int32)) hx hb dX4_end_6 (by decide) ?_
  refine x_sti cx h fa_X4_25 (f := 161) rfl (Or.inl rfl) hq1 dX4_end_7 (fun H locs h => ?_)
  refine x_aload_n hx hb dX4_end_10 rfl (lv_at hl 0 rfl) ?_
  refine lv_iconst (v := (0 : Int32)) hx hb dX4_end_11 (by decide) ?_
  refine x_sti cx h fa_X4_28 (f := 162) rfl (Or.inl rfl) hq1 dX4_end_12 (fun H locs h => ?_)
  refine x_aload_n hx hb dX4_end_15 rfl (lv_at hl 0 rfl) ?_
  refine lv_iconst (v := (0 : Int32)) hx hb dX4_end_16 (by decide) ?_
  refine x_sti cx h fa_X4_31 (f := 163) rfl (Or.inl rfl) hq1 dX4_end_17 (fun H locs h => ?_)
  obtain ⟨σ2, e2, hF⟩ := lts hF
  have h := Wd.nm e2 h
  have g := LE.nm e2 g
  refine W.cs (cells' := hs σ2 - hs σ) (slots' := ns σ2 - ns σ) (by rw [e2]; try rfl) (by rw [e2]; try rfl) ?_
  refine x_aload_n hx hb dX4_end_20 rfl (lv_at hl 0 rfl) ?_
  refine lv_iconst (v := (0 : Int32)) hx hb dX4_end_21 (by decide) ?_
  refine x_sti cx h fa_X4_34 (f := 164) rfl (Or.inl rfl) (by rw [e2]; exact hq1) dX4_end_22 (fun H locs h => ?_)
  refine x_aload_n hx hb dX4_end_25 rfl (lv_at hl 0 rfl) ?_
  refine lv_iconst (v := (0 : Int32)) hx hb dX4_end_26 (by decide) ?_
  refine x_sti cx h fa_X4_37 (f := 167) rfl (Or.inl rfl) (by rw [e2]; exact hq1) dX4_end_27 (fun H locs h => ?_)
  refine x_aload_n hx hb dX4_end_30 rfl (lv_at hl 0 rfl) ?_
  refine lv_iconst (v := (0 : Int32)) hx hb dX4_end_31 (by decide) ?_
  refine x_sti cx h fa_X4_40 (f := 169) rfl (Or.inl rfl) (by rw [e2]; exact hq1) dX4_end_32 (fun H locs h => ?_)
  obtain ⟨rfl, rfl⟩ := rts hF
  exact x_vret cx h dX4_end_35
def B_X4_touch_12   (σ : HS) : Option (Unit × HS) :=
  some ((), σ)
theorem mo_B_X4_touch_12   (σ : HS) : Mo σ (B_X4_touch_12   σ) := by
  unfold B_X4_touch_12
  exact mo_ret
set_option maxHeartbeats 4000000 in
set_option maxRecDepth 100000 in
theorem w_X4_touch_12 {p : Program} {l : Launch} {e : Env} {s : State} {m : MethodId} {args : Array Value} {below : List Frame} {meth : Method} {c : Code} {D : va_G} {dA : Nat → ClassId} {base : Nat} {σ0 τ : HS} {r : Unit} (cx : CX p s m args meth c cX4_touch 2 none RX4 "touch" D dA base)   {σ : HS} {H : Heap} {locs : List Loc} {ls : Array Slot} (h : Wd D dA base σ s H locs) (g : LE σ0 σ) (hl : lv_has ls 2 []) (hF : B_X4_touch_12   σ = some (r, τ)) : WG p l e s m args below meth c D dA base 0 0 none σ0 τ σ H locs 12 ls [] := by
  obtain ⟨hx, hb, -⟩ := id cx
  unfold B_X4_touch_12 at hF
  obtain ⟨rfl, rfl⟩ := rts hF
  exact x_vret cx h dX4_touch_12
def F_X4_touch (a0 : Nat) (a1 : Int32) (σ : HS) : Option (Unit × HS) :=
  if kd σ a0 = 5 then (if (gi σ 160 a0) = 0 then (B_X4_touch_12   σ) else (B_X4_touch_12   (si σ 162 a0 a1))) else none
theorem mo_F_X4_touch (a0 : Nat) (a1 : Int32) (σ : HS) : Mo σ (F_X4_touch a0 a1 σ) := by
  unfold F_X4_touch
  exact (mo_ite (mo_ite (mo_B_X4_touch_12   _) (mo_le (τ := (si σ 162 a0 a1)) ⟨Nat.le_refl _, Nat.le_refl _⟩ (mo_B_X4_touch_12   _))) mo_none)
set_option maxHeartbeats 4000000 in
set_option maxRecDepth 100000 in
theorem c_X4_touch (l : Launch) (D : va_G) (dA : Nat → ClassId) (base : Nat) (a0 : Nat) (a1 : Int32) {σ τ : HS} {r : Unit} (hF : F_X4_touch a0 a1 σ = some (r, τ)) : CT l yX4_touch cX4_touch 2 none 0 0 D dA base [vr a0, .int a1] none σ τ := by
  refine CT.of (lv := [(0, vr a0), (1, .int a1)]) (by decide) (vR (vI vN)) (Nat.le_of_ble_eq_true rfl) rfl ?_
  intro p e s m args below meth c ls cx hl h
  have cx : CX p s m args meth c cX4_touch 2 none RX4 "touch" D dA base := cx
  have g : LE σ σ := LE.rf
  obtain ⟨hx, hb, -⟩ := id cx
  unfold F_X4_touch at hF
  refine x_aload_n hx hb dX4_touch_0 rfl (lv_at hl 0 rfl) ?_
  obtain ⟨hq1, hF⟩ := ifs hF
  refine x_geti cx h fa_X4_21 (f := 160) rfl hq1 dX4_touch_1 ?_
  refine lv_if_eq (tgt := 12) hx hb dX4_touch_4 (by decide) (fun c2 => ?_) (fun c2 => ?_)
  · replace hF := ifp c2 hF
    exact w_X4_touch_12 (σ := σ) cx    h g (lv_sub hl [] rfl) hF
  · replace hF := ifn c2 hF
    refine x_aload_n hx hb dX4_touch_7 rfl (lv_at hl 0 rfl) ?_
    refine lv_iload_n hx hb dX4_touch_8 rfl (lv_at hl 1 rfl) ?_
    refine x_sti cx h fa_X4_28 (f := 162) rfl (Or.inl rfl) hq1 dX4_touch_9 (fun H locs h => ?_)
    exact w_X4_touch_12 (σ := (si σ 162 a0 a1)) cx    h g (lv_sub hl [] rfl) hF
def B_X4_placeOf_2 (k2 : Nat → Int32 → Int32 → HS → Option (Int32 × HS)) (x0 : Nat) (x1 : Int32) (x2 : Int32) (σ : HS) : Option (Int32 × HS) :=
  if kd σ x0 = 5 then (if (gi σ 164 x0) ≤ x2 then (some ((-1 : Int32), σ)) else (if kd σ (gr σ 165 x0) = 100 ∧ inb x2 (ln σ (gr σ 165 x0)) then (if (ai σ (gr σ 165 x0) x2.toNatClampNeg) = x1 then (some (x2, σ)) else (k2 x0 x1 (x2 + (1 : Int32)) σ)) else none)) else none
theorem mo_B_X4_placeOf_2 {k2 : Nat → Int32 → Int32 → HS → Option (Int32 × HS)} (mk2 : ∀ x0 x1 x2 σ, Mo σ (k2 x0 x1 x2 σ)) (x0 : Nat) (x1 : Int32) (x2 : Int32) (σ : HS) : Mo σ (B_X4_placeOf_2 k2 x0 x1 x2 σ) := by
  unfold B_X4_placeOf_2
  exact (mo_ite (mo_ite mo_ret (mo_ite (mo_ite mo_ret (mk2 x0 x1 (x2 + (1 : Int32)) _)) mo_none)) mo_none)
set_option maxHeartbeats 4000000 in
set_option maxRecDepth 100000 in
theorem w_X4_placeOf_2 {p : Program} {l : Launch} {e : Env} {s : State} {m : MethodId} {args : Array Value} {below : List Frame} {meth : Method} {c : Code} {D : va_G} {dA : Nat → ClassId} {base : Nat} {σ0 τ : HS} {r : Int32} (cx : CX p s m args meth c cX4_placeOf 3 (some .int) RX4 "placeOf" D dA base) {k2 : Nat → Int32 → Int32 → HS → Option (Int32 × HS)} (mk2 : ∀ x0 x1 x2 σ, Mo σ (k2 x0 x1 x2 σ)) (hk2 : ∀ x0 x1 x2 σ H locs ls, Wd D dA base σ s H locs → LE σ0 σ → lv_has ls 3 [(0, vr x0), (1, .int x1), (2, .int x2)] → k2 x0 x1 x2 σ = some (r, τ) → WG p l e s m args below meth c D dA base 0 0 (some (.int r)) σ0 τ σ H locs 2 ls []) (x0 : Nat) (x1 : Int32) (x2 : Int32) {σ : HS} {H : Heap} {locs : List Loc} {ls : Array Slot} (h : Wd D dA base σ s H locs) (g : LE σ0 σ) (hl : lv_has ls 3 [(0, vr x0), (1, .int x1), (2, .int x2)]) (hF : B_X4_placeOf_2 k2 x0 x1 x2 σ = some (r, τ)) : WG p l e s m args below meth c D dA base 0 0 (some (.int r)) σ0 τ σ H locs 2 ls [] := by
  obtain ⟨hx, hb, -⟩ := id cx
  unfold B_X4_placeOf_2 at hF
  refine lv_iload_n hx hb dX4_placeOf_2 rfl (lv_at hl 2 rfl) ?_
  refine x_aload_n hx hb dX4_placeOf_3 rfl (lv_at hl 0 rfl) ?_
  obtain ⟨hq1, hF⟩ := ifs hF
  refine x_geti cx h fa_X4_34 (f := 164) rfl hq1 dX4_placeOf_4 ?_
  refine lv_icmp_ge (tgt := 28) hx hb dX4_placeOf_7 (by decide) (fun c2 => ?_) (fun c2 => ?_)
  · replace hF := ifp c2 hF
    refine lv_iconst (v := (-1 : Int32)) hx hb dX4_placeOf_28 (by decide) ?_
    obtain ⟨rfl, rfl⟩ := rts hF
    exact x_iret cx h dX4_placeOf_29
  · replace hF := ifn c2 hF
    refine x_aload_n hx hb dX4_placeOf_10 rfl (lv_at hl 0 rfl) ?_
    refine x_getr cx h fa_X4_9 (f := 165) rfl hq1 dX4_placeOf_11 ?_
    refine lv_iload_n hx hb dX4_placeOf_14 rfl (lv_at hl 2 rfl) ?_
    obtain ⟨hq3, hF⟩ := ifs hF
    refine x_iald cx h hq3.1 (inb.vp hq3.2) dX4_placeOf_15 ?_
    refine lv_iload_n hx hb dX4_placeOf_16 rfl (lv_at hl 1 rfl) ?_
    refine lv_icmp_ne (tgt := 22) hx hb dX4_placeOf_17 (by decide) (fun c4 => ?_) (fun c4 => ?_)
    · replace hF := ifn c4 hF
      refine x_iinc (k := 2) (v := (1 : Int32)) (lv' := [(2, .int (x2 + (1 : Int32))), (0, vr x0), (1, .int x1)]) hx hb dX4_placeOf_22 hl rfl (by decide) (by decide) (cR (cI (cI cN))) rfl (fun ls hl => ?_)
      refine lv_goto (tgt := 2) hx hb dX4_placeOf_25 (by decide) ?_
      exact hk2 x0 x1 (x2 + (1 : Int32)) σ _ _ _ h g (lv_sub hl [1, 2, 0] rfl) hF
    · replace hF := ifp c4 hF
      refine lv_iload_n hx hb dX4_placeOf_20 rfl (lv_at hl 2 rfl) ?_
      obtain ⟨rfl, rfl⟩ := rts hF
      exact x_iret cx h dX4_placeOf_21
def L_X4_placeOf_2  : Nat → Nat → Int32 → Int32 → HS → Option (Int32 × HS)
  | 0, _, _, _, _ => none
  | N + 1, x0, x1, x2, σ => B_X4_placeOf_2 (L_X4_placeOf_2  N) x0 x1 x2 σ
theorem mo_L_X4_placeOf_2  : ∀ (N : Nat) (x0 : Nat) (x1 : Int32) (x2 : Int32) (σ : HS), Mo σ (L_X4_placeOf_2  N x0 x1 x2 σ) := by
  intro N
  induction N with
  | zero => intro x0 x1 x2 σ; exact mo_none
  | succ N ih => intro x0 x1 x2 σ; exact mo_B_X4_placeOf_2 ih x0 x1 x2 σ
theorem wl_X4_placeOf_2 {p : Program} {l : Launch} {e : Env} {s : State} {m : MethodId} {args : Array Value} {below : List Frame} {meth : Method} {c : Code} {D : va_G} {dA : Nat → ClassId} {base : Nat} {σ0 τ : HS} {r : Int32} (cx : CX p s m args meth c cX4_placeOf 3 (some .int) RX4 "placeOf" D dA base)  : ∀ (N : Nat) (x0 : Nat) (x1 : Int32) (x2 : Int32) (σ : HS) (H : Heap) (locs : List Loc) (ls : Array Slot), Wd D dA base σ s H locs → LE σ0 σ → lv_has ls 3 [(0, vr x0), (1, .int x1), (2, .int x2)] → L_X4_placeOf_2  N x0 x1 x2 σ = some (r, τ) → WG p l e s m args below meth c D dA base 0 0 (some (.int r)) σ0 τ σ H locs 2 ls [] := by
  intro N
  induction N with
  | zero => intro x0 x1 x2 σ H locs ls h g hl hF; cases hF
  | succ N ih => intro x0 x1 x2 σ H locs ls h g hl hF; exact w_X4_placeOf_2 cx (mo_L_X4_placeOf_2  N) ih x0 x1 x2 h g hl hF
def F_X4_placeOf (a0 : Nat) (a1 : Int32) (σ : HS) : Option (Int32 × HS) :=
  L_X4_placeOf_2  NF a0 a1 (0 : Int32) σ
theorem mo_F_X4_placeOf (a0 : Nat) (a1 : Int32) (σ : HS) : Mo σ (F_X4_placeOf a0 a1 σ) := by
  unfold F_X4_placeOf
  exact (mo_L_X4_placeOf_2  NF a0 a1 (0 : Int32) _)
set_option maxHeartbeats 4000000 in
set_option maxRecDepth 100000 in
theorem c_X4_placeOf (l : Launch) (D : va_G) (dA : Nat → ClassId) (base : Nat) (a0 : Nat) (a1 : Int32) {σ τ : HS} {r : Int32} (hF : F_X4_placeOf a0 a1 σ = some (r, τ)) : CT l yX4_placeOf cX4_placeOf 3 (some .int) 0 0 D dA base [vr a0, .int a1] (some (.int r)) σ τ := by
  refine CT.of (lv := [(0, vr a0), (1, .int a1)]) (by decide) (vR (vI vN)) (Nat.le_of_ble_eq_true rfl) rfl ?_
  intro p e s m args below meth c ls cx hl h
  have cx : CX p s m args meth c cX4_placeOf 3 (some .int) RX4 "placeOf" D dA base := cx
  have g : LE σ σ := LE.rf
  obtain ⟨hx, hb, -⟩ := id cx
  unfold F_X4_placeOf at hF
  refine lv_iconst (v := (0 : Int32)) hx hb dX4_placeOf_0 (by decide) ?_
  refine x_istore_n (lv' := [(2, .int (0 : Int32)), (0, vr a0), (1, .int a1)]) hx hb dX4_placeOf_1 rfl hl (by decide) (cR (cI cN)) rfl (fun ls hl => ?_)
  exact wl_X4_placeOf_2 cx   NF a0 a1 (0 : Int32) σ _ _ _ h g (lv_sub hl [1, 2, 0] rfl) hF
def B_X4_putRow_56   (σ : HS) : Option (Unit × HS) :=
  some ((), σ)
theorem mo_B_X4_putRow_56   (σ : HS) : Mo σ (B_X4_putRow_56   σ) := by
  unfold B_X4_putRow_56
  exact mo_ret
set_option maxHeartbeats 4000000 in
set_option maxRecDepth 100000 in
theorem w_X4_putRow_56 {p : Program} {l : Launch} {e : Env} {s : State} {m : MethodId} {args : Array Value} {below : List Frame} {meth : Method} {c : Code} {D : va_G} {dA : Nat → ClassId} {base : Nat} {σ0 τ : HS} {r : Unit} (cx : CX p s m args meth c cX4_putRow 3 none RX4 "putRow" D dA base)   {σ : HS} {H : Heap} {locs : List Loc} {ls : Array Slot} (h : Wd D dA base σ s H locs) (g : LE σ0 σ) (hl : lv_has ls 3 []) (hF : B_X4_putRow_56   σ = some (r, τ)) : WG p l e s m args below meth c D dA base 0 0 none σ0 τ σ H locs 56 ls [] := by
  obtain ⟨hx, hb, -⟩ := id cx
  unfold B_X4_putRow_56 at hF
  obtain ⟨rfl, rfl⟩ := rts hF
  exact x_vret cx h dX4_putRow_56
def B_X4_putRow_2 (k2 : Nat → Int32 → Int32 → HS → Option (Unit × HS)) (x0 : Nat) (x1 : Int32) (x2 : Int32) (σ : HS) : Option (Unit × HS) :=
  if kd σ x0 = 5 then (if (gi σ 167 x0) ≤ x2 then (if (16 : Int32) ≤ (gi σ 167 x0) then (B_X4_putRow_56   σ) else (if kd σ (gr σ 168 x0) = 100 ∧ inb (gi σ 167 x0) (ln σ (gr σ 168 x0)) then (lt1 (si (sai σ (gr σ 168 x0) (gi σ 167 x0).toNatClampNeg x1) 167 x0 ((gi (sai σ (gr σ 168 x0) (gi σ 167 x0).toNatClampNeg x1) 167 x0) + (1 : Int32))) (fun σ5 => B_X4_putRow_56   σ5)) else none)) else (if kd σ (gr σ 168 x0) = 100 ∧ inb x2 (ln σ (gr σ 168 x0)) then (if (ai σ (gr σ 168 x0) x2.toNatClampNeg) = x1 then (some ((), σ)) else (k2 x0 x1 (x2 + (1 : Int32)) σ)) else none)) else none
theorem mo_B_X4_putRow_2 {k2 : Nat → Int32 → Int32 → HS → Option (Unit × HS)} (mk2 : ∀ x0 x1 x2 σ, Mo σ (k2 x0 x1 x2 σ)) (x0 : Nat) (x1 : Int32) (x2 : Int32) (σ : HS) : Mo σ (B_X4_putRow_2 k2 x0 x1 x2 σ) := by
  unfold B_X4_putRow_2
  exact (mo_ite (mo_ite (mo_ite (mo_B_X4_putRow_56   _) (mo_ite (mo_lt ⟨Nat.le_refl _, Nat.le_refl _⟩ (fun σ5 => (mo_B_X4_putRow_56   _))) mo_none)) (mo_ite (mo_ite mo_ret (mk2 x0 x1 (x2 + (1 : Int32)) _)) mo_none)) mo_none)
set_option maxHeartbeats 4000000 in
set_option maxRecDepth 100000 in
theorem w_X4_putRow_2 {p : Program} {l : Launch} {e : Env} {s : State} {m : MethodId} {args : Array Value} {below : List Frame} {meth : Method} {c : Code} {D : va_G} {dA : Nat → ClassId} {base : Nat} {σ0 τ : HS} {r : Unit} (cx : CX p s m args meth c cX4_putRow 3 none RX4 "putRow" D dA base) {k2 : Nat → Int32 → Int32 → HS → Option (Unit × HS)} (mk2 : ∀ x0 x1 x2 σ, Mo σ (k2 x0 x1 x2 σ)) (hk2 : ∀ x0 x1 x2 σ H locs ls, Wd D dA base σ s H locs → LE σ0 σ → lv_has ls 3 [(0, vr x0), (1, .int x1), (2, .int x2)] → k2 x0 x1 x2 σ = some (r, τ) → WG p l e s m args below meth c D dA base 0 0 none σ0 τ σ H locs 2 ls []) (x0 : Nat) (x1 : Int32) (x2 : Int32) {σ : HS} {H : Heap} {locs : List Loc} {ls : Array Slot} (h : Wd D dA base σ s H locs) (g : LE σ0 σ) (hl : lv_has ls 3 [(0, vr x0), (1, .int x1), (2, .int x2)]) (hF : B_X4_putRow_2 k2 x0 x1 x2 σ = some (r, τ)) : WG p l e s m args below meth c D dA base 0 0 none σ0 τ σ H locs 2 ls [] := by
  obtain ⟨hx, hb, -⟩ := id cx
  unfold B_X4_putRow_2 at hF
  refine lv_iload_n hx hb dX4_putRow_2 rfl (lv_at hl 2 rfl) ?_
  refine x_aload_n hx hb dX4_putRow_3 rfl (lv_at hl 0 rfl) ?_
  obtain ⟨hq1, hF⟩ := ifs hF
  refine x_geti cx h fa_X4_37 (f := 167) rfl hq1 dX4_putRow_4 ?_
  refine lv_icmp_ge (tgt := 27) hx hb dX4_putRow_7 (by decide) (fun c2 => ?_) (fun c2 => ?_)
  · replace hF := ifp c2 hF
    refine x_aload_n hx hb dX4_putRow_27 rfl (lv_at hl 0 rfl) ?_
    refine x_geti cx h fa_X4_37 (f := 167) rfl hq1 dX4_putRow_28 ?_
    refine lv_bipush (v := (16 : Int32)) hx hb dX4_putRow_31 (by decide) ?_
    refine lv_icmp_ge (tgt := 56) hx hb dX4_putRow_33 (by decide) (fun c3 => ?_) (fun c3 => ?_)
    · replace hF := ifp c3 hF
      exact w_X4_putRow_56 (σ := σ) cx    h g (lv_sub hl [] rfl) hF
    · replace hF := ifn c3 hF
      refine x_aload_n hx hb dX4_putRow_36 rfl (lv_at hl 0 rfl) ?_
      refine x_getr cx h fa_X4_18 (f := 168) rfl hq1 dX4_putRow_37 ?_
      refine x_aload_n hx hb dX4_putRow_40 rfl (lv_at hl 0 rfl) ?_
      refine x_geti cx h fa_X4_37 (f := 167) rfl hq1 dX4_putRow_41 ?_
      refine lv_iload_n hx hb dX4_putRow_44 rfl (lv_at hl 1 rfl) ?_
      obtain ⟨hq4, hF⟩ := ifs hF
      refine x_iast cx h hq4.1 (inb.vp hq4.2) dX4_putRow_45 (fun H locs h => ?_)
      refine x_aload_n hx hb dX4_putRow_46 rfl (lv_at hl 0 rfl) ?_
      refine lv_dup hx hb dX4_putRow_47 (vr_cat _) ?_
      refine x_geti cx h fa_X4_37 (f := 167) rfl hq1 dX4_putRow_48 ?_
      refine lv_iconst (v := (1 : Int32)) hx hb dX4_putRow_51 (by decide) ?_
      refine lv_iadd hx hb dX4_putRow_52 ?_
      refine x_sti cx h fa_X4_37 (f := 167) rfl (Or.inl rfl) hq1 dX4_putRow_53 (fun H locs h => ?_)
      obtain ⟨σ5, e5, hF⟩ := lts hF
      have h := Wd.nm e5 h
      have g := LE.nm e5 g
      refine W.cs (cells' := hs σ5 - hs σ0) (slots' := ns σ5 - ns σ0) (by rw [e5]; try rfl) (by rw [e5]; try rfl) ?_
      exact w_X4_putRow_56 (σ := σ5) cx    h g (lv_sub hl [] rfl) hF
  · replace hF := ifn c2 hF
    refine x_aload_n hx hb dX4_putRow_10 rfl (lv_at hl 0 rfl) ?_
    refine x_getr cx h fa_X4_18 (f := 168) rfl hq1 dX4_putRow_11 ?_
    refine lv_iload_n hx hb dX4_putRow_14 rfl (lv_at hl 2 rfl) ?_
    obtain ⟨hq6, hF⟩ := ifs hF
    refine x_iald cx h hq6.1 (inb.vp hq6.2) dX4_putRow_15 ?_
    refine lv_iload_n hx hb dX4_putRow_16 rfl (lv_at hl 1 rfl) ?_
    refine lv_icmp_ne (tgt := 21) hx hb dX4_putRow_17 (by decide) (fun c7 => ?_) (fun c7 => ?_)
    · replace hF := ifn c7 hF
      refine x_iinc (k := 2) (v := (1 : Int32)) (lv' := [(2, .int (x2 + (1 : Int32))), (0, vr x0), (1, .int x1)]) hx hb dX4_putRow_21 hl rfl (by decide) (by decide) (cR (cI (cI cN))) rfl (fun ls hl => ?_)
      refine lv_goto (tgt := 2) hx hb dX4_putRow_24 (by decide) ?_
      exact hk2 x0 x1 (x2 + (1 : Int32)) σ _ _ _ h g (lv_sub hl [1, 2, 0] rfl) hF
    · replace hF := ifp c7 hF
      obtain ⟨rfl, rfl⟩ := rts hF
      exact x_vret cx h dX4_putRow_20
def L_X4_putRow_2  : Nat → Nat → Int32 → Int32 → HS → Option (Unit × HS)
  | 0, _, _, _, _ => none
  | N + 1, x0, x1, x2, σ => B_X4_putRow_2 (L_X4_putRow_2  N) x0 x1 x2 σ
theorem mo_L_X4_putRow_2  : ∀ (N : Nat) (x0 : Nat) (x1 : Int32) (x2 : Int32) (σ : HS), Mo σ (L_X4_putRow_2  N x0 x1 x2 σ) := by
  intro N
  induction N with
  | zero => intro x0 x1 x2 σ; exact mo_none
  | succ N ih => intro x0 x1 x2 σ; exact mo_B_X4_putRow_2 ih x0 x1 x2 σ
theorem wl_X4_putRow_2 {p : Program} {l : Launch} {e : Env} {s : State} {m : MethodId} {args : Array Value} {below : List Frame} {meth : Method} {c : Code} {D : va_G} {dA : Nat → ClassId} {base : Nat} {σ0 τ : HS} {r : Unit} (cx : CX p s m args meth c cX4_putRow 3 none RX4 "putRow" D dA base)  : ∀ (N : Nat) (x0 : Nat) (x1 : Int32) (x2 : Int32) (σ : HS) (H : Heap) (locs : List Loc) (ls : Array Slot), Wd D dA base σ s H locs → LE σ0 σ → lv_has ls 3 [(0, vr x0), (1, .int x1), (2, .int x2)] → L_X4_putRow_2  N x0 x1 x2 σ = some (r, τ) → WG p l e s m args below meth c D dA base 0 0 none σ0 τ σ H locs 2 ls [] := by
  intro N
  induction N with
  | zero => intro x0 x1 x2 σ H locs ls h g hl hF; cases hF
  | succ N ih => intro x0 x1 x2 σ H locs ls h g hl hF; exact w_X4_putRow_2 cx (mo_L_X4_putRow_2  N) ih x0 x1 x2 h g hl hF
def F_X4_putRow (a0 : Nat) (a1 : Int32) (σ : HS) : Option (Unit × HS) :=
  L_X4_putRow_2  NF a0 a1 (0 : Int32) σ
theorem mo_F_X4_putRow (a0 : Nat) (a1 : Int32) (σ : HS) : Mo σ (F_X4_putRow a0 a1 σ) := by
  unfold F_X4_putRow
  exact (mo_L_X4_putRow_2  NF a0 a1 (0 : Int32) _)
set_option maxHeartbeats 4000000 in
set_option maxRecDepth 100000 in
theorem c_X4_putRow (l : Launch) (D : va_G) (dA : Nat → ClassId) (base : Nat) (a0 : Nat) (a1 : Int32) {σ τ : HS} {r : Unit} (hF : F_X4_putRow a0 a1 σ = some (r, τ)) : CT l yX4_putRow cX4_putRow 3 none 0 0 D dA base [vr a0, .int a1] none σ τ := by
  refine CT.of (lv := [(0, vr a0), (1, .int a1)]) (by decide) (vR (vI vN)) (Nat.le_of_ble_eq_true rfl) rfl ?_
  intro p e s m args below meth c ls cx hl h
  have cx : CX p s m args meth c cX4_putRow 3 none RX4 "putRow" D dA base := cx
  have g : LE σ σ := LE.rf
  obtain ⟨hx, hb, -⟩ := id cx
  unfold F_X4_putRow at hF
  refine lv_iconst (v := (0 : Int32)) hx hb dX4_putRow_0 (by decide) ?_
  refine x_istore_n (lv' := [(2, .int (0 : Int32)), (0, vr a0), (1, .int a1)]) hx hb dX4_putRow_1 rfl hl (by decide) (cR (cI cN)) rfl (fun ls hl => ?_)
  exact wl_X4_putRow_2 cx   NF a0 a1 (0 : Int32) σ _ _ _ h g (lv_sub hl [1, 2, 0] rfl) hF
