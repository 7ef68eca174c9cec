def B_X6_noCell_24  (y0 : Int32) (σ : HS) : Option (Int32 × HS) :=
  if y0 = 0 ∨ y0 = 1 then (some (y0, σ)) else none
theorem mo_B_X6_noCell_24  (y0 : Int32) (σ : HS) : Mo σ (B_X6_noCell_24  y0 σ) := by
  unfold B_X6_noCell_24
  exact (mo_ite mo_ret mo_none)
set_option maxHeartbeats 4000000 in
set_option maxRecDepth 100000 in
theorem w_X6_noCell_24 {p : Program} {l : Launch} {e : Env} {s : State} {m : MethodId} {args : Array Value} {below : List Frame} {meth : Method} {c : Code} {D : va_G} {dA : Nat → ClassId} {base : Nat} {σ0 τ : HS} {r : Int32} (cx : CX p s m args meth c cX6_noCell 2 (some .boolean) RX6 "noCell" D dA base)  (y0 : Int32) {σ : HS} {H : Heap} {locs : List Loc} {ls : Array Slot} (h : Wd D dA base σ s H locs) (g : LE σ0 σ) (hl : lv_has ls 2 []) (hF : B_X6_noCell_24  y0 σ = some (r, τ)) : WG p l e s m args below meth c D dA base 1 22 (some (.int r)) σ0 τ σ H locs 24 ls [.int y0] := by
  obtain ⟨hx, hb, -⟩ := id cx
  unfold B_X6_noCell_24 at hF
  obtain ⟨hz1, hF⟩ := ifs hF
  obtain ⟨rfl, rfl⟩ := rts hF
  exact x_zret cx h hz1 dX6_noCell_24
def B_X6_noCell_19   (σ : HS) : Option (Int32 × HS) :=
  B_X6_noCell_24  (1 : Int32) σ
theorem mo_B_X6_noCell_19   (σ : HS) : Mo σ (B_X6_noCell_19   σ) := by
  unfold B_X6_noCell_19
  exact (mo_B_X6_noCell_24  (1 : Int32) _)
set_option maxHeartbeats 4000000 in
set_option maxRecDepth 100000 in
theorem w_X6_noCell_19 {p : Program} {l : Launch} {e : Env} {s : State} {m : MethodId} {args : Array Value} {below : List Frame} {meth : Method} {c : Code} {D : va_G} {dA : Nat → ClassId} {base : Nat} {σ0 τ : HS} {r : Int32} (cx : CX p s m args meth c cX6_noCell 2 (some .boolean) RX6 "noCell" D dA base)   {σ : HS} {H : Heap} {locs : List Loc} {ls : Array Slot} (h : Wd D dA base σ s H locs) (g : LE σ0 σ) (hl : lv_has ls 2 []) (hF : B_X6_noCell_19   σ = some (r, τ)) : WG p l e s m args below meth c D dA base 1 22 (some (.int r)) σ0 τ σ H locs 19 ls [] := by
  obtain ⟨hx, hb, -⟩ := id cx
  unfold B_X6_noCell_19 at hF
  refine lv_iconst (v := (1 : Int32)) hx hb dX6_noCell_19 (by decide) ?_
  refine lv_goto (tgt := 24) hx hb dX6_noCell_20 (by decide) ?_
  exact w_X6_noCell_24 (σ := σ) cx   (1 : Int32) h g (lv_sub hl [] rfl) hF
def F_X6_noCell (a0 : Int32) (a1 : Int32) (σ : HS) : Option (Int32 × HS) :=
  bd (F_X6_in a0 (0 : Int32) (63 : Int32) σ) (fun r1 σ1 => if r1 = 0 then (B_X6_noCell_19   σ1) else (bd (F_X6_in a1 (0 : Int32) (3 : Int32) σ1) (fun r3 σ3 => if r3 = 0 then (B_X6_noCell_19   σ3) else (B_X6_noCell_24  (0 : Int32) σ3))))
theorem mo_F_X6_noCell (a0 : Int32) (a1 : Int32) (σ : HS) : Mo σ (F_X6_noCell a0 a1 σ) := by
  unfold F_X6_noCell
  exact (mo_bd (mo_F_X6_in a0 (0 : Int32) (63 : Int32) _) (fun r1 σ1 => (mo_ite (mo_B_X6_noCell_19   _) (mo_bd (mo_F_X6_in a1 (0 : Int32) (3 : Int32) _) (fun r3 σ3 => (mo_ite (mo_B_X6_noCell_19   _) (mo_B_X6_noCell_24  (0 : Int32) _)))))))
set_option maxHeartbeats 4000000 in
set_option maxRecDepth 100000 in
theorem c_X6_noCell (l : Launch) (D : va_G) (dA : Nat → ClassId) (base : Nat) (a0 : Int32) (a1 : Int32) {σ τ : HS} {r : Int32} (hF : F_X6_noCell a0 a1 σ = some (r, τ)) : CT l yX6_noCell cX6_noCell 2 (some .boolean) 1 22 D dA base [.int a0, .int a1] (some (.int r)) σ τ := by
  refine CT.of (lv := [(0, .int a0), (1, .int a1)]) (by decide) (vI (vI vN)) (Nat.le_of_ble_eq_true rfl) rfl ?_
  intro p e s m args below meth c ls cx hl h
  have cx : CX p s m args meth c cX6_noCell 2 (some .boolean) RX6 "noCell" D dA base := cx
  have g : LE σ σ := LE.rf
  obtain ⟨hx, hb, -⟩ := id cx
  unfold F_X6_noCell at hF
  refine lv_iload_n hx hb dX6_noCell_0 rfl (lv_at hl 0 rfl) ?_
  refine lv_iconst (v := (0 : Int32)) hx hb dX6_noCell_1 (by decide) ?_
  refine lv_bipush (v := (63 : Int32)) hx hb dX6_noCell_2 (by decide) ?_
  obtain ⟨r1, σ1, hc1, hF⟩ := bds hF
  refine x_calli (σ := σ) g (LEm hc1 (mo_F_X6_in a0 (0 : Int32) (63 : Int32) _)) (x_runS (As := [.int a0, .int (0 : Int32), .int (63 : Int32)]) (rest := []) cx h (c_X6_in l D dA base a0 (0 : Int32) (63 : Int32) hc1) ml_X6_134 mi_X6_in rfl ⟨Nat.le_of_ble_eq_true rfl, Nat.le_of_ble_eq_true rfl⟩ hl.1 rfl (s8 sN (by decide)) dX6_noCell_4 (le_room g (LEm hc1 (mo_F_X6_in a0 (0 : Int32) (63 : Int32) _)) (LEm hF (mo_ite (mo_B_X6_noCell_19   _) (mo_bd (mo_F_X6_in a1 (0 : Int32) (3 : Int32) _) (fun r3 σ3 => (mo_ite (mo_B_X6_noCell_19   _) (mo_B_X6_noCell_24  (0 : Int32) _)))))))) h (fun H locs h g => ?_)
  refine lv_if_eq (tgt := 19) hx hb dX6_noCell_7 (by decide) (fun c2 => ?_) (fun c2 => ?_)
  · replace hF := ifp c2 hF
    exact w_X6_noCell_19 (σ := σ1) cx    h g (lv_sub hl [] rfl) hF
  · replace hF := ifn c2 hF
    refine lv_iload_n hx hb dX6_noCell_10 rfl (lv_at hl 1 rfl) ?_
    refine lv_iconst (v := (0 : Int32)) hx hb dX6_noCell_11 (by decide) ?_
    refine lv_iconst (v := (3 : Int32)) hx hb dX6_noCell_12 (by decide) ?_
    obtain ⟨r3, σ3, hc3, hF⟩ := bds hF
    refine x_calli (σ := σ1) g (LEm hc3 (mo_F_X6_in a1 (0 : Int32) (3 : Int32) _)) (x_runS (As := [.int a1, .int (0 : Int32), .int (3 : Int32)]) (rest := []) cx h (c_X6_in l D dA base a1 (0 : Int32) (3 : Int32) hc3) ml_X6_134 mi_X6_in rfl ⟨Nat.le_of_ble_eq_true rfl, Nat.le_of_ble_eq_true rfl⟩ hl.1 rfl (s8 sN (by decide)) dX6_noCell_13 (le_room g (LEm hc3 (mo_F_X6_in a1 (0 : Int32) (3 : Int32) _)) (LEm hF (mo_ite (mo_B_X6_noCell_19   _) (mo_B_X6_noCell_24  (0 : Int32) _))))) h (fun H locs h g => ?_)
    refine lv_if_ne (tgt := 23) hx hb dX6_noCell_16 (by decide) (fun c4 => ?_) (fun c4 => ?_)
    · replace hF := ifn c4 hF
      refine lv_iconst (v := (0 : Int32)) hx hb dX6_noCell_23 (by decide) ?_
      exact w_X6_noCell_24 (σ := σ3) cx   (0 : Int32) h g (lv_sub hl [] rfl) hF
    · replace hF := ifp c4 hF
      exact w_X6_noCell_19 (σ := σ3) cx    h g (lv_sub hl [] rfl) hF
def F_X6_begin (a0 : Nat) (a1 : Int32) (σ : HS) : Option (Int32 × HS) :=
  if kd σ a0 = 7 then (bd (F_X6_noClient a1 (si σ 240 a0 (0 : Int32))) (fun r2 σ2 => if r2 = 0 then (if kd σ2 a0 = 7 then (if kd σ2 (gr σ2 261 a0) = 100 ∧ inb a1 (ln σ2 (gr σ2 261 a0)) then (if kd (sai σ2 (gr σ2 261 a0) a1.toNatClampNeg (gi σ2 241 a0)) (gr (sai σ2 (gr σ2 261 a0) a1.toNatClampNeg (gi σ2 241 a0)) 259 a0) = 100 ∧ inb a1 (ln (sai σ2 (gr σ2 261 a0) a1.toNatClampNeg (gi σ2 241 a0)) (gr (sai σ2 (gr σ2 261 a0) a1.toNatClampNeg (gi σ2 241 a0)) 259 a0)) then (if (ai (sai σ2 (gr σ2 261 a0) a1.toNatClampNeg (gi σ2 241 a0)) (gr (sai σ2 (gr σ2 261 a0) a1.toNatClampNeg (gi σ2 241 a0)) 259 a0) a1.toNatClampNeg) ≤ 0 then (lt1 (sai (sai σ2 (gr σ2 261 a0) a1.toNatClampNeg (gi σ2 241 a0)) (gr (sai σ2 (gr σ2 261 a0) a1.toNatClampNeg (gi σ2 241 a0)) 259 a0) a1.toNatClampNeg (1 : Int32)) (fun σ8 => bd (F_X6_give a0 σ8) (fun r9 σ9 => if kd σ9 (gr σ8 260 a0) = 100 ∧ inb a1 (ln σ9 (gr σ8 260 a0)) then (if kd (sai σ9 (gr σ8 260 a0) a1.toNatClampNeg r9) a0 = 7 then (if kd (sai σ9 (gr σ8 260 a0) a1.toNatClampNeg r9) (gr (sai σ9 (gr σ8 260 a0) a1.toNatClampNeg r9) 262 a0) = 100 ∧ inb a1 (ln (sai σ9 (gr σ8 260 a0) a1.toNatClampNeg r9) (gr (sai σ9 (gr σ8 260 a0) a1.toNatClampNeg r9) 262 a0)) then (lt1 (sai (sai σ9 (gr σ8 260 a0) a1.toNatClampNeg r9) (gr (sai σ9 (gr σ8 260 a0) a1.toNatClampNeg r9) 262 a0) a1.toNatClampNeg (0 : Int32)) (fun σ13 => if kd σ13 (gr σ13 265 a0) = 100 ∧ inb a1 (ln σ13 (gr σ13 265 a0)) then (if kd (sai σ13 (gr σ13 265 a0) a1.toNatClampNeg (0 : Int32)) (gr (sai σ13 (gr σ13 265 a0) a1.toNatClampNeg (0 : Int32)) 266 a0) = 100 ∧ inb a1 (ln (sai σ13 (gr σ13 265 a0) a1.toNatClampNeg (0 : Int32)) (gr (sai σ13 (gr σ13 265 a0) a1.toNatClampNeg (0 : Int32)) 266 a0)) then (lt1 (sai (sai σ13 (gr σ13 265 a0) a1.toNatClampNeg (0 : Int32)) (gr (sai σ13 (gr σ13 265 a0) a1.toNatClampNeg (0 : Int32)) 266 a0) a1.toNatClampNeg (0 : Int32)) (fun σ16 => if kd σ16 (gr σ16 260 a0) = 100 ∧ inb a1 (ln σ16 (gr σ16 260 a0)) then (some ((ai σ16 (gr σ16 260 a0) a1.toNatClampNeg), σ16)) else none)) else none) else none)) else none) else none) else none))) else (some ((-3 : Int32), (sai σ2 (gr σ2 261 a0) a1.toNatClampNeg (gi σ2 241 a0))))) else none) else none) else none) else (some ((-1 : Int32), σ2)))) else none
theorem mo_F_X6_begin (a0 : Nat) (a1 : Int32) (σ : HS) : Mo σ (F_X6_begin a0 a1 σ) := by
  unfold F_X6_begin
  exact (mo_ite (mo_le (τ := (si σ 240 a0 (0 : Int32))) ⟨Nat.le_refl _, Nat.le_refl _⟩ (mo_bd (mo_F_X6_noClient a1 _) (fun r2 σ2 => (mo_ite (mo_ite (mo_ite (mo_ite (mo_ite (mo_lt ⟨Nat.le_refl _, Nat.le_refl _⟩ (fun σ8 => (mo_bd (mo_F_X6_give a0 _) (fun r9 σ9 => (mo_ite (mo_ite (mo_ite (mo_lt ⟨Nat.le_refl _, Nat.le_refl _⟩ (fun σ13 => (mo_ite (mo_ite (mo_lt ⟨Nat.le_refl _, Nat.le_refl _⟩ (fun σ16 => (mo_ite mo_ret mo_none))) mo_none) mo_none))) mo_none) mo_none) mo_none))))) (mo_le (τ := (sai σ2 (gr σ2 261 a0) a1.toNatClampNeg (gi σ2 241 a0))) ⟨Nat.le_refl _, Nat.le_refl _⟩ mo_ret)) mo_none) mo_none) mo_none) mo_ret)))) mo_none)
set_option maxHeartbeats 4000000 in
set_option maxRecDepth 100000 in
theorem c_X6_begin (l : Launch) (D : va_G) (dA : Nat → ClassId) (base : Nat) (a0 : Nat) (a1 : Int32) {σ τ : HS} {r : Int32} (hF : F_X6_begin a0 a1 σ = some (r, τ)) : CT l yX6_begin cX6_begin 2 (some .int) 2 42 D dA base [vr a0, .int a1] (some (.int r)) σ τ := by
  refine CT.of (lv := [(0, vr a0), (1, .int a1)]) (by decide) (vR (vI vN)) (Nat.le_of_ble_eq_true rfl) rfl ?_
  intro p e s m args below meth c ls cx hl h
  have cx : CX p s m args meth c cX6_begin 2 (some .int) RX6 "begin" D dA base := cx
  have g : LE σ σ := LE.rf
  obtain ⟨hx, hb, -⟩ := id cx
  unfold F_X6_begin at hF
  refine x_aload_n hx hb dX6_begin_0 rfl (lv_at hl 0 rfl) ?_
  refine lv_iconst (v := (0 : Int32)) hx hb dX6_begin_1 (by decide) ?_
  obtain ⟨hq1, hF⟩ := ifs hF
  refine x_sti cx h fa_X6_75 (f := 240) rfl (Or.inl rfl) hq1 dX6_begin_2 (fun H locs h => ?_)
  refine lv_iload_n hx hb dX6_begin_5 rfl (lv_at hl 1 rfl) ?_
  obtain ⟨r2, σ2, hc2, hF⟩ := bds hF
  refine x_calli (σ := (si σ 240 a0 (0 : Int32))) g (LEm hc2 (mo_F_X6_noClient a1 _)) (x_runS (As := [.int a1]) (rest := []) cx h (c_X6_noClient l D dA base a1 hc2) ml_X6_138 mi_X6_noClient rfl ⟨Nat.le_of_ble_eq_true rfl, Nat.le_of_ble_eq_true rfl⟩ hl.1 rfl (s8 sN (by decide)) dX6_begin_6 (le_room g (LEm hc2 (mo_F_X6_noClient a1 _)) (LEm hF (mo_ite (mo_ite (mo_ite (mo_ite (mo_ite (mo_lt ⟨Nat.le_refl _, Nat.le_refl _⟩ (fun σ8 => (mo_bd (mo_F_X6_give a0 _) (fun r9 σ9 => (mo_ite (mo_ite (mo_ite (mo_lt ⟨Nat.le_refl _, Nat.le_refl _⟩ (fun σ13 => (mo_ite (mo_ite (mo_lt ⟨Nat.le_refl _, Nat.le_refl _⟩ (fun σ16 => (mo_ite mo_ret mo_none))) mo_none) mo_none))) mo_none) mo_none) mo_none))))) (mo_le (τ := (sai σ2 (gr σ2 261 a0) a1.toNatClampNeg (gi σ2 241 a0))) ⟨Nat.le_refl _, Nat.le_refl _⟩ mo_ret)) mo_none) mo_none) mo_none) mo_ret)))) h (fun H locs h g => ?_)
  refine lv_if_eq (tgt := 14) hx hb dX6_begin_9 (by decide) (fun c3 => ?_) (fun c3 => ?_)
  · replace hF := ifp c3 hF
    refine x_aload_n hx hb dX6_begin_14 rfl (lv_at hl 0 rfl) ?_
    obtain ⟨hq4, hF⟩ := ifs hF
    refine x_getr cx h fa_X6_54 (f := 261) rfl hq4 dX6_begin_15 ?_
    refine lv_iload_n hx hb dX6_begin_18 rfl (lv_at hl 1 rfl) ?_
    refine x_aload_n hx hb dX6_begin_19 rfl (lv_at hl 0 rfl) ?_
    refine x_geti cx h fa_X6_103 (f := 241) rfl hq4 dX6_begin_20 ?_
    obtain ⟨hq5, hF⟩ := ifs hF
    refine x_iast cx h hq5.1 (inb.vp hq5.2) dX6_begin_23 (fun H locs h => ?_)
    refine x_aload_n hx hb dX6_begin_24 rfl (lv_at hl 0 rfl) ?_
    refine x_getr cx h fa_X6_48 (f := 259) rfl hq4 dX6_begin_25 ?_
    refine lv_iload_n hx hb dX6_begin_28 rfl (lv_at hl 1 rfl) ?_
    obtain ⟨hq6, hF⟩ := ifs hF
    refine x_iald cx h hq6.1 (inb.vp hq6.2) dX6_begin_29 ?_
    refine lv_if_le (tgt := 36) hx hb dX6_begin_30 (by decide) (fun c7 => ?_) (fun c7 => ?_)
    · replace hF := ifp c7 hF
      refine x_aload_n hx hb dX6_begin_36 rfl (lv_at hl 0 rfl) ?_
      refine x_getr cx h fa_X6_48 (f := 259) rfl hq4 dX6_begin_37 ?_
      refine lv_iload_n hx hb dX6_begin_40 rfl (lv_at hl 1 rfl) ?_
      refine lv_iconst (v := (1 : Int32)) hx hb dX6_begin_41 (by decide) ?_
      refine x_iast cx h hq6.1 (inb.vp hq6.2) dX6_begin_42 (fun H locs h => ?_)
      obtain ⟨σ8, e8, hF⟩ := lts hF
      have h := Wd.nm e8 h
      have g := LE.nm e8 g
      refine W.cs (cells' := hs σ8 - hs σ) (slots' := ns σ8 - ns σ) (by rw [e8]; try rfl) (by rw [e8]; try rfl) ?_
      refine x_aload_n hx hb dX6_begin_43 rfl (lv_at hl 0 rfl) ?_
      refine x_getr cx h fa_X6_51 (f := 260) rfl (by rw [e8]; exact hq4) dX6_begin_44 ?_
      refine lv_iload_n hx hb dX6_begin_47 rfl (lv_at hl 1 rfl) ?_
      refine x_aload_n hx hb dX6_begin_48 rfl (lv_at hl 0 rfl) ?_
      obtain ⟨r9, σ9, hc9, hF⟩ := bds hF
      refine x_calli (σ := σ8) g (LEm hc9 (mo_F_X6_give a0 _)) (x_runV (As := []) (rest := [.int a1, vr (gr σ8 260 a0)]) cx h (c_X6_give l D dA base a0 hc9) ml_X6_141 mi_X6_give (by rw [e8]; exact hq4) rfl ⟨Nat.le_of_ble_eq_true rfl, Nat.le_of_ble_eq_true rfl⟩ hl.1 rfl (s8 (sI (sR sN)) (by decide)) dX6_begin_49 (le_room g (LEm hc9 (mo_F_X6_give a0 _)) (LEm hF (mo_ite (mo_ite (mo_ite (mo_lt ⟨Nat.le_refl _, Nat.le_refl _⟩ (fun σ13 => (mo_ite (mo_ite (mo_lt ⟨Nat.le_refl _, Nat.le_refl _⟩ (fun σ16 => (mo_ite mo_ret mo_none))) mo_none) mo_none))) mo_none) mo_none) mo_none)))) h (fun H locs h g => ?_)
      obtain ⟨hq10, hF⟩ := ifs hF
      refine x_iast cx h hq10.1 (inb.vp hq10.2) dX6_begin_52 (fun H locs h => ?_)
      refine x_aload_n hx hb dX6_begin_53 rfl (lv_at hl 0 rfl) ?_
      obtain ⟨hq11, hF⟩ := ifs hF
      refine x_getr cx h fa_X6_57 (f := 262) rfl hq11 dX6_begin_54 ?_
      refine lv_iload_n hx hb dX6_begin_57 rfl (lv_at hl 1 rfl) ?_
      refine lv_iconst (v := (0 : Int32)) hx hb dX6_begin_58 (by decide) ?_
      obtain ⟨hq12, hF⟩ := ifs hF
      refine x_iast cx h hq12.1 (inb.vp hq12.2) dX6_begin_59 (fun H locs h => ?_)
      obtain ⟨σ13, e13, hF⟩ := lts hF
      have h := Wd.nm e13 h
      have g := LE.nm e13 g
      refine W.cs (cells' := hs σ13 - hs σ) (slots' := ns σ13 - ns σ) (by rw [e13]; try rfl) (by rw [e13]; try rfl) ?_
      refine x_aload_n hx hb dX6_begin_60 rfl (lv_at hl 0 rfl) ?_
      refine x_getr cx h fa_X6_66 (f := 265) rfl (by rw [e13]; exact hq11) dX6_begin_61 ?_
      refine lv_iload_n hx hb dX6_begin_64 rfl (lv_at hl 1 rfl) ?_
      refine lv_iconst (v := (0 : Int32)) hx hb dX6_begin_65 (by decide) ?_
      obtain ⟨hq14, hF⟩ := ifs hF
      refine x_iast cx h hq14.1 (inb.vp hq14.2) dX6_begin_66 (fun H locs h => ?_)
      refine x_aload_n hx hb dX6_begin_67 rfl (lv_at hl 0 rfl) ?_
      refine x_getr cx h fa_X6_69 (f := 266) rfl (by rw [e13]; exact hq11) dX6_begin_68 ?_
      refine lv_iload_n hx hb dX6_begin_71 rfl (lv_at hl 1 rfl) ?_
      refine lv_iconst (v := (0 : Int32)) hx hb dX6_begin_72 (by decide) ?_
      obtain ⟨hq15, hF⟩ := ifs hF
      refine x_iast cx h hq15.1 (inb.vp hq15.2) dX6_begin_73 (fun H locs h => ?_)
      obtain ⟨σ16, e16, hF⟩ := lts hF
      have h := Wd.nm e16 h
      have g := LE.nm e16 g
      refine W.cs (cells' := hs σ16 - hs σ) (slots' := ns σ16 - ns σ) (by rw [e16]; try rfl) (by rw [e16]; try rfl) ?_
      refine x_aload_n hx hb dX6_begin_74 rfl (lv_at hl 0 rfl) ?_
      refine x_getr cx h fa_X6_51 (f := 260) rfl (by rw [e16]; exact (by rw [e13]; exact hq11)) dX6_begin_75 ?_
      refine lv_iload_n hx hb dX6_begin_78 rfl (lv_at hl 1 rfl) ?_
      obtain ⟨hq17, hF⟩ := ifs hF
      refine x_iald cx h hq17.1 (inb.vp hq17.2) dX6_begin_79 ?_
      obtain ⟨rfl, rfl⟩ := rts hF
      exact x_iret cx h dX6_begin_80
    · replace hF := ifn c7 hF
      refine lv_bipush (v := (-3 : Int32)) hx hb dX6_begin_33 (by decide) ?_
      obtain ⟨rfl, rfl⟩ := rts hF
      exact x_iret cx h dX6_begin_35
  · replace hF := ifn c3 hF
    refine lv_iconst (v := (-1 : Int32)) hx hb dX6_begin_12 (by decide) ?_
    obtain ⟨rfl, rfl⟩ := rts hF
    exact x_iret cx h dX6_begin_13
def B_X6_read_20   (σ : HS) : Option (Int32 × HS) :=
  some ((-1 : Int32), σ)
theorem mo_B_X6_read_20   (σ : HS) : Mo σ (B_X6_read_20   σ) := by
  unfold B_X6_read_20
  exact mo_ret
set_option maxHeartbeats 4000000 in
set_option maxRecDepth 100000 in
theorem w_X6_read_20 {p : Program} {l : Launch} {e : Env} {s : State} {m : MethodId} {args : Array Value} {below : List Frame} {meth : Method} {c : Code} {D : va_G} {dA : Nat → ClassId} {base : Nat} {σ0 τ : HS} {r : Int32} (cx : CX p s m args meth c cX6_read 4 (some .int) RX6 "read" D dA base)   {σ : HS} {H : Heap} {locs : List Loc} {ls : Array Slot} (h : Wd D dA base σ s H locs) (g : LE σ0 σ) (hl : lv_has ls 4 []) (hF : B_X6_read_20   σ = some (r, τ)) : WG p l e s m args below meth c D dA base 4 96 (some (.int r)) σ0 τ σ H locs 20 ls [] := by
  obtain ⟨hx, hb, -⟩ := id cx
  unfold B_X6_read_20 at hF
  refine lv_iconst (v := (-1 : Int32)) hx hb dX6_read_20 (by decide) ?_
  obtain ⟨rfl, rfl⟩ := rts hF
  exact x_iret cx h dX6_read_21
def B_X6_read_61  (y0 : Int32) (σ : HS) : Option (Int32 × HS) :=
  some (y0, σ)
theorem mo_B_X6_read_61  (y0 : Int32) (σ : HS) : Mo σ (B_X6_read_61  y0 σ) := by
  unfold B_X6_read_61
  exact mo_ret
set_option maxHeartbeats 4000000 in
set_option maxRecDepth 100000 in
theorem w_X6_read_61 {p : Program} {l : Launch} {e : Env} {s : State} {m : MethodId} {args : Array Value} {below : List Frame} {meth : Method} {c : Code} {D : va_G} {dA : Nat → ClassId} {base : Nat} {σ0 τ : HS} {r : Int32} (cx : CX p s m args meth c cX6_read 4 (some .int) RX6 "read" D dA base)  (y0 : Int32) {σ : HS} {H : Heap} {locs : List Loc} {ls : Array Slot} (h : Wd D dA base σ s H locs) (g : LE σ0 σ) (hl : lv_has ls 4 []) (hF : B_X6_read_61  y0 σ = some (r, τ)) : WG p l e s m args below meth c D dA base 4 96 (some (.int r)) σ0 τ σ H locs 61 ls [.int y0] := by
  obtain ⟨hx, hb, -⟩ := id cx
  unfold B_X6_read_61 at hF
  obtain ⟨rfl, rfl⟩ := rts hF
  exact x_iret cx h dX6_read_61
def F_X6_read (a0 : Nat) (a1 : Int32) (a2 : Int32) (a3 : Int32) (σ : HS) : Option (Int32 × HS) :=
  if kd σ a0 = 7 then (bd (F_X6_noClient a1 (si σ 240 a0 (0 : Int32))) (fun r2 σ2 => if r2 = 0 then (bd (F_X6_noCell a2 a3 σ2) (fun r4 σ4 => if r4 = 0 then (if kd σ4 a0 = 7 then (if kd σ4 (gr σ4 261 a0) = 100 ∧ inb a1 (ln σ4 (gr σ4 261 a0)) then (if kd (sai σ4 (gr σ4 261 a0) a1.toNatClampNeg (gi σ4 241 a0)) (gr (sai σ4 (gr σ4 261 a0) a1.toNatClampNeg (gi σ4 241 a0)) 259 a0) = 100 ∧ inb a1 (ln (sai σ4 (gr σ4 261 a0) a1.toNatClampNeg (gi σ4 241 a0)) (gr (sai σ4 (gr σ4 261 a0) a1.toNatClampNeg (gi σ4 241 a0)) 259 a0)) then (if (ai (sai σ4 (gr σ4 261 a0) a1.toNatClampNeg (gi σ4 241 a0)) (gr (sai σ4 (gr σ4 261 a0) a1.toNatClampNeg (gi σ4 241 a0)) 259 a0) a1.toNatClampNeg) = (1 : Int32) then (bd (F_X6_see a0 a1 (((4 : Int32) * a2) + a3) (sai σ4 (gr σ4 261 a0) a1.toNatClampNeg (gi σ4 241 a0))) (fun r10 σ10 => if kd σ10 a0 = 7 then (bd (F_X6_end a0 r10 σ10) (fun r12 σ12 => B_X6_read_61  r12 σ12)) else none)) else (B_X6_read_61  (-3 : Int32) (sai σ4 (gr σ4 261 a0) a1.toNatClampNeg (gi σ4 241 a0)))) else none) else none) else none) else (B_X6_read_20   σ4))) else (B_X6_read_20   σ2))) else none
theorem mo_F_X6_read (a0 : Nat) (a1 : Int32) (a2 : Int32) (a3 : Int32) (σ : HS) : Mo σ (F_X6_read a0 a1 a2 a3 σ) := by
  unfold F_X6_read
  exact (mo_ite (mo_le (τ := (si σ 240 a0 (0 : Int32))) ⟨Nat.le_refl _, Nat.le_refl _⟩ (mo_bd (mo_F_X6_noClient a1 _) (fun r2 σ2 => (mo_ite (mo_bd (mo_F_X6_noCell a2 a3 _) (fun r4 σ4 => (mo_ite (mo_ite (mo_ite (mo_ite (mo_ite (mo_le (τ := (sai σ4 (gr σ4 261 a0) a1.toNatClampNeg (gi σ4 241 a0))) ⟨Nat.le_refl _, Nat.le_refl _⟩ (mo_bd (mo_F_X6_see a0 a1 (((4 : Int32) * a2) + a3) _) (fun r10 σ10 => (mo_ite (mo_bd (mo_F_X6_end a0 r10 _) (fun r12 σ12 => (mo_B_X6_read_61  r12 _))) mo_none)))) (mo_le (τ := (sai σ4 (gr σ4 261 a0) a1.toNatClampNeg (gi σ4 241 a0))) ⟨Nat.le_refl _, Nat.le_refl _⟩ (mo_B_X6_read_61  (-3 : Int32) _))) mo_none) mo_none) mo_none) (mo_B_X6_read_20   _)))) (mo_B_X6_read_20   _))))) mo_none)
set_option maxHeartbeats 4000000 in
set_option maxRecDepth 100000 in
theorem c_X6_read (l : Launch) (D : va_G) (dA : Nat → ClassId) (base : Nat) (a0 : Nat) (a1 : Int32) (a2 : Int32) (a3 : Int32) {σ τ : HS} {r : Int32} (hF : F_X6_read a0 a1 a2 a3 σ = some (r, τ)) : CT l yX6_read cX6_read 4 (some .int) 4 96 D dA base [vr a0, .int a1, .int a2, .int a3] (some (.int r)) σ τ := by
  refine CT.of (lv := [(0, vr a0), (1, .int a1), (2, .int a2), (3, .int a3)]) (by decide) (vR (vI (vI (vI vN)))) (Nat.le_of_ble_eq_true rfl) rfl ?_
  intro p e s m args below meth c ls cx hl h
  have cx : CX p s m args meth c cX6_read 4 (some .int) RX6 "read" D dA base := cx
  have g : LE σ σ := LE.rf
  obtain ⟨hx, hb, -⟩ := id cx
  unfold F_X6_read at hF
  refine x_aload_n hx hb dX6_read_0 rfl (lv_at hl 0 rfl) ?_
  refine lv_iconst (v := (0 : Int32)) hx hb dX6_read_1 (by decide) ?_
  obtain ⟨hq1, hF⟩ := ifs hF
  refine x_sti cx h fa_X6_75 (f := 240) rfl (Or.inl rfl) hq1 dX6_read_2 (fun H locs h => ?_)
  refine lv_iload_n hx hb dX6_read_5 rfl (lv_at hl 1 rfl) ?_
  obtain ⟨r2, σ2, hc2, hF⟩ := bds hF
  refine x_calli (σ := (si σ 240 a0 (0 : Int32))) g (LEm hc2 (mo_F_X6_noClient a1 _)) (x_runS (As := [.int a1]) (rest := []) cx h (c_X6_noClient l D dA base a1 hc2) ml_X6_138 mi_X6_noClient rfl ⟨Nat.le_of_ble_eq_true rfl, Nat.le_of_ble_eq_true rfl⟩ hl.1 rfl (s8 sN (by decide)) dX6_read_6 (le_room g (LEm hc2 (mo_F_X6_noClient a1 _)) (LEm hF (mo_ite (mo_bd (mo_F_X6_noCell a2 a3 _) (fun r4 σ4 => (mo_ite (mo_ite (mo_ite (mo_ite (mo_ite (mo_le (τ := (sai σ4 (gr σ4 261 a0) a1.toNatClampNeg (gi σ4 241 a0))) ⟨Nat.le_refl _, Nat.le_refl _⟩ (mo_bd (mo_F_X6_see a0 a1 (((4 : Int32) * a2) + a3) _) (fun r10 σ10 => (mo_ite (mo_bd (mo_F_X6_end a0 r10 _) (fun r12 σ12 => (mo_B_X6_read_61  r12 _))) mo_none)))) (mo_le (τ := (sai σ4 (gr σ4 261 a0) a1.toNatClampNeg (gi σ4 241 a0))) ⟨Nat.le_refl _, Nat.le_refl _⟩ (mo_B_X6_read_61  (-3 : Int32) _))) mo_none) mo_none) mo_none) (mo_B_X6_read_20   _)))) (mo_B_X6_read_20   _))))) h (fun H locs h g => ?_)
  refine lv_if_ne (tgt := 20) hx hb dX6_read_9 (by decide) (fun c3 => ?_) (fun c3 => ?_)
  · replace hF := ifn c3 hF
    exact w_X6_read_20 (σ := σ2) cx    h g (lv_sub hl [] rfl) hF
  · replace hF := ifp c3 hF
    refine lv_iload_n hx hb dX6_read_12 rfl (lv_at hl 2 rfl) ?_
    refine lv_iload_n hx hb dX6_read_13 rfl (lv_at hl 3 rfl) ?_
    obtain ⟨r4, σ4, hc4, hF⟩ := bds hF
    refine x_calli (σ := σ2) g (LEm hc4 (mo_F_X6_noCell a2 a3 _)) (x_runS (As := [.int a2, .int a3]) (rest := []) cx h (c_X6_noCell l D dA base a2 a3 hc4) ml_X6_145 mi_X6_noCell rfl ⟨Nat.le_of_ble_eq_true rfl, Nat.le_of_ble_eq_true rfl⟩ hl.1 rfl (s8 sN (by decide)) dX6_read_14 (le_room g (LEm hc4 (mo_F_X6_noCell a2 a3 _)) (LEm hF (mo_ite (mo_ite (mo_ite (mo_ite (mo_ite (mo_le (τ := (sai σ4 (gr σ4 261 a0) a1.toNatClampNeg (gi σ4 241 a0))) ⟨Nat.le_refl _, Nat.le_refl _⟩ (mo_bd (mo_F_X6_see a0 a1 (((4 : Int32) * a2) + a3) _) (fun r10 σ10 => (mo_ite (mo_bd (mo_F_X6_end a0 r10 _) (fun r12 σ12 => (mo_B_X6_read_61  r12 _))) mo_none)))) (mo_le (τ := (sai σ4 (gr σ4 261 a0) a1.toNatClampNeg (gi σ4 241 a0))) ⟨Nat.le_refl _, Nat.le_refl _⟩ (mo_B_X6_read_61  (-3 : Int32) _))) mo_none) mo_none) mo_none) (mo_B_X6_read_20   _))))) h (fun H locs h g => ?_)
    refine lv_if_eq (tgt := 22) hx hb dX6_read_17 (by decide) (fun c5 => ?_) (fun c5 => ?_)
    · replace hF := ifp c5 hF
      refine x_aload_n hx hb dX6_read_22 rfl (lv_at hl 0 rfl) ?_
      obtain ⟨hq6, hF⟩ := ifs hF
      refine x_getr cx h fa_X6_54 (f := 261) rfl hq6 dX6_read_23 ?_
      refine lv_iload_n hx hb dX6_read_26 rfl (lv_at hl 1 rfl) ?_
      refine x_aload_n hx hb dX6_read_27 rfl (lv_at hl 0 rfl) ?_
      refine x_geti cx h fa_X6_103 (f := 241) rfl hq6 dX6_read_28 ?_
      obtain ⟨hq7, hF⟩ := ifs hF
      refine x_iast cx h hq7.1 (inb.vp hq7.2) dX6_read_31 (fun H locs h => ?_)
      refine x_aload_n hx hb dX6_read_32 rfl (lv_at hl 0 rfl) ?_
      refine x_getr cx h fa_X6_48 (f := 259) rfl hq6 dX6_read_33 ?_
      refine lv_iload_n hx hb dX6_read_36 rfl (lv_at hl 1 rfl) ?_
      obtain ⟨hq8, hF⟩ := ifs hF
      refine x_iald cx h hq8.1 (inb.vp hq8.2) dX6_read_37 ?_
      refine lv_iconst (v := (1 : Int32)) hx hb dX6_read_38 (by decide) ?_
      refine lv_icmp_eq (tgt := 47) hx hb dX6_read_39 (by decide) (fun c9 => ?_) (fun c9 => ?_)
      · replace hF := ifp c9 hF
        refine x_aload_n hx hb dX6_read_47 rfl (lv_at hl 0 rfl) ?_
        refine x_aload_n hx hb dX6_read_48 rfl (lv_at hl 0 rfl) ?_
        refine lv_iload_n hx hb dX6_read_49 rfl (lv_at hl 1 rfl) ?_
        refine lv_iconst (v := (4 : Int32)) hx hb dX6_read_50 (by decide) ?_
        refine lv_iload_n hx hb dX6_read_51 rfl (lv_at hl 2 rfl) ?_
        refine lv_imul hx hb dX6_read_52 ?_
        refine lv_iload_n hx hb dX6_read_53 rfl (lv_at hl 3 rfl) ?_
        refine lv_iadd hx hb dX6_read_54 ?_
        obtain ⟨r10, σ10, hc10, hF⟩ := bds hF
        refine x_calli (σ := (sai σ4 (gr σ4 261 a0) a1.toNatClampNeg (gi σ4 241 a0))) g (LEm hc10 (mo_F_X6_see a0 a1 (((4 : Int32) * a2) + a3) _)) (x_runV (As := [.int a1, .int (((4 : Int32) * a2) + a3)]) (rest := [vr a0]) cx h (c_X6_see l D dA base a0 a1 (((4 : Int32) * a2) + a3) hc10) ml_X6_149 mi_X6_see hq6 rfl ⟨Nat.le_of_ble_eq_true rfl, Nat.le_of_ble_eq_true rfl⟩ hl.1 rfl (s8 (sR sN) (by decide)) dX6_read_55 (le_room g (LEm hc10 (mo_F_X6_see a0 a1 (((4 : Int32) * a2) + a3) _)) (LEm hF (mo_ite (mo_bd (mo_F_X6_end a0 r10 _) (fun r12 σ12 => (mo_B_X6_read_61  r12 _))) mo_none)))) h (fun H locs h g => ?_)
        obtain ⟨hq11, hF⟩ := ifs hF
        obtain ⟨r12, σ12, hc12, hF⟩ := bds hF
        refine x_calli (σ := σ10) g (LEm hc12 (mo_F_X6_end a0 r10 _)) (x_runV (As := [.int r10]) (rest := []) cx h (c_X6_end l D dA base a0 r10 hc12) ml_X6_152 mi_X6_end hq11 rfl ⟨Nat.le_of_ble_eq_true rfl, Nat.le_of_ble_eq_true rfl⟩ hl.1 rfl (s8 sN (by decide)) dX6_read_58 (le_room g (LEm hc12 (mo_F_X6_end a0 r10 _)) (LEm hF (mo_B_X6_read_61  r12 _)))) h (fun H locs h g => ?_)
        exact w_X6_read_61 (σ := σ12) cx   r12 h g (lv_sub hl [] rfl) hF
      · replace hF := ifn c9 hF
        refine lv_bipush (v := (-3 : Int32)) hx hb dX6_read_42 (by decide) ?_
        refine lv_goto (tgt := 61) hx hb dX6_read_44 (by decide) ?_
        exact w_X6_read_61 (σ := (sai σ4 (gr σ4 261 a0) a1.toNatClampNeg (gi σ4 241 a0))) cx   (-3 : Int32) h g (lv_sub hl [] rfl) hF
    · replace hF := ifn c5 hF
      exact w_X6_read_20 (σ := σ4) cx    h g (lv_sub hl [] rfl) hF
def B_X6_next_22   (σ : HS) : Option (Int32 × HS) :=
  some ((-1 : Int32), σ)
theorem mo_B_X6_next_22   (σ : HS) : Mo σ (B_X6_next_22   σ) := by
  unfold B_X6_next_22
  exact mo_ret
set_option maxHeartbeats 4000000 in
set_option maxRecDepth 100000 in
theorem w_X6_next_22 {p : Program} {l : Launch} {e : Env} {s : State} {m : MethodId} {args : Array Value} {below : List Frame} {meth : Method} {c : Code} {D : va_G} {dA : Nat → ClassId} {base : Nat} {σ0 τ : HS} {r : Int32} (cx : CX p s m args meth c cX6_next 5 (some .int) RX6 "next" D dA base)   {σ : HS} {H : Heap} {locs : List Loc} {ls : Array Slot} (h : Wd D dA base σ s H locs) (g : LE σ0 σ) (hl : lv_has ls 5 []) (hF : B_X6_next_22   σ = some (r, τ)) : WG p l e s m args below meth c D dA base 4 96 (some (.int r)) σ0 τ σ H locs 22 ls [] := by
  obtain ⟨hx, hb, -⟩ := id cx
  unfold B_X6_next_22 at hF
  refine lv_iconst (v := (-1 : Int32)) hx hb dX6_next_22 (by decide) ?_
  obtain ⟨rfl, rfl⟩ := rts hF
  exact x_iret cx h dX6_next_23
def B_X6_next_87  (y0 : Nat) (y1 : Int32) (σ : HS) : Option (Int32 × HS) :=
  if kd σ y0 = 7 then (bd (F_X6_end y0 y1 σ) (fun r2 σ2 => some (r2, σ2))) else none
theorem mo_B_X6_next_87  (y0 : Nat) (y1 : Int32) (σ : HS) : Mo σ (B_X6_next_87  y0 y1 σ) := by
  unfold B_X6_next_87
  exact (mo_ite (mo_bd (mo_F_X6_end y0 y1 _) (fun r2 σ2 => mo_ret)) mo_none)
set_option maxHeartbeats 4000000 in
set_option maxRecDepth 100000 in
theorem w_X6_next_87 {p : Program} {l : Launch} {e : Env} {s : State} {m : MethodId} {args : Array Value} {below : List Frame} {meth : Method} {c : Code} {D : va_G} {dA : Nat → ClassId} {base : Nat} {σ0 τ : HS} {r : Int32} (cx : CX p s m args meth c cX6_next 5 (some .int) RX6 "next" D dA base)  (y0 : Nat) (y1 : Int32) {σ : HS} {H : Heap} {locs : List Loc} {ls : Array Slot} (h : Wd D dA base σ s H locs) (g : LE σ0 σ) (hl : lv_has ls 5 []) (hF : B_X6_next_87  y0 y1 σ = some (r, τ)) : WG p l e s m args below meth c D dA base 4 96 (some (.int r)) σ0 τ σ H locs 87 ls [.int y1, vr y0] := by
  obtain ⟨hx, hb, -⟩ := id cx
  unfold B_X6_next_87 at hF
  obtain ⟨hq1, hF⟩ := ifs hF
  obtain ⟨r2, σ2, hc2, hF⟩ := bds hF
  refine x_calli (σ := σ) g (LEm hc2 (mo_F_X6_end y0 y1 _)) (x_runV (As := [.int y1]) (rest := []) cx h (c_X6_end l D dA base y0 y1 hc2) ml_X6_152 mi_X6_end hq1 rfl ⟨Nat.le_of_ble_eq_true rfl, Nat.le_of_ble_eq_true rfl⟩ hl.1 rfl (s8 sN (by decide)) dX6_next_87 (le_room g (LEm hc2 (mo_F_X6_end y0 y1 _)) (LEm hF mo_ret))) h (fun H locs h g => ?_)
  obtain ⟨rfl, rfl⟩ := rts hF
  exact x_iret cx h dX6_next_90
def B_X6_next_51 (k51 : Nat → Int32 → Int32 → HS → Option (Int32 × HS)) (x0 : Nat) (x1 : Int32) (x3 : Int32) (σ : HS) : Option (Int32 × HS) :=
  if (256 : Int32) ≤ x3 then (some ((-7 : Int32), σ)) else (if kd σ x0 = 7 then (bd (F_X6_see x0 x1 x3 σ) (fun r3 σ3 => if r3 = (-7 : Int32) then (k51 x0 x1 (x3 + (1 : Int32)) σ3) else (if 0 ≤ r3 then (B_X6_next_87  x0 (x3 / (4 : Int32)) σ3) else (B_X6_next_87  x0 r3 σ3)))) else none)
theorem mo_B_X6_next_51 {k51 : Nat → Int32 → Int32 → HS → Option (Int32 × HS)} (mk51 : ∀ x0 x1 x3 σ, Mo σ (k51 x0 x1 x3 σ)) (x0 : Nat) (x1 : Int32) (x3 : Int32) (σ : HS) : Mo σ (B_X6_next_51 k51 x0 x1 x3 σ) := by
  unfold B_X6_next_51
  exact (mo_ite mo_ret (mo_ite (mo_bd (mo_F_X6_see x0 x1 x3 _) (fun r3 σ3 => (mo_ite (mk51 x0 x1 (x3 + (1 : Int32)) _) (mo_ite (mo_B_X6_next_87  x0 (x3 / (4 : Int32)) _) (mo_B_X6_next_87  x0 r3 _))))) mo_none))
set_option maxHeartbeats 4000000 in
set_option maxRecDepth 100000 in
theorem w_X6_next_51 {p : Program} {l : Launch} {e : Env} {s : State} {m : MethodId} {args : Array Value} {below : List Frame} {meth : Method} {c : Code} {D : va_G} {dA : Nat → ClassId} {base : Nat} {σ0 τ : HS} {r : Int32} (cx : CX p s m args meth c cX6_next 5 (some .int) RX6 "next" D dA base) {k51 : Nat → Int32 → Int32 → HS → Option (Int32 × HS)} (mk51 : ∀ x0 x1 x3 σ, Mo σ (k51 x0 x1 x3 σ)) (hk51 : ∀ x0 x1 x3 σ H locs ls, Wd D dA base σ s H locs → LE σ0 σ → lv_has ls 5 [(0, vr x0), (1, .int x1), (3, .int x3)] → k51 x0 x1 x3 σ = some (r, τ) → WG p l e s m args below meth c D dA base 4 96 (some (.int r)) σ0 τ σ H locs 51 ls []) (x0 : Nat) (x1 : Int32) (x3 : Int32) {σ : HS} {H : Heap} {locs : List Loc} {ls : Array Slot} (h : Wd D dA base σ s H locs) (g : LE σ0 σ) (hl : lv_has ls 5 [(0, vr x0), (1, .int x1), (3, .int x3)]) (hF : B_X6_next_51 k51 x0 x1 x3 σ = some (r, τ)) : WG p l e s m args below meth c D dA base 4 96 (some (.int r)) σ0 τ σ H locs 51 ls [] := by
  obtain ⟨hx, hb, -⟩ := id cx
  unfold B_X6_next_51 at hF
  refine lv_iload_n hx hb dX6_next_51 rfl (lv_at hl 2 rfl) ?_
  refine lv_sipush (v := (256 : Int32)) hx hb dX6_next_52 (by decide) ?_
  refine lv_icmp_ge (tgt := 97) hx hb dX6_next_55 (by decide) (fun c1 => ?_) (fun c1 => ?_)
  · replace hF := ifp c1 hF
    refine lv_bipush (v := (-7 : Int32)) hx hb dX6_next_97 (by decide) ?_
    obtain ⟨rfl, rfl⟩ := rts hF
    exact x_iret cx h dX6_next_99
  · replace hF := ifn c1 hF
    refine x_aload_n hx hb dX6_next_58 rfl (lv_at hl 0 rfl) ?_
    refine lv_iload_n hx hb dX6_next_59 rfl (lv_at hl 1 rfl) ?_
    refine lv_iload_n hx hb dX6_next_60 rfl (lv_at hl 2 rfl) ?_
    obtain ⟨hq2, hF⟩ := ifs hF
    obtain ⟨r3, σ3, hc3, hF⟩ := bds hF
    refine x_calli (σ := σ) g (LEm hc3 (mo_F_X6_see x0 x1 x3 _)) (x_runV (As := [.int x1, .int x3]) (rest := []) cx h (c_X6_see l D dA base x0 x1 x3 hc3) ml_X6_149 mi_X6_see hq2 rfl ⟨Nat.le_of_ble_eq_true rfl, Nat.le_of_ble_eq_true rfl⟩ hl.1 rfl (s8 sN (by decide)) dX6_next_61 (le_room g (LEm hc3 (mo_F_X6_see x0 x1 x3 _)) (LEm hF (mo_ite (mk51 x0 x1 (x3 + (1 : Int32)) _) (mo_ite (mo_B_X6_next_87  x0 (x3 / (4 : Int32)) _) (mo_B_X6_next_87  x0 r3 _)))))) h (fun H locs h g => ?_)
    refine x_istore (lv' := [(4, .int r3), (0, vr x0), (1, .int x1), (3, .int x3)]) hx hb dX6_next_64 hl (by decide) (cR (cI (cI cN))) rfl (fun ls hl => ?_)
    refine lv_iload hx hb dX6_next_66 (lv_at hl 0 rfl) ?_
    refine lv_bipush (v := (-7 : Int32)) hx hb dX6_next_68 (by decide) ?_
    refine lv_icmp_eq (tgt := 91) hx hb dX6_next_70 (by decide) (fun c4 => ?_) (fun c4 => ?_)
    · replace hF := ifp c4 hF
      refine x_iinc (k := 3) (v := (1 : Int32)) (lv' := [(3, .int (x3 + (1 : Int32))), (4, .int r3), (0, vr x0), (1, .int x1)]) hx hb dX6_next_91 hl rfl (by decide) (by decide) (cI (cR (cI (cI cN)))) rfl (fun ls hl => ?_)
      refine lv_goto (tgt := 51) hx hb dX6_next_94 (by decide) ?_
      exact hk51 x0 x1 (x3 + (1 : Int32)) σ3 _ _ _ h g (lv_sub hl [2, 3, 0] rfl) hF
    · replace hF := ifn c4 hF
      refine x_aload_n hx hb dX6_next_73 rfl (lv_at hl 1 rfl) ?_
      refine lv_iload hx hb dX6_next_74 (lv_at hl 0 rfl) ?_
      refine lv_if_ge (tgt := 84) hx hb dX6_next_76 (by decide) (fun c5 => ?_) (fun c5 => ?_)
      · replace hF := ifp c5 hF
        refine lv_iload_n hx hb dX6_next_84 rfl (lv_at hl 3 rfl) ?_
        refine lv_iconst (v := (4 : Int32)) hx hb dX6_next_85 (by decide) ?_
        refine lv_idiv hx hb dX6_next_86 (by decide) ?_
        exact w_X6_next_87 (σ := σ3) cx   x0 (x3 / (4 : Int32)) h g (lv_sub hl [] rfl) hF
      · replace hF := ifn c5 hF
        refine lv_iload hx hb dX6_next_79 (lv_at hl 0 rfl) ?_
        refine lv_goto (tgt := 87) hx hb dX6_next_81 (by decide) ?_
        exact w_X6_next_87 (σ := σ3) cx   x0 r3 h g (lv_sub hl [] rfl) hF
def L_X6_next_51  : Nat → Nat → Int32 → Int32 → HS → Option (Int32 × HS)
  | 0, _, _, _, _ => none
  | N + 1, x0, x1, x3, σ => B_X6_next_51 (L_X6_next_51  N) x0 x1 x3 σ
theorem mo_L_X6_next_51  : ∀ (N : Nat) (x0 : Nat) (x1 : Int32) (x3 : Int32) (σ : HS), Mo σ (L_X6_next_51  N x0 x1 x3 σ) := by
  intro N
  induction N with
  | zero => intro x0 x1 x3 σ; exact mo_none
  | succ N ih => intro x0 x1 x3 σ; exact mo_B_X6_next_51 ih x0 x1 x3 σ
theorem wl_X6_next_51 {p : Program} {l : Launch} {e : Env} {s : State} {m : MethodId} {args : Array Value} {below : List Frame} {meth : Method} {c : Code} {D : va_G} {dA : Nat → ClassId} {base : Nat} {σ0 τ : HS} {r : Int32} (cx : CX p s m args meth c cX6_next 5 (some .int) RX6 "next" D dA base)  : ∀ (N : Nat) (x0 : Nat) (x1 : Int32) (x3 : Int32) (σ : HS) (H : Heap) (locs : List Loc) (ls : Array Slot), Wd D dA base σ s H locs → LE σ0 σ → lv_has ls 5 [(0, vr x0), (1, .int x1), (3, .int x3)] → L_X6_next_51  N x0 x1 x3 σ = some (r, τ) → WG p l e s m args below meth c D dA base 4 96 (some (.int r)) σ0 τ σ H locs 51 ls [] := by
  intro N
  induction N with
  | zero => intro x0 x1 x3 σ H locs ls h g hl hF; cases hF
  | succ N ih => intro x0 x1 x3 σ H locs ls h g hl hF; exact w_X6_next_51 cx (mo_L_X6_next_51  N) ih x0 x1 x3 h g hl hF
def F_X6_next (a0 : Nat) (a1 : Int32) (a2 : Int32) (σ : HS) : Option (Int32 × HS) :=
  if kd σ a0 = 7 then (bd (F_X6_noClient a1 (si σ 240 a0 (0 : Int32))) (fun r2 σ2 => if r2 = 0 then (bd (F_X6_in a2 (0 : Int32) (63 : Int32) σ2) (fun r4 σ4 => if r4 = 0 then (B_X6_next_22   σ4) else (if kd σ4 a0 = 7 then (if kd σ4 (gr σ4 261 a0) = 100 ∧ inb a1 (ln σ4 (gr σ4 261 a0)) then (if kd (sai σ4 (gr σ4 261 a0) a1.toNatClampNeg (gi σ4 241 a0)) (gr (sai σ4 (gr σ4 261 a0) a1.toNatClampNeg (gi σ4 241 a0)) 259 a0) = 100 ∧ inb a1 (ln (sai σ4 (gr σ4 261 a0) a1.toNatClampNeg (gi σ4 241 a0)) (gr (sai σ4 (gr σ4 261 a0) a1.toNatClampNeg (gi σ4 241 a0)) 259 a0)) then (if (ai (sai σ4 (gr σ4 261 a0) a1.toNatClampNeg (gi σ4 241 a0)) (gr (sai σ4 (gr σ4 261 a0) a1.toNatClampNeg (gi σ4 241 a0)) 259 a0) a1.toNatClampNeg) = (1 : Int32) then (L_X6_next_51  NF a0 a1 ((4 : Int32) * a2) (sai σ4 (gr σ4 261 a0) a1.toNatClampNeg (gi σ4 241 a0))) else (some ((-3 : Int32), (sai σ4 (gr σ4 261 a0) a1.toNatClampNeg (gi σ4 241 a0))))) else none) else none) else none))) else (B_X6_next_22   σ2))) else none
theorem mo_F_X6_next (a0 : Nat) (a1 : Int32) (a2 : Int32) (σ : HS) : Mo σ (F_X6_next a0 a1 a2 σ) := by
  unfold F_X6_next
  exact (mo_ite (mo_le (τ := (si σ 240 a0 (0 : Int32))) ⟨Nat.le_refl _, Nat.le_refl _⟩ (mo_bd (mo_F_X6_noClient a1 _) (fun r2 σ2 => (mo_ite (mo_bd (mo_F_X6_in a2 (0 : Int32) (63 : Int32) _) (fun r4 σ4 => (mo_ite (mo_B_X6_next_22   _) (mo_ite (mo_ite (mo_ite (mo_ite (mo_le (τ := (sai σ4 (gr σ4 261 a0) a1.toNatClampNeg (gi σ4 241 a0))) ⟨Nat.le_refl _, Nat.le_refl _⟩ (mo_L_X6_next_51  NF a0 a1 ((4 : Int32) * a2) _)) (mo_le (τ := (sai σ4 (gr σ4 261 a0) a1.toNatClampNeg (gi σ4 241 a0))) ⟨Nat.le_refl _, Nat.le_refl _⟩ mo_ret)) mo_none) mo_none) mo_none)))) (mo_B_X6_next_22   _))))) mo_none)
set_option maxHeartbeats 4000000 in
set_option maxRecDepth 100000 in
theorem c_X6_next (l : Launch) (D : va_G) (dA : Nat → ClassId) (base : Nat) (a0 : Nat) (a1 : Int32) (a2 : Int32) {σ τ : HS} {r : Int32} (hF : F_X6_next a0 a1 a2 σ = some (r, τ)) : CT l yX6_next cX6_next 5 (some .int) 4 96 D dA base [vr a0, .int a1, .int a2] (some (.int r)) σ τ := by
  refine CT.of (lv := [(0, vr a0), (1, .int a1), (2, .int a2)]) (by decide) (vR (vI (vI vN))) (Nat.le_of_ble_eq_true rfl) rfl ?_
  intro p e s m args below meth c ls cx hl h
  have cx : CX p s m args meth c cX6_next 5 (some .int) RX6 "next" D dA base := cx
  have g : LE σ σ := LE.rf
  obtain ⟨hx, hb, -⟩ := id cx
  unfold F_X6_next at hF
  refine x_aload_n hx hb dX6_next_0 rfl (lv_at hl 0 rfl) ?_
  refine lv_iconst (v := (0 : Int32)) hx hb dX6_next_1 (by decide) ?_
  obtain ⟨hq1, hF⟩ := ifs hF
  refine x_sti cx h fa_X6_75 (f := 240) rfl (Or.inl rfl) hq1 dX6_next_2 (fun H locs h => ?_)
  refine lv_iload_n hx hb dX6_next_5 rfl (lv_at hl 1 rfl) ?_
  obtain ⟨r2, σ2, hc2, hF⟩ := bds hF
  refine x_calli (σ := (si σ 240 a0 (0 : Int32))) g (LEm hc2 (mo_F_X6_noClient a1 _)) (x_runS (As := [.int a1]) (rest := []) cx h (c_X6_noClient l D dA base a1 hc2) ml_X6_138 mi_X6_noClient rfl ⟨Nat.le_of_ble_eq_true rfl, Nat.le_of_ble_eq_true rfl⟩ hl.1 rfl (s8 sN (by decide)) dX6_next_6 (le_room g (LEm hc2 (mo_F_X6_noClient a1 _)) (LEm hF (mo_ite (mo_bd (mo_F_X6_in a2 (0 : Int32) (63 : Int32) _) (fun r4 σ4 => (mo_ite (mo_B_X6_next_22   _) (mo_ite (mo_ite (mo_ite (mo_ite (mo_le (τ := (sai σ4 (gr σ4 261 a0) a1.toNatClampNeg (gi σ4 241 a0))) ⟨Nat.le_refl _, Nat.le_refl _⟩ (mo_L_X6_next_51  NF a0 a1 ((4 : Int32) * a2) _)) (mo_le (τ := (sai σ4 (gr σ4 261 a0) a1.toNatClampNeg (gi σ4 241 a0))) ⟨Nat.le_refl _, Nat.le_refl _⟩ mo_ret)) mo_none) mo_none) mo_none)))) (mo_B_X6_next_22   _))))) h (fun H locs h g => ?_)
  refine lv_if_ne (tgt := 22) hx hb dX6_next_9 (by decide) (fun c3 => ?_) (fun c3 => ?_)
  · replace hF := ifn c3 hF
    exact w_X6_next_22 (σ := σ2) cx    h g (lv_sub hl [] rfl) hF
  · replace hF := ifp c3 hF
    refine lv_iload_n hx hb dX6_next_12 rfl (lv_at hl 2 rfl) ?_
    refine lv_iconst (v := (0 : Int32)) hx hb dX6_next_13 (by decide) ?_
    refine lv_bipush (v := (63 : Int32)) hx hb dX6_next_14 (by decide) ?_
    obtain ⟨r4, σ4, hc4, hF⟩ := bds hF
    refine x_calli (σ := σ2) g (LEm hc4 (mo_F_X6_in a2 (0 : Int32) (63 : Int32) _)) (x_runS (As := [.int a2, .int (0 : Int32), .int (63 : Int32)]) (rest := []) cx h (c_X6_in l D dA base a2 (0 : Int32) (63 : Int32) hc4) ml_X6_134 mi_X6_in rfl ⟨Nat.le_of_ble_eq_true rfl, Nat.le_of_ble_eq_true rfl⟩ hl.1 rfl (s8 sN (by decide)) dX6_next_16 (le_room g (LEm hc4 (mo_F_X6_in a2 (0 : Int32) (63 : Int32) _)) (LEm hF (mo_ite (mo_B_X6_next_22   _) (mo_ite (mo_ite (mo_ite (mo_ite (mo_le (τ := (sai σ4 (gr σ4 261 a0) a1.toNatClampNeg (gi σ4 241 a0))) ⟨Nat.le_refl _, Nat.le_refl _⟩ (mo_L_X6_next_51  NF a0 a1 ((4 : Int32) * a2) _)) (mo_le (τ := (sai σ4 (gr σ4 261 a0) a1.toNatClampNeg (gi σ4 241 a0))) ⟨Nat.le_refl _, Nat.le_refl _⟩ mo_ret)) mo_none) mo_none) mo_none))))) h (fun H locs h g => ?_)
    refine lv_if_ne (tgt := 24) hx hb dX6_next_19 (by decide) (fun c5 => ?_) (fun c5 => ?_)
    · replace hF := ifn c5 hF
      refine x_aload_n hx hb dX6_next_24 rfl (lv_at hl 0 rfl) ?_
      obtain ⟨hq6, hF⟩ := ifs hF
      refine x_getr cx h fa_X6_54 (f := 261) rfl hq6 dX6_next_25 ?_
      refine lv_iload_n hx hb dX6_next_28 rfl (lv_at hl 1 rfl) ?_
      refine x_aload_n hx hb dX6_next_29 rfl (lv_at hl 0 rfl) ?_
      refine x_geti cx h fa_X6_103 (f := 241) rfl hq6 dX6_next_30 ?_
      obtain ⟨hq7, hF⟩ := ifs hF
      refine x_iast cx h hq7.1 (inb.vp hq7.2) dX6_next_33 (fun H locs h => ?_)
      refine x_aload_n hx hb dX6_next_34 rfl (lv_at hl 0 rfl) ?_
      refine x_getr cx h fa_X6_48 (f := 259) rfl hq6 dX6_next_35 ?_
      refine lv_iload_n hx hb dX6_next_38 rfl (lv_at hl 1 rfl) ?_
      obtain ⟨hq8, hF⟩ := ifs hF
      refine x_iald cx h hq8.1 (inb.vp hq8.2) dX6_next_39 ?_
      refine lv_iconst (v := (1 : Int32)) hx hb dX6_next_40 (by decide) ?_
      refine lv_icmp_eq (tgt := 47) hx hb dX6_next_41 (by decide) (fun c9 => ?_) (fun c9 => ?_)
      · replace hF := ifp c9 hF
        refine lv_iconst (v := (4 : Int32)) hx hb dX6_next_47 (by decide) ?_
        refine lv_iload_n hx hb dX6_next_48 rfl (lv_at hl 2 rfl) ?_
        refine lv_imul hx hb dX6_next_49 ?_
        refine x_istore_n (lv' := [(3, .int ((4 : Int32) * a2)), (0, vr a0), (1, .int a1), (2, .int a2)]) hx hb dX6_next_50 rfl hl (by decide) (cR (cI (cI cN))) rfl (fun ls hl => ?_)
        exact wl_X6_next_51 cx   NF a0 a1 ((4 : Int32) * a2) (sai σ4 (gr σ4 261 a0) a1.toNatClampNeg (gi σ4 241 a0)) _ _ _ h g (lv_sub hl [1, 2, 0] rfl) hF
      · replace hF := ifn c9 hF
        refine lv_bipush (v := (-3 : Int32)) hx hb dX6_next_44 (by decide) ?_
        obtain ⟨rfl, rfl⟩ := rts hF
        exact x_iret cx h dX6_next_46
    · replace hF := ifp c5 hF
      exact w_X6_next_22 (σ := σ4) cx    h g (lv_sub hl [] rfl) hF
def B_X6_write_20   (σ : HS) : Option (Int32 × HS) :=
  some ((-1 : Int32), σ)
theorem mo_B_X6_write_20   (σ : HS) : Mo σ (B_X6_write_20   σ) := by
  unfold B_X6_write_20
  exact mo_ret
set_option maxHeartbeats 4000000 in
set_option maxRecDepth 100000 in
theorem w_X6_write_20 {p : Program} {l : Launch} {e : Env} {s : State} {m : MethodId} {args : Array Value} {below : List Frame} {meth : Method} {c : Code} {D : va_G} {dA : Nat → ClassId} {base : Nat} {σ0 τ : HS} {r : Int32} (cx : CX p s m args meth c cX6_write 6 (some .int) RX6 "write" D dA base)   {σ : HS} {H : Heap} {locs : List Loc} {ls : Array Slot} (h : Wd D dA base σ s H locs) (g : LE σ0 σ) (hl : lv_has ls 6 []) (hF : B_X6_write_20   σ = some (r, τ)) : WG p l e s m args below meth c D dA base 2 43 (some (.int r)) σ0 τ σ H locs 20 ls [] := by
  obtain ⟨hx, hb, -⟩ := id cx
  unfold B_X6_write_20 at hF
  refine lv_iconst (v := (-1 : Int32)) hx hb dX6_write_20 (by decide) ?_
  obtain ⟨rfl, rfl⟩ := rts hF
  exact x_iret cx h dX6_write_21
def B_X6_write_108  (x0 : Nat) (x1 : Int32) (x2 : Int32) (x3 : Int32) (x4 : Int32) (x5 : Int32) (σ : HS) : Option (Int32 × HS) :=
  if kd σ x0 = 7 then (if kd σ (gr σ 263 x0) = 100 ∧ inb (((16 : Int32) * x1) + x5) (ln σ (gr σ 263 x0)) then (if kd (sai σ (gr σ 263 x0) (((16 : Int32) * x1) + x5).toNatClampNeg (((4 : Int32) * x2) + x3)) (gr (sai σ (gr σ 263 x0) (((16 : Int32) * x1) + x5).toNatClampNeg (((4 : Int32) * x2) + x3)) 264 x0) = 100 ∧ inb (((16 : Int32) * x1) + x5) (ln (sai σ (gr σ 263 x0) (((16 : Int32) * x1) + x5).toNatClampNeg (((4 : Int32) * x2) + x3)) (gr (sai σ (gr σ 263 x0) (((16 : Int32) * x1) + x5).toNatClampNeg (((4 : Int32) * x2) + x3)) 264 x0)) then (lt1 (sai (sai σ (gr σ 263 x0) (((16 : Int32) * x1) + x5).toNatClampNeg (((4 : Int32) * x2) + x3)) (gr (sai σ (gr σ 263 x0) (((16 : Int32) * x1) + x5).toNatClampNeg (((4 : Int32) * x2) + x3)) 264 x0) (((16 : Int32) * x1) + x5).toNatClampNeg x4) (fun σ4 => if kd σ4 (gr σ4 262 x0) = 100 ∧ inb x1 (ln σ4 (gr σ4 262 x0)) then (some ((ai σ4 (gr σ4 262 x0) x1.toNatClampNeg), σ4)) else none)) else none) else none) else none
theorem mo_B_X6_write_108  (x0 : Nat) (x1 : Int32) (x2 : Int32) (x3 : Int32) (x4 : Int32) (x5 : Int32) (σ : HS) : Mo σ (B_X6_write_108  x0 x1 x2 x3 x4 x5 σ) := by
  unfold B_X6_write_108
  exact (mo_ite (mo_ite (mo_ite (mo_lt ⟨Nat.le_refl _, Nat.le_refl _⟩ (fun σ4 => (mo_ite mo_ret mo_none))) mo_none) mo_none) mo_none)
set_option maxHeartbeats 4000000 in
set_option maxRecDepth 100000 in
theorem w_X6_write_108 {p : Program} {l : Launch} {e : Env} {s : State} {m : MethodId} {args : Array Value} {below : List Frame} {meth : Method} {c : Code} {D : va_G} {dA : Nat → ClassId} {base : Nat} {σ0 τ : HS} {r : Int32} (cx : CX p s m args meth c cX6_write 6 (some .int) RX6 "write" D dA base)  (x0 : Nat) (x1 : Int32) (x2 : Int32) (x3 : Int32) (x4 : Int32) (x5 : Int32) {σ : HS} {H : Heap} {locs : List Loc} {ls : Array Slot} (h : Wd D dA base σ s H locs) (g : LE σ0 σ) (hl : lv_has ls 6 [(0, vr x0), (1, .int x1), (2, .int x2), (3, .int x3), (4, .int x4), (5, .int x5)]) (hF : B_X6_write_108  x0 x1 x2 x3 x4 x5 σ = some (r, τ)) : WG p l e s m args below meth c D dA base 2 43 (some (.int r)) σ0 τ σ H locs 108 ls [] := by
  obtain ⟨hx, hb, -⟩ := id cx
  unfold B_X6_write_108 at hF
  refine x_aload_n hx hb dX6_write_108 rfl (lv_at hl 0 rfl) ?_
  obtain ⟨hq1, hF⟩ := ifs hF
  refine x_getr cx h fa_X6_60 (f := 263) rfl hq1 dX6_write_109 ?_
  refine lv_bipush (v := (16 : Int32)) hx hb dX6_write_112 (by decide) ?_
  refine lv_iload_n hx hb dX6_write_114 rfl (lv_at hl 1 rfl) ?_
  refine lv_imul hx hb dX6_write_115 ?_
  refine lv_iload hx hb dX6_write_116 (lv_at hl 5 rfl) ?_
  refine lv_iadd hx hb dX6_write_118 ?_
  refine lv_iconst (v := (4 : Int32)) hx hb dX6_write_119 (by decide) ?_
  refine lv_iload_n hx hb dX6_write_120 rfl (lv_at hl 2 rfl) ?_
  refine lv_imul hx hb dX6_write_121 ?_
  refine lv_iload_n hx hb dX6_write_122 rfl (lv_at hl 3 rfl) ?_
  refine lv_iadd hx hb dX6_write_123 ?_
  obtain ⟨hq2, hF⟩ := ifs hF
  refine x_iast cx h hq2.1 (inb.vp hq2.2) dX6_write_124 (fun H locs h => ?_)
  refine x_aload_n hx hb dX6_write_125 rfl (lv_at hl 0 rfl) ?_
  refine x_getr cx h fa_X6_63 (f := 264) rfl hq1 dX6_write_126 ?_
  refine lv_bipush (v := (16 : Int32)) hx hb dX6_write_129 (by decide) ?_
  refine lv_iload_n hx hb dX6_write_131 rfl (lv_at hl 1 rfl) ?_
  refine lv_imul hx hb dX6_write_132 ?_
  refine lv_iload hx hb dX6_write_133 (lv_at hl 5 rfl) ?_
  refine lv_iadd hx hb dX6_write_135 ?_
  refine lv_iload hx hb dX6_write_136 (lv_at hl 4 rfl) ?_
  obtain ⟨hq3, hF⟩ := ifs hF
  refine x_iast cx h hq3.1 (inb.vp hq3.2) dX6_write_138 (fun H locs h => ?_)
  obtain ⟨σ4, e4, hF⟩ := lts hF
  have h := Wd.nm e4 h
  have g := LE.nm e4 g
  refine W.cs (cells' := hs σ4 - hs σ0) (slots' := ns σ4 - ns σ0) (by rw [e4]; try rfl) (by rw [e4]; try rfl) ?_
  refine x_aload_n hx hb dX6_write_139 rfl (lv_at hl 0 rfl) ?_
  refine x_getr cx h fa_X6_57 (f := 262) rfl (by rw [e4]; exact hq1) dX6_write_140 ?_
  refine lv_iload_n hx hb dX6_write_143 rfl (lv_at hl 1 rfl) ?_
  obtain ⟨hq5, hF⟩ := ifs hF
  refine x_iald cx h hq5.1 (inb.vp hq5.2) dX6_write_144 ?_
  obtain ⟨rfl, rfl⟩ := rts hF
  exact x_iret cx h dX6_write_145
def B_X6_write_85  (x0 : Nat) (x1 : Int32) (x2 : Int32) (x3 : Int32) (x4 : Int32) (x5 : Int32) (σ : HS) : Option (Int32 × HS) :=
  if 0 ≤ x5 then (B_X6_write_108  x0 x1 x2 x3 x4 x5 σ) else (if kd σ x0 = 7 then (if kd σ (gr σ 262 x0) = 100 ∧ inb x1 (ln σ (gr σ 262 x0)) then (lt1 (sai σ (gr σ 262 x0) x1.toNatClampNeg ((ai σ (gr σ 262 x0) x1.toNatClampNeg) + (1 : Int32))) (fun σ4 => B_X6_write_108  x0 x1 x2 x3 x4 (ai σ (gr σ 262 x0) x1.toNatClampNeg) σ4)) else none) else none)
theorem mo_B_X6_write_85  (x0 : Nat) (x1 : Int32) (x2 : Int32) (x3 : Int32) (x4 : Int32) (x5 : Int32) (σ : HS) : Mo σ (B_X6_write_85  x0 x1 x2 x3 x4 x5 σ) := by
  unfold B_X6_write_85
  exact (mo_ite (mo_B_X6_write_108  x0 x1 x2 x3 x4 x5 _) (mo_ite (mo_ite (mo_lt ⟨Nat.le_refl _, Nat.le_refl _⟩ (fun σ4 => (mo_B_X6_write_108  x0 x1 x2 x3 x4 (ai σ (gr σ 262 x0) x1.toNatClampNeg) _))) mo_none) mo_none))
set_option maxHeartbeats 4000000 in
set_option maxRecDepth 100000 in
theorem w_X6_write_85 {p : Program} {l : Launch} {e : Env} {s : State} {m : MethodId} {args : Array Value} {below : List Frame} {meth : Method} {c : Code} {D : va_G} {dA : Nat → ClassId} {base : Nat} {σ0 τ : HS} {r : Int32} (cx : CX p s m args meth c cX6_write 6 (some .int) RX6 "write" D dA base)  (x0 : Nat) (x1 : Int32) (x2 : Int32) (x3 : Int32) (x4 : Int32) (x5 : Int32) {σ : HS} {H : Heap} {locs : List Loc} {ls : Array Slot} (h : Wd D dA base σ s H locs) (g : LE σ0 σ) (hl : lv_has ls 6 [(0, vr x0), (1, .int x1), (2, .int x2), (3, .int x3), (4, .int x4), (5, .int x5)]) (hF : B_X6_write_85  x0 x1 x2 x3 x4 x5 σ = some (r, τ)) : WG p l e s m args below meth c D dA base 2 43 (some (.int r)) σ0 τ σ H locs 85 ls [] := by
  obtain ⟨hx, hb, -⟩ := id cx
  unfold B_X6_write_85 at hF
  refine lv_iload hx hb dX6_write_85 (lv_at hl 5 rfl) ?_
  refine lv_if_ge (tgt := 108) hx hb dX6_write_87 (by decide) (fun c1 => ?_) (fun c1 => ?_)
  · replace hF := ifp c1 hF
    exact w_X6_write_108 (σ := σ) cx   x0 x1 x2 x3 x4 x5 h g (lv_sub hl [0, 1, 2, 3, 4, 5] rfl) hF
  · replace hF := ifn c1 hF
    refine x_aload_n hx hb dX6_write_90 rfl (lv_at hl 0 rfl) ?_
    obtain ⟨hq2, hF⟩ := ifs hF
    refine x_getr cx h fa_X6_57 (f := 262) rfl hq2 dX6_write_91 ?_
    refine lv_iload_n hx hb dX6_write_94 rfl (lv_at hl 1 rfl) ?_
    obtain ⟨hq3, hF⟩ := ifs hF
    refine x_iald cx h hq3.1 (inb.vp hq3.2) dX6_write_95 ?_
    refine x_istore (lv' := [(5, .int (ai σ (gr σ 262 x0) x1.toNatClampNeg)), (0, vr x0), (1, .int x1), (2, .int x2), (3, .int x3), (4, .int x4)]) hx hb dX6_write_96 hl (by decide) (cR (cI (cI (cI (cI (cI cN)))))) rfl (fun ls hl => ?_)
    refine x_aload_n hx hb dX6_write_98 rfl (lv_at hl 1 rfl) ?_
    refine x_getr cx h fa_X6_57 (f := 262) rfl hq2 dX6_write_99 ?_
    refine lv_iload_n hx hb dX6_write_102 rfl (lv_at hl 2 rfl) ?_
    refine lv_dup2_11 hx hb dX6_write_103 rfl (vr_cat _) ?_
    refine x_iald cx h hq3.1 (inb.vp hq3.2) dX6_write_104 ?_
    refine lv_iconst (v := (1 : Int32)) hx hb dX6_write_105 (by decide) ?_
    refine lv_iadd hx hb dX6_write_106 ?_
    refine x_iast cx h hq3.1 (inb.vp hq3.2) dX6_write_107 (fun H locs h => ?_)
    obtain ⟨σ4, e4, hF⟩ := lts hF
    have h := Wd.nm e4 h
    have g := LE.nm e4 g
    refine W.cs (cells' := hs σ4 - hs σ0) (slots' := ns σ4 - ns σ0) (by rw [e4]; try rfl) (by rw [e4]; try rfl) ?_
    exact w_X6_write_108 (σ := σ4) cx   x0 x1 x2 x3 x4 (ai σ (gr σ 262 x0) x1.toNatClampNeg) h g (lv_sub hl [1, 2, 3, 4, 5, 0] rfl) hF
def F_X6_write (a0 : Nat) (a1 : Int32) (a2 : Int32) (a3 : Int32) (a4 : Int32) (σ : HS) : Option (Int32 × HS) :=
  if kd σ a0 = 7 then (bd (F_X6_noClient a1 (si σ 240 a0 (0 : Int32))) (fun r2 σ2 => if r2 = 0 then (bd (F_X6_noCell a2 a3 σ2) (fun r4 σ4 => if r4 = 0 then (if kd σ4 a0 = 7 then (if kd σ4 (gr σ4 261 a0) = 100 ∧ inb a1 (ln σ4 (gr σ4 261 a0)) then (if (-1 : Int32) ≤ a4 then (if kd (sai σ4 (gr σ4 261 a0) a1.toNatClampNeg (gi σ4 241 a0)) (gr (sai σ4 (gr σ4 261 a0) a1.toNatClampNeg (gi σ4 241 a0)) 259 a0) = 100 ∧ inb a1 (ln (sai σ4 (gr σ4 261 a0) a1.toNatClampNeg (gi σ4 241 a0)) (gr (sai σ4 (gr σ4 261 a0) a1.toNatClampNeg (gi σ4 241 a0)) 259 a0)) then (if (ai (sai σ4 (gr σ4 261 a0) a1.toNatClampNeg (gi σ4 241 a0)) (gr (sai σ4 (gr σ4 261 a0) a1.toNatClampNeg (gi σ4 241 a0)) 259 a0) a1.toNatClampNeg) = (1 : Int32) then (bd (F_X6_ownAt a0 a1 (((4 : Int32) * a2) + a3) (sai σ4 (gr σ4 261 a0) a1.toNatClampNeg (gi σ4 241 a0))) (fun r11 σ11 => if 0 ≤ r11 then (B_X6_write_85  a0 a1 a2 a3 a4 r11 σ11) else (if kd σ11 a0 = 7 then (if kd σ11 (gr σ11 262 a0) = 100 ∧ inb a1 (ln σ11 (gr σ11 262 a0)) then (if (ai σ11 (gr σ11 262 a0) a1.toNatClampNeg) = (16 : Int32) then (some ((-4 : Int32), σ11)) else (B_X6_write_85  a0 a1 a2 a3 a4 r11 σ11)) else none) else none))) else (some ((-3 : Int32), (sai σ4 (gr σ4 261 a0) a1.toNatClampNeg (gi σ4 241 a0))))) else none) else (some ((-2 : Int32), (sai σ4 (gr σ4 261 a0) a1.toNatClampNeg (gi σ4 241 a0))))) else none) else none) else (B_X6_write_20   σ4))) else (B_X6_write_20   σ2))) else none
theorem mo_F_X6_write (a0 : Nat) (a1 : Int32) (a2 : Int32) (a3 : Int32) (a4 : Int32) (σ : HS) : Mo σ (F_X6_write a0 a1 a2 a3 a4 σ) := by
  unfold F_X6_write
  exact (mo_ite (mo_le (τ := (si σ 240 a0 (0 : Int32))) ⟨Nat.le_refl _, Nat.le_refl _⟩ (mo_bd (mo_F_X6_noClient a1 _) (fun r2 σ2 => (mo_ite (mo_bd (mo_F_X6_noCell a2 a3 _) (fun r4 σ4 => (mo_ite (mo_ite (mo_ite (mo_ite (mo_ite (mo_ite (mo_le (τ := (sai σ4 (gr σ4 261 a0) a1.toNatClampNeg (gi σ4 241 a0))) ⟨Nat.le_refl _, Nat.le_refl _⟩ (mo_bd (mo_F_X6_ownAt a0 a1 (((4 : Int32) * a2) + a3) _) (fun r11 σ11 => (mo_ite (mo_B_X6_write_85  a0 a1 a2 a3 a4 r11 _) (mo_ite (mo_ite (mo_ite mo_ret (mo_B_X6_write_85  a0 a1 a2 a3 a4 r11 _)) mo_none) mo_none))))) (mo_le (τ := (sai σ4 (gr σ4 261 a0) a1.toNatClampNeg (gi σ4 241 a0))) ⟨Nat.le_refl _, Nat.le_refl _⟩ mo_ret)) mo_none) (mo_le (τ := (sai σ4 (gr σ4 261 a0) a1.toNatClampNeg (gi σ4 241 a0))) ⟨Nat.le_refl _, Nat.le_refl _⟩ mo_ret)) mo_none) mo_none) (mo_B_X6_write_20   _)))) (mo_B_X6_write_20   _))))) mo_none)
set_option maxHeartbeats 4000000 in
set_option maxRecDepth 100000 in
theorem c_X6_write (l : Launch) (D : va_G) (dA : Nat → ClassId) (base : Nat) (a0 : Nat) (a1 : Int32) (a2 : Int32) (a3 : Int32) (a4 : Int32) {σ τ : HS} {r : Int32} (hF : F_X6_write a0 a1 a2 a3 a4 σ = some (r, τ)) : CT l yX6_write cX6_write 6 (some .int) 2 43 D dA base [vr a0, .int a1, .int a2, .int a3, .int a4] (some (.int r)) σ τ := by
  refine CT.of (lv := [(0, vr a0), (1, .int a1), (2, .int a2), (3, .int a3), (4, .int a4)]) (by decide) (vR (vI (vI (vI (vI vN))))) (Nat.le_of_ble_eq_true rfl) rfl ?_
  intro p e s m args below meth c ls cx hl h
  have cx : CX p s m args meth c cX6_write 6 (some .int) RX6 "write" D dA base := cx
  have g : LE σ σ := LE.rf
  obtain ⟨hx, hb, -⟩ := id cx
  unfold F_X6_write at hF
  refine x_aload_n hx hb dX6_write_0 rfl (lv_at hl 0 rfl) ?_
  refine lv_iconst (v := (0 : Int32)) hx hb dX6_write_1 (by decide) ?_
  obtain ⟨hq1, hF⟩ := ifs hF
  refine x_sti cx h fa_X6_75 (f := 240) rfl (Or.inl rfl) hq1 dX6_write_2 (fun H locs h => ?_)
  refine lv_iload_n hx hb dX6_write_5 rfl (lv_at hl 1 rfl) ?_
  obtain ⟨r2, σ2, hc2, hF⟩ := bds hF
  refine x_calli (σ := (si σ 240 a0 (0 : Int32))) g (LEm hc2 (mo_F_X6_noClient a1 _)) (x_runS (As := [.int a1]) (rest := []) cx h (c_X6_noClient l D dA base a1 hc2) ml_X6_138 mi_X6_noClient rfl ⟨Nat.le_of_ble_eq_true rfl, Nat.le_of_ble_eq_true rfl⟩ hl.1 rfl (s8 sN (by decide)) dX6_write_6 (le_room g (LEm hc2 (mo_F_X6_noClient a1 _)) (LEm hF (mo_ite (mo_bd (mo_F_X6_noCell a2 a3 _) (fun r4 σ4 => (mo_ite (mo_ite (mo_ite (mo_ite (mo_ite (mo_ite (mo_le (τ := (sai σ4 (gr σ4 261 a0) a1.toNatClampNeg (gi σ4 241 a0))) ⟨Nat.le_refl _, Nat.le_refl _⟩ (mo_bd (mo_F_X6_ownAt a0 a1 (((4 : Int32) * a2) + a3) _) (fun r11 σ11 => (mo_ite (mo_B_X6_write_85  a0 a1 a2 a3 a4 r11 _) (mo_ite (mo_ite (mo_ite mo_ret (mo_B_X6_write_85  a0 a1 a2 a3 a4 r11 _)) mo_none) mo_none))))) (mo_le (τ := (sai σ4 (gr σ4 261 a0) a1.toNatClampNeg (gi σ4 241 a0))) ⟨Nat.le_refl _, Nat.le_refl _⟩ mo_ret)) mo_none) (mo_le (τ := (sai σ4 (gr σ4 261 a0) a1.toNatClampNeg (gi σ4 241 a0))) ⟨Nat.le_refl _, Nat.le_refl _⟩ mo_ret)) mo_none) mo_none) (mo_B_X6_write_20   _)))) (mo_B_X6_write_20   _))))) h (fun H locs h g => ?_)
  refine lv_if_ne (tgt := 20) hx hb dX6_write_9 (by decide) (fun c3 => ?_) (fun c3 => ?_)
  · replace hF := ifn c3 hF
    exact w_X6_write_20 (σ := σ2) cx    h g (lv_sub hl [] rfl) hF
  · replace hF := ifp c3 hF
    refine lv_iload_n hx hb dX6_write_12 rfl (lv_at hl 2 rfl) ?_
    refine lv_iload_n hx hb dX6_write_13 rfl (lv_at hl 3 rfl) ?_
    obtain ⟨r4, σ4, hc4, hF⟩ := bds hF
    refine x_calli (σ := σ2) g (LEm hc4 (mo_F_X6_noCell a2 a3 _)) (x_runS (As := [.int a2, .int a3]) (rest := []) cx h (c_X6_noCell l D dA base a2 a3 hc4) ml_X6_145 mi_X6_noCell rfl ⟨Nat.le_of_ble_eq_true rfl, Nat.le_of_ble_eq_true rfl⟩ hl.1 rfl (s8 sN (by decide)) dX6_write_14 (le_room g (LEm hc4 (mo_F_X6_noCell a2 a3 _)) (LEm hF (mo_ite (mo_ite (mo_ite (mo_ite (mo_ite (mo_ite (mo_le (τ := (sai σ4 (gr σ4 261 a0) a1.toNatClampNeg (gi σ4 241 a0))) ⟨Nat.le_refl _, Nat.le_refl _⟩ (mo_bd (mo_F_X6_ownAt a0 a1 (((4 : Int32) * a2) + a3) _) (fun r11 σ11 => (mo_ite (mo_B_X6_write_85  a0 a1 a2 a3 a4 r11 _) (mo_ite (mo_ite (mo_ite mo_ret (mo_B_X6_write_85  a0 a1 a2 a3 a4 r11 _)) mo_none) mo_none))))) (mo_le (τ := (sai σ4 (gr σ4 261 a0) a1.toNatClampNeg (gi σ4 241 a0))) ⟨Nat.le_refl _, Nat.le_refl _⟩ mo_ret)) mo_none) (mo_le (τ := (sai σ4 (gr σ4 261 a0) a1.toNatClampNeg (gi σ4 241 a0))) ⟨Nat.le_refl _, Nat.le_refl _⟩ mo_ret)) mo_none) mo_none) (mo_B_X6_write_20   _))))) h (fun H locs h g => ?_)
    refine lv_if_eq (tgt := 22) hx hb dX6_write_17 (by decide) (fun c5 => ?_) (fun c5 => ?_)
    · replace hF := ifp c5 hF
      refine x_aload_n hx hb dX6_write_22 rfl (lv_at hl 0 rfl) ?_
      obtain ⟨hq6, hF⟩ := ifs hF
      refine x_getr cx h fa_X6_54 (f := 261) rfl hq6 dX6_write_23 ?_
      refine lv_iload_n hx hb dX6_write_26 rfl (lv_at hl 1 rfl) ?_
      refine x_aload_n hx hb dX6_write_27 rfl (lv_at hl 0 rfl) ?_
      refine x_geti cx h fa_X6_103 (f := 241) rfl hq6 dX6_write_28 ?_
      obtain ⟨hq7, hF⟩ := ifs hF
      refine x_iast cx h hq7.1 (inb.vp hq7.2) dX6_write_31 (fun H locs h => ?_)
      refine lv_iload hx hb dX6_write_32 (lv_at hl 4 rfl) ?_
      refine lv_iconst (v := (-1 : Int32)) hx hb dX6_write_34 (by decide) ?_
      refine lv_icmp_ge (tgt := 41) hx hb dX6_write_35 (by decide) (fun c8 => ?_) (fun c8 => ?_)
      · replace hF := ifp c8 hF
        refine x_aload_n hx hb dX6_write_41 rfl (lv_at hl 0 rfl) ?_
        refine x_getr cx h fa_X6_48 (f := 259) rfl hq6 dX6_write_42 ?_
        refine lv_iload_n hx hb dX6_write_45 rfl (lv_at hl 1 rfl) ?_
        obtain ⟨hq9, hF⟩ := ifs hF
        refine x_iald cx h hq9.1 (inb.vp hq9.2) dX6_write_46 ?_
        refine lv_iconst (v := (1 : Int32)) hx hb dX6_write_47 (by decide) ?_
        refine lv_icmp_eq (tgt := 54) hx hb dX6_write_48 (by decide) (fun c10 => ?_) (fun c10 => ?_)
        · replace hF := ifp c10 hF
          refine x_aload_n hx hb dX6_write_54 rfl (lv_at hl 0 rfl) ?_
          refine lv_iload_n hx hb dX6_write_55 rfl (lv_at hl 1 rfl) ?_
          refine lv_iconst (v := (4 : Int32)) hx hb dX6_write_56 (by decide) ?_
          refine lv_iload_n hx hb dX6_write_57 rfl (lv_at hl 2 rfl) ?_
          refine lv_imul hx hb dX6_write_58 ?_
          refine lv_iload_n hx hb dX6_write_59 rfl (lv_at hl 3 rfl) ?_
          refine lv_iadd hx hb dX6_write_60 ?_
          obtain ⟨r11, σ11, hc11, hF⟩ := bds hF
          refine x_calli (σ := (sai σ4 (gr σ4 261 a0) a1.toNatClampNeg (gi σ4 241 a0))) g (LEm hc11 (mo_F_X6_ownAt a0 a1 (((4 : Int32) * a2) + a3) _)) (x_runV (As := [.int a1, .int (((4 : Int32) * a2) + a3)]) (rest := []) cx h (c_X6_ownAt l D dA base a0 a1 (((4 : Int32) * a2) + a3) hc11) ml_X6_121 mi_X6_ownAt hq6 rfl ⟨Nat.le_of_ble_eq_true rfl, Nat.le_of_ble_eq_true rfl⟩ hl.1 rfl (s8 sN (by decide)) dX6_write_61 (le_room g (LEm hc11 (mo_F_X6_ownAt a0 a1 (((4 : Int32) * a2) + a3) _)) (LEm hF (mo_ite (mo_B_X6_write_85  a0 a1 a2 a3 a4 r11 _) (mo_ite (mo_ite (mo_ite mo_ret (mo_B_X6_write_85  a0 a1 a2 a3 a4 r11 _)) mo_none) mo_none))))) h (fun H locs h g => ?_)
          refine x_istore (lv' := [(5, .int r11), (0, vr a0), (1, .int a1), (2, .int a2), (3, .int a3), (4, .int a4)]) hx hb dX6_write_64 hl (by decide) (cR (cI (cI (cI (cI cN))))) rfl (fun ls hl => ?_)
          refine lv_iload hx hb dX6_write_66 (lv_at hl 0 rfl) ?_
          refine lv_if_ge (tgt := 85) hx hb dX6_write_68 (by decide) (fun c12 => ?_) (fun c12 => ?_)
          · replace hF := ifp c12 hF
            exact w_X6_write_85 (σ := σ11) cx   a0 a1 a2 a3 a4 r11 h g (lv_sub hl [1, 2, 3, 4, 5, 0] rfl) hF
          · replace hF := ifn c12 hF
            refine x_aload_n hx hb dX6_write_71 rfl (lv_at hl 1 rfl) ?_
            obtain ⟨hq13, hF⟩ := ifs hF
            refine x_getr cx h fa_X6_57 (f := 262) rfl hq13 dX6_write_72 ?_
            refine lv_iload_n hx hb dX6_write_75 rfl (lv_at hl 2 rfl) ?_
            obtain ⟨hq14, hF⟩ := ifs hF
            refine x_iald cx h hq14.1 (inb.vp hq14.2) dX6_write_76 ?_
            refine lv_bipush (v := (16 : Int32)) hx hb dX6_write_77 (by decide) ?_
            refine lv_icmp_ne (tgt := 85) hx hb dX6_write_79 (by decide) (fun c15 => ?_) (fun c15 => ?_)
            · replace hF := ifn c15 hF
              exact w_X6_write_85 (σ := σ11) cx   a0 a1 a2 a3 a4 r11 h g (lv_sub hl [1, 2, 3, 4, 5, 0] rfl) hF
            · replace hF := ifp c15 hF
              refine lv_bipush (v := (-4 : Int32)) hx hb dX6_write_82 (by decide) ?_
              obtain ⟨rfl, rfl⟩ := rts hF
              exact x_iret cx h dX6_write_84
        · replace hF := ifn c10 hF
          refine lv_bipush (v := (-3 : Int32)) hx hb dX6_write_51 (by decide) ?_
          obtain ⟨rfl, rfl⟩ := rts hF
          exact x_iret cx h dX6_write_53
      · replace hF := ifn c8 hF
        refine lv_bipush (v := (-2 : Int32)) hx hb dX6_write_38 (by decide) ?_
        obtain ⟨rfl, rfl⟩ := rts hF
        exact x_iret cx h dX6_write_40
    · replace hF := ifn c5 hF
      exact w_X6_write_20 (σ := σ4) cx    h g (lv_sub hl [] rfl) hF
def F_X6_commit (a0 : Nat) (a1 : Int32) (σ : HS) : Option (Int32 × HS) :=
  if kd σ a0 = 7 then (bd (F_X6_noClient a1 (si σ 240 a0 (0 : Int32))) (fun r2 σ2 => if r2 = 0 then (if kd σ2 a0 = 7 then (if kd σ2 (gr σ2 261 a0) = 100 ∧ inb a1 (ln σ2 (gr σ2 261 a0)) then (if kd (sai σ2 (gr σ2 261 a0) a1.toNatClampNeg (gi σ2 241 a0)) (gr (sai σ2 (gr σ2 261 a0) a1.toNatClampNeg (gi σ2 241 a0)) 259 a0) = 100 ∧ inb a1 (ln (sai σ2 (gr σ2 261 a0) a1.toNatClampNeg (gi σ2 241 a0)) (gr (sai σ2 (gr σ2 261 a0) a1.toNatClampNeg (gi σ2 241 a0)) 259 a0)) then (if (ai (sai σ2 (gr σ2 261 a0) a1.toNatClampNeg (gi σ2 241 a0)) (gr (sai σ2 (gr σ2 261 a0) a1.toNatClampNeg (gi σ2 241 a0)) 259 a0) a1.toNatClampNeg) = (1 : Int32) then (if kd (sai σ2 (gr σ2 261 a0) a1.toNatClampNeg (gi σ2 241 a0)) (gr (sai σ2 (gr σ2 261 a0) a1.toNatClampNeg (gi σ2 241 a0)) 262 a0) = 100 ∧ inb a1 (ln (sai σ2 (gr σ2 261 a0) a1.toNatClampNeg (gi σ2 241 a0)) (gr (sai σ2 (gr σ2 261 a0) a1.toNatClampNeg (gi σ2 241 a0)) 262 a0)) then (if (ai (sai σ2 (gr σ2 261 a0) a1.toNatClampNeg (gi σ2 241 a0)) (gr (sai σ2 (gr σ2 261 a0) a1.toNatClampNeg (gi σ2 241 a0)) 262 a0) a1.toNatClampNeg) = 0 then (lt1 (sai (sai σ2 (gr σ2 261 a0) a1.toNatClampNeg (gi σ2 241 a0)) (gr (sai σ2 (gr σ2 261 a0) a1.toNatClampNeg (gi σ2 241 a0)) 259 a0) a1.toNatClampNeg (0 : Int32)) (fun σ11 => some ((3 : Int32), σ11))) else (lt1 (sai (sai σ2 (gr σ2 261 a0) a1.toNatClampNeg (gi σ2 241 a0)) (gr (sai σ2 (gr σ2 261 a0) a1.toNatClampNeg (gi σ2 241 a0)) 259 a0) a1.toNatClampNeg (2 : Int32)) (fun σ10 => some ((1 : Int32), σ10)))) else none) else (some ((-3 : Int32), (sai σ2 (gr σ2 261 a0) a1.toNatClampNeg (gi σ2 241 a0))))) else none) else none) else none) else (some ((-1 : Int32), σ2)))) else none
theorem mo_F_X6_commit (a0 : Nat) (a1 : Int32) (σ : HS) : Mo σ (F_X6_commit a0 a1 σ) := by
  unfold F_X6_commit
  exact (mo_ite (mo_le (τ := (si σ 240 a0 (0 : Int32))) ⟨Nat.le_refl _, Nat.le_refl _⟩ (mo_bd (mo_F_X6_noClient a1 _) (fun r2 σ2 => (mo_ite (mo_ite (mo_ite (mo_ite (mo_ite (mo_ite (mo_ite (mo_lt ⟨Nat.le_refl _, Nat.le_refl _⟩ (fun σ11 => mo_ret)) (mo_lt ⟨Nat.le_refl _, Nat.le_refl _⟩ (fun σ10 => mo_ret))) mo_none) (mo_le (τ := (sai σ2 (gr σ2 261 a0) a1.toNatClampNeg (gi σ2 241 a0))) ⟨Nat.le_refl _, Nat.le_refl _⟩ mo_ret)) mo_none) mo_none) mo_none) mo_ret)))) mo_none)
set_option maxHeartbeats 4000000 in
set_option maxRecDepth 100000 in
theorem c_X6_commit (l : Launch) (D : va_G) (dA : Nat → ClassId) (base : Nat) (a0 : Nat) (a1 : Int32) {σ τ : HS} {r : Int32} (hF : F_X6_commit a0 a1 σ = some (r, τ)) : CT l yX6_commit cX6_commit 2 (some .int) 2 42 D dA base [vr a0, .int a1] (some (.int r)) σ τ := by
  refine CT.of (lv := [(0, vr a0), (1, .int a1)]) (by decide) (vR (vI vN)) (Nat.le_of_ble_eq_true rfl) rfl ?_
  intro p e s m args below meth c ls cx hl h
  have cx : CX p s m args meth c cX6_commit 2 (some .int) RX6 "commit" D dA base := cx
  have g : LE σ σ := LE.rf
  obtain ⟨hx, hb, -⟩ := id cx
  unfold F_X6_commit at hF
  refine x_aload_n hx hb dX6_commit_0 rfl (lv_at hl 0 rfl) ?_
  refine lv_iconst (v := (0 : Int32)) hx hb dX6_commit_1 (by decide) ?_
  obtain ⟨hq1, hF⟩ := ifs hF
  refine x_sti cx h fa_X6_75 (f := 240) rfl (Or.inl rfl) hq1 dX6_commit_2 (fun H locs h => ?_)
  refine lv_iload_n hx hb dX6_commit_5 rfl (lv_at hl 1 rfl) ?_
  obtain ⟨r2, σ2, hc2, hF⟩ := bds hF
  refine x_calli (σ := (si σ 240 a0 (0 : Int32))) g (LEm hc2 (mo_F_X6_noClient a1 _)) (x_runS (As := [.int a1]) (rest := []) cx h (c_X6_noClient l D dA base a1 hc2) ml_X6_138 mi_X6_noClient rfl ⟨Nat.le_of_ble_eq_true rfl, Nat.le_of_ble_eq_true rfl⟩ hl.1 rfl (s8 sN (by decide)) dX6_commit_6 (le_room g (LEm hc2 (mo_F_X6_noClient a1 _)) (LEm hF (mo_ite (mo_ite (mo_ite (mo_ite (mo_ite (mo_ite (mo_ite (mo_lt ⟨Nat.le_refl _, Nat.le_refl _⟩ (fun σ11 => mo_ret)) (mo_lt ⟨Nat.le_refl _, Nat.le_refl _⟩ (fun σ10 => mo_ret))) mo_none) (mo_le (τ := (sai σ2 (gr σ2 261 a0) a1.toNatClampNeg (gi σ2 241 a0))) ⟨Nat.le_refl _, Nat.le_refl _⟩ mo_ret)) mo_none) mo_none) mo_none) mo_ret)))) h (fun H locs h g => ?_)
  refine lv_if_eq (tgt := 14) hx hb dX6_commit_9 (by decide) (fun c3 => ?_) (fun c3 => ?_)
  · replace hF := ifp c3 hF
    refine x_aload_n hx hb dX6_commit_14 rfl (lv_at hl 0 rfl) ?_
    obtain ⟨hq4, hF⟩ := ifs hF
    refine x_getr cx h fa_X6_54 (f := 261) rfl hq4 dX6_commit_15 ?_
    refine lv_iload_n hx hb dX6_commit_18 rfl (lv_at hl 1 rfl) ?_
    refine x_aload_n hx hb dX6_commit_19 rfl (lv_at hl 0 rfl) ?_
    refine x_geti cx h fa_X6_103 (f := 241) rfl hq4 dX6_commit_20 ?_
    obtain ⟨hq5, hF⟩ := ifs hF
    refine x_iast cx h hq5.1 (inb.vp hq5.2) dX6_commit_23 (fun H locs h => ?_)
    refine x_aload_n hx hb dX6_commit_24 rfl (lv_at hl 0 rfl) ?_
    refine x_getr cx h fa_X6_48 (f := 259) rfl hq4 dX6_commit_25 ?_
    refine lv_iload_n hx hb dX6_commit_28 rfl (lv_at hl 1 rfl) ?_
    obtain ⟨hq6, hF⟩ := ifs hF
    refine x_iald cx h hq6.1 (inb.vp hq6.2) dX6_commit_29 ?_
    refine lv_iconst (v := (1 : Int32)) hx hb dX6_commit_30 (by decide) ?_
    refine lv_icmp_eq (tgt := 37) hx hb dX6_commit_31 (by decide) (fun c7 => ?_) (fun c7 => ?_)
    · replace hF := ifp c7 hF
      refine x_aload_n hx hb dX6_commit_37 rfl (lv_at hl 0 rfl) ?_
      refine x_getr cx h fa_X6_57 (f := 262) rfl hq4 dX6_commit_38 ?_
      refine lv_iload_n hx hb dX6_commit_41 rfl (lv_at hl 1 rfl) ?_
      obtain ⟨hq8, hF⟩ := ifs hF
      refine x_iald cx h hq8.1 (inb.vp hq8.2) dX6_commit_42 ?_
      refine lv_if_ne (tgt := 55) hx hb dX6_commit_43 (by decide) (fun c9 => ?_) (fun c9 => ?_)
      · replace hF := ifn c9 hF
        refine x_aload_n hx hb dX6_commit_55 rfl (lv_at hl 0 rfl) ?_
        refine x_getr cx h fa_X6_48 (f := 259) rfl hq4 dX6_commit_56 ?_
        refine lv_iload_n hx hb dX6_commit_59 rfl (lv_at hl 1 rfl) ?_
        refine lv_iconst (v := (2 : Int32)) hx hb dX6_commit_60 (by decide) ?_
        refine x_iast cx h hq6.1 (inb.vp hq6.2) dX6_commit_61 (fun H locs h => ?_)
        obtain ⟨σ10, e10, hF⟩ := lts hF
        have h := Wd.nm e10 h
        have g := LE.nm e10 g
        refine W.cs (cells' := hs σ10 - hs σ) (slots' := ns σ10 - ns σ) (by rw [e10]; try rfl) (by rw [e10]; try rfl) ?_
        refine lv_iconst (v := (1 : Int32)) hx hb dX6_commit_62 (by decide) ?_
        obtain ⟨rfl, rfl⟩ := rts hF
        exact x_iret cx h dX6_commit_63
      · replace hF := ifp c9 hF
        refine x_aload_n hx hb dX6_commit_46 rfl (lv_at hl 0 rfl) ?_
        refine x_getr cx h fa_X6_48 (f := 259) rfl hq4 dX6_commit_47 ?_
        refine lv_iload_n hx hb dX6_commit_50 rfl (lv_at hl 1 rfl) ?_
        refine lv_iconst (v := (0 : Int32)) hx hb dX6_commit_51 (by decide) ?_
        refine x_iast cx h hq6.1 (inb.vp hq6.2) dX6_commit_52 (fun H locs h => ?_)
        obtain ⟨σ11, e11, hF⟩ := lts hF
        have h := Wd.nm e11 h
        have g := LE.nm e11 g
        refine W.cs (cells' := hs σ11 - hs σ) (slots' := ns σ11 - ns σ) (by rw [e11]; try rfl) (by rw [e11]; try rfl) ?_
        refine lv_iconst (v := (3 : Int32)) hx hb dX6_commit_53 (by decide) ?_
        obtain ⟨rfl, rfl⟩ := rts hF
        exact x_iret cx h dX6_commit_54
    · replace hF := ifn c7 hF
      refine lv_bipush (v := (-3 : Int32)) hx hb dX6_commit_34 (by decide) ?_
      obtain ⟨rfl, rfl⟩ := rts hF
      exact x_iret cx h dX6_commit_36
  · replace hF := ifn c3 hF
    refine lv_iconst (v := (-1 : Int32)) hx hb dX6_commit_12 (by decide) ?_
    obtain ⟨rfl, rfl⟩ := rts hF
    exact x_iret cx h dX6_commit_13
