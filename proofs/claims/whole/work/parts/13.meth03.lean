def F_X4_put (a0 : Nat) (a1 : Int32) (a2 : Int32) (σ : HS) : Option (Int32 × HS) :=
  if kd σ a0 = 5 then (bd (F_X4_placeOf a0 a1 σ) (fun r2 σ2 => if r2 < 0 then (if kd σ2 a0 = 5 then (if (gi σ2 164 a0) < (16 : Int32) then (if kd σ2 (gr σ2 165 a0) = 100 ∧ inb (gi σ2 164 a0) (ln σ2 (gr σ2 165 a0)) then (if kd (sai σ2 (gr σ2 165 a0) (gi σ2 164 a0).toNatClampNeg a1) (gr (sai σ2 (gr σ2 165 a0) (gi σ2 164 a0).toNatClampNeg a1) 166 a0) = 100 ∧ inb (gi (sai σ2 (gr σ2 165 a0) (gi σ2 164 a0).toNatClampNeg a1) 164 a0) (ln (sai σ2 (gr σ2 165 a0) (gi σ2 164 a0).toNatClampNeg a1) (gr (sai σ2 (gr σ2 165 a0) (gi σ2 164 a0).toNatClampNeg a1) 166 a0)) then (lt1 (sai (sai σ2 (gr σ2 165 a0) (gi σ2 164 a0).toNatClampNeg a1) (gr (sai σ2 (gr σ2 165 a0) (gi σ2 164 a0).toNatClampNeg a1) 166 a0) (gi (sai σ2 (gr σ2 165 a0) (gi σ2 164 a0).toNatClampNeg a1) 164 a0).toNatClampNeg a2) (fun σ8 => bd (F_X4_putRow a0 (a1 / (4 : Int32)) (si σ8 164 a0 ((gi σ8 164 a0) + (1 : Int32)))) (fun r9 σ9 => some ((1 : Int32), σ9)))) else none) else none) else (some ((0 : Int32), σ2))) else none) else (if kd σ2 a0 = 5 then (if kd σ2 (gr σ2 166 a0) = 100 ∧ inb r2 (ln σ2 (gr σ2 166 a0)) then (some ((1 : Int32), (sai σ2 (gr σ2 166 a0) r2.toNatClampNeg a2))) else none) else none))) else none
theorem mo_F_X4_put (a0 : Nat) (a1 : Int32) (a2 : Int32) (σ : HS) : Mo σ (F_X4_put a0 a1 a2 σ) := by
  unfold F_X4_put
  exact (mo_ite (mo_bd (mo_F_X4_placeOf a0 a1 _) (fun r2 σ2 => (mo_ite (mo_ite (mo_ite (mo_ite (mo_ite (mo_lt ⟨Nat.le_refl _, Nat.le_refl _⟩ (fun σ8 => (mo_le (τ := (si σ8 164 a0 ((gi σ8 164 a0) + (1 : Int32)))) ⟨Nat.le_refl _, Nat.le_refl _⟩ (mo_bd (mo_F_X4_putRow a0 (a1 / (4 : Int32)) _) (fun r9 σ9 => mo_ret))))) mo_none) mo_none) mo_ret) mo_none) (mo_ite (mo_ite (mo_le (τ := (sai σ2 (gr σ2 166 a0) r2.toNatClampNeg a2)) ⟨Nat.le_refl _, Nat.le_refl _⟩ mo_ret) mo_none) mo_none)))) mo_none)
set_option maxHeartbeats 4000000 in
set_option maxRecDepth 100000 in
theorem c_X4_put (l : Launch) (D : va_G) (dA : Nat → ClassId) (base : Nat) (a0 : Nat) (a1 : Int32) (a2 : Int32) {σ τ : HS} {r : Int32} (hF : F_X4_put a0 a1 a2 σ = some (r, τ)) : CT l yX4_put cX4_put 4 (some .boolean) 1 22 D dA base [vr a0, .int a1, .int a2] (some (.int r)) σ τ := by
  refine CT.of (lv := [(0, vr a0), (1, .int a1), (2, .int a2)]) (by decide) (vR (vI (vI vN))) (Nat.le_of_ble_eq_true rfl) rfl ?_
  intro p e s m args below meth c ls cx hl h
  have cx : CX p s m args meth c cX4_put 4 (some .boolean) RX4 "put" D dA base := cx
  have g : LE σ σ := LE.rf
  obtain ⟨hx, hb, -⟩ := id cx
  unfold F_X4_put at hF
  refine x_aload_n hx hb dX4_put_0 rfl (lv_at hl 0 rfl) ?_
  refine lv_iload_n hx hb dX4_put_1 rfl (lv_at hl 1 rfl) ?_
  obtain ⟨hq1, hF⟩ := ifs hF
  obtain ⟨r2, σ2, hc2, hF⟩ := bds hF
  refine x_calli (σ := σ) g (LEm hc2 (mo_F_X4_placeOf a0 a1 _)) (x_runV (As := [.int a1]) (rest := []) cx h (c_X4_placeOf l D dA base a0 a1 hc2) ml_X4_43 mi_X4_placeOf hq1 rfl ⟨Nat.le_of_ble_eq_true rfl, Nat.le_of_ble_eq_true rfl⟩ hl.1 rfl (s8 sN (by decide)) dX4_put_2 (le_room g (LEm hc2 (mo_F_X4_placeOf a0 a1 _)) (LEm hF (mo_ite (mo_ite (mo_ite (mo_ite (mo_ite (mo_lt ⟨Nat.le_refl _, Nat.le_refl _⟩ (fun σ8 => (mo_le (τ := (si σ8 164 a0 ((gi σ8 164 a0) + (1 : Int32)))) ⟨Nat.le_refl _, Nat.le_refl _⟩ (mo_bd (mo_F_X4_putRow a0 (a1 / (4 : Int32)) _) (fun r9 σ9 => mo_ret))))) mo_none) mo_none) mo_ret) mo_none) (mo_ite (mo_ite (mo_le (τ := (sai σ2 (gr σ2 166 a0) r2.toNatClampNeg a2)) ⟨Nat.le_refl _, Nat.le_refl _⟩ mo_ret) mo_none) mo_none))))) h (fun H locs h g => ?_)
  refine x_istore_n (lv' := [(3, .int r2), (0, vr a0), (1, .int a1), (2, .int a2)]) hx hb dX4_put_5 rfl hl (by decide) (cR (cI (cI cN))) rfl (fun ls hl => ?_)
  refine lv_iload_n hx hb dX4_put_6 rfl (lv_at hl 0 rfl) ?_
  refine lv_if_lt (tgt := 19) hx hb dX4_put_7 (by decide) (fun c3 => ?_) (fun c3 => ?_)
  · replace hF := ifp c3 hF
    refine x_aload_n hx hb dX4_put_19 rfl (lv_at hl 1 rfl) ?_
    obtain ⟨hq4, hF⟩ := ifs hF
    refine x_geti cx h fa_X4_34 (f := 164) rfl hq4 dX4_put_20 ?_
    refine lv_bipush (v := (16 : Int32)) hx hb dX4_put_23 (by decide) ?_
    refine lv_icmp_lt (tgt := 30) hx hb dX4_put_25 (by decide) (fun c5 => ?_) (fun c5 => ?_)
    · replace hF := ifp c5 hF
      refine x_aload_n hx hb dX4_put_30 rfl (lv_at hl 1 rfl) ?_
      refine x_getr cx h fa_X4_9 (f := 165) rfl hq4 dX4_put_31 ?_
      refine x_aload_n hx hb dX4_put_34 rfl (lv_at hl 1 rfl) ?_
      refine x_geti cx h fa_X4_34 (f := 164) rfl hq4 dX4_put_35 ?_
      refine lv_iload_n hx hb dX4_put_38 rfl (lv_at hl 2 rfl) ?_
      obtain ⟨hq6, hF⟩ := ifs hF
      refine x_iast cx h hq6.1 (inb.vp hq6.2) dX4_put_39 (fun H locs h => ?_)
      refine x_aload_n hx hb dX4_put_40 rfl (lv_at hl 1 rfl) ?_
      refine x_getr cx h fa_X4_15 (f := 166) rfl hq4 dX4_put_41 ?_
      refine x_aload_n hx hb dX4_put_44 rfl (lv_at hl 1 rfl) ?_
      refine x_geti cx h fa_X4_34 (f := 164) rfl hq4 dX4_put_45 ?_
      refine lv_iload_n hx hb dX4_put_48 rfl (lv_at hl 3 rfl) ?_
      obtain ⟨hq7, hF⟩ := ifs hF
      refine x_iast cx h hq7.1 (inb.vp hq7.2) dX4_put_49 (fun H locs h => ?_)
      obtain ⟨σ8, e8, hF⟩ := lts hF
      have h := Wd.nm e8 h
      have g := LE.nm e8 g
      refine W.cs (cells' := hs σ8 - hs σ) (slots' := ns σ8 - ns σ) (by rw [e8]; try rfl) (by rw [e8]; try rfl) ?_
      refine x_aload_n hx hb dX4_put_50 rfl (lv_at hl 1 rfl) ?_
      refine lv_dup hx hb dX4_put_51 (vr_cat _) ?_
      refine x_geti cx h fa_X4_34 (f := 164) rfl (by rw [e8]; exact hq4) dX4_put_52 ?_
      refine lv_iconst (v := (1 : Int32)) hx hb dX4_put_55 (by decide) ?_
      refine lv_iadd hx hb dX4_put_56 ?_
      refine x_sti cx h fa_X4_34 (f := 164) rfl (Or.inl rfl) (by rw [e8]; exact hq4) dX4_put_57 (fun H locs h => ?_)
      refine x_aload_n hx hb dX4_put_60 rfl (lv_at hl 1 rfl) ?_
      refine lv_iload_n hx hb dX4_put_61 rfl (lv_at hl 2 rfl) ?_
      refine lv_iconst (v := (4 : Int32)) hx hb dX4_put_62 (by decide) ?_
      refine lv_idiv hx hb dX4_put_63 (by decide) ?_
      obtain ⟨r9, σ9, hc9, hF⟩ := bds hF
      refine x_callv (σ := (si σ8 164 a0 ((gi σ8 164 a0) + (1 : Int32)))) g (LEm hc9 (mo_F_X4_putRow a0 (a1 / (4 : Int32)) _)) (x_runV (As := [.int (a1 / (4 : Int32))]) (rest := []) cx h (c_X4_putRow l D dA base a0 (a1 / (4 : Int32)) hc9) ml_X4_47 mi_X4_putRow (by rw [e8]; exact hq4) rfl ⟨Nat.le_of_ble_eq_true rfl, Nat.le_of_ble_eq_true rfl⟩ hl.1 rfl (s8 sN (by decide)) dX4_put_64 (le_room g (LEm hc9 (mo_F_X4_putRow a0 (a1 / (4 : Int32)) _)) (LEm hF mo_ret))) h (fun H locs h g => ?_)
      refine lv_iconst (v := (1 : Int32)) hx hb dX4_put_67 (by decide) ?_
      obtain ⟨rfl, rfl⟩ := rts hF
      exact x_zret cx h (Or.inr rfl) dX4_put_68
    · replace hF := ifn c5 hF
      refine lv_iconst (v := (0 : Int32)) hx hb dX4_put_28 (by decide) ?_
      obtain ⟨rfl, rfl⟩ := rts hF
      exact x_zret cx h (Or.inl rfl) dX4_put_29
  · replace hF := ifn c3 hF
    refine x_aload_n hx hb dX4_put_10 rfl (lv_at hl 1 rfl) ?_
    obtain ⟨hq10, hF⟩ := ifs hF
    refine x_getr cx h fa_X4_15 (f := 166) rfl hq10 dX4_put_11 ?_
    refine lv_iload_n hx hb dX4_put_14 rfl (lv_at hl 0 rfl) ?_
    refine lv_iload_n hx hb dX4_put_15 rfl (lv_at hl 3 rfl) ?_
    obtain ⟨hq11, hF⟩ := ifs hF
    refine x_iast cx h hq11.1 (inb.vp hq11.2) dX4_put_16 (fun H locs h => ?_)
    refine lv_iconst (v := (1 : Int32)) hx hb dX4_put_17 (by decide) ?_
    obtain ⟨rfl, rfl⟩ := rts hF
    exact x_zret cx h (Or.inr rfl) dX4_put_18
def B_X4_hasLockIn_16  (y0 : Int32) (σ : HS) : Option (Int32 × HS) :=
  if y0 = 0 ∨ y0 = 1 then (some (y0, σ)) else none
theorem mo_B_X4_hasLockIn_16  (y0 : Int32) (σ : HS) : Mo σ (B_X4_hasLockIn_16  y0 σ) := by
  unfold B_X4_hasLockIn_16
  exact (mo_ite mo_ret mo_none)
set_option maxHeartbeats 4000000 in
set_option maxRecDepth 100000 in
theorem w_X4_hasLockIn_16 {p : Program} {l : Launch} {e : Env} {s : State} {m : MethodId} {args : Array Value} {below : List Frame} {meth : Method} {c : Code} {D : va_G} {dA : Nat → ClassId} {base : Nat} {σ0 τ : HS} {r : Int32} (cx : CX p s m args meth c cX4_hasLockIn 2 (some .boolean) RX4 "hasLockIn" D dA base)  (y0 : Int32) {σ : HS} {H : Heap} {locs : List Loc} {ls : Array Slot} (h : Wd D dA base σ s H locs) (g : LE σ0 σ) (hl : lv_has ls 2 []) (hF : B_X4_hasLockIn_16  y0 σ = some (r, τ)) : WG p l e s m args below meth c D dA base 0 0 (some (.int r)) σ0 τ σ H locs 16 ls [.int y0] := by
  obtain ⟨hx, hb, -⟩ := id cx
  unfold B_X4_hasLockIn_16 at hF
  obtain ⟨hz1, hF⟩ := ifs hF
  obtain ⟨rfl, rfl⟩ := rts hF
  exact x_zret cx h hz1 dX4_hasLockIn_16
def F_X4_hasLockIn (a0 : Nat) (a1 : Nat) (σ : HS) : Option (Int32 × HS) :=
  if kd σ a1 = 1 then (if kd σ a0 = 5 then (if (gi σ 2 a1) = (gi σ 161 a0) then (B_X4_hasLockIn_16  (1 : Int32) σ) else (B_X4_hasLockIn_16  (0 : Int32) σ)) else none) else none
theorem mo_F_X4_hasLockIn (a0 : Nat) (a1 : Nat) (σ : HS) : Mo σ (F_X4_hasLockIn a0 a1 σ) := by
  unfold F_X4_hasLockIn
  exact (mo_ite (mo_ite (mo_ite (mo_B_X4_hasLockIn_16  (1 : Int32) _) (mo_B_X4_hasLockIn_16  (0 : Int32) _)) mo_none) mo_none)
set_option maxHeartbeats 4000000 in
set_option maxRecDepth 100000 in
theorem c_X4_hasLockIn (l : Launch) (D : va_G) (dA : Nat → ClassId) (base : Nat) (a0 : Nat) (a1 : Nat) {σ τ : HS} {r : Int32} (hF : F_X4_hasLockIn a0 a1 σ = some (r, τ)) : CT l yX4_hasLockIn cX4_hasLockIn 2 (some .boolean) 0 0 D dA base [vr a0, vr a1] (some (.int r)) σ τ := by
  refine CT.of (lv := [(0, vr a0), (1, vr a1)]) (by decide) (vR (vR vN)) (Nat.le_of_ble_eq_true rfl) rfl ?_
  intro p e s m args below meth c ls cx hl h
  have cx : CX p s m args meth c cX4_hasLockIn 2 (some .boolean) RX4 "hasLockIn" D dA base := cx
  have g : LE σ σ := LE.rf
  obtain ⟨hx, hb, -⟩ := id cx
  unfold F_X4_hasLockIn at hF
  refine x_aload_n hx hb dX4_hasLockIn_0 rfl (lv_at hl 1 rfl) ?_
  obtain ⟨hq1, hF⟩ := ifs hF
  refine x_geti cx h fa_X4_51 (f := 2) rfl hq1 dX4_hasLockIn_1 ?_
  refine x_aload_n hx hb dX4_hasLockIn_4 rfl (lv_at hl 0 rfl) ?_
  obtain ⟨hq2, hF⟩ := ifs hF
  refine x_geti cx h fa_X4_25 (f := 161) rfl hq2 dX4_hasLockIn_5 ?_
  refine lv_icmp_ne (tgt := 15) hx hb dX4_hasLockIn_8 (by decide) (fun c3 => ?_) (fun c3 => ?_)
  · replace hF := ifn c3 hF
    refine lv_iconst (v := (0 : Int32)) hx hb dX4_hasLockIn_15 (by decide) ?_
    exact w_X4_hasLockIn_16 (σ := σ) cx   (0 : Int32) h g (lv_sub hl [] rfl) hF
  · replace hF := ifp c3 hF
    refine lv_iconst (v := (1 : Int32)) hx hb dX4_hasLockIn_11 (by decide) ?_
    refine lv_goto (tgt := 16) hx hb dX4_hasLockIn_12 (by decide) ?_
    exact w_X4_hasLockIn_16 (σ := σ) cx   (1 : Int32) h g (lv_sub hl [] rfl) hF
def B_X5_init_37 (k37 : Nat → Int32 → HS → Option (Unit × HS)) (x0 : Nat) (x1 : Int32) (σ : HS) : Option (Unit × HS) :=
  if (8 : Int32) ≤ x1 then (if kd σ x0 = 6 then (some ((), (si σ 204 x0 (10 : Int32)))) else none) else (if kd σ x0 = 6 then (lt1 (nw σ 5 10) (fun σ4 => bd (F_X4_init (hs σ + 1) σ4) (fun r5 σ5 => if kd σ5 (gr σ 202 x0) = 103 ∧ inb x1 (ln σ5 (gr σ 202 x0)) then (if kd σ5 (hs σ + 1) = 5 then (k37 x0 (x1 + (1 : Int32)) (sar σ5 (gr σ 202 x0) x1.toNatClampNeg (hs σ + 1))) else none) else none))) else none)
theorem mo_B_X5_init_37 {k37 : Nat → Int32 → HS → Option (Unit × HS)} (mk37 : ∀ x0 x1 σ, Mo σ (k37 x0 x1 σ)) (x0 : Nat) (x1 : Int32) (σ : HS) : Mo σ (B_X5_init_37 k37 x0 x1 σ) := by
  unfold B_X5_init_37
  exact (mo_ite (mo_ite (mo_le (τ := (si σ 204 x0 (10 : Int32))) ⟨Nat.le_refl _, Nat.le_refl _⟩ mo_ret) mo_none) (mo_ite (mo_lt LE.nw (fun σ4 => (mo_bd (mo_F_X4_init (hs σ + 1) _) (fun r5 σ5 => (mo_ite (mo_ite (mo_le (τ := (sar σ5 (gr σ 202 x0) x1.toNatClampNeg (hs σ + 1))) ⟨Nat.le_refl _, Nat.le_refl _⟩ (mk37 x0 (x1 + (1 : Int32)) _)) mo_none) mo_none))))) mo_none))
set_option maxHeartbeats 4000000 in
set_option maxRecDepth 100000 in
theorem w_X5_init_37 {p : Program} {l : Launch} {e : Env} {s : State} {m : MethodId} {args : Array Value} {below : List Frame} {meth : Method} {c : Code} {D : va_G} {dA : Nat → ClassId} {base : Nat} {σ0 τ : HS} {r : Unit} (cx : CX p s m args meth c cX5_init 2 none RX5 "<init>" D dA base) {k37 : Nat → Int32 → HS → Option (Unit × HS)} (mk37 : ∀ x0 x1 σ, Mo σ (k37 x0 x1 σ)) (hk37 : ∀ x0 x1 σ H locs ls, Wd D dA base σ s H locs → LE σ0 σ → lv_has ls 2 [(0, vr x0), (1, .int x1)] → k37 x0 x1 σ = some (r, τ) → WG p l e s m args below meth c D dA base 3 61 none σ0 τ σ H locs 37 ls []) (x0 : Nat) (x1 : Int32) {σ : HS} {H : Heap} {locs : List Loc} {ls : Array Slot} (h : Wd D dA base σ s H locs) (g : LE σ0 σ) (hl : lv_has ls 2 [(0, vr x0), (1, .int x1)]) (hF : B_X5_init_37 k37 x0 x1 σ = some (r, τ)) : WG p l e s m args below meth c D dA base 3 61 none σ0 τ σ H locs 37 ls [] := by
  obtain ⟨hx, hb, -⟩ := id cx
  unfold B_X5_init_37 at hF
  refine lv_iload_n hx hb dX5_init_37 rfl (lv_at hl 1 rfl) ?_
  refine lv_bipush (v := (8 : Int32)) hx hb dX5_init_38 (by decide) ?_
  refine lv_icmp_ge (tgt := 62) hx hb dX5_init_40 (by decide) (fun c1 => ?_) (fun c1 => ?_)
  · replace hF := ifp c1 hF
    refine x_aload_n hx hb dX5_init_62 rfl (lv_at hl 0 rfl) ?_
    refine lv_bipush (v := (10 : Int32)) hx hb dX5_init_63 (by decide) ?_
    obtain ⟨hq2, hF⟩ := ifs hF
    refine x_sti cx h fa_X5_30 (f := 204) rfl (Or.inl rfl) hq2 dX5_init_65 (fun H locs h => ?_)
    obtain ⟨rfl, rfl⟩ := rts hF
    exact x_vret cx h dX5_init_68
  · replace hF := ifn c1 hF
    refine x_aload_n hx hb dX5_init_43 rfl (lv_at hl 0 rfl) ?_
    obtain ⟨hq3, hF⟩ := ifs hF
    refine x_getr cx h fa_X5_25 (f := 202) rfl hq3 dX5_init_44 ?_
    refine lv_iload_n hx hb dX5_init_47 rfl (lv_at hl 1 rfl) ?_
    obtain ⟨σ4, e4, hF⟩ := lts hF
    refine x_newG (σ := σ) cx h g (by rw [← e4]; exact LEm hF (mo_bd (mo_F_X4_init (hs σ + 1) _) (fun r5 σ5 => (mo_ite (mo_ite (mo_le (τ := (sar σ5 (gr σ 202 x0) x1.toNatClampNeg (hs σ + 1))) ⟨Nat.le_refl _, Nat.le_refl _⟩ (mk37 x0 (x1 + (1 : Int32)) _)) mo_none) mo_none)))) nl_X5_23 dX5_init_48 (fun H h g => ?_)
    have h := Wd.nm e4 h
    have g := LE.nm e4 g
    refine W.cs (cells' := hs σ4 - hs σ0) (slots' := ns σ4 - ns σ0) (by rw [e4]; try rfl) (by rw [e4]; try rfl) ?_
    refine lv_dup hx hb dX5_init_51 (vr_cat _) ?_
    obtain ⟨r5, σ5, hc5, hF⟩ := bds hF
    refine x_callv (σ := σ4) g (LEm hc5 (mo_F_X4_init (hs σ + 1) _)) (x_runIN (As := []) (rest := [vr (hs σ + 1), .int x1, vr (gr σ 202 x0)]) cx h (c_X4_init l D dA base (hs σ + 1) hc5) ml_X5_29 mi_X4_init (by rw [e4]; exact kd_nw_self σ 5 10) rfl ⟨Nat.le_of_ble_eq_true rfl, Nat.le_of_ble_eq_true rfl⟩ hl.1 rfl (s8 (sR (sI (sR sN))) (by decide)) dX5_init_52 (le_room g (LEm hc5 (mo_F_X4_init (hs σ + 1) _)) (LEm hF (mo_ite (mo_ite (mo_le (τ := (sar σ5 (gr σ 202 x0) x1.toNatClampNeg (hs σ + 1))) ⟨Nat.le_refl _, Nat.le_refl _⟩ (mk37 x0 (x1 + (1 : Int32)) _)) mo_none) mo_none)))) h (fun H locs h g => ?_)
    obtain ⟨hq6, hF⟩ := ifs hF
    obtain ⟨hq7, hF⟩ := ifs hF
    refine x_aast cx h RA3 (by decide) hq6.1 (inb.vp hq6.2) hq7 dX5_init_55 (fun H locs h => ?_)
    refine x_iinc (k := 1) (v := (1 : Int32)) (lv' := [(1, .int (x1 + (1 : Int32))), (0, vr x0)]) hx hb dX5_init_56 hl rfl (by decide) (by decide) (cR (cI cN)) rfl (fun ls hl => ?_)
    refine lv_goto (tgt := 37) hx hb dX5_init_59 (by decide) ?_
    exact hk37 x0 (x1 + (1 : Int32)) (sar σ5 (gr σ 202 x0) x1.toNatClampNeg (hs σ + 1)) _ _ _ h g (lv_sub hl [1, 0] rfl) hF
def L_X5_init_37  : Nat → Nat → Int32 → HS → Option (Unit × HS)
  | 0, _, _, _ => none
  | N + 1, x0, x1, σ => B_X5_init_37 (L_X5_init_37  N) x0 x1 σ
theorem mo_L_X5_init_37  : ∀ (N : Nat) (x0 : Nat) (x1 : Int32) (σ : HS), Mo σ (L_X5_init_37  N x0 x1 σ) := by
  intro N
  induction N with
  | zero => intro x0 x1 σ; exact mo_none
  | succ N ih => intro x0 x1 σ; exact mo_B_X5_init_37 ih x0 x1 σ
theorem wl_X5_init_37 {p : Program} {l : Launch} {e : Env} {s : State} {m : MethodId} {args : Array Value} {below : List Frame} {meth : Method} {c : Code} {D : va_G} {dA : Nat → ClassId} {base : Nat} {σ0 τ : HS} {r : Unit} (cx : CX p s m args meth c cX5_init 2 none RX5 "<init>" D dA base)  : ∀ (N : Nat) (x0 : Nat) (x1 : Int32) (σ : HS) (H : Heap) (locs : List Loc) (ls : Array Slot), Wd D dA base σ s H locs → LE σ0 σ → lv_has ls 2 [(0, vr x0), (1, .int x1)] → L_X5_init_37  N x0 x1 σ = some (r, τ) → WG p l e s m args below meth c D dA base 3 61 none σ0 τ σ H locs 37 ls [] := by
  intro N
  induction N with
  | zero => intro x0 x1 σ H locs ls h g hl hF; cases hF
  | succ N ih => intro x0 x1 σ H locs ls h g hl hF; exact w_X5_init_37 cx (mo_L_X5_init_37  N) ih x0 x1 h g hl hF
def F_X5_init (a0 : Nat) (σ : HS) : Option (Unit × HS) :=
  if kd σ a0 = 6 then (lt1 (nw σ 4 6) (fun σ2 => bd (F_X3_init (hs σ + 1) σ2) (fun r3 σ3 => if kd σ3 a0 = 6 then (lt1 (nw (sr σ3 200 a0 (hs σ + 1)) 3 3) (fun σ5 => bd (F_X2_init (hs (sr σ3 200 a0 (hs σ + 1)) + 1) σ5) (fun r6 σ6 => if kd σ6 a0 = 6 then (lt1 (nw (sr σ6 201 a0 (hs (sr σ3 200 a0 (hs σ + 1)) + 1)) 103 8) (fun σ8 => if kd σ8 a0 = 6 then (L_X5_init_37  NF a0 (0 : Int32) (sr σ8 202 a0 (hs (sr σ6 201 a0 (hs (sr σ3 200 a0 (hs σ + 1)) + 1)) + 1))) else none)) else none))) else none))) else none
theorem mo_F_X5_init (a0 : Nat) (σ : HS) : Mo σ (F_X5_init a0 σ) := by
  unfold F_X5_init
  exact (mo_ite (mo_lt LE.nw (fun σ2 => (mo_bd (mo_F_X3_init (hs σ + 1) _) (fun r3 σ3 => (mo_ite (mo_lt (LE.tr (τ := (sr σ3 200 a0 (hs σ + 1))) ⟨Nat.le_refl _, Nat.le_refl _⟩ LE.nw) (fun σ5 => (mo_bd (mo_F_X2_init (hs (sr σ3 200 a0 (hs σ + 1)) + 1) _) (fun r6 σ6 => (mo_ite (mo_lt (LE.tr (τ := (sr σ6 201 a0 (hs (sr σ3 200 a0 (hs σ + 1)) + 1))) ⟨Nat.le_refl _, Nat.le_refl _⟩ LE.nw) (fun σ8 => (mo_ite (mo_le (τ := (sr σ8 202 a0 (hs (sr σ6 201 a0 (hs (sr σ3 200 a0 (hs σ + 1)) + 1)) + 1))) ⟨Nat.le_refl _, Nat.le_refl _⟩ (mo_L_X5_init_37  NF a0 (0 : Int32) _)) mo_none))) mo_none))))) mo_none))))) mo_none)
set_option maxHeartbeats 4000000 in
set_option maxRecDepth 100000 in
theorem c_X5_init (l : Launch) (D : va_G) (dA : Nat → ClassId) (base : Nat) (a0 : Nat) {σ τ : HS} {r : Unit} (hF : F_X5_init a0 σ = some (r, τ)) : CT l yX5_init cX5_init 2 none 3 61 D dA base [vr a0] none σ τ := by
  refine CT.of (lv := [(0, vr a0)]) (by decide) (vR vN) (Nat.le_of_ble_eq_true rfl) rfl ?_
  intro p e s m args below meth c ls cx hl h
  have cx : CX p s m args meth c cX5_init 2 none RX5 "<init>" D dA base := cx
  have g : LE σ σ := LE.rf
  obtain ⟨hx, hb, -⟩ := id cx
  unfold F_X5_init at hF
  refine x_aload_n hx hb dX5_init_0 rfl (lv_at hl 0 rfl) ?_
  obtain ⟨hq1, hF⟩ := ifs hF
  refine x_obj cx h ml_X5_1 hq1 hl.1 ⟨Nat.le_of_ble_eq_true rfl, Nat.le_of_ble_eq_true rfl⟩ (s8 sN (by decide)) dX5_init_1 ?_
  refine x_aload_n hx hb dX5_init_4 rfl (lv_at hl 0 rfl) ?_
  obtain ⟨σ2, e2, hF⟩ := lts hF
  refine x_newG (σ := σ) cx h g (by rw [← e2]; exact LEm hF (mo_bd (mo_F_X3_init (hs σ + 1) _) (fun r3 σ3 => (mo_ite (mo_lt (LE.tr (τ := (sr σ3 200 a0 (hs σ + 1))) ⟨Nat.le_refl _, Nat.le_refl _⟩ LE.nw) (fun σ5 => (mo_bd (mo_F_X2_init (hs (sr σ3 200 a0 (hs σ + 1)) + 1) _) (fun r6 σ6 => (mo_ite (mo_lt (LE.tr (τ := (sr σ6 201 a0 (hs (sr σ3 200 a0 (hs σ + 1)) + 1))) ⟨Nat.le_refl _, Nat.le_refl _⟩ LE.nw) (fun σ8 => (mo_ite (mo_le (τ := (sr σ8 202 a0 (hs (sr σ6 201 a0 (hs (sr σ3 200 a0 (hs σ + 1)) + 1)) + 1))) ⟨Nat.le_refl _, Nat.le_refl _⟩ (mo_L_X5_init_37  NF a0 (0 : Int32) _)) mo_none))) mo_none))))) mo_none)))) nl_X5_7 dX5_init_5 (fun H h g => ?_)
  have h := Wd.nm e2 h
  have g := LE.nm e2 g
  refine W.cs (cells' := hs σ2 - hs σ) (slots' := ns σ2 - ns σ) (by rw [e2]; try rfl) (by rw [e2]; try rfl) ?_
  refine lv_dup hx hb dX5_init_8 (vr_cat _) ?_
  obtain ⟨r3, σ3, hc3, hF⟩ := bds hF
  refine x_callv (σ := σ2) g (LEm hc3 (mo_F_X3_init (hs σ + 1) _)) (x_runI (As := []) (rest := [vr (hs σ + 1), vr a0]) cx h (c_X3_init l D dA base (hs σ + 1) hc3) ml_X5_9 mi_X3_init (by rw [e2]; exact kd_nw_self σ 4 6) rfl ⟨Nat.le_of_ble_eq_true rfl, Nat.le_of_ble_eq_true rfl⟩ hl.1 rfl (s8 (sR (sR sN)) (by decide)) dX5_init_9 (le_room g (LEm hc3 (mo_F_X3_init (hs σ + 1) _)) (LEm hF (mo_ite (mo_lt (LE.tr (τ := (sr σ3 200 a0 (hs σ + 1))) ⟨Nat.le_refl _, Nat.le_refl _⟩ LE.nw) (fun σ5 => (mo_bd (mo_F_X2_init (hs (sr σ3 200 a0 (hs σ + 1)) + 1) _) (fun r6 σ6 => (mo_ite (mo_lt (LE.tr (τ := (sr σ6 201 a0 (hs (sr σ3 200 a0 (hs σ + 1)) + 1))) ⟨Nat.le_refl _, Nat.le_refl _⟩ LE.nw) (fun σ8 => (mo_ite (mo_le (τ := (sr σ8 202 a0 (hs (sr σ6 201 a0 (hs (sr σ3 200 a0 (hs σ + 1)) + 1)) + 1))) ⟨Nat.le_refl _, Nat.le_refl _⟩ (mo_L_X5_init_37  NF a0 (0 : Int32) _)) mo_none))) mo_none))))) mo_none)))) h (fun H locs h g => ?_)
  obtain ⟨hq4, hF⟩ := ifs hF
  refine x_str cx h fa_X5_10 (f := 200) rfl (Or.inr ⟨rfl, rfl, _, _, rfl⟩) hq4 dX5_init_12 (fun H locs h => ?_)
  refine x_aload_n hx hb dX5_init_15 rfl (lv_at hl 0 rfl) ?_
  obtain ⟨σ5, e5, hF⟩ := lts hF
  refine x_newG (σ := (sr σ3 200 a0 (hs σ + 1))) cx h g (by rw [← e5]; exact LEm hF (mo_bd (mo_F_X2_init (hs (sr σ3 200 a0 (hs σ + 1)) + 1) _) (fun r6 σ6 => (mo_ite (mo_lt (LE.tr (τ := (sr σ6 201 a0 (hs (sr σ3 200 a0 (hs σ + 1)) + 1))) ⟨Nat.le_refl _, Nat.le_refl _⟩ LE.nw) (fun σ8 => (mo_ite (mo_le (τ := (sr σ8 202 a0 (hs (sr σ6 201 a0 (hs (sr σ3 200 a0 (hs σ + 1)) + 1)) + 1))) ⟨Nat.le_refl _, Nat.le_refl _⟩ (mo_L_X5_init_37  NF a0 (0 : Int32) _)) mo_none))) mo_none)))) nl_X5_16 dX5_init_16 (fun H h g => ?_)
  have h := Wd.nm e5 h
  have g := LE.nm e5 g
  refine W.cs (cells' := hs σ5 - hs σ) (slots' := ns σ5 - ns σ) (by rw [e5]; try rfl) (by rw [e5]; try rfl) ?_
  refine lv_dup hx hb dX5_init_19 (vr_cat _) ?_
  obtain ⟨r6, σ6, hc6, hF⟩ := bds hF
  refine x_callv (σ := σ5) g (LEm hc6 (mo_F_X2_init (hs (sr σ3 200 a0 (hs σ + 1)) + 1) _)) (x_runIN (As := []) (rest := [vr (hs (sr σ3 200 a0 (hs σ + 1)) + 1), vr a0]) cx h (c_X2_init l D dA base (hs (sr σ3 200 a0 (hs σ + 1)) + 1) hc6) ml_X5_18 mi_X2_init (by rw [e5]; exact kd_nw_self (sr σ3 200 a0 (hs σ + 1)) 3 3) rfl ⟨Nat.le_of_ble_eq_true rfl, Nat.le_of_ble_eq_true rfl⟩ hl.1 rfl (s8 (sR (sR sN)) (by decide)) dX5_init_20 (le_room g (LEm hc6 (mo_F_X2_init (hs (sr σ3 200 a0 (hs σ + 1)) + 1) _)) (LEm hF (mo_ite (mo_lt (LE.tr (τ := (sr σ6 201 a0 (hs (sr σ3 200 a0 (hs σ + 1)) + 1))) ⟨Nat.le_refl _, Nat.le_refl _⟩ LE.nw) (fun σ8 => (mo_ite (mo_le (τ := (sr σ8 202 a0 (hs (sr σ6 201 a0 (hs (sr σ3 200 a0 (hs σ + 1)) + 1)) + 1))) ⟨Nat.le_refl _, Nat.le_refl _⟩ (mo_L_X5_init_37  NF a0 (0 : Int32) _)) mo_none))) mo_none)))) h (fun H locs h g => ?_)
  obtain ⟨hq7, hF⟩ := ifs hF
  refine x_str cx h fa_X5_19 (f := 201) rfl (Or.inr ⟨rfl, rfl, _, _, rfl⟩) hq7 dX5_init_23 (fun H locs h => ?_)
  refine x_aload_n hx hb dX5_init_26 rfl (lv_at hl 0 rfl) ?_
  refine lv_bipush (v := (8 : Int32)) hx hb dX5_init_27 (by decide) ?_
  obtain ⟨σ8, e8, hF⟩ := lts hF
  refine x_newqG (σ := (sr σ6 201 a0 (hs (sr σ3 200 a0 (hs σ + 1)) + 1))) (j := 3) (N := 8) cx h g (by rw [← e8]; exact LEm hF (mo_ite (mo_le (τ := (sr σ8 202 a0 (hs (sr σ6 201 a0 (hs (sr σ3 200 a0 (hs σ + 1)) + 1)) + 1))) ⟨Nat.le_refl _, Nat.le_refl _⟩ (mo_L_X5_init_37  NF a0 (0 : Int32) _)) mo_none)) (by decide) (fun _ => rfl) (fun _ hU => hU.2.2.2) cl_X5_23 (by decide) (by decide) (by decide) dX5_init_29 (fun H h g => ?_)
  have h := Wd.nm e8 h
  have g := LE.nm e8 g
  refine W.cs (cells' := hs σ8 - hs σ) (slots' := ns σ8 - ns σ) (by rw [e8]; try rfl) (by rw [e8]; try rfl) ?_
  obtain ⟨hq9, hF⟩ := ifs hF
  refine x_str cx h fa_X5_25 (f := 202) rfl (Or.inr ⟨rfl, rfl, _, _, rfl⟩) hq9 dX5_init_32 (fun H locs h => ?_)
  refine lv_iconst (v := (0 : Int32)) hx hb dX5_init_35 (by decide) ?_
  refine x_istore_n (lv' := [(1, .int (0 : Int32)), (0, vr a0)]) hx hb dX5_init_36 rfl hl (by decide) (cR cN) rfl (fun ls hl => ?_)
  exact wl_X5_init_37 cx   NF a0 (0 : Int32) (sr σ8 202 a0 (hs (sr σ6 201 a0 (hs (sr σ3 200 a0 (hs σ + 1)) + 1)) + 1)) _ _ _ h g (lv_sub hl [1, 0] rfl) hF
def B_X5_isClient_15  (y0 : Int32) (σ : HS) : Option (Int32 × HS) :=
  if y0 = 0 ∨ y0 = 1 then (some (y0, σ)) else none
theorem mo_B_X5_isClient_15  (y0 : Int32) (σ : HS) : Mo σ (B_X5_isClient_15  y0 σ) := by
  unfold B_X5_isClient_15
  exact (mo_ite mo_ret mo_none)
set_option maxHeartbeats 4000000 in
set_option maxRecDepth 100000 in
theorem w_X5_isClient_15 {p : Program} {l : Launch} {e : Env} {s : State} {m : MethodId} {args : Array Value} {below : List Frame} {meth : Method} {c : Code} {D : va_G} {dA : Nat → ClassId} {base : Nat} {σ0 τ : HS} {r : Int32} (cx : CX p s m args meth c cX5_isClient 1 (some .boolean) RX5 "isClient" D dA base)  (y0 : Int32) {σ : HS} {H : Heap} {locs : List Loc} {ls : Array Slot} (h : Wd D dA base σ s H locs) (g : LE σ0 σ) (hl : lv_has ls 1 []) (hF : B_X5_isClient_15  y0 σ = some (r, τ)) : WG p l e s m args below meth c D dA base 0 0 (some (.int r)) σ0 τ σ H locs 15 ls [.int y0] := by
  obtain ⟨hx, hb, -⟩ := id cx
  unfold B_X5_isClient_15 at hF
  obtain ⟨hz1, hF⟩ := ifs hF
  obtain ⟨rfl, rfl⟩ := rts hF
  exact x_zret cx h hz1 dX5_isClient_15
def B_X5_isClient_14   (σ : HS) : Option (Int32 × HS) :=
  B_X5_isClient_15  (0 : Int32) σ
theorem mo_B_X5_isClient_14   (σ : HS) : Mo σ (B_X5_isClient_14   σ) := by
  unfold B_X5_isClient_14
  exact (mo_B_X5_isClient_15  (0 : Int32) _)
set_option maxHeartbeats 4000000 in
set_option maxRecDepth 100000 in
theorem w_X5_isClient_14 {p : Program} {l : Launch} {e : Env} {s : State} {m : MethodId} {args : Array Value} {below : List Frame} {meth : Method} {c : Code} {D : va_G} {dA : Nat → ClassId} {base : Nat} {σ0 τ : HS} {r : Int32} (cx : CX p s m args meth c cX5_isClient 1 (some .boolean) RX5 "isClient" D dA base)   {σ : HS} {H : Heap} {locs : List Loc} {ls : Array Slot} (h : Wd D dA base σ s H locs) (g : LE σ0 σ) (hl : lv_has ls 1 []) (hF : B_X5_isClient_14   σ = some (r, τ)) : WG p l e s m args below meth c D dA base 0 0 (some (.int r)) σ0 τ σ H locs 14 ls [] := by
  obtain ⟨hx, hb, -⟩ := id cx
  unfold B_X5_isClient_14 at hF
  refine lv_iconst (v := (0 : Int32)) hx hb dX5_isClient_14 (by decide) ?_
  exact w_X5_isClient_15 (σ := σ) cx   (0 : Int32) h g (lv_sub hl [] rfl) hF
def F_X5_isClient (a0 : Int32) (σ : HS) : Option (Int32 × HS) :=
  if a0 < 0 then (B_X5_isClient_14   σ) else (if (8 : Int32) ≤ a0 then (B_X5_isClient_14   σ) else (B_X5_isClient_15  (1 : Int32) σ))
theorem mo_F_X5_isClient (a0 : Int32) (σ : HS) : Mo σ (F_X5_isClient a0 σ) := by
  unfold F_X5_isClient
  exact (mo_ite (mo_B_X5_isClient_14   _) (mo_ite (mo_B_X5_isClient_14   _) (mo_B_X5_isClient_15  (1 : Int32) _)))
set_option maxHeartbeats 4000000 in
set_option maxRecDepth 100000 in
theorem c_X5_isClient (l : Launch) (D : va_G) (dA : Nat → ClassId) (base : Nat) (a0 : Int32) {σ τ : HS} {r : Int32} (hF : F_X5_isClient a0 σ = some (r, τ)) : CT l yX5_isClient cX5_isClient 1 (some .boolean) 0 0 D dA base [.int a0] (some (.int r)) σ τ := by
  refine CT.of (lv := [(0, .int a0)]) (by decide) (vI vN) (Nat.le_of_ble_eq_true rfl) rfl ?_
  intro p e s m args below meth c ls cx hl h
  have cx : CX p s m args meth c cX5_isClient 1 (some .boolean) RX5 "isClient" D dA base := cx
  have g : LE σ σ := LE.rf
  obtain ⟨hx, hb, -⟩ := id cx
  unfold F_X5_isClient at hF
  refine lv_iload_n hx hb dX5_isClient_0 rfl (lv_at hl 0 rfl) ?_
  refine lv_if_lt (tgt := 14) hx hb dX5_isClient_1 (by decide) (fun c1 => ?_) (fun c1 => ?_)
  · replace hF := ifp c1 hF
    exact w_X5_isClient_14 (σ := σ) cx    h g (lv_sub hl [] rfl) hF
  · replace hF := ifn c1 hF
    refine lv_iload_n hx hb dX5_isClient_4 rfl (lv_at hl 0 rfl) ?_
    refine lv_bipush (v := (8 : Int32)) hx hb dX5_isClient_5 (by decide) ?_
    refine lv_icmp_ge (tgt := 14) hx hb dX5_isClient_7 (by decide) (fun c2 => ?_) (fun c2 => ?_)
    · replace hF := ifp c2 hF
      exact w_X5_isClient_14 (σ := σ) cx    h g (lv_sub hl [] rfl) hF
    · replace hF := ifn c2 hF
      refine lv_iconst (v := (1 : Int32)) hx hb dX5_isClient_10 (by decide) ?_
      refine lv_goto (tgt := 15) hx hb dX5_isClient_11 (by decide) ?_
      exact w_X5_isClient_15 (σ := σ) cx   (1 : Int32) h g (lv_sub hl [] rfl) hF
def F_X5_begin (a0 : Nat) (a1 : Int32) (σ : HS) : Option (Int32 × HS) :=
  bd (F_X5_isClient a1 σ) (fun r1 σ1 => if r1 = 0 then (some ((-1 : Int32), σ1)) else (if kd σ1 a0 = 6 then (if kd σ1 (gr σ1 202 a0) = 103 ∧ inb a1 (ln σ1 (gr σ1 202 a0)) then (if kd σ1 (ar σ1 (gr σ1 202 a0) a1.toNatClampNeg) = 5 then (if (gi σ1 160 (ar σ1 (gr σ1 202 a0) a1.toNatClampNeg)) = 0 then (if kd σ1 (gr σ1 201 a0) = 3 then (bd (F_X2_give (gr σ1 201 a0) σ1) (fun r8 σ8 => if kd σ8 a0 = 6 then (if kd σ8 (ar σ1 (gr σ1 202 a0) a1.toNatClampNeg) = 5 then (bd (F_X4_open (ar σ1 (gr σ1 202 a0) a1.toNatClampNeg) r8 (gi σ8 203 a0) σ8) (fun r11 σ11 => if kd σ11 (ar σ1 (gr σ1 202 a0) a1.toNatClampNeg) = 5 then (some ((gi σ11 161 (ar σ1 (gr σ1 202 a0) a1.toNatClampNeg)), σ11)) else none)) else none) else none)) else none) else (bd (F_X4_touch (ar σ1 (gr σ1 202 a0) a1.toNatClampNeg) (gi σ1 203 a0) σ1) (fun r13 σ13 => some ((-3 : Int32), σ13)))) else none) else none) else none))
theorem mo_F_X5_begin (a0 : Nat) (a1 : Int32) (σ : HS) : Mo σ (F_X5_begin a0 a1 σ) := by
  unfold F_X5_begin
  exact (mo_bd (mo_F_X5_isClient a1 _) (fun r1 σ1 => (mo_ite mo_ret (mo_ite (mo_ite (mo_ite (mo_ite (mo_ite (mo_bd (mo_F_X2_give (gr σ1 201 a0) _) (fun r8 σ8 => (mo_ite (mo_ite (mo_bd (mo_F_X4_open (ar σ1 (gr σ1 202 a0) a1.toNatClampNeg) r8 (gi σ8 203 a0) _) (fun r11 σ11 => (mo_ite mo_ret mo_none))) mo_none) mo_none))) mo_none) (mo_bd (mo_F_X4_touch (ar σ1 (gr σ1 202 a0) a1.toNatClampNeg) (gi σ1 203 a0) _) (fun r13 σ13 => mo_ret))) mo_none) mo_none) mo_none))))
set_option maxHeartbeats 4000000 in
set_option maxRecDepth 100000 in
theorem c_X5_begin (l : Launch) (D : va_G) (dA : Nat → ClassId) (base : Nat) (a0 : Nat) (a1 : Int32) {σ τ : HS} {r : Int32} (hF : F_X5_begin a0 a1 σ = some (r, τ)) : CT l yX5_begin cX5_begin 3 (some .int) 1 22 D dA base [vr a0, .int a1] (some (.int r)) σ τ := by
  refine CT.of (lv := [(0, vr a0), (1, .int a1)]) (by decide) (vR (vI vN)) (Nat.le_of_ble_eq_true rfl) rfl ?_
  intro p e s m args below meth c ls cx hl h
  have cx : CX p s m args meth c cX5_begin 3 (some .int) RX5 "begin" D dA base := cx
  have g : LE σ σ := LE.rf
  obtain ⟨hx, hb, -⟩ := id cx
  unfold F_X5_begin at hF
  refine lv_iload_n hx hb dX5_begin_0 rfl (lv_at hl 1 rfl) ?_
  obtain ⟨r1, σ1, hc1, hF⟩ := bds hF
  refine x_calli (σ := σ) g (LEm hc1 (mo_F_X5_isClient a1 _)) (x_runS (As := [.int a1]) (rest := []) cx h (c_X5_isClient l D dA base a1 hc1) ml_X5_34 mi_X5_isClient rfl ⟨Nat.le_of_ble_eq_true rfl, Nat.le_of_ble_eq_true rfl⟩ hl.1 rfl (s8 sN (by decide)) dX5_begin_1 (le_room g (LEm hc1 (mo_F_X5_isClient a1 _)) (LEm hF (mo_ite mo_ret (mo_ite (mo_ite (mo_ite (mo_ite (mo_ite (mo_bd (mo_F_X2_give (gr σ1 201 a0) _) (fun r8 σ8 => (mo_ite (mo_ite (mo_bd (mo_F_X4_open (ar σ1 (gr σ1 202 a0) a1.toNatClampNeg) r8 (gi σ8 203 a0) _) (fun r11 σ11 => (mo_ite mo_ret mo_none))) mo_none) mo_none))) mo_none) (mo_bd (mo_F_X4_touch (ar σ1 (gr σ1 202 a0) a1.toNatClampNeg) (gi σ1 203 a0) _) (fun r13 σ13 => mo_ret))) mo_none) mo_none) mo_none))))) h (fun H locs h g => ?_)
  refine lv_if_ne (tgt := 9) hx hb dX5_begin_4 (by decide) (fun c2 => ?_) (fun c2 => ?_)
  · replace hF := ifn c2 hF
    refine x_aload_n hx hb dX5_begin_9 rfl (lv_at hl 0 rfl) ?_
    obtain ⟨hq3, hF⟩ := ifs hF
    refine x_getr cx h fa_X5_25 (f := 202) rfl hq3 dX5_begin_10 ?_
    refine lv_iload_n hx hb dX5_begin_13 rfl (lv_at hl 1 rfl) ?_
    obtain ⟨hq4, hF⟩ := ifs hF
    refine x_aald cx h RA3 hq4.1 (inb.vp hq4.2) dX5_begin_14 ?_
    refine x_astore_n (lv' := [(2, vr (ar σ1 (gr σ1 202 a0) a1.toNatClampNeg)), (0, vr a0), (1, .int a1)]) hx hb dX5_begin_15 rfl hl (by decide) (cR (cI cN)) rfl (fun ls hl => ?_)
    refine x_aload_n hx hb dX5_begin_16 rfl (lv_at hl 0 rfl) ?_
    obtain ⟨hq5, hF⟩ := ifs hF
    refine x_geti cx h fa_X5_38 (f := 160) rfl hq5 dX5_begin_17 ?_
    refine lv_if_eq (tgt := 34) hx hb dX5_begin_20 (by decide) (fun c6 => ?_) (fun c6 => ?_)
    · replace hF := ifp c6 hF
      refine x_aload_n hx hb dX5_begin_34 rfl (lv_at hl 0 rfl) ?_
      refine x_aload_n hx hb dX5_begin_35 rfl (lv_at hl 1 rfl) ?_
      refine x_getr cx h fa_X5_19 (f := 201) rfl hq3 dX5_begin_36 ?_
      obtain ⟨hq7, hF⟩ := ifs hF
      obtain ⟨r8, σ8, hc8, hF⟩ := bds hF
      refine x_calli (σ := σ1) g (LEm hc8 (mo_F_X2_give (gr σ1 201 a0) _)) (x_runV (As := []) (rest := [vr (ar σ1 (gr σ1 202 a0) a1.toNatClampNeg)]) cx h (c_X2_give l D dA base (gr σ1 201 a0) hc8) ml_X5_48 mi_X2_give hq7 rfl ⟨Nat.le_of_ble_eq_true rfl, Nat.le_of_ble_eq_true rfl⟩ hl.1 rfl (s8 (sR sN) (by decide)) dX5_begin_39 (le_room g (LEm hc8 (mo_F_X2_give (gr σ1 201 a0) _)) (LEm hF (mo_ite (mo_ite (mo_bd (mo_F_X4_open (ar σ1 (gr σ1 202 a0) a1.toNatClampNeg) r8 (gi σ8 203 a0) _) (fun r11 σ11 => (mo_ite mo_ret mo_none))) mo_none) mo_none)))) h (fun H locs h g => ?_)
      refine x_aload_n hx hb dX5_begin_42 rfl (lv_at hl 1 rfl) ?_
      obtain ⟨hq9, hF⟩ := ifs hF
      refine x_geti cx h fa_X5_41 (f := 203) rfl hq9 dX5_begin_43 ?_
      obtain ⟨hq10, hF⟩ := ifs hF
      obtain ⟨r11, σ11, hc11, hF⟩ := bds hF
      refine x_callv (σ := σ8) g (LEm hc11 (mo_F_X4_open (ar σ1 (gr σ1 202 a0) a1.toNatClampNeg) r8 (gi σ8 203 a0) _)) (x_runV (As := [.int r8, .int (gi σ8 203 a0)]) (rest := []) cx h (c_X4_open l D dA base (ar σ1 (gr σ1 202 a0) a1.toNatClampNeg) r8 (gi σ8 203 a0) hc11) ml_X5_52 mi_X4_open hq10 rfl ⟨Nat.le_of_ble_eq_true rfl, Nat.le_of_ble_eq_true rfl⟩ hl.1 rfl (s8 sN (by decide)) dX5_begin_46 (le_room g (LEm hc11 (mo_F_X4_open (ar σ1 (gr σ1 202 a0) a1.toNatClampNeg) r8 (gi σ8 203 a0) _)) (LEm hF (mo_ite mo_ret mo_none)))) h (fun H locs h g => ?_)
      refine x_aload_n hx hb dX5_begin_49 rfl (lv_at hl 0 rfl) ?_
      obtain ⟨hq12, hF⟩ := ifs hF
      refine x_geti cx h fa_X5_56 (f := 161) rfl hq12 dX5_begin_50 ?_
      obtain ⟨rfl, rfl⟩ := rts hF
      exact x_iret cx h dX5_begin_53
    · replace hF := ifn c6 hF
      refine x_aload_n hx hb dX5_begin_23 rfl (lv_at hl 0 rfl) ?_
      refine x_aload_n hx hb dX5_begin_24 rfl (lv_at hl 1 rfl) ?_
      refine x_geti cx h fa_X5_41 (f := 203) rfl hq3 dX5_begin_25 ?_
      obtain ⟨r13, σ13, hc13, hF⟩ := bds hF
      refine x_callv (σ := σ1) g (LEm hc13 (mo_F_X4_touch (ar σ1 (gr σ1 202 a0) a1.toNatClampNeg) (gi σ1 203 a0) _)) (x_runV (As := [.int (gi σ1 203 a0)]) (rest := []) cx h (c_X4_touch l D dA base (ar σ1 (gr σ1 202 a0) a1.toNatClampNeg) (gi σ1 203 a0) hc13) ml_X5_44 mi_X4_touch hq5 rfl ⟨Nat.le_of_ble_eq_true rfl, Nat.le_of_ble_eq_true rfl⟩ hl.1 rfl (s8 sN (by decide)) dX5_begin_28 (le_room g (LEm hc13 (mo_F_X4_touch (ar σ1 (gr σ1 202 a0) a1.toNatClampNeg) (gi σ1 203 a0) _)) (LEm hF mo_ret))) h (fun H locs h g => ?_)
      refine lv_bipush (v := (-3 : Int32)) hx hb dX5_begin_31 (by decide) ?_
      obtain ⟨rfl, rfl⟩ := rts hF
      exact x_iret cx h dX5_begin_33
  · replace hF := ifp c2 hF
    refine lv_iconst (v := (-1 : Int32)) hx hb dX5_begin_7 (by decide) ?_
    obtain ⟨rfl, rfl⟩ := rts hF
    exact x_iret cx h dX5_begin_8
def B_X5_isRow_15  (y0 : Int32) (σ : HS) : Option (Int32 × HS) :=
  if y0 = 0 ∨ y0 = 1 then (some (y0, σ)) else none
theorem mo_B_X5_isRow_15  (y0 : Int32) (σ : HS) : Mo σ (B_X5_isRow_15  y0 σ) := by
  unfold B_X5_isRow_15
  exact (mo_ite mo_ret mo_none)
set_option maxHeartbeats 4000000 in
set_option maxRecDepth 100000 in
theorem w_X5_isRow_15 {p : Program} {l : Launch} {e : Env} {s : State} {m : MethodId} {args : Array Value} {below : List Frame} {meth : Method} {c : Code} {D : va_G} {dA : Nat → ClassId} {base : Nat} {σ0 τ : HS} {r : Int32} (cx : CX p s m args meth c cX5_isRow 1 (some .boolean) RX5 "isRow" D dA base)  (y0 : Int32) {σ : HS} {H : Heap} {locs : List Loc} {ls : Array Slot} (h : Wd D dA base σ s H locs) (g : LE σ0 σ) (hl : lv_has ls 1 []) (hF : B_X5_isRow_15  y0 σ = some (r, τ)) : WG p l e s m args below meth c D dA base 0 0 (some (.int r)) σ0 τ σ H locs 15 ls [.int y0] := by
  obtain ⟨hx, hb, -⟩ := id cx
  unfold B_X5_isRow_15 at hF
  obtain ⟨hz1, hF⟩ := ifs hF
  obtain ⟨rfl, rfl⟩ := rts hF
  exact x_zret cx h hz1 dX5_isRow_15
def B_X5_isRow_14   (σ : HS) : Option (Int32 × HS) :=
  B_X5_isRow_15  (0 : Int32) σ
theorem mo_B_X5_isRow_14   (σ : HS) : Mo σ (B_X5_isRow_14   σ) := by
  unfold B_X5_isRow_14
  exact (mo_B_X5_isRow_15  (0 : Int32) _)
set_option maxHeartbeats 4000000 in
set_option maxRecDepth 100000 in
theorem w_X5_isRow_14 {p : Program} {l : Launch} {e : Env} {s : State} {m : MethodId} {args : Array Value} {below : List Frame} {meth : Method} {c : Code} {D : va_G} {dA : Nat → ClassId} {base : Nat} {σ0 τ : HS} {r : Int32} (cx : CX p s m args meth c cX5_isRow 1 (some .boolean) RX5 "isRow" D dA base)   {σ : HS} {H : Heap} {locs : List Loc} {ls : Array Slot} (h : Wd D dA base σ s H locs) (g : LE σ0 σ) (hl : lv_has ls 1 []) (hF : B_X5_isRow_14   σ = some (r, τ)) : WG p l e s m args below meth c D dA base 0 0 (some (.int r)) σ0 τ σ H locs 14 ls [] := by
  obtain ⟨hx, hb, -⟩ := id cx
  unfold B_X5_isRow_14 at hF
  refine lv_iconst (v := (0 : Int32)) hx hb dX5_isRow_14 (by decide) ?_
  exact w_X5_isRow_15 (σ := σ) cx   (0 : Int32) h g (lv_sub hl [] rfl) hF
def F_X5_isRow (a0 : Int32) (σ : HS) : Option (Int32 × HS) :=
  if a0 < 0 then (B_X5_isRow_14   σ) else (if (64 : Int32) ≤ a0 then (B_X5_isRow_14   σ) else (B_X5_isRow_15  (1 : Int32) σ))
theorem mo_F_X5_isRow (a0 : Int32) (σ : HS) : Mo σ (F_X5_isRow a0 σ) := by
  unfold F_X5_isRow
  exact (mo_ite (mo_B_X5_isRow_14   _) (mo_ite (mo_B_X5_isRow_14   _) (mo_B_X5_isRow_15  (1 : Int32) _)))
set_option maxHeartbeats 4000000 in
set_option maxRecDepth 100000 in
theorem c_X5_isRow (l : Launch) (D : va_G) (dA : Nat → ClassId) (base : Nat) (a0 : Int32) {σ τ : HS} {r : Int32} (hF : F_X5_isRow a0 σ = some (r, τ)) : CT l yX5_isRow cX5_isRow 1 (some .boolean) 0 0 D dA base [.int a0] (some (.int r)) σ τ := by
  refine CT.of (lv := [(0, .int a0)]) (by decide) (vI vN) (Nat.le_of_ble_eq_true rfl) rfl ?_
  intro p e s m args below meth c ls cx hl h
  have cx : CX p s m args meth c cX5_isRow 1 (some .boolean) RX5 "isRow" D dA base := cx
  have g : LE σ σ := LE.rf
  obtain ⟨hx, hb, -⟩ := id cx
  unfold F_X5_isRow at hF
  refine lv_iload_n hx hb dX5_isRow_0 rfl (lv_at hl 0 rfl) ?_
  refine lv_if_lt (tgt := 14) hx hb dX5_isRow_1 (by decide) (fun c1 => ?_) (fun c1 => ?_)
  · replace hF := ifp c1 hF
    exact w_X5_isRow_14 (σ := σ) cx    h g (lv_sub hl [] rfl) hF
  · replace hF := ifn c1 hF
    refine lv_iload_n hx hb dX5_isRow_4 rfl (lv_at hl 0 rfl) ?_
    refine lv_bipush (v := (64 : Int32)) hx hb dX5_isRow_5 (by decide) ?_
    refine lv_icmp_ge (tgt := 14) hx hb dX5_isRow_7 (by decide) (fun c2 => ?_) (fun c2 => ?_)
    · replace hF := ifp c2 hF
      exact w_X5_isRow_14 (σ := σ) cx    h g (lv_sub hl [] rfl) hF
    · replace hF := ifn c2 hF
      refine lv_iconst (v := (1 : Int32)) hx hb dX5_isRow_10 (by decide) ?_
      refine lv_goto (tgt := 15) hx hb dX5_isRow_11 (by decide) ?_
      exact w_X5_isRow_15 (σ := σ) cx   (1 : Int32) h g (lv_sub hl [] rfl) hF
def B_X5_isCell_21  (y0 : Int32) (σ : HS) : Option (Int32 × HS) :=
  if y0 = 0 ∨ y0 = 1 then (some (y0, σ)) else none
theorem mo_B_X5_isCell_21  (y0 : Int32) (σ : HS) : Mo σ (B_X5_isCell_21  y0 σ) := by
  unfold B_X5_isCell_21
  exact (mo_ite mo_ret mo_none)
set_option maxHeartbeats 4000000 in
set_option maxRecDepth 100000 in
theorem w_X5_isCell_21 {p : Program} {l : Launch} {e : Env} {s : State} {m : MethodId} {args : Array Value} {below : List Frame} {meth : Method} {c : Code} {D : va_G} {dA : Nat → ClassId} {base : Nat} {σ0 τ : HS} {r : Int32} (cx : CX p s m args meth c cX5_isCell 2 (some .boolean) RX5 "isCell" D dA base)  (y0 : Int32) {σ : HS} {H : Heap} {locs : List Loc} {ls : Array Slot} (h : Wd D dA base σ s H locs) (g : LE σ0 σ) (hl : lv_has ls 2 []) (hF : B_X5_isCell_21  y0 σ = some (r, τ)) : WG p l e s m args below meth c D dA base 1 20 (some (.int r)) σ0 τ σ H locs 21 ls [.int y0] := by
  obtain ⟨hx, hb, -⟩ := id cx
  unfold B_X5_isCell_21 at hF
  obtain ⟨hz1, hF⟩ := ifs hF
  obtain ⟨rfl, rfl⟩ := rts hF
  exact x_zret cx h hz1 dX5_isCell_21
def B_X5_isCell_20   (σ : HS) : Option (Int32 × HS) :=
  B_X5_isCell_21  (0 : Int32) σ
theorem mo_B_X5_isCell_20   (σ : HS) : Mo σ (B_X5_isCell_20   σ) := by
  unfold B_X5_isCell_20
  exact (mo_B_X5_isCell_21  (0 : Int32) _)
set_option maxHeartbeats 4000000 in
set_option maxRecDepth 100000 in
theorem w_X5_isCell_20 {p : Program} {l : Launch} {e : Env} {s : State} {m : MethodId} {args : Array Value} {below : List Frame} {meth : Method} {c : Code} {D : va_G} {dA : Nat → ClassId} {base : Nat} {σ0 τ : HS} {r : Int32} (cx : CX p s m args meth c cX5_isCell 2 (some .boolean) RX5 "isCell" D dA base)   {σ : HS} {H : Heap} {locs : List Loc} {ls : Array Slot} (h : Wd D dA base σ s H locs) (g : LE σ0 σ) (hl : lv_has ls 2 []) (hF : B_X5_isCell_20   σ = some (r, τ)) : WG p l e s m args below meth c D dA base 1 20 (some (.int r)) σ0 τ σ H locs 20 ls [] := by
  obtain ⟨hx, hb, -⟩ := id cx
  unfold B_X5_isCell_20 at hF
  refine lv_iconst (v := (0 : Int32)) hx hb dX5_isCell_20 (by decide) ?_
  exact w_X5_isCell_21 (σ := σ) cx   (0 : Int32) h g (lv_sub hl [] rfl) hF
def F_X5_isCell (a0 : Int32) (a1 : Int32) (σ : HS) : Option (Int32 × HS) :=
  bd (F_X5_isRow a0 σ) (fun r1 σ1 => if r1 = 0 then (B_X5_isCell_20   σ1) else (if a1 < 0 then (B_X5_isCell_20   σ1) else (if (4 : Int32) ≤ a1 then (B_X5_isCell_20   σ1) else (B_X5_isCell_21  (1 : Int32) σ1))))
theorem mo_F_X5_isCell (a0 : Int32) (a1 : Int32) (σ : HS) : Mo σ (F_X5_isCell a0 a1 σ) := by
  unfold F_X5_isCell
  exact (mo_bd (mo_F_X5_isRow a0 _) (fun r1 σ1 => (mo_ite (mo_B_X5_isCell_20   _) (mo_ite (mo_B_X5_isCell_20   _) (mo_ite (mo_B_X5_isCell_20   _) (mo_B_X5_isCell_21  (1 : Int32) _))))))
set_option maxHeartbeats 4000000 in
set_option maxRecDepth 100000 in
theorem c_X5_isCell (l : Launch) (D : va_G) (dA : Nat → ClassId) (base : Nat) (a0 : Int32) (a1 : Int32) {σ τ : HS} {r : Int32} (hF : F_X5_isCell a0 a1 σ = some (r, τ)) : CT l yX5_isCell cX5_isCell 2 (some .boolean) 1 20 D dA base [.int a0, .int a1] (some (.int r)) σ τ := by
  refine CT.of (lv := [(0, .int a0), (1, .int a1)]) (by decide) (vI (vI vN)) (Nat.le_of_ble_eq_true rfl) rfl ?_
  intro p e s m args below meth c ls cx hl h
  have cx : CX p s m args meth c cX5_isCell 2 (some .boolean) RX5 "isCell" D dA base := cx
  have g : LE σ σ := LE.rf
  obtain ⟨hx, hb, -⟩ := id cx
  unfold F_X5_isCell at hF
  refine lv_iload_n hx hb dX5_isCell_0 rfl (lv_at hl 0 rfl) ?_
  obtain ⟨r1, σ1, hc1, hF⟩ := bds hF
  refine x_calli (σ := σ) g (LEm hc1 (mo_F_X5_isRow a0 _)) (x_runS (As := [.int a0]) (rest := []) cx h (c_X5_isRow l D dA base a0 hc1) ml_X5_74 mi_X5_isRow rfl ⟨Nat.le_of_ble_eq_true rfl, Nat.le_of_ble_eq_true rfl⟩ hl.1 rfl (s8 sN (by decide)) dX5_isCell_1 (le_room g (LEm hc1 (mo_F_X5_isRow a0 _)) (LEm hF (mo_ite (mo_B_X5_isCell_20   _) (mo_ite (mo_B_X5_isCell_20   _) (mo_ite (mo_B_X5_isCell_20   _) (mo_B_X5_isCell_21  (1 : Int32) _))))))) h (fun H locs h g => ?_)
  refine lv_if_eq (tgt := 20) hx hb dX5_isCell_4 (by decide) (fun c2 => ?_) (fun c2 => ?_)
  · replace hF := ifp c2 hF
    exact w_X5_isCell_20 (σ := σ1) cx    h g (lv_sub hl [] rfl) hF
  · replace hF := ifn c2 hF
    refine lv_iload_n hx hb dX5_isCell_7 rfl (lv_at hl 1 rfl) ?_
    refine lv_if_lt (tgt := 20) hx hb dX5_isCell_8 (by decide) (fun c3 => ?_) (fun c3 => ?_)
    · replace hF := ifp c3 hF
      exact w_X5_isCell_20 (σ := σ1) cx    h g (lv_sub hl [] rfl) hF
    · replace hF := ifn c3 hF
      refine lv_iload_n hx hb dX5_isCell_11 rfl (lv_at hl 1 rfl) ?_
      refine lv_iconst (v := (4 : Int32)) hx hb dX5_isCell_12 (by decide) ?_
      refine lv_icmp_ge (tgt := 20) hx hb dX5_isCell_13 (by decide) (fun c4 => ?_) (fun c4 => ?_)
      · replace hF := ifp c4 hF
        exact w_X5_isCell_20 (σ := σ1) cx    h g (lv_sub hl [] rfl) hF
      · replace hF := ifn c4 hF
        refine lv_iconst (v := (1 : Int32)) hx hb dX5_isCell_16 (by decide) ?_
        refine lv_goto (tgt := 21) hx hb dX5_isCell_17 (by decide) ?_
        exact w_X5_isCell_21 (σ := σ1) cx   (1 : Int32) h g (lv_sub hl [] rfl) hF
def F_X5_cellIndex (a0 : Int32) (a1 : Int32) (σ : HS) : Option (Int32 × HS) :=
  some ((((4 : Int32) * a0) + a1), σ)
theorem mo_F_X5_cellIndex (a0 : Int32) (a1 : Int32) (σ : HS) : Mo σ (F_X5_cellIndex a0 a1 σ) := by
  unfold F_X5_cellIndex
  exact mo_ret
set_option maxHeartbeats 4000000 in
set_option maxRecDepth 100000 in
theorem c_X5_cellIndex (l : Launch) (D : va_G) (dA : Nat → ClassId) (base : Nat) (a0 : Int32) (a1 : Int32) {σ τ : HS} {r : Int32} (hF : F_X5_cellIndex a0 a1 σ = some (r, τ)) : CT l yX5_cellIndex cX5_cellIndex 2 (some .int) 0 0 D dA base [.int a0, .int a1] (some (.int r)) σ τ := by
  refine CT.of (lv := [(0, .int a0), (1, .int a1)]) (by decide) (vI (vI vN)) (Nat.le_of_ble_eq_true rfl) rfl ?_
  intro p e s m args below meth c ls cx hl h
  have cx : CX p s m args meth c cX5_cellIndex 2 (some .int) RX5 "cellIndex" D dA base := cx
  have g : LE σ σ := LE.rf
  obtain ⟨hx, hb, -⟩ := id cx
  unfold F_X5_cellIndex at hF
  refine lv_iconst (v := (4 : Int32)) hx hb dX5_cellIndex_0 (by decide) ?_
  refine lv_iload_n hx hb dX5_cellIndex_1 rfl (lv_at hl 0 rfl) ?_
  refine lv_imul hx hb dX5_cellIndex_2 ?_
  refine lv_iload_n hx hb dX5_cellIndex_3 rfl (lv_at hl 1 rfl) ?_
  refine lv_iadd hx hb dX5_cellIndex_4 ?_
  obtain ⟨rfl, rfl⟩ := rts hF
  exact x_iret cx h dX5_cellIndex_5
def B_X5_isLate_82  (y0 : Int32) (σ : HS) : Option (Int32 × HS) :=
  if y0 = 0 ∨ y0 = 1 then (some (y0, σ)) else none
theorem mo_B_X5_isLate_82  (y0 : Int32) (σ : HS) : Mo σ (B_X5_isLate_82  y0 σ) := by
  unfold B_X5_isLate_82
  exact (mo_ite mo_ret mo_none)
set_option maxHeartbeats 4000000 in
set_option maxRecDepth 100000 in
theorem w_X5_isLate_82 {p : Program} {l : Launch} {e : Env} {s : State} {m : MethodId} {args : Array Value} {below : List Frame} {meth : Method} {c : Code} {D : va_G} {dA : Nat → ClassId} {base : Nat} {σ0 τ : HS} {r : Int32} (cx : CX p s m args meth c cX5_isLate 4 (some .boolean) RX5 "isLate" D dA base)  (y0 : Int32) {σ : HS} {H : Heap} {locs : List Loc} {ls : Array Slot} (h : Wd D dA base σ s H locs) (g : LE σ0 σ) (hl : lv_has ls 4 []) (hF : B_X5_isLate_82  y0 σ = some (r, τ)) : WG p l e s m args below meth c D dA base 0 0 (some (.int r)) σ0 τ σ H locs 82 ls [.int y0] := by
  obtain ⟨hx, hb, -⟩ := id cx
  unfold B_X5_isLate_82 at hF
  obtain ⟨hz1, hF⟩ := ifs hF
  obtain ⟨rfl, rfl⟩ := rts hF
  exact x_zret cx h hz1 dX5_isLate_82
def B_X5_isLate_55 (k2 : Nat → Nat → Int32 → HS → Option (Int32 × HS)) (x0 : Nat) (x1 : Nat) (x2 : Int32) (σ : HS) : Option (Int32 × HS) :=
  k2 x0 x1 (x2 + (1 : Int32)) σ
theorem mo_B_X5_isLate_55 {k2 : Nat → Nat → Int32 → HS → Option (Int32 × HS)} (mk2 : ∀ x0 x1 x2 σ, Mo σ (k2 x0 x1 x2 σ)) (x0 : Nat) (x1 : Nat) (x2 : Int32) (σ : HS) : Mo σ (B_X5_isLate_55 k2 x0 x1 x2 σ) := by
  unfold B_X5_isLate_55
  exact (mk2 x0 x1 (x2 + (1 : Int32)) _)
set_option maxHeartbeats 4000000 in
set_option maxRecDepth 100000 in
theorem w_X5_isLate_55 {p : Program} {l : Launch} {e : Env} {s : State} {m : MethodId} {args : Array Value} {below : List Frame} {meth : Method} {c : Code} {D : va_G} {dA : Nat → ClassId} {base : Nat} {σ0 τ : HS} {r : Int32} (cx : CX p s m args meth c cX5_isLate 4 (some .boolean) RX5 "isLate" D dA base) {k2 : Nat → Nat → Int32 → HS → Option (Int32 × HS)} (mk2 : ∀ x0 x1 x2 σ, Mo σ (k2 x0 x1 x2 σ)) (hk2 : ∀ x0 x1 x2 σ H locs ls, Wd D dA base σ s H locs → LE σ0 σ → lv_has ls 4 [(0, vr x0), (1, vr x1), (2, .int x2)] → k2 x0 x1 x2 σ = some (r, τ) → WG p l e s m args below meth c D dA base 0 0 (some (.int r)) σ0 τ σ H locs 2 ls []) (x0 : Nat) (x1 : Nat) (x2 : Int32) {σ : HS} {H : Heap} {locs : List Loc} {ls : Array Slot} (h : Wd D dA base σ s H locs) (g : LE σ0 σ) (hl : lv_has ls 4 [(0, vr x0), (1, vr x1), (2, .int x2)]) (hF : B_X5_isLate_55 k2 x0 x1 x2 σ = some (r, τ)) : WG p l e s m args below meth c D dA base 0 0 (some (.int r)) σ0 τ σ H locs 55 ls [] := by
  obtain ⟨hx, hb, -⟩ := id cx
  unfold B_X5_isLate_55 at hF
  refine x_iinc (k := 2) (v := (1 : Int32)) (lv' := [(2, .int (x2 + (1 : Int32))), (0, vr x0), (1, vr x1)]) hx hb dX5_isLate_55 hl rfl (by decide) (by decide) (cR (cR (cI cN))) rfl (fun ls hl => ?_)
  refine lv_goto (tgt := 2) hx hb dX5_isLate_58 (by decide) ?_
  exact hk2 x0 x1 (x2 + (1 : Int32)) σ _ _ _ h g (lv_sub hl [1, 2, 0] rfl) hF
def B_X5_isLate_54  (y0 : Int32) (σ : HS) : Option (Int32 × HS) :=
  if y0 = 0 ∨ y0 = 1 then (some (y0, σ)) else none
theorem mo_B_X5_isLate_54  (y0 : Int32) (σ : HS) : Mo σ (B_X5_isLate_54  y0 σ) := by
  unfold B_X5_isLate_54
  exact (mo_ite mo_ret mo_none)
set_option maxHeartbeats 4000000 in
set_option maxRecDepth 100000 in
theorem w_X5_isLate_54 {p : Program} {l : Launch} {e : Env} {s : State} {m : MethodId} {args : Array Value} {below : List Frame} {meth : Method} {c : Code} {D : va_G} {dA : Nat → ClassId} {base : Nat} {σ0 τ : HS} {r : Int32} (cx : CX p s m args meth c cX5_isLate 4 (some .boolean) RX5 "isLate" D dA base)  (y0 : Int32) {σ : HS} {H : Heap} {locs : List Loc} {ls : Array Slot} (h : Wd D dA base σ s H locs) (g : LE σ0 σ) (hl : lv_has ls 4 []) (hF : B_X5_isLate_54  y0 σ = some (r, τ)) : WG p l e s m args below meth c D dA base 0 0 (some (.int r)) σ0 τ σ H locs 54 ls [.int y0] := by
  obtain ⟨hx, hb, -⟩ := id cx
  unfold B_X5_isLate_54 at hF
  obtain ⟨hz1, hF⟩ := ifs hF
  obtain ⟨rfl, rfl⟩ := rts hF
  exact x_zret cx h hz1 dX5_isLate_54
def B_X5_isLate_2 (k2 : Nat → Nat → Int32 → HS → Option (Int32 × HS)) (x0 : Nat) (x1 : Nat) (x2 : Int32) (σ : HS) : Option (Int32 × HS) :=
  if (8 : Int32) ≤ x2 then (if kd σ x0 = 6 then (if kd σ x1 = 1 then (if ((gi σ 203 x0) - (gi σ 4 x1)) ≤ (gi σ 204 x0) then (B_X5_isLate_82  (0 : Int32) σ) else (B_X5_isLate_82  (1 : Int32) σ)) else none) else none) else (if kd σ x0 = 6 then (if kd σ (gr σ 202 x0) = 103 ∧ inb x2 (ln σ (gr σ 202 x0)) then (if kd σ (ar σ (gr σ 202 x0) x2.toNatClampNeg) = 5 then (if (gi σ 160 (ar σ (gr σ 202 x0) x2.toNatClampNeg)) = 0 then (B_X5_isLate_55 k2 x0 x1 x2 σ) else (if kd σ x1 = 1 then (if (gi σ 161 (ar σ (gr σ 202 x0) x2.toNatClampNeg)) = (gi σ 2 x1) then (if ((gi σ 203 x0) - (gi σ 162 (ar σ (gr σ 202 x0) x2.toNatClampNeg))) ≤ (gi σ 204 x0) then (B_X5_isLate_54  (0 : Int32) σ) else (B_X5_isLate_54  (1 : Int32) σ)) else (B_X5_isLate_55 k2 x0 x1 x2 σ)) else none)) else none) else none) else none)
theorem mo_B_X5_isLate_2 {k2 : Nat → Nat → Int32 → HS → Option (Int32 × HS)} (mk2 : ∀ x0 x1 x2 σ, Mo σ (k2 x0 x1 x2 σ)) (x0 : Nat) (x1 : Nat) (x2 : Int32) (σ : HS) : Mo σ (B_X5_isLate_2 k2 x0 x1 x2 σ) := by
  unfold B_X5_isLate_2
  exact (mo_ite (mo_ite (mo_ite (mo_ite (mo_B_X5_isLate_82  (0 : Int32) _) (mo_B_X5_isLate_82  (1 : Int32) _)) mo_none) mo_none) (mo_ite (mo_ite (mo_ite (mo_ite (mo_B_X5_isLate_55 mk2 x0 x1 x2 _) (mo_ite (mo_ite (mo_ite (mo_B_X5_isLate_54  (0 : Int32) _) (mo_B_X5_isLate_54  (1 : Int32) _)) (mo_B_X5_isLate_55 mk2 x0 x1 x2 _)) mo_none)) mo_none) mo_none) mo_none))
set_option maxHeartbeats 4000000 in
set_option maxRecDepth 100000 in
theorem w_X5_isLate_2 {p : Program} {l : Launch} {e : Env} {s : State} {m : MethodId} {args : Array Value} {below : List Frame} {meth : Method} {c : Code} {D : va_G} {dA : Nat → ClassId} {base : Nat} {σ0 τ : HS} {r : Int32} (cx : CX p s m args meth c cX5_isLate 4 (some .boolean) RX5 "isLate" D dA base) {k2 : Nat → Nat → Int32 → HS → Option (Int32 × HS)} (mk2 : ∀ x0 x1 x2 σ, Mo σ (k2 x0 x1 x2 σ)) (hk2 : ∀ x0 x1 x2 σ H locs ls, Wd D dA base σ s H locs → LE σ0 σ → lv_has ls 4 [(0, vr x0), (1, vr x1), (2, .int x2)] → k2 x0 x1 x2 σ = some (r, τ) → WG p l e s m args below meth c D dA base 0 0 (some (.int r)) σ0 τ σ H locs 2 ls []) (x0 : Nat) (x1 : Nat) (x2 : Int32) {σ : HS} {H : Heap} {locs : List Loc} {ls : Array Slot} (h : Wd D dA base σ s H locs) (g : LE σ0 σ) (hl : lv_has ls 4 [(0, vr x0), (1, vr x1), (2, .int x2)]) (hF : B_X5_isLate_2 k2 x0 x1 x2 σ = some (r, τ)) : WG p l e s m args below meth c D dA base 0 0 (some (.int r)) σ0 τ σ H locs 2 ls [] := by
  obtain ⟨hx, hb, -⟩ := id cx
  unfold B_X5_isLate_2 at hF
  refine lv_iload_n hx hb dX5_isLate_2 rfl (lv_at hl 2 rfl) ?_
  refine lv_bipush (v := (8 : Int32)) hx hb dX5_isLate_3 (by decide) ?_
  refine lv_icmp_ge (tgt := 61) hx hb dX5_isLate_5 (by decide) (fun c1 => ?_) (fun c1 => ?_)
  · replace hF := ifp c1 hF
    refine x_aload_n hx hb dX5_isLate_61 rfl (lv_at hl 0 rfl) ?_
    obtain ⟨hq2, hF⟩ := ifs hF
    refine x_geti cx h fa_X5_41 (f := 203) rfl hq2 dX5_isLate_62 ?_
    refine x_aload_n hx hb dX5_isLate_65 rfl (lv_at hl 1 rfl) ?_
    obtain ⟨hq3, hF⟩ := ifs hF
    refine x_geti cx h fa_X5_137 (f := 4) rfl hq3 dX5_isLate_66 ?_
    refine lv_isub hx hb dX5_isLate_69 ?_
    refine x_aload_n hx hb dX5_isLate_70 rfl (lv_at hl 0 rfl) ?_
    refine x_geti cx h fa_X5_30 (f := 204) rfl hq2 dX5_isLate_71 ?_
    refine lv_icmp_le (tgt := 81) hx hb dX5_isLate_74 (by decide) (fun c4 => ?_) (fun c4 => ?_)
    · replace hF := ifp c4 hF
      refine lv_iconst (v := (0 : Int32)) hx hb dX5_isLate_81 (by decide) ?_
      exact w_X5_isLate_82 (σ := σ) cx   (0 : Int32) h g (lv_sub hl [] rfl) hF
    · replace hF := ifn c4 hF
      refine lv_iconst (v := (1 : Int32)) hx hb dX5_isLate_77 (by decide) ?_
      refine lv_goto (tgt := 82) hx hb dX5_isLate_78 (by decide) ?_
      exact w_X5_isLate_82 (σ := σ) cx   (1 : Int32) h g (lv_sub hl [] rfl) hF
  · replace hF := ifn c1 hF
    refine x_aload_n hx hb dX5_isLate_8 rfl (lv_at hl 0 rfl) ?_
    obtain ⟨hq5, hF⟩ := ifs hF
    refine x_getr cx h fa_X5_25 (f := 202) rfl hq5 dX5_isLate_9 ?_
    refine lv_iload_n hx hb dX5_isLate_12 rfl (lv_at hl 2 rfl) ?_
    obtain ⟨hq6, hF⟩ := ifs hF
    refine x_aald cx h RA3 hq6.1 (inb.vp hq6.2) dX5_isLate_13 ?_
    refine x_astore_n (lv' := [(3, vr (ar σ (gr σ 202 x0) x2.toNatClampNeg)), (0, vr x0), (1, vr x1), (2, .int x2)]) hx hb dX5_isLate_14 rfl hl (by decide) (cR (cR (cI cN))) rfl (fun ls hl => ?_)
    refine x_aload_n hx hb dX5_isLate_15 rfl (lv_at hl 0 rfl) ?_
    obtain ⟨hq7, hF⟩ := ifs hF
    refine x_geti cx h fa_X5_38 (f := 160) rfl hq7 dX5_isLate_16 ?_
    refine lv_if_eq (tgt := 55) hx hb dX5_isLate_19 (by decide) (fun c8 => ?_) (fun c8 => ?_)
    · replace hF := ifp c8 hF
      exact w_X5_isLate_55 (σ := σ) cx mk2 hk2 x0 x1 x2 h g (lv_sub hl [1, 2, 3] rfl) hF
    · replace hF := ifn c8 hF
      refine x_aload_n hx hb dX5_isLate_22 rfl (lv_at hl 0 rfl) ?_
      refine x_geti cx h fa_X5_56 (f := 161) rfl hq7 dX5_isLate_23 ?_
      refine x_aload_n hx hb dX5_isLate_26 rfl (lv_at hl 2 rfl) ?_
      obtain ⟨hq9, hF⟩ := ifs hF
      refine x_geti cx h fa_X5_129 (f := 2) rfl hq9 dX5_isLate_27 ?_
      refine lv_icmp_ne (tgt := 55) hx hb dX5_isLate_30 (by decide) (fun c10 => ?_) (fun c10 => ?_)
      · replace hF := ifn c10 hF
        exact w_X5_isLate_55 (σ := σ) cx mk2 hk2 x0 x1 x2 h g (lv_sub hl [1, 2, 3] rfl) hF
      · replace hF := ifp c10 hF
        refine x_aload_n hx hb dX5_isLate_33 rfl (lv_at hl 1 rfl) ?_
        refine x_geti cx h fa_X5_41 (f := 203) rfl hq5 dX5_isLate_34 ?_
        refine x_aload_n hx hb dX5_isLate_37 rfl (lv_at hl 0 rfl) ?_
        refine x_geti cx h fa_X5_116 (f := 162) rfl hq7 dX5_isLate_38 ?_
        refine lv_isub hx hb dX5_isLate_41 ?_
        refine x_aload_n hx hb dX5_isLate_42 rfl (lv_at hl 1 rfl) ?_
        refine x_geti cx h fa_X5_30 (f := 204) rfl hq5 dX5_isLate_43 ?_
        refine lv_icmp_le (tgt := 53) hx hb dX5_isLate_46 (by decide) (fun c11 => ?_) (fun c11 => ?_)
        · replace hF := ifp c11 hF
          refine lv_iconst (v := (0 : Int32)) hx hb dX5_isLate_53 (by decide) ?_
          exact w_X5_isLate_54 (σ := σ) cx   (0 : Int32) h g (lv_sub hl [] rfl) hF
        · replace hF := ifn c11 hF
          refine lv_iconst (v := (1 : Int32)) hx hb dX5_isLate_49 (by decide) ?_
          refine lv_goto (tgt := 54) hx hb dX5_isLate_50 (by decide) ?_
          exact w_X5_isLate_54 (σ := σ) cx   (1 : Int32) h g (lv_sub hl [] rfl) hF
def L_X5_isLate_2  : Nat → Nat → Nat → Int32 → HS → Option (Int32 × HS)
  | 0, _, _, _, _ => none
  | N + 1, x0, x1, x2, σ => B_X5_isLate_2 (L_X5_isLate_2  N) x0 x1 x2 σ
theorem mo_L_X5_isLate_2  : ∀ (N : Nat) (x0 : Nat) (x1 : Nat) (x2 : Int32) (σ : HS), Mo σ (L_X5_isLate_2  N x0 x1 x2 σ) := by
  intro N
  induction N with
  | zero => intro x0 x1 x2 σ; exact mo_none
  | succ N ih => intro x0 x1 x2 σ; exact mo_B_X5_isLate_2 ih x0 x1 x2 σ
theorem wl_X5_isLate_2 {p : Program} {l : Launch} {e : Env} {s : State} {m : MethodId} {args : Array Value} {below : List Frame} {meth : Method} {c : Code} {D : va_G} {dA : Nat → ClassId} {base : Nat} {σ0 τ : HS} {r : Int32} (cx : CX p s m args meth c cX5_isLate 4 (some .boolean) RX5 "isLate" D dA base)  : ∀ (N : Nat) (x0 : Nat) (x1 : Nat) (x2 : Int32) (σ : HS) (H : Heap) (locs : List Loc) (ls : Array Slot), Wd D dA base σ s H locs → LE σ0 σ → lv_has ls 4 [(0, vr x0), (1, vr x1), (2, .int x2)] → L_X5_isLate_2  N x0 x1 x2 σ = some (r, τ) → WG p l e s m args below meth c D dA base 0 0 (some (.int r)) σ0 τ σ H locs 2 ls [] := by
  intro N
  induction N with
  | zero => intro x0 x1 x2 σ H locs ls h g hl hF; cases hF
  | succ N ih => intro x0 x1 x2 σ H locs ls h g hl hF; exact w_X5_isLate_2 cx (mo_L_X5_isLate_2  N) ih x0 x1 x2 h g hl hF
def F_X5_isLate (a0 : Nat) (a1 : Nat) (σ : HS) : Option (Int32 × HS) :=
  L_X5_isLate_2  NF a0 a1 (0 : Int32) σ
theorem mo_F_X5_isLate (a0 : Nat) (a1 : Nat) (σ : HS) : Mo σ (F_X5_isLate a0 a1 σ) := by
  unfold F_X5_isLate
  exact (mo_L_X5_isLate_2  NF a0 a1 (0 : Int32) _)
set_option maxHeartbeats 4000000 in
set_option maxRecDepth 100000 in
theorem c_X5_isLate (l : Launch) (D : va_G) (dA : Nat → ClassId) (base : Nat) (a0 : Nat) (a1 : Nat) {σ τ : HS} {r : Int32} (hF : F_X5_isLate a0 a1 σ = some (r, τ)) : CT l yX5_isLate cX5_isLate 4 (some .boolean) 0 0 D dA base [vr a0, vr a1] (some (.int r)) σ τ := by
  refine CT.of (lv := [(0, vr a0), (1, vr a1)]) (by decide) (vR (vR vN)) (Nat.le_of_ble_eq_true rfl) rfl ?_
  intro p e s m args below meth c ls cx hl h
  have cx : CX p s m args meth c cX5_isLate 4 (some .boolean) RX5 "isLate" D dA base := cx
  have g : LE σ σ := LE.rf
  obtain ⟨hx, hb, -⟩ := id cx
  unfold F_X5_isLate at hF
  refine lv_iconst (v := (0 : Int32)) hx hb dX5_isLate_0 (by decide) ?_
  refine x_istore_n (lv' := [(2, .int (0 : Int32)), (0, vr a0), (1, vr a1)]) hx hb dX5_isLate_1 rfl hl (by decide) (cR (cR cN)) rfl (fun ls hl => ?_)
  exact wl_X5_isLate_2 cx   NF a0 a1 (0 : Int32) σ _ _ _ h g (lv_sub hl [1, 2, 0] rfl) hF
def B_X5_isForCleaning_24  (y0 : Int32) (σ : HS) : Option (Int32 × HS) :=
  if y0 = 0 ∨ y0 = 1 then (some (y0, σ)) else none
theorem mo_B_X5_isForCleaning_24  (y0 : Int32) (σ : HS) : Mo σ (B_X5_isForCleaning_24  y0 σ) := by
  unfold B_X5_isForCleaning_24
  exact (mo_ite mo_ret mo_none)
set_option maxHeartbeats 4000000 in
set_option maxRecDepth 100000 in
theorem w_X5_isForCleaning_24 {p : Program} {l : Launch} {e : Env} {s : State} {m : MethodId} {args : Array Value} {below : List Frame} {meth : Method} {c : Code} {D : va_G} {dA : Nat → ClassId} {base : Nat} {σ0 τ : HS} {r : Int32} (cx : CX p s m args meth c cX5_isForCleaning 2 (some .boolean) RX5 "isForCleaning" D dA base)  (y0 : Int32) {σ : HS} {H : Heap} {locs : List Loc} {ls : Array Slot} (h : Wd D dA base σ s H locs) (g : LE σ0 σ) (hl : lv_has ls 2 []) (hF : B_X5_isForCleaning_24  y0 σ = some (r, τ)) : WG p l e s m args below meth c D dA base 1 23 (some (.int r)) σ0 τ σ H locs 24 ls [.int y0] := by
  obtain ⟨hx, hb, -⟩ := id cx
  unfold B_X5_isForCleaning_24 at hF
  obtain ⟨hz1, hF⟩ := ifs hF
  obtain ⟨rfl, rfl⟩ := rts hF
  exact x_zret cx h hz1 dX5_isForCleaning_24
def B_X5_isForCleaning_19   (σ : HS) : Option (Int32 × HS) :=
  B_X5_isForCleaning_24  (1 : Int32) σ
theorem mo_B_X5_isForCleaning_19   (σ : HS) : Mo σ (B_X5_isForCleaning_19   σ) := by
  unfold B_X5_isForCleaning_19
  exact (mo_B_X5_isForCleaning_24  (1 : Int32) _)
set_option maxHeartbeats 4000000 in
set_option maxRecDepth 100000 in
theorem w_X5_isForCleaning_19 {p : Program} {l : Launch} {e : Env} {s : State} {m : MethodId} {args : Array Value} {below : List Frame} {meth : Method} {c : Code} {D : va_G} {dA : Nat → ClassId} {base : Nat} {σ0 τ : HS} {r : Int32} (cx : CX p s m args meth c cX5_isForCleaning 2 (some .boolean) RX5 "isForCleaning" D dA base)   {σ : HS} {H : Heap} {locs : List Loc} {ls : Array Slot} (h : Wd D dA base σ s H locs) (g : LE σ0 σ) (hl : lv_has ls 2 []) (hF : B_X5_isForCleaning_19   σ = some (r, τ)) : WG p l e s m args below meth c D dA base 1 23 (some (.int r)) σ0 τ σ H locs 19 ls [] := by
  obtain ⟨hx, hb, -⟩ := id cx
  unfold B_X5_isForCleaning_19 at hF
  refine lv_iconst (v := (1 : Int32)) hx hb dX5_isForCleaning_19 (by decide) ?_
  refine lv_goto (tgt := 24) hx hb dX5_isForCleaning_20 (by decide) ?_
  exact w_X5_isForCleaning_24 (σ := σ) cx   (1 : Int32) h g (lv_sub hl [] rfl) hF
def F_X5_isForCleaning (a0 : Nat) (a1 : Nat) (σ : HS) : Option (Int32 × HS) :=
  if kd σ a0 = 6 then (if kd σ (gr σ 200 a0) = 4 then (bd (F_X3_isDecided (gr σ 200 a0) a1 σ) (fun r3 σ3 => if r3 = 0 then (if kd σ3 a0 = 6 then (bd (F_X5_isLate a0 a1 σ3) (fun r6 σ6 => if r6 = 0 then (B_X5_isForCleaning_24  (0 : Int32) σ6) else (B_X5_isForCleaning_19   σ6))) else none) else (B_X5_isForCleaning_19   σ3))) else none) else none
theorem mo_F_X5_isForCleaning (a0 : Nat) (a1 : Nat) (σ : HS) : Mo σ (F_X5_isForCleaning a0 a1 σ) := by
  unfold F_X5_isForCleaning
  exact (mo_ite (mo_ite (mo_bd (mo_F_X3_isDecided (gr σ 200 a0) a1 _) (fun r3 σ3 => (mo_ite (mo_ite (mo_bd (mo_F_X5_isLate a0 a1 _) (fun r6 σ6 => (mo_ite (mo_B_X5_isForCleaning_24  (0 : Int32) _) (mo_B_X5_isForCleaning_19   _)))) mo_none) (mo_B_X5_isForCleaning_19   _)))) mo_none) mo_none)
set_option maxHeartbeats 4000000 in
set_option maxRecDepth 100000 in
theorem c_X5_isForCleaning (l : Launch) (D : va_G) (dA : Nat → ClassId) (base : Nat) (a0 : Nat) (a1 : Nat) {σ τ : HS} {r : Int32} (hF : F_X5_isForCleaning a0 a1 σ = some (r, τ)) : CT l yX5_isForCleaning cX5_isForCleaning 2 (some .boolean) 1 23 D dA base [vr a0, vr a1] (some (.int r)) σ τ := by
  refine CT.of (lv := [(0, vr a0), (1, vr a1)]) (by decide) (vR (vR vN)) (Nat.le_of_ble_eq_true rfl) rfl ?_
  intro p e s m args below meth c ls cx hl h
  have cx : CX p s m args meth c cX5_isForCleaning 2 (some .boolean) RX5 "isForCleaning" D dA base := cx
  have g : LE σ σ := LE.rf
  obtain ⟨hx, hb, -⟩ := id cx
  unfold F_X5_isForCleaning at hF
  refine x_aload_n hx hb dX5_isForCleaning_0 rfl (lv_at hl 0 rfl) ?_
  obtain ⟨hq1, hF⟩ := ifs hF
  refine x_getr cx h fa_X5_10 (f := 200) rfl hq1 dX5_isForCleaning_1 ?_
  refine x_aload_n hx hb dX5_isForCleaning_4 rfl (lv_at hl 1 rfl) ?_
  obtain ⟨hq2, hF⟩ := ifs hF
  obtain ⟨r3, σ3, hc3, hF⟩ := bds hF
  refine x_calli (σ := σ) g (LEm hc3 (mo_F_X3_isDecided (gr σ 200 a0) a1 _)) (x_runV (As := [vr a1]) (rest := []) cx h (c_X3_isDecided l D dA base (gr σ 200 a0) a1 hc3) ml_X5_148 mi_X3_isDecided hq2 rfl ⟨Nat.le_of_ble_eq_true rfl, Nat.le_of_ble_eq_true rfl⟩ hl.1 rfl (s8 sN (by decide)) dX5_isForCleaning_5 (le_room g (LEm hc3 (mo_F_X3_isDecided (gr σ 200 a0) a1 _)) (LEm hF (mo_ite (mo_ite (mo_bd (mo_F_X5_isLate a0 a1 _) (fun r6 σ6 => (mo_ite (mo_B_X5_isForCleaning_24  (0 : Int32) _) (mo_B_X5_isForCleaning_19   _)))) mo_none) (mo_B_X5_isForCleaning_19   _))))) h (fun H locs h g => ?_)
  refine lv_if_ne (tgt := 19) hx hb dX5_isForCleaning_8 (by decide) (fun c4 => ?_) (fun c4 => ?_)
  · replace hF := ifn c4 hF
    exact w_X5_isForCleaning_19 (σ := σ3) cx    h g (lv_sub hl [] rfl) hF
  · replace hF := ifp c4 hF
    refine x_aload_n hx hb dX5_isForCleaning_11 rfl (lv_at hl 0 rfl) ?_
    refine x_aload_n hx hb dX5_isForCleaning_12 rfl (lv_at hl 1 rfl) ?_
    obtain ⟨hq5, hF⟩ := ifs hF
    obtain ⟨r6, σ6, hc6, hF⟩ := bds hF
    refine x_calli (σ := σ3) g (LEm hc6 (mo_F_X5_isLate a0 a1 _)) (x_runV (As := [vr a1]) (rest := []) cx h (c_X5_isLate l D dA base a0 a1 hc6) ml_X5_144 mi_X5_isLate hq5 rfl ⟨Nat.le_of_ble_eq_true rfl, Nat.le_of_ble_eq_true rfl⟩ hl.1 rfl (s8 sN (by decide)) dX5_isForCleaning_13 (le_room g (LEm hc6 (mo_F_X5_isLate a0 a1 _)) (LEm hF (mo_ite (mo_B_X5_isForCleaning_24  (0 : Int32) _) (mo_B_X5_isForCleaning_19   _))))) h (fun H locs h g => ?_)
    refine lv_if_eq (tgt := 23) hx hb dX5_isForCleaning_16 (by decide) (fun c7 => ?_) (fun c7 => ?_)
    · replace hF := ifp c7 hF
      refine lv_iconst (v := (0 : Int32)) hx hb dX5_isForCleaning_23 (by decide) ?_
      exact w_X5_isForCleaning_24 (σ := σ6) cx   (0 : Int32) h g (lv_sub hl [] rfl) hF
    · replace hF := ifn c7 hF
      exact w_X5_isForCleaning_19 (σ := σ6) cx    h g (lv_sub hl [] rfl) hF
def B_X5_look_31  (y0 : Int32) (σ : HS) : Option (Int32 × HS) :=
  some (y0, σ)
theorem mo_B_X5_look_31  (y0 : Int32) (σ : HS) : Mo σ (B_X5_look_31  y0 σ) := by
  unfold B_X5_look_31
  exact mo_ret
set_option maxHeartbeats 4000000 in
set_option maxRecDepth 100000 in
theorem w_X5_look_31 {p : Program} {l : Launch} {e : Env} {s : State} {m : MethodId} {args : Array Value} {below : List Frame} {meth : Method} {c : Code} {D : va_G} {dA : Nat → ClassId} {base : Nat} {σ0 τ : HS} {r : Int32} (cx : CX p s m args meth c cX5_look 6 (some .int) RX5 "look" D dA base)  (y0 : Int32) {σ : HS} {H : Heap} {locs : List Loc} {ls : Array Slot} (h : Wd D dA base σ s H locs) (g : LE σ0 σ) (hl : lv_has ls 6 []) (hF : B_X5_look_31  y0 σ = some (r, τ)) : WG p l e s m args below meth c D dA base 5 112 (some (.int r)) σ0 τ σ H locs 31 ls [.int y0] := by
  obtain ⟨hx, hb, -⟩ := id cx
  unfold B_X5_look_31 at hF
  obtain ⟨rfl, rfl⟩ := rts hF
  exact x_iret cx h dX5_look_31
def B_X5_look_111  (y0 : Int32) (σ : HS) : Option (Int32 × HS) :=
  some (y0, σ)
theorem mo_B_X5_look_111  (y0 : Int32) (σ : HS) : Mo σ (B_X5_look_111  y0 σ) := by
  unfold B_X5_look_111
  exact mo_ret
set_option maxHeartbeats 4000000 in
set_option maxRecDepth 100000 in
theorem w_X5_look_111 {p : Program} {l : Launch} {e : Env} {s : State} {m : MethodId} {args : Array Value} {below : List Frame} {meth : Method} {c : Code} {D : va_G} {dA : Nat → ClassId} {base : Nat} {σ0 τ : HS} {r : Int32} (cx : CX p s m args meth c cX5_look 6 (some .int) RX5 "look" D dA base)  (y0 : Int32) {σ : HS} {H : Heap} {locs : List Loc} {ls : Array Slot} (h : Wd D dA base σ s H locs) (g : LE σ0 σ) (hl : lv_has ls 6 []) (hF : B_X5_look_111  y0 σ = some (r, τ)) : WG p l e s m args below meth c D dA base 5 112 (some (.int r)) σ0 τ σ H locs 111 ls [.int y0] := by
  obtain ⟨hx, hb, -⟩ := id cx
  unfold B_X5_look_111 at hF
  obtain ⟨rfl, rfl⟩ := rts hF
  exact x_iret cx h dX5_look_111
def B_X5_look_87  (x1 : Nat) (x4 : Nat) (σ : HS) : Option (Int32 × HS) :=
  if kd σ x1 = 5 then (if kd σ x4 = 1 then (bd (F_X0_valueAt x4 (gi σ 161 x1) σ) (fun r3 σ3 => if r3 = (-1 : Int32) then (B_X5_look_111  (-7 : Int32) σ3) else (B_X5_look_111  r3 σ3))) else none) else none
theorem mo_B_X5_look_87  (x1 : Nat) (x4 : Nat) (σ : HS) : Mo σ (B_X5_look_87  x1 x4 σ) := by
  unfold B_X5_look_87
  exact (mo_ite (mo_ite (mo_bd (mo_F_X0_valueAt x4 (gi σ 161 x1) _) (fun r3 σ3 => (mo_ite (mo_B_X5_look_111  (-7 : Int32) _) (mo_B_X5_look_111  r3 _)))) mo_none) mo_none)
set_option maxHeartbeats 4000000 in
set_option maxRecDepth 100000 in
theorem w_X5_look_87 {p : Program} {l : Launch} {e : Env} {s : State} {m : MethodId} {args : Array Value} {below : List Frame} {meth : Method} {c : Code} {D : va_G} {dA : Nat → ClassId} {base : Nat} {σ0 τ : HS} {r : Int32} (cx : CX p s m args meth c cX5_look 6 (some .int) RX5 "look" D dA base)  (x1 : Nat) (x4 : Nat) {σ : HS} {H : Heap} {locs : List Loc} {ls : Array Slot} (h : Wd D dA base σ s H locs) (g : LE σ0 σ) (hl : lv_has ls 6 [(1, vr x1), (4, vr x4)]) (hF : B_X5_look_87  x1 x4 σ = some (r, τ)) : WG p l e s m args below meth c D dA base 5 112 (some (.int r)) σ0 τ σ H locs 87 ls [] := by
  obtain ⟨hx, hb, -⟩ := id cx
  unfold B_X5_look_87 at hF
  refine x_aload hx hb dX5_look_87 (lv_at hl 1 rfl) ?_
  refine x_aload_n hx hb dX5_look_89 rfl (lv_at hl 0 rfl) ?_
  obtain ⟨hq1, hF⟩ := ifs hF
  refine x_geti cx h fa_X5_56 (f := 161) rfl hq1 dX5_look_90 ?_
  obtain ⟨hq2, hF⟩ := ifs hF
  obtain ⟨r3, σ3, hc3, hF⟩ := bds hF
  refine x_calli (σ := σ) g (LEm hc3 (mo_F_X0_valueAt x4 (gi σ 161 x1) _)) (x_runV (As := [.int (gi σ 161 x1)]) (rest := []) cx h (c_X0_valueAt l D dA base x4 (gi σ 161 x1) hc3) ml_X5_209 mi_X0_valueAt hq2 rfl ⟨Nat.le_of_ble_eq_true rfl, Nat.le_of_ble_eq_true rfl⟩ hl.1 rfl (s8 sN (by decide)) dX5_look_93 (le_room g (LEm hc3 (mo_F_X0_valueAt x4 (gi σ 161 x1) _)) (LEm hF (mo_ite (mo_B_X5_look_111  (-7 : Int32) _) (mo_B_X5_look_111  r3 _))))) h (fun H locs h g => ?_)
  refine x_istore (lv' := [(5, .int r3), (1, vr x1), (4, vr x4)]) hx hb dX5_look_96 hl (by decide) (cR (cR cN)) rfl (fun ls hl => ?_)
  refine lv_iload hx hb dX5_look_98 (lv_at hl 0 rfl) ?_
  refine lv_iconst (v := (-1 : Int32)) hx hb dX5_look_100 (by decide) ?_
  refine lv_icmp_ne (tgt := 109) hx hb dX5_look_101 (by decide) (fun c4 => ?_) (fun c4 => ?_)
  · replace hF := ifn c4 hF
    refine lv_iload hx hb dX5_look_109 (lv_at hl 0 rfl) ?_
    exact w_X5_look_111 (σ := σ3) cx   r3 h g (lv_sub hl [] rfl) hF
  · replace hF := ifp c4 hF
    refine lv_bipush (v := (-7 : Int32)) hx hb dX5_look_104 (by decide) ?_
    refine lv_goto (tgt := 111) hx hb dX5_look_106 (by decide) ?_
    exact w_X5_look_111 (σ := σ3) cx   (-7 : Int32) h g (lv_sub hl [] rfl) hF
def F_X5_look (a0 : Nat) (a1 : Nat) (a2 : Int32) (σ : HS) : Option (Int32 × HS) :=
  if kd σ a1 = 5 then (bd (F_X4_placeOf a1 a2 σ) (fun r2 σ2 => if r2 < 0 then (if kd σ2 a0 = 6 then (if kd σ2 (gr σ2 200 a0) = 4 then (if kd σ2 (gr σ2 120 (gr σ2 200 a0)) = 102 ∧ inb a2 (ln σ2 (gr σ2 120 (gr σ2 200 a0))) then (if kd σ2 (ar σ2 (gr σ2 120 (gr σ2 200 a0)) a2.toNatClampNeg) = 1 then (bd (F_X0_isLocked (ar σ2 (gr σ2 120 (gr σ2 200 a0)) a2.toNatClampNeg) σ2) (fun r8 σ8 => if r8 = 0 then (B_X5_look_87  a1 (ar σ2 (gr σ2 120 (gr σ2 200 a0)) a2.toNatClampNeg) σ8) else (if kd σ8 (ar σ2 (gr σ2 120 (gr σ2 200 a0)) a2.toNatClampNeg) = 1 then (if kd σ8 a1 = 5 then (if (gi σ8 161 a1) ≤ (gi σ8 2 (ar σ2 (gr σ2 120 (gr σ2 200 a0)) a2.toNatClampNeg)) then (B_X5_look_87  a1 (ar σ2 (gr σ2 120 (gr σ2 200 a0)) a2.toNatClampNeg) σ8) else (if kd σ8 a0 = 6 then (bd (F_X5_isForCleaning a0 (ar σ2 (gr σ2 120 (gr σ2 200 a0)) a2.toNatClampNeg) σ8) (fun r14 σ14 => if r14 = 0 then (some ((-6 : Int32), σ14)) else (if kd σ14 a0 = 6 then (if kd σ14 (gr σ14 200 a0) = 4 then (bd (F_X3_clean (gr σ14 200 a0) (ar σ2 (gr σ2 120 (gr σ2 200 a0)) a2.toNatClampNeg) σ14) (fun r18 σ18 => some ((-5 : Int32), σ18))) else none) else none))) else none)) else none) else none))) else none) else none) else none) else none) else (if kd σ2 a1 = 5 then (if kd σ2 (gr σ2 166 a1) = 100 ∧ inb r2 (ln σ2 (gr σ2 166 a1)) then (if (ai σ2 (gr σ2 166 a1) r2.toNatClampNeg) = (-1 : Int32) then (B_X5_look_31  (-7 : Int32) σ2) else (B_X5_look_31  (ai σ2 (gr σ2 166 a1) r2.toNatClampNeg) σ2)) else none) else none))) else none
theorem mo_F_X5_look (a0 : Nat) (a1 : Nat) (a2 : Int32) (σ : HS) : Mo σ (F_X5_look a0 a1 a2 σ) := by
  unfold F_X5_look
  exact (mo_ite (mo_bd (mo_F_X4_placeOf a1 a2 _) (fun r2 σ2 => (mo_ite (mo_ite (mo_ite (mo_ite (mo_ite (mo_bd (mo_F_X0_isLocked (ar σ2 (gr σ2 120 (gr σ2 200 a0)) a2.toNatClampNeg) _) (fun r8 σ8 => (mo_ite (mo_B_X5_look_87  a1 (ar σ2 (gr σ2 120 (gr σ2 200 a0)) a2.toNatClampNeg) _) (mo_ite (mo_ite (mo_ite (mo_B_X5_look_87  a1 (ar σ2 (gr σ2 120 (gr σ2 200 a0)) a2.toNatClampNeg) _) (mo_ite (mo_bd (mo_F_X5_isForCleaning a0 (ar σ2 (gr σ2 120 (gr σ2 200 a0)) a2.toNatClampNeg) _) (fun r14 σ14 => (mo_ite mo_ret (mo_ite (mo_ite (mo_bd (mo_F_X3_clean (gr σ14 200 a0) (ar σ2 (gr σ2 120 (gr σ2 200 a0)) a2.toNatClampNeg) _) (fun r18 σ18 => mo_ret)) mo_none) mo_none)))) mo_none)) mo_none) mo_none)))) mo_none) mo_none) mo_none) mo_none) (mo_ite (mo_ite (mo_ite (mo_B_X5_look_31  (-7 : Int32) _) (mo_B_X5_look_31  (ai σ2 (gr σ2 166 a1) r2.toNatClampNeg) _)) mo_none) mo_none)))) mo_none)
set_option maxHeartbeats 4000000 in
set_option maxRecDepth 100000 in
theorem c_X5_look (l : Launch) (D : va_G) (dA : Nat → ClassId) (base : Nat) (a0 : Nat) (a1 : Nat) (a2 : Int32) {σ τ : HS} {r : Int32} (hF : F_X5_look a0 a1 a2 σ = some (r, τ)) : CT l yX5_look cX5_look 6 (some .int) 5 112 D dA base [vr a0, vr a1, .int a2] (some (.int r)) σ τ := by
  refine CT.of (lv := [(0, vr a0), (1, vr a1), (2, .int a2)]) (by decide) (vR (vR (vI vN))) (Nat.le_of_ble_eq_true rfl) rfl ?_
  intro p e s m args below meth c ls cx hl h
  have cx : CX p s m args meth c cX5_look 6 (some .int) RX5 "look" D dA base := cx
  have g : LE σ σ := LE.rf
  obtain ⟨hx, hb, -⟩ := id cx
  unfold F_X5_look at hF
  refine x_aload_n hx hb dX5_look_0 rfl (lv_at hl 1 rfl) ?_
  refine lv_iload_n hx hb dX5_look_1 rfl (lv_at hl 2 rfl) ?_
  obtain ⟨hq1, hF⟩ := ifs hF
  obtain ⟨r2, σ2, hc2, hF⟩ := bds hF
  refine x_calli (σ := σ) g (LEm hc2 (mo_F_X4_placeOf a1 a2 _)) (x_runV (As := [.int a2]) (rest := []) cx h (c_X4_placeOf l D dA base a1 a2 hc2) ml_X5_196 mi_X4_placeOf hq1 rfl ⟨Nat.le_of_ble_eq_true rfl, Nat.le_of_ble_eq_true rfl⟩ hl.1 rfl (s8 sN (by decide)) dX5_look_2 (le_room g (LEm hc2 (mo_F_X4_placeOf a1 a2 _)) (LEm hF (mo_ite (mo_ite (mo_ite (mo_ite (mo_ite (mo_bd (mo_F_X0_isLocked (ar σ2 (gr σ2 120 (gr σ2 200 a0)) a2.toNatClampNeg) _) (fun r8 σ8 => (mo_ite (mo_B_X5_look_87  a1 (ar σ2 (gr σ2 120 (gr σ2 200 a0)) a2.toNatClampNeg) _) (mo_ite (mo_ite (mo_ite (mo_B_X5_look_87  a1 (ar σ2 (gr σ2 120 (gr σ2 200 a0)) a2.toNatClampNeg) _) (mo_ite (mo_bd (mo_F_X5_isForCleaning a0 (ar σ2 (gr σ2 120 (gr σ2 200 a0)) a2.toNatClampNeg) _) (fun r14 σ14 => (mo_ite mo_ret (mo_ite (mo_ite (mo_bd (mo_F_X3_clean (gr σ14 200 a0) (ar σ2 (gr σ2 120 (gr σ2 200 a0)) a2.toNatClampNeg) _) (fun r18 σ18 => mo_ret)) mo_none) mo_none)))) mo_none)) mo_none) mo_none)))) mo_none) mo_none) mo_none) mo_none) (mo_ite (mo_ite (mo_ite (mo_B_X5_look_31  (-7 : Int32) _) (mo_B_X5_look_31  (ai σ2 (gr σ2 166 a1) r2.toNatClampNeg) _)) mo_none) mo_none))))) h (fun H locs h g => ?_)
  refine x_istore_n (lv' := [(3, .int r2), (0, vr a0), (1, vr a1), (2, .int a2)]) hx hb dX5_look_5 rfl hl (by decide) (cR (cR (cI cN))) rfl (fun ls hl => ?_)
  refine lv_iload_n hx hb dX5_look_6 rfl (lv_at hl 0 rfl) ?_
  refine lv_if_lt (tgt := 32) hx hb dX5_look_7 (by decide) (fun c3 => ?_) (fun c3 => ?_)
  · replace hF := ifp c3 hF
    refine x_aload_n hx hb dX5_look_32 rfl (lv_at hl 1 rfl) ?_
    obtain ⟨hq4, hF⟩ := ifs hF
    refine x_getr cx h fa_X5_10 (f := 200) rfl hq4 dX5_look_33 ?_
    obtain ⟨hq5, hF⟩ := ifs hF
    refine x_getr cx h fa_X5_125 (f := 120) rfl hq5 dX5_look_36 ?_
    refine lv_iload_n hx hb dX5_look_39 rfl (lv_at hl 3 rfl) ?_
    obtain ⟨hq6, hF⟩ := ifs hF
    refine x_aald cx h RA2 hq6.1 (inb.vp hq6.2) dX5_look_40 ?_
    refine x_astore (lv' := [(4, vr (ar σ2 (gr σ2 120 (gr σ2 200 a0)) a2.toNatClampNeg)), (3, .int r2), (0, vr a0), (1, vr a1), (2, .int a2)]) hx hb dX5_look_41 hl (by decide) (cI (cR (cR (cI cN)))) rfl (fun ls hl => ?_)
    refine x_aload hx hb dX5_look_43 (lv_at hl 0 rfl) ?_
    obtain ⟨hq7, hF⟩ := ifs hF
    obtain ⟨r8, σ8, hc8, hF⟩ := bds hF
    refine x_calli (σ := σ2) g (LEm hc8 (mo_F_X0_isLocked (ar σ2 (gr σ2 120 (gr σ2 200 a0)) a2.toNatClampNeg) _)) (x_runV (As := []) (rest := []) cx h (c_X0_isLocked l D dA base (ar σ2 (gr σ2 120 (gr σ2 200 a0)) a2.toNatClampNeg) hc8) ml_X5_140 mi_X0_isLocked hq7 rfl ⟨Nat.le_of_ble_eq_true rfl, Nat.le_of_ble_eq_true rfl⟩ hl.1 rfl (s8 sN (by decide)) dX5_look_45 (le_room g (LEm hc8 (mo_F_X0_isLocked (ar σ2 (gr σ2 120 (gr σ2 200 a0)) a2.toNatClampNeg) _)) (LEm hF (mo_ite (mo_B_X5_look_87  a1 (ar σ2 (gr σ2 120 (gr σ2 200 a0)) a2.toNatClampNeg) _) (mo_ite (mo_ite (mo_ite (mo_B_X5_look_87  a1 (ar σ2 (gr σ2 120 (gr σ2 200 a0)) a2.toNatClampNeg) _) (mo_ite (mo_bd (mo_F_X5_isForCleaning a0 (ar σ2 (gr σ2 120 (gr σ2 200 a0)) a2.toNatClampNeg) _) (fun r14 σ14 => (mo_ite mo_ret (mo_ite (mo_ite (mo_bd (mo_F_X3_clean (gr σ14 200 a0) (ar σ2 (gr σ2 120 (gr σ2 200 a0)) a2.toNatClampNeg) _) (fun r18 σ18 => mo_ret)) mo_none) mo_none)))) mo_none)) mo_none) mo_none))))) h (fun H locs h g => ?_)
    refine lv_if_eq (tgt := 87) hx hb dX5_look_48 (by decide) (fun c9 => ?_) (fun c9 => ?_)
    · replace hF := ifp c9 hF
      exact w_X5_look_87 (σ := σ8) cx   a1 (ar σ2 (gr σ2 120 (gr σ2 200 a0)) a2.toNatClampNeg) h g (lv_sub hl [3, 0] rfl) hF
    · replace hF := ifn c9 hF
      refine x_aload hx hb dX5_look_51 (lv_at hl 0 rfl) ?_
      obtain ⟨hq10, hF⟩ := ifs hF
      refine x_geti cx h fa_X5_129 (f := 2) rfl hq10 dX5_look_53 ?_
      refine x_aload_n hx hb dX5_look_56 rfl (lv_at hl 3 rfl) ?_
      obtain ⟨hq11, hF⟩ := ifs hF
      refine x_geti cx h fa_X5_56 (f := 161) rfl hq11 dX5_look_57 ?_
      refine lv_icmp_ge (tgt := 87) hx hb dX5_look_60 (by decide) (fun c12 => ?_) (fun c12 => ?_)
      · replace hF := ifp c12 hF
        exact w_X5_look_87 (σ := σ8) cx   a1 (ar σ2 (gr σ2 120 (gr σ2 200 a0)) a2.toNatClampNeg) h g (lv_sub hl [3, 0] rfl) hF
      · replace hF := ifn c12 hF
        refine x_aload_n hx hb dX5_look_63 rfl (lv_at hl 2 rfl) ?_
        refine x_aload hx hb dX5_look_64 (lv_at hl 0 rfl) ?_
        obtain ⟨hq13, hF⟩ := ifs hF
        obtain ⟨r14, σ14, hc14, hF⟩ := bds hF
        refine x_calli (σ := σ8) g (LEm hc14 (mo_F_X5_isForCleaning a0 (ar σ2 (gr σ2 120 (gr σ2 200 a0)) a2.toNatClampNeg) _)) (x_runV (As := [vr (ar σ2 (gr σ2 120 (gr σ2 200 a0)) a2.toNatClampNeg)]) (rest := []) cx h (c_X5_isForCleaning l D dA base a0 (ar σ2 (gr σ2 120 (gr σ2 200 a0)) a2.toNatClampNeg) hc14) ml_X5_202 mi_X5_isForCleaning hq13 rfl ⟨Nat.le_of_ble_eq_true rfl, Nat.le_of_ble_eq_true rfl⟩ hl.1 rfl (s8 sN (by decide)) dX5_look_66 (le_room g (LEm hc14 (mo_F_X5_isForCleaning a0 (ar σ2 (gr σ2 120 (gr σ2 200 a0)) a2.toNatClampNeg) _)) (LEm hF (mo_ite mo_ret (mo_ite (mo_ite (mo_bd (mo_F_X3_clean (gr σ14 200 a0) (ar σ2 (gr σ2 120 (gr σ2 200 a0)) a2.toNatClampNeg) _) (fun r18 σ18 => mo_ret)) mo_none) mo_none))))) h (fun H locs h g => ?_)
        refine lv_if_ne (tgt := 75) hx hb dX5_look_69 (by decide) (fun c15 => ?_) (fun c15 => ?_)
        · replace hF := ifn c15 hF
          refine x_aload_n hx hb dX5_look_75 rfl (lv_at hl 2 rfl) ?_
          obtain ⟨hq16, hF⟩ := ifs hF
          refine x_getr cx h fa_X5_10 (f := 200) rfl hq16 dX5_look_76 ?_
          refine x_aload hx hb dX5_look_79 (lv_at hl 0 rfl) ?_
          obtain ⟨hq17, hF⟩ := ifs hF
          obtain ⟨r18, σ18, hc18, hF⟩ := bds hF
          refine x_callv (σ := σ14) g (LEm hc18 (mo_F_X3_clean (gr σ14 200 a0) (ar σ2 (gr σ2 120 (gr σ2 200 a0)) a2.toNatClampNeg) _)) (x_runV (As := [vr (ar σ2 (gr σ2 120 (gr σ2 200 a0)) a2.toNatClampNeg)]) (rest := []) cx h (c_X3_clean l D dA base (gr σ14 200 a0) (ar σ2 (gr σ2 120 (gr σ2 200 a0)) a2.toNatClampNeg) hc18) ml_X5_205 mi_X3_clean hq17 rfl ⟨Nat.le_of_ble_eq_true rfl, Nat.le_of_ble_eq_true rfl⟩ hl.1 rfl (s8 sN (by decide)) dX5_look_81 (le_room g (LEm hc18 (mo_F_X3_clean (gr σ14 200 a0) (ar σ2 (gr σ2 120 (gr σ2 200 a0)) a2.toNatClampNeg) _)) (LEm hF mo_ret))) h (fun H locs h g => ?_)
          refine lv_bipush (v := (-5 : Int32)) hx hb dX5_look_84 (by decide) ?_
          obtain ⟨rfl, rfl⟩ := rts hF
          exact x_iret cx h dX5_look_86
        · replace hF := ifp c15 hF
          refine lv_bipush (v := (-6 : Int32)) hx hb dX5_look_72 (by decide) ?_
          obtain ⟨rfl, rfl⟩ := rts hF
          exact x_iret cx h dX5_look_74
  · replace hF := ifn c3 hF
    refine x_aload_n hx hb dX5_look_10 rfl (lv_at hl 2 rfl) ?_
    obtain ⟨hq19, hF⟩ := ifs hF
    refine x_getr cx h fa_X5_199 (f := 166) rfl hq19 dX5_look_11 ?_
    refine lv_iload_n hx hb dX5_look_14 rfl (lv_at hl 0 rfl) ?_
    obtain ⟨hq20, hF⟩ := ifs hF
    refine x_iald cx h hq20.1 (inb.vp hq20.2) dX5_look_15 ?_
    refine lv_iconst (v := (-1 : Int32)) hx hb dX5_look_16 (by decide) ?_
    refine lv_icmp_ne (tgt := 25) hx hb dX5_look_17 (by decide) (fun c21 => ?_) (fun c21 => ?_)
    · replace hF := ifn c21 hF
      refine x_aload_n hx hb dX5_look_25 rfl (lv_at hl 2 rfl) ?_
      refine x_getr cx h fa_X5_199 (f := 166) rfl hq19 dX5_look_26 ?_
      refine lv_iload_n hx hb dX5_look_29 rfl (lv_at hl 0 rfl) ?_
      refine x_iald cx h hq20.1 (inb.vp hq20.2) dX5_look_30 ?_
      exact w_X5_look_31 (σ := σ2) cx   (ai σ2 (gr σ2 166 a1) r2.toNatClampNeg) h g (lv_sub hl [] rfl) hF
    · replace hF := ifp c21 hF
      refine lv_bipush (v := (-7 : Int32)) hx hb dX5_look_20 (by decide) ?_
      refine lv_goto (tgt := 31) hx hb dX5_look_22 (by decide) ?_
      exact w_X5_look_31 (σ := σ2) cx   (-7 : Int32) h g (lv_sub hl [] rfl) hF
def B_X5_read_15   (σ : HS) : Option (Int32 × HS) :=
  some ((-1 : Int32), σ)
theorem mo_B_X5_read_15   (σ : HS) : Mo σ (B_X5_read_15   σ) := by
  unfold B_X5_read_15
  exact mo_ret
set_option maxHeartbeats 4000000 in
set_option maxRecDepth 100000 in
theorem w_X5_read_15 {p : Program} {l : Launch} {e : Env} {s : State} {m : MethodId} {args : Array Value} {below : List Frame} {meth : Method} {c : Code} {D : va_G} {dA : Nat → ClassId} {base : Nat} {σ0 τ : HS} {r : Int32} (cx : CX p s m args meth c cX5_read 6 (some .int) RX5 "read" D dA base)   {σ : HS} {H : Heap} {locs : List Loc} {ls : Array Slot} (h : Wd D dA base σ s H locs) (g : LE σ0 σ) (hl : lv_has ls 6 []) (hF : B_X5_read_15   σ = some (r, τ)) : WG p l e s m args below meth c D dA base 6 137 (some (.int r)) σ0 τ σ H locs 15 ls [] := by
  obtain ⟨hx, hb, -⟩ := id cx
  unfold B_X5_read_15 at hF
  refine lv_iconst (v := (-1 : Int32)) hx hb dX5_read_15 (by decide) ?_
  obtain ⟨rfl, rfl⟩ := rts hF
  exact x_iret cx h dX5_read_16
def F_X5_read (a0 : Nat) (a1 : Int32) (a2 : Int32) (a3 : Int32) (σ : HS) : Option (Int32 × HS) :=
  bd (F_X5_isClient a1 σ) (fun r1 σ1 => if r1 = 0 then (B_X5_read_15   σ1) else (bd (F_X5_isCell a2 a3 σ1) (fun r3 σ3 => if r3 = 0 then (B_X5_read_15   σ3) else (if kd σ3 a0 = 6 then (if kd σ3 (gr σ3 202 a0) = 103 ∧ inb a1 (ln σ3 (gr σ3 202 a0)) then (if kd σ3 (ar σ3 (gr σ3 202 a0) a1.toNatClampNeg) = 5 then (bd (F_X4_touch (ar σ3 (gr σ3 202 a0) a1.toNatClampNeg) (gi σ3 203 a0) σ3) (fun r8 σ8 => if kd σ8 (ar σ3 (gr σ3 202 a0) a1.toNatClampNeg) = 5 then (if (gi σ8 160 (ar σ3 (gr σ3 202 a0) a1.toNatClampNeg)) = (1 : Int32) then (bd (F_X5_cellIndex a2 a3 σ8) (fun r11 σ11 => if kd σ11 a0 = 6 then (bd (F_X5_look a0 (ar σ3 (gr σ3 202 a0) a1.toNatClampNeg) r11 σ11) (fun r13 σ13 => if kd σ13 a0 = 6 then (if kd σ13 (gr σ13 200 a0) = 4 then (bd (F_X3_putDownLog (gr σ13 200 a0) σ13) (fun r16 σ16 => some (r13, σ16))) else none) else none)) else none)) else (some ((-3 : Int32), σ8))) else none)) else none) else none) else none))))
theorem mo_F_X5_read (a0 : Nat) (a1 : Int32) (a2 : Int32) (a3 : Int32) (σ : HS) : Mo σ (F_X5_read a0 a1 a2 a3 σ) := by
  unfold F_X5_read
  exact (mo_bd (mo_F_X5_isClient a1 _) (fun r1 σ1 => (mo_ite (mo_B_X5_read_15   _) (mo_bd (mo_F_X5_isCell a2 a3 _) (fun r3 σ3 => (mo_ite (mo_B_X5_read_15   _) (mo_ite (mo_ite (mo_ite (mo_bd (mo_F_X4_touch (ar σ3 (gr σ3 202 a0) a1.toNatClampNeg) (gi σ3 203 a0) _) (fun r8 σ8 => (mo_ite (mo_ite (mo_bd (mo_F_X5_cellIndex a2 a3 _) (fun r11 σ11 => (mo_ite (mo_bd (mo_F_X5_look a0 (ar σ3 (gr σ3 202 a0) a1.toNatClampNeg) r11 _) (fun r13 σ13 => (mo_ite (mo_ite (mo_bd (mo_F_X3_putDownLog (gr σ13 200 a0) _) (fun r16 σ16 => mo_ret)) mo_none) mo_none))) mo_none))) mo_ret) mo_none))) mo_none) mo_none) mo_none)))))))
set_option maxHeartbeats 4000000 in
set_option maxRecDepth 100000 in
theorem c_X5_read (l : Launch) (D : va_G) (dA : Nat → ClassId) (base : Nat) (a0 : Nat) (a1 : Int32) (a2 : Int32) (a3 : Int32) {σ τ : HS} {r : Int32} (hF : F_X5_read a0 a1 a2 a3 σ = some (r, τ)) : CT l yX5_read cX5_read 6 (some .int) 6 137 D dA base [vr a0, .int a1, .int a2, .int a3] (some (.int r)) σ τ := by
  refine CT.of (lv := [(0, vr a0), (1, .int a1), (2, .int a2), (3, .int a3)]) (by decide) (vR (vI (vI (vI vN)))) (Nat.le_of_ble_eq_true rfl) rfl ?_
  intro p e s m args below meth c ls cx hl h
  have cx : CX p s m args meth c cX5_read 6 (some .int) RX5 "read" D dA base := cx
  have g : LE σ σ := LE.rf
  obtain ⟨hx, hb, -⟩ := id cx
  unfold F_X5_read at hF
  refine lv_iload_n hx hb dX5_read_0 rfl (lv_at hl 1 rfl) ?_
  obtain ⟨r1, σ1, hc1, hF⟩ := bds hF
  refine x_calli (σ := σ) g (LEm hc1 (mo_F_X5_isClient a1 _)) (x_runS (As := [.int a1]) (rest := []) cx h (c_X5_isClient l D dA base a1 hc1) ml_X5_34 mi_X5_isClient rfl ⟨Nat.le_of_ble_eq_true rfl, Nat.le_of_ble_eq_true rfl⟩ hl.1 rfl (s8 sN (by decide)) dX5_read_1 (le_room g (LEm hc1 (mo_F_X5_isClient a1 _)) (LEm hF (mo_ite (mo_B_X5_read_15   _) (mo_bd (mo_F_X5_isCell a2 a3 _) (fun r3 σ3 => (mo_ite (mo_B_X5_read_15   _) (mo_ite (mo_ite (mo_ite (mo_bd (mo_F_X4_touch (ar σ3 (gr σ3 202 a0) a1.toNatClampNeg) (gi σ3 203 a0) _) (fun r8 σ8 => (mo_ite (mo_ite (mo_bd (mo_F_X5_cellIndex a2 a3 _) (fun r11 σ11 => (mo_ite (mo_bd (mo_F_X5_look a0 (ar σ3 (gr σ3 202 a0) a1.toNatClampNeg) r11 _) (fun r13 σ13 => (mo_ite (mo_ite (mo_bd (mo_F_X3_putDownLog (gr σ13 200 a0) _) (fun r16 σ16 => mo_ret)) mo_none) mo_none))) mo_none))) mo_ret) mo_none))) mo_none) mo_none) mo_none)))))))) h (fun H locs h g => ?_)
  refine lv_if_eq (tgt := 15) hx hb dX5_read_4 (by decide) (fun c2 => ?_) (fun c2 => ?_)
  · replace hF := ifp c2 hF
    exact w_X5_read_15 (σ := σ1) cx    h g (lv_sub hl [] rfl) hF
  · replace hF := ifn c2 hF
    refine lv_iload_n hx hb dX5_read_7 rfl (lv_at hl 2 rfl) ?_
    refine lv_iload_n hx hb dX5_read_8 rfl (lv_at hl 3 rfl) ?_
    obtain ⟨r3, σ3, hc3, hF⟩ := bds hF
    refine x_calli (σ := σ1) g (LEm hc3 (mo_F_X5_isCell a2 a3 _)) (x_runS (As := [.int a2, .int a3]) (rest := []) cx h (c_X5_isCell l D dA base a2 a3 hc3) ml_X5_59 mi_X5_isCell rfl ⟨Nat.le_of_ble_eq_true rfl, Nat.le_of_ble_eq_true rfl⟩ hl.1 rfl (s8 sN (by decide)) dX5_read_9 (le_room g (LEm hc3 (mo_F_X5_isCell a2 a3 _)) (LEm hF (mo_ite (mo_B_X5_read_15   _) (mo_ite (mo_ite (mo_ite (mo_bd (mo_F_X4_touch (ar σ3 (gr σ3 202 a0) a1.toNatClampNeg) (gi σ3 203 a0) _) (fun r8 σ8 => (mo_ite (mo_ite (mo_bd (mo_F_X5_cellIndex a2 a3 _) (fun r11 σ11 => (mo_ite (mo_bd (mo_F_X5_look a0 (ar σ3 (gr σ3 202 a0) a1.toNatClampNeg) r11 _) (fun r13 σ13 => (mo_ite (mo_ite (mo_bd (mo_F_X3_putDownLog (gr σ13 200 a0) _) (fun r16 σ16 => mo_ret)) mo_none) mo_none))) mo_none))) mo_ret) mo_none))) mo_none) mo_none) mo_none))))) h (fun H locs h g => ?_)
    refine lv_if_ne (tgt := 17) hx hb dX5_read_12 (by decide) (fun c4 => ?_) (fun c4 => ?_)
    · replace hF := ifn c4 hF
      refine x_aload_n hx hb dX5_read_17 rfl (lv_at hl 0 rfl) ?_
      obtain ⟨hq5, hF⟩ := ifs hF
      refine x_getr cx h fa_X5_25 (f := 202) rfl hq5 dX5_read_18 ?_
      refine lv_iload_n hx hb dX5_read_21 rfl (lv_at hl 1 rfl) ?_
      obtain ⟨hq6, hF⟩ := ifs hF
      refine x_aald cx h RA3 hq6.1 (inb.vp hq6.2) dX5_read_22 ?_
      refine x_astore (lv' := [(4, vr (ar σ3 (gr σ3 202 a0) a1.toNatClampNeg)), (0, vr a0), (1, .int a1), (2, .int a2), (3, .int a3)]) hx hb dX5_read_23 hl (by decide) (cR (cI (cI (cI cN)))) rfl (fun ls hl => ?_)
      refine x_aload hx hb dX5_read_25 (lv_at hl 0 rfl) ?_
      refine x_aload_n hx hb dX5_read_27 rfl (lv_at hl 1 rfl) ?_
      refine x_geti cx h fa_X5_41 (f := 203) rfl hq5 dX5_read_28 ?_
      obtain ⟨hq7, hF⟩ := ifs hF
      obtain ⟨r8, σ8, hc8, hF⟩ := bds hF
      refine x_callv (σ := σ3) g (LEm hc8 (mo_F_X4_touch (ar σ3 (gr σ3 202 a0) a1.toNatClampNeg) (gi σ3 203 a0) _)) (x_runV (As := [.int (gi σ3 203 a0)]) (rest := []) cx h (c_X4_touch l D dA base (ar σ3 (gr σ3 202 a0) a1.toNatClampNeg) (gi σ3 203 a0) hc8) ml_X5_44 mi_X4_touch hq7 rfl ⟨Nat.le_of_ble_eq_true rfl, Nat.le_of_ble_eq_true rfl⟩ hl.1 rfl (s8 sN (by decide)) dX5_read_31 (le_room g (LEm hc8 (mo_F_X4_touch (ar σ3 (gr σ3 202 a0) a1.toNatClampNeg) (gi σ3 203 a0) _)) (LEm hF (mo_ite (mo_ite (mo_bd (mo_F_X5_cellIndex a2 a3 _) (fun r11 σ11 => (mo_ite (mo_bd (mo_F_X5_look a0 (ar σ3 (gr σ3 202 a0) a1.toNatClampNeg) r11 _) (fun r13 σ13 => (mo_ite (mo_ite (mo_bd (mo_F_X3_putDownLog (gr σ13 200 a0) _) (fun r16 σ16 => mo_ret)) mo_none) mo_none))) mo_none))) mo_ret) mo_none)))) h (fun H locs h g => ?_)
      refine x_aload hx hb dX5_read_34 (lv_at hl 0 rfl) ?_
      obtain ⟨hq9, hF⟩ := ifs hF
      refine x_geti cx h fa_X5_38 (f := 160) rfl hq9 dX5_read_36 ?_
      refine lv_iconst (v := (1 : Int32)) hx hb dX5_read_39 (by decide) ?_
      refine lv_icmp_eq (tgt := 46) hx hb dX5_read_40 (by decide) (fun c10 => ?_) (fun c10 => ?_)
      · replace hF := ifp c10 hF
        refine x_aload_n hx hb dX5_read_46 rfl (lv_at hl 1 rfl) ?_
        refine x_aload hx hb dX5_read_47 (lv_at hl 0 rfl) ?_
        refine lv_iload_n hx hb dX5_read_49 rfl (lv_at hl 3 rfl) ?_
        refine lv_iload_n hx hb dX5_read_50 rfl (lv_at hl 4 rfl) ?_
        obtain ⟨r11, σ11, hc11, hF⟩ := bds hF
        refine x_calli (σ := σ8) g (LEm hc11 (mo_F_X5_cellIndex a2 a3 _)) (x_runS (As := [.int a2, .int a3]) (rest := [vr (ar σ3 (gr σ3 202 a0) a1.toNatClampNeg), vr a0]) cx h (c_X5_cellIndex l D dA base a2 a3 hc11) ml_X5_63 mi_X5_cellIndex rfl ⟨Nat.le_of_ble_eq_true rfl, Nat.le_of_ble_eq_true rfl⟩ hl.1 rfl (s8 (sR (sR sN)) (by decide)) dX5_read_51 (le_room g (LEm hc11 (mo_F_X5_cellIndex a2 a3 _)) (LEm hF (mo_ite (mo_bd (mo_F_X5_look a0 (ar σ3 (gr σ3 202 a0) a1.toNatClampNeg) r11 _) (fun r13 σ13 => (mo_ite (mo_ite (mo_bd (mo_F_X3_putDownLog (gr σ13 200 a0) _) (fun r16 σ16 => mo_ret)) mo_none) mo_none))) mo_none)))) h (fun H locs h g => ?_)
        obtain ⟨hq12, hF⟩ := ifs hF
        obtain ⟨r13, σ13, hc13, hF⟩ := bds hF
        refine x_calli (σ := σ11) g (LEm hc13 (mo_F_X5_look a0 (ar σ3 (gr σ3 202 a0) a1.toNatClampNeg) r11 _)) (x_runV (As := [vr (ar σ3 (gr σ3 202 a0) a1.toNatClampNeg), .int r11]) (rest := []) cx h (c_X5_look l D dA base a0 (ar σ3 (gr σ3 202 a0) a1.toNatClampNeg) r11 hc13) ml_X5_67 mi_X5_look hq12 rfl ⟨Nat.le_of_ble_eq_true rfl, Nat.le_of_ble_eq_true rfl⟩ hl.1 rfl (s8 sN (by decide)) dX5_read_54 (le_room g (LEm hc13 (mo_F_X5_look a0 (ar σ3 (gr σ3 202 a0) a1.toNatClampNeg) r11 _)) (LEm hF (mo_ite (mo_ite (mo_bd (mo_F_X3_putDownLog (gr σ13 200 a0) _) (fun r16 σ16 => mo_ret)) mo_none) mo_none)))) h (fun H locs h g => ?_)
        refine x_istore (lv' := [(5, .int r13), (4, vr (ar σ3 (gr σ3 202 a0) a1.toNatClampNeg)), (0, vr a0), (1, .int a1), (2, .int a2), (3, .int a3)]) hx hb dX5_read_57 hl (by decide) (cR (cR (cI (cI (cI cN))))) rfl (fun ls hl => ?_)
        refine x_aload_n hx hb dX5_read_59 rfl (lv_at hl 2 rfl) ?_
        obtain ⟨hq14, hF⟩ := ifs hF
        refine x_getr cx h fa_X5_10 (f := 200) rfl hq14 dX5_read_60 ?_
        obtain ⟨hq15, hF⟩ := ifs hF
        obtain ⟨r16, σ16, hc16, hF⟩ := bds hF
        refine x_callv (σ := σ13) g (LEm hc16 (mo_F_X3_putDownLog (gr σ13 200 a0) _)) (x_runV (As := []) (rest := []) cx h (c_X3_putDownLog l D dA base (gr σ13 200 a0) hc16) ml_X5_71 mi_X3_putDownLog hq15 rfl ⟨Nat.le_of_ble_eq_true rfl, Nat.le_of_ble_eq_true rfl⟩ hl.1 rfl (s8 sN (by decide)) dX5_read_63 (le_room g (LEm hc16 (mo_F_X3_putDownLog (gr σ13 200 a0) _)) (LEm hF mo_ret))) h (fun H locs h g => ?_)
        refine lv_iload hx hb dX5_read_66 (lv_at hl 0 rfl) ?_
        obtain ⟨rfl, rfl⟩ := rts hF
        exact x_iret cx h dX5_read_68
      · replace hF := ifn c10 hF
        refine lv_bipush (v := (-3 : Int32)) hx hb dX5_read_43 (by decide) ?_
        obtain ⟨rfl, rfl⟩ := rts hF
        exact x_iret cx h dX5_read_45
    · replace hF := ifp c4 hF
      exact w_X5_read_15 (σ := σ3) cx    h g (lv_sub hl [] rfl) hF
