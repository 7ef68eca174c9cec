def B_X5_lookFrom_6 (k6 : Nat → Nat → Int32 → HS → Option (Int32 × HS)) (x0 : Nat) (x1 : Nat) (x3 : Int32) (σ : HS) : Option (Int32 × HS) :=
  if (256 : Int32) ≤ x3 then (some ((-7 : Int32), σ)) else (if kd σ x0 = 6 then (bd (F_X5_look x0 x1 x3 σ) (fun r3 σ3 => if r3 < 0 then (if r3 = (-7 : Int32) then (k6 x0 x1 (x3 + (1 : Int32)) σ3) else (some (r3, σ3))) else (some ((x3 / (4 : Int32)), σ3)))) else none)
theorem mo_B_X5_lookFrom_6 {k6 : Nat → Nat → Int32 → HS → Option (Int32 × HS)} (mk6 : ∀ x0 x1 x3 σ, Mo σ (k6 x0 x1 x3 σ)) (x0 : Nat) (x1 : Nat) (x3 : Int32) (σ : HS) : Mo σ (B_X5_lookFrom_6 k6 x0 x1 x3 σ) := by
  unfold B_X5_lookFrom_6
  exact (mo_ite mo_ret (mo_ite (mo_bd (mo_F_X5_look x0 x1 x3 _) (fun r3 σ3 => (mo_ite (mo_ite (mk6 x0 x1 (x3 + (1 : Int32)) _) mo_ret) mo_ret))) mo_none))
set_option maxHeartbeats 4000000 in
set_option maxRecDepth 100000 in
theorem w_X5_lookFrom_6 {p : Program} {l : Launch} {e : Env} {s : State} {m : MethodId} {args : Array Value} {below : List Frame} {meth : Method} {c : Code} {D : va_G} {dA : Nat → ClassId} {base : Nat} {σ0 τ : HS} {r : Int32} (cx : CX p s m args meth c cX5_lookFrom 5 (some .int) RX5 "lookFrom" D dA base) {k6 : Nat → Nat → Int32 → HS → Option (Int32 × HS)} (mk6 : ∀ x0 x1 x3 σ, Mo σ (k6 x0 x1 x3 σ)) (hk6 : ∀ x0 x1 x3 σ H locs ls, Wd D dA base σ s H locs → LE σ0 σ → lv_has ls 5 [(0, vr x0), (1, vr x1), (3, .int x3)] → k6 x0 x1 x3 σ = some (r, τ) → WG p l e s m args below meth c D dA base 6 137 (some (.int r)) σ0 τ σ H locs 6 ls []) (x0 : Nat) (x1 : Nat) (x3 : Int32) {σ : HS} {H : Heap} {locs : List Loc} {ls : Array Slot} (h : Wd D dA base σ s H locs) (g : LE σ0 σ) (hl : lv_has ls 5 [(0, vr x0), (1, vr x1), (3, .int x3)]) (hF : B_X5_lookFrom_6 k6 x0 x1 x3 σ = some (r, τ)) : WG p l e s m args below meth c D dA base 6 137 (some (.int r)) σ0 τ σ H locs 6 ls [] := by
  obtain ⟨hx, hb, -⟩ := id cx
  unfold B_X5_lookFrom_6 at hF
  refine lv_iload_n hx hb dX5_lookFrom_6 rfl (lv_at hl 2 rfl) ?_
  refine lv_sipush (v := (256 : Int32)) hx hb dX5_lookFrom_7 (by decide) ?_
  refine lv_icmp_ge (tgt := 46) hx hb dX5_lookFrom_10 (by decide) (fun c1 => ?_) (fun c1 => ?_)
  · replace hF := ifp c1 hF
    refine lv_bipush (v := (-7 : Int32)) hx hb dX5_lookFrom_46 (by decide) ?_
    obtain ⟨rfl, rfl⟩ := rts hF
    exact x_iret cx h dX5_lookFrom_48
  · replace hF := ifn c1 hF
    refine x_aload_n hx hb dX5_lookFrom_13 rfl (lv_at hl 0 rfl) ?_
    refine x_aload_n hx hb dX5_lookFrom_14 rfl (lv_at hl 1 rfl) ?_
    refine lv_iload_n hx hb dX5_lookFrom_15 rfl (lv_at hl 2 rfl) ?_
    obtain ⟨hq2, hF⟩ := ifs hF
    obtain ⟨r3, σ3, hc3, hF⟩ := bds hF
    refine x_calli (σ := σ) g (LEm hc3 (mo_F_X5_look x0 x1 x3 _)) (x_runV (As := [vr x1, .int x3]) (rest := []) cx h (c_X5_look l D dA base x0 x1 x3 hc3) ml_X5_67 mi_X5_look hq2 rfl ⟨Nat.le_of_ble_eq_true rfl, Nat.le_of_ble_eq_true rfl⟩ hl.1 rfl (s8 sN (by decide)) dX5_lookFrom_16 (le_room g (LEm hc3 (mo_F_X5_look x0 x1 x3 _)) (LEm hF (mo_ite (mo_ite (mk6 x0 x1 (x3 + (1 : Int32)) _) mo_ret) mo_ret)))) h (fun H locs h g => ?_)
    refine x_istore (lv' := [(4, .int r3), (0, vr x0), (1, vr x1), (3, .int x3)]) hx hb dX5_lookFrom_19 hl (by decide) (cR (cR (cI cN))) rfl (fun ls hl => ?_)
    refine lv_iload hx hb dX5_lookFrom_21 (lv_at hl 0 rfl) ?_
    refine lv_if_lt (tgt := 30) hx hb dX5_lookFrom_23 (by decide) (fun c4 => ?_) (fun c4 => ?_)
    · replace hF := ifp c4 hF
      refine lv_iload hx hb dX5_lookFrom_30 (lv_at hl 0 rfl) ?_
      refine lv_bipush (v := (-7 : Int32)) hx hb dX5_lookFrom_32 (by decide) ?_
      refine lv_icmp_eq (tgt := 40) hx hb dX5_lookFrom_34 (by decide) (fun c5 => ?_) (fun c5 => ?_)
      · replace hF := ifp c5 hF
        refine x_iinc (k := 3) (v := (1 : Int32)) (lv' := [(3, .int (x3 + (1 : Int32))), (4, .int r3), (0, vr x0), (1, vr x1)]) hx hb dX5_lookFrom_40 hl rfl (by decide) (by decide) (cI (cR (cR (cI cN)))) rfl (fun ls hl => ?_)
        refine lv_goto (tgt := 6) hx hb dX5_lookFrom_43 (by decide) ?_
        exact hk6 x0 x1 (x3 + (1 : Int32)) σ3 _ _ _ h g (lv_sub hl [2, 3, 0] rfl) hF
      · replace hF := ifn c5 hF
        refine lv_iload hx hb dX5_lookFrom_37 (lv_at hl 0 rfl) ?_
        obtain ⟨rfl, rfl⟩ := rts hF
        exact x_iret cx h dX5_lookFrom_39
    · replace hF := ifn c4 hF
      refine lv_iload_n hx hb dX5_lookFrom_26 rfl (lv_at hl 3 rfl) ?_
      refine lv_iconst (v := (4 : Int32)) hx hb dX5_lookFrom_27 (by decide) ?_
      refine lv_idiv hx hb dX5_lookFrom_28 (by decide) ?_
      obtain ⟨rfl, rfl⟩ := rts hF
      exact x_iret cx h dX5_lookFrom_29
def L_X5_lookFrom_6  : Nat → Nat → Nat → Int32 → HS → Option (Int32 × HS)
  | 0, _, _, _, _ => none
  | N + 1, x0, x1, x3, σ => B_X5_lookFrom_6 (L_X5_lookFrom_6  N) x0 x1 x3 σ
theorem mo_L_X5_lookFrom_6  : ∀ (N : Nat) (x0 : Nat) (x1 : Nat) (x3 : Int32) (σ : HS), Mo σ (L_X5_lookFrom_6  N x0 x1 x3 σ) := by
  intro N
  induction N with
  | zero => intro x0 x1 x3 σ; exact mo_none
  | succ N ih => intro x0 x1 x3 σ; exact mo_B_X5_lookFrom_6 ih x0 x1 x3 σ
theorem wl_X5_lookFrom_6 {p : Program} {l : Launch} {e : Env} {s : State} {m : MethodId} {args : Array Value} {below : List Frame} {meth : Method} {c : Code} {D : va_G} {dA : Nat → ClassId} {base : Nat} {σ0 τ : HS} {r : Int32} (cx : CX p s m args meth c cX5_lookFrom 5 (some .int) RX5 "lookFrom" D dA base)  : ∀ (N : Nat) (x0 : Nat) (x1 : Nat) (x3 : Int32) (σ : HS) (H : Heap) (locs : List Loc) (ls : Array Slot), Wd D dA base σ s H locs → LE σ0 σ → lv_has ls 5 [(0, vr x0), (1, vr x1), (3, .int x3)] → L_X5_lookFrom_6  N x0 x1 x3 σ = some (r, τ) → WG p l e s m args below meth c D dA base 6 137 (some (.int r)) σ0 τ σ H locs 6 ls [] := by
  intro N
  induction N with
  | zero => intro x0 x1 x3 σ H locs ls h g hl hF; cases hF
  | succ N ih => intro x0 x1 x3 σ H locs ls h g hl hF; exact w_X5_lookFrom_6 cx (mo_L_X5_lookFrom_6  N) ih x0 x1 x3 h g hl hF
def F_X5_lookFrom (a0 : Nat) (a1 : Nat) (a2 : Int32) (σ : HS) : Option (Int32 × HS) :=
  bd (F_X5_cellIndex a2 (0 : Int32) σ) (fun r1 σ1 => L_X5_lookFrom_6  NF a0 a1 r1 σ1)
theorem mo_F_X5_lookFrom (a0 : Nat) (a1 : Nat) (a2 : Int32) (σ : HS) : Mo σ (F_X5_lookFrom a0 a1 a2 σ) := by
  unfold F_X5_lookFrom
  exact (mo_bd (mo_F_X5_cellIndex a2 (0 : Int32) _) (fun r1 σ1 => (mo_L_X5_lookFrom_6  NF a0 a1 r1 _)))
set_option maxHeartbeats 4000000 in
set_option maxRecDepth 100000 in
theorem c_X5_lookFrom (l : Launch) (D : va_G) (dA : Nat → ClassId) (base : Nat) (a0 : Nat) (a1 : Nat) (a2 : Int32) {σ τ : HS} {r : Int32} (hF : F_X5_lookFrom a0 a1 a2 σ = some (r, τ)) : CT l yX5_lookFrom cX5_lookFrom 5 (some .int) 6 137 D dA base [vr a0, vr a1, .int a2] (some (.int r)) σ τ := by
  refine CT.of (lv := [(0, vr a0), (1, vr a1), (2, .int a2)]) (by decide) (vR (vR (vI vN))) (Nat.le_of_ble_eq_true rfl) rfl ?_
  intro p e s m args below meth c ls cx hl h
  have cx : CX p s m args meth c cX5_lookFrom 5 (some .int) RX5 "lookFrom" D dA base := cx
  have g : LE σ σ := LE.rf
  obtain ⟨hx, hb, -⟩ := id cx
  unfold F_X5_lookFrom at hF
  refine lv_iload_n hx hb dX5_lookFrom_0 rfl (lv_at hl 2 rfl) ?_
  refine lv_iconst (v := (0 : Int32)) hx hb dX5_lookFrom_1 (by decide) ?_
  obtain ⟨r1, σ1, hc1, hF⟩ := bds hF
  refine x_calli (σ := σ) g (LEm hc1 (mo_F_X5_cellIndex a2 (0 : Int32) _)) (x_runS (As := [.int a2, .int (0 : Int32)]) (rest := []) cx h (c_X5_cellIndex l D dA base a2 (0 : Int32) hc1) ml_X5_63 mi_X5_cellIndex rfl ⟨Nat.le_of_ble_eq_true rfl, Nat.le_of_ble_eq_true rfl⟩ hl.1 rfl (s8 sN (by decide)) dX5_lookFrom_2 (le_room g (LEm hc1 (mo_F_X5_cellIndex a2 (0 : Int32) _)) (LEm hF (mo_L_X5_lookFrom_6  NF a0 a1 r1 _)))) h (fun H locs h g => ?_)
  refine x_istore_n (lv' := [(3, .int r1), (0, vr a0), (1, vr a1), (2, .int a2)]) hx hb dX5_lookFrom_5 rfl hl (by decide) (cR (cR (cI cN))) rfl (fun ls hl => ?_)
  exact wl_X5_lookFrom_6 cx   NF a0 a1 r1 σ1 _ _ _ h g (lv_sub hl [1, 2, 0] rfl) hF
def B_X5_next_14   (σ : HS) : Option (Int32 × HS) :=
  some ((-1 : Int32), σ)
theorem mo_B_X5_next_14   (σ : HS) : Mo σ (B_X5_next_14   σ) := by
  unfold B_X5_next_14
  exact mo_ret
set_option maxHeartbeats 4000000 in
set_option maxRecDepth 100000 in
theorem w_X5_next_14 {p : Program} {l : Launch} {e : Env} {s : State} {m : MethodId} {args : Array Value} {below : List Frame} {meth : Method} {c : Code} {D : va_G} {dA : Nat → ClassId} {base : Nat} {σ0 τ : HS} {r : Int32} (cx : CX p s m args meth c cX5_next 5 (some .int) RX5 "next" D dA base)   {σ : HS} {H : Heap} {locs : List Loc} {ls : Array Slot} (h : Wd D dA base σ s H locs) (g : LE σ0 σ) (hl : lv_has ls 5 []) (hF : B_X5_next_14   σ = some (r, τ)) : WG p l e s m args below meth c D dA base 7 161 (some (.int r)) σ0 τ σ H locs 14 ls [] := by
  obtain ⟨hx, hb, -⟩ := id cx
  unfold B_X5_next_14 at hF
  refine lv_iconst (v := (-1 : Int32)) hx hb dX5_next_14 (by decide) ?_
  obtain ⟨rfl, rfl⟩ := rts hF
  exact x_iret cx h dX5_next_15
def F_X5_next (a0 : Nat) (a1 : Int32) (a2 : Int32) (σ : HS) : Option (Int32 × HS) :=
  bd (F_X5_isClient a1 σ) (fun r1 σ1 => if r1 = 0 then (B_X5_next_14   σ1) else (bd (F_X5_isRow a2 σ1) (fun r3 σ3 => if r3 = 0 then (B_X5_next_14   σ3) else (if kd σ3 a0 = 6 then (if kd σ3 (gr σ3 202 a0) = 103 ∧ inb a1 (ln σ3 (gr σ3 202 a0)) then (if kd σ3 (ar σ3 (gr σ3 202 a0) a1.toNatClampNeg) = 5 then (bd (F_X4_touch (ar σ3 (gr σ3 202 a0) a1.toNatClampNeg) (gi σ3 203 a0) σ3) (fun r8 σ8 => if kd σ8 (ar σ3 (gr σ3 202 a0) a1.toNatClampNeg) = 5 then (if (gi σ8 160 (ar σ3 (gr σ3 202 a0) a1.toNatClampNeg)) = (1 : Int32) then (if kd σ8 a0 = 6 then (bd (F_X5_lookFrom a0 (ar σ3 (gr σ3 202 a0) a1.toNatClampNeg) a2 σ8) (fun r12 σ12 => if kd σ12 a0 = 6 then (if kd σ12 (gr σ12 200 a0) = 4 then (bd (F_X3_putDownLog (gr σ12 200 a0) σ12) (fun r15 σ15 => some (r12, σ15))) else none) else none)) else none) else (some ((-3 : Int32), σ8))) else none)) else none) else none) else none))))
theorem mo_F_X5_next (a0 : Nat) (a1 : Int32) (a2 : Int32) (σ : HS) : Mo σ (F_X5_next a0 a1 a2 σ) := by
  unfold F_X5_next
  exact (mo_bd (mo_F_X5_isClient a1 _) (fun r1 σ1 => (mo_ite (mo_B_X5_next_14   _) (mo_bd (mo_F_X5_isRow a2 _) (fun r3 σ3 => (mo_ite (mo_B_X5_next_14   _) (mo_ite (mo_ite (mo_ite (mo_bd (mo_F_X4_touch (ar σ3 (gr σ3 202 a0) a1.toNatClampNeg) (gi σ3 203 a0) _) (fun r8 σ8 => (mo_ite (mo_ite (mo_ite (mo_bd (mo_F_X5_lookFrom a0 (ar σ3 (gr σ3 202 a0) a1.toNatClampNeg) a2 _) (fun r12 σ12 => (mo_ite (mo_ite (mo_bd (mo_F_X3_putDownLog (gr σ12 200 a0) _) (fun r15 σ15 => mo_ret)) mo_none) mo_none))) mo_none) mo_ret) mo_none))) mo_none) mo_none) mo_none)))))))
set_option maxHeartbeats 4000000 in
set_option maxRecDepth 100000 in
theorem c_X5_next (l : Launch) (D : va_G) (dA : Nat → ClassId) (base : Nat) (a0 : Nat) (a1 : Int32) (a2 : Int32) {σ τ : HS} {r : Int32} (hF : F_X5_next a0 a1 a2 σ = some (r, τ)) : CT l yX5_next cX5_next 5 (some .int) 7 161 D dA base [vr a0, .int a1, .int a2] (some (.int r)) σ τ := by
  refine CT.of (lv := [(0, vr a0), (1, .int a1), (2, .int a2)]) (by decide) (vR (vI (vI vN))) (Nat.le_of_ble_eq_true rfl) rfl ?_
  intro p e s m args below meth c ls cx hl h
  have cx : CX p s m args meth c cX5_next 5 (some .int) RX5 "next" D dA base := cx
  have g : LE σ σ := LE.rf
  obtain ⟨hx, hb, -⟩ := id cx
  unfold F_X5_next at hF
  refine lv_iload_n hx hb dX5_next_0 rfl (lv_at hl 1 rfl) ?_
  obtain ⟨r1, σ1, hc1, hF⟩ := bds hF
  refine x_calli (σ := σ) g (LEm hc1 (mo_F_X5_isClient a1 _)) (x_runS (As := [.int a1]) (rest := []) cx h (c_X5_isClient l D dA base a1 hc1) ml_X5_34 mi_X5_isClient rfl ⟨Nat.le_of_ble_eq_true rfl, Nat.le_of_ble_eq_true rfl⟩ hl.1 rfl (s8 sN (by decide)) dX5_next_1 (le_room g (LEm hc1 (mo_F_X5_isClient a1 _)) (LEm hF (mo_ite (mo_B_X5_next_14   _) (mo_bd (mo_F_X5_isRow a2 _) (fun r3 σ3 => (mo_ite (mo_B_X5_next_14   _) (mo_ite (mo_ite (mo_ite (mo_bd (mo_F_X4_touch (ar σ3 (gr σ3 202 a0) a1.toNatClampNeg) (gi σ3 203 a0) _) (fun r8 σ8 => (mo_ite (mo_ite (mo_ite (mo_bd (mo_F_X5_lookFrom a0 (ar σ3 (gr σ3 202 a0) a1.toNatClampNeg) a2 _) (fun r12 σ12 => (mo_ite (mo_ite (mo_bd (mo_F_X3_putDownLog (gr σ12 200 a0) _) (fun r15 σ15 => mo_ret)) mo_none) mo_none))) mo_none) mo_ret) mo_none))) mo_none) mo_none) mo_none)))))))) h (fun H locs h g => ?_)
  refine lv_if_eq (tgt := 14) hx hb dX5_next_4 (by decide) (fun c2 => ?_) (fun c2 => ?_)
  · replace hF := ifp c2 hF
    exact w_X5_next_14 (σ := σ1) cx    h g (lv_sub hl [] rfl) hF
  · replace hF := ifn c2 hF
    refine lv_iload_n hx hb dX5_next_7 rfl (lv_at hl 2 rfl) ?_
    obtain ⟨r3, σ3, hc3, hF⟩ := bds hF
    refine x_calli (σ := σ1) g (LEm hc3 (mo_F_X5_isRow a2 _)) (x_runS (As := [.int a2]) (rest := []) cx h (c_X5_isRow l D dA base a2 hc3) ml_X5_74 mi_X5_isRow rfl ⟨Nat.le_of_ble_eq_true rfl, Nat.le_of_ble_eq_true rfl⟩ hl.1 rfl (s8 sN (by decide)) dX5_next_8 (le_room g (LEm hc3 (mo_F_X5_isRow a2 _)) (LEm hF (mo_ite (mo_B_X5_next_14   _) (mo_ite (mo_ite (mo_ite (mo_bd (mo_F_X4_touch (ar σ3 (gr σ3 202 a0) a1.toNatClampNeg) (gi σ3 203 a0) _) (fun r8 σ8 => (mo_ite (mo_ite (mo_ite (mo_bd (mo_F_X5_lookFrom a0 (ar σ3 (gr σ3 202 a0) a1.toNatClampNeg) a2 _) (fun r12 σ12 => (mo_ite (mo_ite (mo_bd (mo_F_X3_putDownLog (gr σ12 200 a0) _) (fun r15 σ15 => mo_ret)) mo_none) mo_none))) mo_none) mo_ret) mo_none))) mo_none) mo_none) mo_none))))) h (fun H locs h g => ?_)
    refine lv_if_ne (tgt := 16) hx hb dX5_next_11 (by decide) (fun c4 => ?_) (fun c4 => ?_)
    · replace hF := ifn c4 hF
      refine x_aload_n hx hb dX5_next_16 rfl (lv_at hl 0 rfl) ?_
      obtain ⟨hq5, hF⟩ := ifs hF
      refine x_getr cx h fa_X5_25 (f := 202) rfl hq5 dX5_next_17 ?_
      refine lv_iload_n hx hb dX5_next_20 rfl (lv_at hl 1 rfl) ?_
      obtain ⟨hq6, hF⟩ := ifs hF
      refine x_aald cx h RA3 hq6.1 (inb.vp hq6.2) dX5_next_21 ?_
      refine x_astore_n (lv' := [(3, vr (ar σ3 (gr σ3 202 a0) a1.toNatClampNeg)), (0, vr a0), (1, .int a1), (2, .int a2)]) hx hb dX5_next_22 rfl hl (by decide) (cR (cI (cI cN))) rfl (fun ls hl => ?_)
      refine x_aload_n hx hb dX5_next_23 rfl (lv_at hl 0 rfl) ?_
      refine x_aload_n hx hb dX5_next_24 rfl (lv_at hl 1 rfl) ?_
      refine x_geti cx h fa_X5_41 (f := 203) rfl hq5 dX5_next_25 ?_
      obtain ⟨hq7, hF⟩ := ifs hF
      obtain ⟨r8, σ8, hc8, hF⟩ := bds hF
      refine x_callv (σ := σ3) g (LEm hc8 (mo_F_X4_touch (ar σ3 (gr σ3 202 a0) a1.toNatClampNeg) (gi σ3 203 a0) _)) (x_runV (As := [.int (gi σ3 203 a0)]) (rest := []) cx h (c_X4_touch l D dA base (ar σ3 (gr σ3 202 a0) a1.toNatClampNeg) (gi σ3 203 a0) hc8) ml_X5_44 mi_X4_touch hq7 rfl ⟨Nat.le_of_ble_eq_true rfl, Nat.le_of_ble_eq_true rfl⟩ hl.1 rfl (s8 sN (by decide)) dX5_next_28 (le_room g (LEm hc8 (mo_F_X4_touch (ar σ3 (gr σ3 202 a0) a1.toNatClampNeg) (gi σ3 203 a0) _)) (LEm hF (mo_ite (mo_ite (mo_ite (mo_bd (mo_F_X5_lookFrom a0 (ar σ3 (gr σ3 202 a0) a1.toNatClampNeg) a2 _) (fun r12 σ12 => (mo_ite (mo_ite (mo_bd (mo_F_X3_putDownLog (gr σ12 200 a0) _) (fun r15 σ15 => mo_ret)) mo_none) mo_none))) mo_none) mo_ret) mo_none)))) h (fun H locs h g => ?_)
      refine x_aload_n hx hb dX5_next_31 rfl (lv_at hl 0 rfl) ?_
      obtain ⟨hq9, hF⟩ := ifs hF
      refine x_geti cx h fa_X5_38 (f := 160) rfl hq9 dX5_next_32 ?_
      refine lv_iconst (v := (1 : Int32)) hx hb dX5_next_35 (by decide) ?_
      refine lv_icmp_eq (tgt := 42) hx hb dX5_next_36 (by decide) (fun c10 => ?_) (fun c10 => ?_)
      · replace hF := ifp c10 hF
        refine x_aload_n hx hb dX5_next_42 rfl (lv_at hl 1 rfl) ?_
        refine x_aload_n hx hb dX5_next_43 rfl (lv_at hl 0 rfl) ?_
        refine lv_iload_n hx hb dX5_next_44 rfl (lv_at hl 3 rfl) ?_
        obtain ⟨hq11, hF⟩ := ifs hF
        obtain ⟨r12, σ12, hc12, hF⟩ := bds hF
        refine x_calli (σ := σ8) g (LEm hc12 (mo_F_X5_lookFrom a0 (ar σ3 (gr σ3 202 a0) a1.toNatClampNeg) a2 _)) (x_runV (As := [vr (ar σ3 (gr σ3 202 a0) a1.toNatClampNeg), .int a2]) (rest := []) cx h (c_X5_lookFrom l D dA base a0 (ar σ3 (gr σ3 202 a0) a1.toNatClampNeg) a2 hc12) ml_X5_77 mi_X5_lookFrom hq11 rfl ⟨Nat.le_of_ble_eq_true rfl, Nat.le_of_ble_eq_true rfl⟩ hl.1 rfl (s8 sN (by decide)) dX5_next_45 (le_room g (LEm hc12 (mo_F_X5_lookFrom a0 (ar σ3 (gr σ3 202 a0) a1.toNatClampNeg) a2 _)) (LEm hF (mo_ite (mo_ite (mo_bd (mo_F_X3_putDownLog (gr σ12 200 a0) _) (fun r15 σ15 => mo_ret)) mo_none) mo_none)))) h (fun H locs h g => ?_)
        refine x_istore (lv' := [(4, .int r12), (3, vr (ar σ3 (gr σ3 202 a0) a1.toNatClampNeg)), (0, vr a0), (1, .int a1), (2, .int a2)]) hx hb dX5_next_48 hl (by decide) (cR (cR (cI (cI cN)))) rfl (fun ls hl => ?_)
        refine x_aload_n hx hb dX5_next_50 rfl (lv_at hl 2 rfl) ?_
        obtain ⟨hq13, hF⟩ := ifs hF
        refine x_getr cx h fa_X5_10 (f := 200) rfl hq13 dX5_next_51 ?_
        obtain ⟨hq14, hF⟩ := ifs hF
        obtain ⟨r15, σ15, hc15, hF⟩ := bds hF
        refine x_callv (σ := σ12) g (LEm hc15 (mo_F_X3_putDownLog (gr σ12 200 a0) _)) (x_runV (As := []) (rest := []) cx h (c_X3_putDownLog l D dA base (gr σ12 200 a0) hc15) ml_X5_71 mi_X3_putDownLog hq14 rfl ⟨Nat.le_of_ble_eq_true rfl, Nat.le_of_ble_eq_true rfl⟩ hl.1 rfl (s8 sN (by decide)) dX5_next_54 (le_room g (LEm hc15 (mo_F_X3_putDownLog (gr σ12 200 a0) _)) (LEm hF mo_ret))) h (fun H locs h g => ?_)
        refine lv_iload hx hb dX5_next_57 (lv_at hl 0 rfl) ?_
        obtain ⟨rfl, rfl⟩ := rts hF
        exact x_iret cx h dX5_next_59
      · replace hF := ifn c10 hF
        refine lv_bipush (v := (-3 : Int32)) hx hb dX5_next_39 (by decide) ?_
        obtain ⟨rfl, rfl⟩ := rts hF
        exact x_iret cx h dX5_next_41
    · replace hF := ifp c4 hF
      exact w_X5_next_14 (σ := σ3) cx    h g (lv_sub hl [] rfl) hF
def B_X5_write_15   (σ : HS) : Option (Int32 × HS) :=
  some ((-1 : Int32), σ)
theorem mo_B_X5_write_15   (σ : HS) : Mo σ (B_X5_write_15   σ) := by
  unfold B_X5_write_15
  exact mo_ret
set_option maxHeartbeats 4000000 in
set_option maxRecDepth 100000 in
theorem w_X5_write_15 {p : Program} {l : Launch} {e : Env} {s : State} {m : MethodId} {args : Array Value} {below : List Frame} {meth : Method} {c : Code} {D : va_G} {dA : Nat → ClassId} {base : Nat} {σ0 τ : HS} {r : Int32} (cx : CX p s m args meth c cX5_write 6 (some .int) RX5 "write" D dA base)   {σ : HS} {H : Heap} {locs : List Loc} {ls : Array Slot} (h : Wd D dA base σ s H locs) (g : LE σ0 σ) (hl : lv_has ls 6 []) (hF : B_X5_write_15   σ = some (r, τ)) : WG p l e s m args below meth c D dA base 2 45 (some (.int r)) σ0 τ σ H locs 15 ls [] := by
  obtain ⟨hx, hb, -⟩ := id cx
  unfold B_X5_write_15 at hF
  refine lv_iconst (v := (-1 : Int32)) hx hb dX5_write_15 (by decide) ?_
  obtain ⟨rfl, rfl⟩ := rts hF
  exact x_iret cx h dX5_write_16
def B_X5_write_80  (y0 : Int32) (σ : HS) : Option (Int32 × HS) :=
  some (y0, σ)
theorem mo_B_X5_write_80  (y0 : Int32) (σ : HS) : Mo σ (B_X5_write_80  y0 σ) := by
  unfold B_X5_write_80
  exact mo_ret
set_option maxHeartbeats 4000000 in
set_option maxRecDepth 100000 in
theorem w_X5_write_80 {p : Program} {l : Launch} {e : Env} {s : State} {m : MethodId} {args : Array Value} {below : List Frame} {meth : Method} {c : Code} {D : va_G} {dA : Nat → ClassId} {base : Nat} {σ0 τ : HS} {r : Int32} (cx : CX p s m args meth c cX5_write 6 (some .int) RX5 "write" D dA base)  (y0 : Int32) {σ : HS} {H : Heap} {locs : List Loc} {ls : Array Slot} (h : Wd D dA base σ s H locs) (g : LE σ0 σ) (hl : lv_has ls 6 []) (hF : B_X5_write_80  y0 σ = some (r, τ)) : WG p l e s m args below meth c D dA base 2 45 (some (.int r)) σ0 τ σ H locs 80 ls [.int y0] := by
  obtain ⟨hx, hb, -⟩ := id cx
  unfold B_X5_write_80 at hF
  obtain ⟨rfl, rfl⟩ := rts hF
  exact x_iret cx h dX5_write_80
def F_X5_write (a0 : Nat) (a1 : Int32) (a2 : Int32) (a3 : Int32) (a4 : Int32) (σ : HS) : Option (Int32 × HS) :=
  bd (F_X5_isClient a1 σ) (fun r1 σ1 => if r1 = 0 then (B_X5_write_15   σ1) else (bd (F_X5_isCell a2 a3 σ1) (fun r3 σ3 => if r3 = 0 then (B_X5_write_15   σ3) else (if kd σ3 a0 = 6 then (if kd σ3 (gr σ3 202 a0) = 103 ∧ inb a1 (ln σ3 (gr σ3 202 a0)) then (if kd σ3 (ar σ3 (gr σ3 202 a0) a1.toNatClampNeg) = 5 then (bd (F_X4_touch (ar σ3 (gr σ3 202 a0) a1.toNatClampNeg) (gi σ3 203 a0) σ3) (fun r8 σ8 => if (-1 : Int32) ≤ a4 then (if kd σ8 (ar σ3 (gr σ3 202 a0) a1.toNatClampNeg) = 5 then (if (gi σ8 160 (ar σ3 (gr σ3 202 a0) a1.toNatClampNeg)) = (1 : Int32) then (bd (F_X5_cellIndex a2 a3 σ8) (fun r12 σ12 => if kd σ12 (ar σ3 (gr σ3 202 a0) a1.toNatClampNeg) = 5 then (bd (F_X4_put (ar σ3 (gr σ3 202 a0) a1.toNatClampNeg) r12 a4 σ12) (fun r14 σ14 => if r14 = 0 then (B_X5_write_80  (-4 : Int32) σ14) else (if kd σ14 (ar σ3 (gr σ3 202 a0) a1.toNatClampNeg) = 5 then (B_X5_write_80  (gi σ14 164 (ar σ3 (gr σ3 202 a0) a1.toNatClampNeg)) σ14) else none))) else none)) else (some ((-3 : Int32), σ8))) else none) else (some ((-2 : Int32), σ8)))) else none) else none) else none))))
theorem mo_F_X5_write (a0 : Nat) (a1 : Int32) (a2 : Int32) (a3 : Int32) (a4 : Int32) (σ : HS) : Mo σ (F_X5_write a0 a1 a2 a3 a4 σ) := by
  unfold F_X5_write
  exact (mo_bd (mo_F_X5_isClient a1 _) (fun r1 σ1 => (mo_ite (mo_B_X5_write_15   _) (mo_bd (mo_F_X5_isCell a2 a3 _) (fun r3 σ3 => (mo_ite (mo_B_X5_write_15   _) (mo_ite (mo_ite (mo_ite (mo_bd (mo_F_X4_touch (ar σ3 (gr σ3 202 a0) a1.toNatClampNeg) (gi σ3 203 a0) _) (fun r8 σ8 => (mo_ite (mo_ite (mo_ite (mo_bd (mo_F_X5_cellIndex a2 a3 _) (fun r12 σ12 => (mo_ite (mo_bd (mo_F_X4_put (ar σ3 (gr σ3 202 a0) a1.toNatClampNeg) r12 a4 _) (fun r14 σ14 => (mo_ite (mo_B_X5_write_80  (-4 : Int32) _) (mo_ite (mo_B_X5_write_80  (gi σ14 164 (ar σ3 (gr σ3 202 a0) a1.toNatClampNeg)) _) mo_none)))) mo_none))) mo_ret) mo_none) mo_ret))) mo_none) mo_none) mo_none)))))))
set_option maxHeartbeats 4000000 in
set_option maxRecDepth 100000 in
theorem c_X5_write (l : Launch) (D : va_G) (dA : Nat → ClassId) (base : Nat) (a0 : Nat) (a1 : Int32) (a2 : Int32) (a3 : Int32) (a4 : Int32) {σ τ : HS} {r : Int32} (hF : F_X5_write a0 a1 a2 a3 a4 σ = some (r, τ)) : CT l yX5_write cX5_write 6 (some .int) 2 45 D dA base [vr a0, .int a1, .int a2, .int a3, .int a4] (some (.int r)) σ τ := by
  refine CT.of (lv := [(0, vr a0), (1, .int a1), (2, .int a2), (3, .int a3), (4, .int a4)]) (by decide) (vR (vI (vI (vI (vI vN))))) (Nat.le_of_ble_eq_true rfl) rfl ?_
  intro p e s m args below meth c ls cx hl h
  have cx : CX p s m args meth c cX5_write 6 (some .int) RX5 "write" D dA base := cx
  have g : LE σ σ := LE.rf
  obtain ⟨hx, hb, -⟩ := id cx
  unfold F_X5_write at hF
  refine lv_iload_n hx hb dX5_write_0 rfl (lv_at hl 1 rfl) ?_
  obtain ⟨r1, σ1, hc1, hF⟩ := bds hF
  refine x_calli (σ := σ) g (LEm hc1 (mo_F_X5_isClient a1 _)) (x_runS (As := [.int a1]) (rest := []) cx h (c_X5_isClient l D dA base a1 hc1) ml_X5_34 mi_X5_isClient rfl ⟨Nat.le_of_ble_eq_true rfl, Nat.le_of_ble_eq_true rfl⟩ hl.1 rfl (s8 sN (by decide)) dX5_write_1 (le_room g (LEm hc1 (mo_F_X5_isClient a1 _)) (LEm hF (mo_ite (mo_B_X5_write_15   _) (mo_bd (mo_F_X5_isCell a2 a3 _) (fun r3 σ3 => (mo_ite (mo_B_X5_write_15   _) (mo_ite (mo_ite (mo_ite (mo_bd (mo_F_X4_touch (ar σ3 (gr σ3 202 a0) a1.toNatClampNeg) (gi σ3 203 a0) _) (fun r8 σ8 => (mo_ite (mo_ite (mo_ite (mo_bd (mo_F_X5_cellIndex a2 a3 _) (fun r12 σ12 => (mo_ite (mo_bd (mo_F_X4_put (ar σ3 (gr σ3 202 a0) a1.toNatClampNeg) r12 a4 _) (fun r14 σ14 => (mo_ite (mo_B_X5_write_80  (-4 : Int32) _) (mo_ite (mo_B_X5_write_80  (gi σ14 164 (ar σ3 (gr σ3 202 a0) a1.toNatClampNeg)) _) mo_none)))) mo_none))) mo_ret) mo_none) mo_ret))) mo_none) mo_none) mo_none)))))))) h (fun H locs h g => ?_)
  refine lv_if_eq (tgt := 15) hx hb dX5_write_4 (by decide) (fun c2 => ?_) (fun c2 => ?_)
  · replace hF := ifp c2 hF
    exact w_X5_write_15 (σ := σ1) cx    h g (lv_sub hl [] rfl) hF
  · replace hF := ifn c2 hF
    refine lv_iload_n hx hb dX5_write_7 rfl (lv_at hl 2 rfl) ?_
    refine lv_iload_n hx hb dX5_write_8 rfl (lv_at hl 3 rfl) ?_
    obtain ⟨r3, σ3, hc3, hF⟩ := bds hF
    refine x_calli (σ := σ1) g (LEm hc3 (mo_F_X5_isCell a2 a3 _)) (x_runS (As := [.int a2, .int a3]) (rest := []) cx h (c_X5_isCell l D dA base a2 a3 hc3) ml_X5_59 mi_X5_isCell rfl ⟨Nat.le_of_ble_eq_true rfl, Nat.le_of_ble_eq_true rfl⟩ hl.1 rfl (s8 sN (by decide)) dX5_write_9 (le_room g (LEm hc3 (mo_F_X5_isCell a2 a3 _)) (LEm hF (mo_ite (mo_B_X5_write_15   _) (mo_ite (mo_ite (mo_ite (mo_bd (mo_F_X4_touch (ar σ3 (gr σ3 202 a0) a1.toNatClampNeg) (gi σ3 203 a0) _) (fun r8 σ8 => (mo_ite (mo_ite (mo_ite (mo_bd (mo_F_X5_cellIndex a2 a3 _) (fun r12 σ12 => (mo_ite (mo_bd (mo_F_X4_put (ar σ3 (gr σ3 202 a0) a1.toNatClampNeg) r12 a4 _) (fun r14 σ14 => (mo_ite (mo_B_X5_write_80  (-4 : Int32) _) (mo_ite (mo_B_X5_write_80  (gi σ14 164 (ar σ3 (gr σ3 202 a0) a1.toNatClampNeg)) _) mo_none)))) mo_none))) mo_ret) mo_none) mo_ret))) mo_none) mo_none) mo_none))))) h (fun H locs h g => ?_)
    refine lv_if_ne (tgt := 17) hx hb dX5_write_12 (by decide) (fun c4 => ?_) (fun c4 => ?_)
    · replace hF := ifn c4 hF
      refine x_aload_n hx hb dX5_write_17 rfl (lv_at hl 0 rfl) ?_
      obtain ⟨hq5, hF⟩ := ifs hF
      refine x_getr cx h fa_X5_25 (f := 202) rfl hq5 dX5_write_18 ?_
      refine lv_iload_n hx hb dX5_write_21 rfl (lv_at hl 1 rfl) ?_
      obtain ⟨hq6, hF⟩ := ifs hF
      refine x_aald cx h RA3 hq6.1 (inb.vp hq6.2) dX5_write_22 ?_
      refine x_astore (lv' := [(5, vr (ar σ3 (gr σ3 202 a0) a1.toNatClampNeg)), (0, vr a0), (1, .int a1), (2, .int a2), (3, .int a3), (4, .int a4)]) hx hb dX5_write_23 hl (by decide) (cR (cI (cI (cI (cI cN))))) rfl (fun ls hl => ?_)
      refine x_aload hx hb dX5_write_25 (lv_at hl 0 rfl) ?_
      refine x_aload_n hx hb dX5_write_27 rfl (lv_at hl 1 rfl) ?_
      refine x_geti cx h fa_X5_41 (f := 203) rfl hq5 dX5_write_28 ?_
      obtain ⟨hq7, hF⟩ := ifs hF
      obtain ⟨r8, σ8, hc8, hF⟩ := bds hF
      refine x_callv (σ := σ3) g (LEm hc8 (mo_F_X4_touch (ar σ3 (gr σ3 202 a0) a1.toNatClampNeg) (gi σ3 203 a0) _)) (x_runV (As := [.int (gi σ3 203 a0)]) (rest := []) cx h (c_X4_touch l D dA base (ar σ3 (gr σ3 202 a0) a1.toNatClampNeg) (gi σ3 203 a0) hc8) ml_X5_44 mi_X4_touch hq7 rfl ⟨Nat.le_of_ble_eq_true rfl, Nat.le_of_ble_eq_true rfl⟩ hl.1 rfl (s8 sN (by decide)) dX5_write_31 (le_room g (LEm hc8 (mo_F_X4_touch (ar σ3 (gr σ3 202 a0) a1.toNatClampNeg) (gi σ3 203 a0) _)) (LEm hF (mo_ite (mo_ite (mo_ite (mo_bd (mo_F_X5_cellIndex a2 a3 _) (fun r12 σ12 => (mo_ite (mo_bd (mo_F_X4_put (ar σ3 (gr σ3 202 a0) a1.toNatClampNeg) r12 a4 _) (fun r14 σ14 => (mo_ite (mo_B_X5_write_80  (-4 : Int32) _) (mo_ite (mo_B_X5_write_80  (gi σ14 164 (ar σ3 (gr σ3 202 a0) a1.toNatClampNeg)) _) mo_none)))) mo_none))) mo_ret) mo_none) mo_ret)))) h (fun H locs h g => ?_)
      refine lv_iload hx hb dX5_write_34 (lv_at hl 5 rfl) ?_
      refine lv_iconst (v := (-1 : Int32)) hx hb dX5_write_36 (by decide) ?_
      refine lv_icmp_ge (tgt := 43) hx hb dX5_write_37 (by decide) (fun c9 => ?_) (fun c9 => ?_)
      · replace hF := ifp c9 hF
        refine x_aload hx hb dX5_write_43 (lv_at hl 0 rfl) ?_
        obtain ⟨hq10, hF⟩ := ifs hF
        refine x_geti cx h fa_X5_38 (f := 160) rfl hq10 dX5_write_45 ?_
        refine lv_iconst (v := (1 : Int32)) hx hb dX5_write_48 (by decide) ?_
        refine lv_icmp_eq (tgt := 55) hx hb dX5_write_49 (by decide) (fun c11 => ?_) (fun c11 => ?_)
        · replace hF := ifp c11 hF
          refine x_aload hx hb dX5_write_55 (lv_at hl 0 rfl) ?_
          refine lv_iload_n hx hb dX5_write_57 rfl (lv_at hl 3 rfl) ?_
          refine lv_iload_n hx hb dX5_write_58 rfl (lv_at hl 4 rfl) ?_
          obtain ⟨r12, σ12, hc12, hF⟩ := bds hF
          refine x_calli (σ := σ8) g (LEm hc12 (mo_F_X5_cellIndex a2 a3 _)) (x_runS (As := [.int a2, .int a3]) (rest := [vr (ar σ3 (gr σ3 202 a0) a1.toNatClampNeg)]) cx h (c_X5_cellIndex l D dA base a2 a3 hc12) ml_X5_63 mi_X5_cellIndex rfl ⟨Nat.le_of_ble_eq_true rfl, Nat.le_of_ble_eq_true rfl⟩ hl.1 rfl (s8 (sR sN) (by decide)) dX5_write_59 (le_room g (LEm hc12 (mo_F_X5_cellIndex a2 a3 _)) (LEm hF (mo_ite (mo_bd (mo_F_X4_put (ar σ3 (gr σ3 202 a0) a1.toNatClampNeg) r12 a4 _) (fun r14 σ14 => (mo_ite (mo_B_X5_write_80  (-4 : Int32) _) (mo_ite (mo_B_X5_write_80  (gi σ14 164 (ar σ3 (gr σ3 202 a0) a1.toNatClampNeg)) _) mo_none)))) mo_none)))) h (fun H locs h g => ?_)
          refine lv_iload hx hb dX5_write_62 (lv_at hl 5 rfl) ?_
          obtain ⟨hq13, hF⟩ := ifs hF
          obtain ⟨r14, σ14, hc14, hF⟩ := bds hF
          refine x_calli (σ := σ12) g (LEm hc14 (mo_F_X4_put (ar σ3 (gr σ3 202 a0) a1.toNatClampNeg) r12 a4 _)) (x_runV (As := [.int r12, .int a4]) (rest := []) cx h (c_X4_put l D dA base (ar σ3 (gr σ3 202 a0) a1.toNatClampNeg) r12 a4 hc14) ml_X5_80 mi_X4_put hq13 rfl ⟨Nat.le_of_ble_eq_true rfl, Nat.le_of_ble_eq_true rfl⟩ hl.1 rfl (s8 sN (by decide)) dX5_write_64 (le_room g (LEm hc14 (mo_F_X4_put (ar σ3 (gr σ3 202 a0) a1.toNatClampNeg) r12 a4 _)) (LEm hF (mo_ite (mo_B_X5_write_80  (-4 : Int32) _) (mo_ite (mo_B_X5_write_80  (gi σ14 164 (ar σ3 (gr σ3 202 a0) a1.toNatClampNeg)) _) mo_none))))) h (fun H locs h g => ?_)
          refine lv_if_eq (tgt := 78) hx hb dX5_write_67 (by decide) (fun c15 => ?_) (fun c15 => ?_)
          · replace hF := ifp c15 hF
            refine lv_bipush (v := (-4 : Int32)) hx hb dX5_write_78 (by decide) ?_
            exact w_X5_write_80 (σ := σ14) cx   (-4 : Int32) h g (lv_sub hl [] rfl) hF
          · replace hF := ifn c15 hF
            refine x_aload hx hb dX5_write_70 (lv_at hl 0 rfl) ?_
            obtain ⟨hq16, hF⟩ := ifs hF
            refine x_geti cx h fa_X5_83 (f := 164) rfl hq16 dX5_write_72 ?_
            refine lv_goto (tgt := 80) hx hb dX5_write_75 (by decide) ?_
            exact w_X5_write_80 (σ := σ14) cx   (gi σ14 164 (ar σ3 (gr σ3 202 a0) a1.toNatClampNeg)) h g (lv_sub hl [] rfl) hF
        · replace hF := ifn c11 hF
          refine lv_bipush (v := (-3 : Int32)) hx hb dX5_write_52 (by decide) ?_
          obtain ⟨rfl, rfl⟩ := rts hF
          exact x_iret cx h dX5_write_54
      · replace hF := ifn c9 hF
        refine lv_bipush (v := (-2 : Int32)) hx hb dX5_write_40 (by decide) ?_
        obtain ⟨rfl, rfl⟩ := rts hF
        exact x_iret cx h dX5_write_42
    · replace hF := ifp c4 hF
      exact w_X5_write_15 (σ := σ3) cx    h g (lv_sub hl [] rfl) hF
def F_X5_commit (a0 : Nat) (a1 : Int32) (σ : HS) : Option (Int32 × HS) :=
  bd (F_X5_isClient a1 σ) (fun r1 σ1 => if r1 = 0 then (some ((-1 : Int32), σ1)) else (if kd σ1 a0 = 6 then (if kd σ1 (gr σ1 202 a0) = 103 ∧ inb a1 (ln σ1 (gr σ1 202 a0)) then (if kd σ1 (ar σ1 (gr σ1 202 a0) a1.toNatClampNeg) = 5 then (bd (F_X4_touch (ar σ1 (gr σ1 202 a0) a1.toNatClampNeg) (gi σ1 203 a0) σ1) (fun r6 σ6 => if kd σ6 (ar σ1 (gr σ1 202 a0) a1.toNatClampNeg) = 5 then (if (gi σ6 160 (ar σ1 (gr σ1 202 a0) a1.toNatClampNeg)) = (1 : Int32) then (if (gi σ6 164 (ar σ1 (gr σ1 202 a0) a1.toNatClampNeg)) = 0 then (bd (F_X4_end (ar σ1 (gr σ1 202 a0) a1.toNatClampNeg) σ6) (fun r10 σ10 => some ((3 : Int32), σ10))) else (some ((1 : Int32), (si σ6 160 (ar σ1 (gr σ1 202 a0) a1.toNatClampNeg) (2 : Int32))))) else (some ((-3 : Int32), σ6))) else none)) else none) else none) else none))
theorem mo_F_X5_commit (a0 : Nat) (a1 : Int32) (σ : HS) : Mo σ (F_X5_commit a0 a1 σ) := by
  unfold F_X5_commit
  exact (mo_bd (mo_F_X5_isClient a1 _) (fun r1 σ1 => (mo_ite mo_ret (mo_ite (mo_ite (mo_ite (mo_bd (mo_F_X4_touch (ar σ1 (gr σ1 202 a0) a1.toNatClampNeg) (gi σ1 203 a0) _) (fun r6 σ6 => (mo_ite (mo_ite (mo_ite (mo_bd (mo_F_X4_end (ar σ1 (gr σ1 202 a0) a1.toNatClampNeg) _) (fun r10 σ10 => mo_ret)) (mo_le (τ := (si σ6 160 (ar σ1 (gr σ1 202 a0) a1.toNatClampNeg) (2 : Int32))) ⟨Nat.le_refl _, Nat.le_refl _⟩ mo_ret)) mo_ret) mo_none))) mo_none) mo_none) mo_none))))
set_option maxHeartbeats 4000000 in
set_option maxRecDepth 100000 in
theorem c_X5_commit (l : Launch) (D : va_G) (dA : Nat → ClassId) (base : Nat) (a0 : Nat) (a1 : Int32) {σ τ : HS} {r : Int32} (hF : F_X5_commit a0 a1 σ = some (r, τ)) : CT l yX5_commit cX5_commit 3 (some .int) 1 21 D dA base [vr a0, .int a1] (some (.int r)) σ τ := by
  refine CT.of (lv := [(0, vr a0), (1, .int a1)]) (by decide) (vR (vI vN)) (Nat.le_of_ble_eq_true rfl) rfl ?_
  intro p e s m args below meth c ls cx hl h
  have cx : CX p s m args meth c cX5_commit 3 (some .int) RX5 "commit" D dA base := cx
  have g : LE σ σ := LE.rf
  obtain ⟨hx, hb, -⟩ := id cx
  unfold F_X5_commit at hF
  refine lv_iload_n hx hb dX5_commit_0 rfl (lv_at hl 1 rfl) ?_
  obtain ⟨r1, σ1, hc1, hF⟩ := bds hF
  refine x_calli (σ := σ) g (LEm hc1 (mo_F_X5_isClient a1 _)) (x_runS (As := [.int a1]) (rest := []) cx h (c_X5_isClient l D dA base a1 hc1) ml_X5_34 mi_X5_isClient rfl ⟨Nat.le_of_ble_eq_true rfl, Nat.le_of_ble_eq_true rfl⟩ hl.1 rfl (s8 sN (by decide)) dX5_commit_1 (le_room g (LEm hc1 (mo_F_X5_isClient a1 _)) (LEm hF (mo_ite mo_ret (mo_ite (mo_ite (mo_ite (mo_bd (mo_F_X4_touch (ar σ1 (gr σ1 202 a0) a1.toNatClampNeg) (gi σ1 203 a0) _) (fun r6 σ6 => (mo_ite (mo_ite (mo_ite (mo_bd (mo_F_X4_end (ar σ1 (gr σ1 202 a0) a1.toNatClampNeg) _) (fun r10 σ10 => mo_ret)) (mo_le (τ := (si σ6 160 (ar σ1 (gr σ1 202 a0) a1.toNatClampNeg) (2 : Int32))) ⟨Nat.le_refl _, Nat.le_refl _⟩ mo_ret)) mo_ret) mo_none))) mo_none) mo_none) mo_none))))) h (fun H locs h g => ?_)
  refine lv_if_ne (tgt := 9) hx hb dX5_commit_4 (by decide) (fun c2 => ?_) (fun c2 => ?_)
  · replace hF := ifn c2 hF
    refine x_aload_n hx hb dX5_commit_9 rfl (lv_at hl 0 rfl) ?_
    obtain ⟨hq3, hF⟩ := ifs hF
    refine x_getr cx h fa_X5_25 (f := 202) rfl hq3 dX5_commit_10 ?_
    refine lv_iload_n hx hb dX5_commit_13 rfl (lv_at hl 1 rfl) ?_
    obtain ⟨hq4, hF⟩ := ifs hF
    refine x_aald cx h RA3 hq4.1 (inb.vp hq4.2) dX5_commit_14 ?_
    refine x_astore_n (lv' := [(2, vr (ar σ1 (gr σ1 202 a0) a1.toNatClampNeg)), (0, vr a0), (1, .int a1)]) hx hb dX5_commit_15 rfl hl (by decide) (cR (cI cN)) rfl (fun ls hl => ?_)
    refine x_aload_n hx hb dX5_commit_16 rfl (lv_at hl 0 rfl) ?_
    refine x_aload_n hx hb dX5_commit_17 rfl (lv_at hl 1 rfl) ?_
    refine x_geti cx h fa_X5_41 (f := 203) rfl hq3 dX5_commit_18 ?_
    obtain ⟨hq5, hF⟩ := ifs hF
    obtain ⟨r6, σ6, hc6, hF⟩ := bds hF
    refine x_callv (σ := σ1) g (LEm hc6 (mo_F_X4_touch (ar σ1 (gr σ1 202 a0) a1.toNatClampNeg) (gi σ1 203 a0) _)) (x_runV (As := [.int (gi σ1 203 a0)]) (rest := []) cx h (c_X4_touch l D dA base (ar σ1 (gr σ1 202 a0) a1.toNatClampNeg) (gi σ1 203 a0) hc6) ml_X5_44 mi_X4_touch hq5 rfl ⟨Nat.le_of_ble_eq_true rfl, Nat.le_of_ble_eq_true rfl⟩ hl.1 rfl (s8 sN (by decide)) dX5_commit_21 (le_room g (LEm hc6 (mo_F_X4_touch (ar σ1 (gr σ1 202 a0) a1.toNatClampNeg) (gi σ1 203 a0) _)) (LEm hF (mo_ite (mo_ite (mo_ite (mo_bd (mo_F_X4_end (ar σ1 (gr σ1 202 a0) a1.toNatClampNeg) _) (fun r10 σ10 => mo_ret)) (mo_le (τ := (si σ6 160 (ar σ1 (gr σ1 202 a0) a1.toNatClampNeg) (2 : Int32))) ⟨Nat.le_refl _, Nat.le_refl _⟩ mo_ret)) mo_ret) mo_none)))) h (fun H locs h g => ?_)
    refine x_aload_n hx hb dX5_commit_24 rfl (lv_at hl 0 rfl) ?_
    obtain ⟨hq7, hF⟩ := ifs hF
    refine x_geti cx h fa_X5_38 (f := 160) rfl hq7 dX5_commit_25 ?_
    refine lv_iconst (v := (1 : Int32)) hx hb dX5_commit_28 (by decide) ?_
    refine lv_icmp_eq (tgt := 35) hx hb dX5_commit_29 (by decide) (fun c8 => ?_) (fun c8 => ?_)
    · replace hF := ifp c8 hF
      refine x_aload_n hx hb dX5_commit_35 rfl (lv_at hl 0 rfl) ?_
      refine x_geti cx h fa_X5_83 (f := 164) rfl hq7 dX5_commit_36 ?_
      refine lv_if_ne (tgt := 48) hx hb dX5_commit_39 (by decide) (fun c9 => ?_) (fun c9 => ?_)
      · replace hF := ifn c9 hF
        refine x_aload_n hx hb dX5_commit_48 rfl (lv_at hl 0 rfl) ?_
        refine lv_iconst (v := (2 : Int32)) hx hb dX5_commit_49 (by decide) ?_
        refine x_sti cx h fa_X5_38 (f := 160) rfl (Or.inl rfl) hq7 dX5_commit_50 (fun H locs h => ?_)
        refine lv_iconst (v := (1 : Int32)) hx hb dX5_commit_53 (by decide) ?_
        obtain ⟨rfl, rfl⟩ := rts hF
        exact x_iret cx h dX5_commit_54
      · replace hF := ifp c9 hF
        refine x_aload_n hx hb dX5_commit_42 rfl (lv_at hl 0 rfl) ?_
        obtain ⟨r10, σ10, hc10, hF⟩ := bds hF
        refine x_callv (σ := σ6) g (LEm hc10 (mo_F_X4_end (ar σ1 (gr σ1 202 a0) a1.toNatClampNeg) _)) (x_runV (As := []) (rest := []) cx h (c_X4_end l D dA base (ar σ1 (gr σ1 202 a0) a1.toNatClampNeg) hc10) ml_X5_86 mi_X4_end hq7 rfl ⟨Nat.le_of_ble_eq_true rfl, Nat.le_of_ble_eq_true rfl⟩ hl.1 rfl (s8 sN (by decide)) dX5_commit_43 (le_room g (LEm hc10 (mo_F_X4_end (ar σ1 (gr σ1 202 a0) a1.toNatClampNeg) _)) (LEm hF mo_ret))) h (fun H locs h g => ?_)
        refine lv_iconst (v := (3 : Int32)) hx hb dX5_commit_46 (by decide) ?_
        obtain ⟨rfl, rfl⟩ := rts hF
        exact x_iret cx h dX5_commit_47
    · replace hF := ifn c8 hF
      refine lv_bipush (v := (-3 : Int32)) hx hb dX5_commit_32 (by decide) ?_
      obtain ⟨rfl, rfl⟩ := rts hF
      exact x_iret cx h dX5_commit_34
  · replace hF := ifp c2 hF
    refine lv_iconst (v := (-1 : Int32)) hx hb dX5_commit_7 (by decide) ?_
    obtain ⟨rfl, rfl⟩ := rts hF
    exact x_iret cx h dX5_commit_8
def F_X5_lose (a0 : Nat) (a1 : Nat) (σ : HS) : Option (Int32 × HS) :=
  if kd σ a1 = 5 then (some ((4 : Int32), (si (si σ 160 a1 (4 : Int32)) 169 a1 (0 : Int32)))) else none
theorem mo_F_X5_lose (a0 : Nat) (a1 : Nat) (σ : HS) : Mo σ (F_X5_lose a0 a1 σ) := by
  unfold F_X5_lose
  exact (mo_ite (mo_le (τ := (si (si σ 160 a1 (4 : Int32)) 169 a1 (0 : Int32))) ⟨Nat.le_refl _, Nat.le_refl _⟩ mo_ret) mo_none)
set_option maxHeartbeats 4000000 in
set_option maxRecDepth 100000 in
theorem c_X5_lose (l : Launch) (D : va_G) (dA : Nat → ClassId) (base : Nat) (a0 : Nat) (a1 : Nat) {σ τ : HS} {r : Int32} (hF : F_X5_lose a0 a1 σ = some (r, τ)) : CT l yX5_lose cX5_lose 2 (some .int) 0 0 D dA base [vr a0, vr a1] (some (.int r)) σ τ := by
  refine CT.of (lv := [(0, vr a0), (1, vr a1)]) (by decide) (vR (vR vN)) (Nat.le_of_ble_eq_true rfl) rfl ?_
  intro p e s m args below meth c ls cx hl h
  have cx : CX p s m args meth c cX5_lose 2 (some .int) RX5 "lose" D dA base := cx
  have g : LE σ σ := LE.rf
  obtain ⟨hx, hb, -⟩ := id cx
  unfold F_X5_lose at hF
  refine x_aload_n hx hb dX5_lose_0 rfl (lv_at hl 1 rfl) ?_
  refine lv_iconst (v := (4 : Int32)) hx hb dX5_lose_1 (by decide) ?_
  obtain ⟨hq1, hF⟩ := ifs hF
  refine x_sti cx h fa_X5_38 (f := 160) rfl (Or.inl rfl) hq1 dX5_lose_2 (fun H locs h => ?_)
  refine x_aload_n hx hb dX5_lose_5 rfl (lv_at hl 1 rfl) ?_
  refine lv_iconst (v := (0 : Int32)) hx hb dX5_lose_6 (by decide) ?_
  refine x_sti cx h fa_X5_119 (f := 169) rfl (Or.inl rfl) hq1 dX5_lose_7 (fun H locs h => ?_)
  refine lv_iconst (v := (4 : Int32)) hx hb dX5_lose_10 (by decide) ?_
  obtain ⟨rfl, rfl⟩ := rts hF
  exact x_iret cx h dX5_lose_11
def B_X5_lockRow_226 (k146 : Nat → Nat → Int32 → Int32 → HS → Option (Int32 × HS)) (x0 : Nat) (x1 : Nat) (x2 : Int32) (x4 : Int32) (σ : HS) : Option (Int32 × HS) :=
  k146 x0 x1 x2 (x4 + (1 : Int32)) σ
theorem mo_B_X5_lockRow_226 {k146 : Nat → Nat → Int32 → Int32 → HS → Option (Int32 × HS)} (mk146 : ∀ x0 x1 x2 x4 σ, Mo σ (k146 x0 x1 x2 x4 σ)) (x0 : Nat) (x1 : Nat) (x2 : Int32) (x4 : Int32) (σ : HS) : Mo σ (B_X5_lockRow_226 k146 x0 x1 x2 x4 σ) := by
  unfold B_X5_lockRow_226
  exact (mk146 x0 x1 x2 (x4 + (1 : Int32)) _)
set_option maxHeartbeats 4000000 in
set_option maxRecDepth 100000 in
theorem w_X5_lockRow_226 {p : Program} {l : Launch} {e : Env} {s : State} {m : MethodId} {args : Array Value} {below : List Frame} {meth : Method} {c : Code} {D : va_G} {dA : Nat → ClassId} {base : Nat} {σ0 τ : HS} {r : Int32} (cx : CX p s m args meth c cX5_lockRow 6 (some .int) RX5 "lockRow" D dA base) {k146 : Nat → Nat → Int32 → Int32 → HS → Option (Int32 × HS)} (mk146 : ∀ x0 x1 x2 x4 σ, Mo σ (k146 x0 x1 x2 x4 σ)) (hk146 : ∀ x0 x1 x2 x4 σ H locs ls, Wd D dA base σ s H locs → LE σ0 σ → lv_has ls 6 [(0, vr x0), (1, vr x1), (2, .int x2), (4, .int x4)] → k146 x0 x1 x2 x4 σ = some (r, τ) → WG p l e s m args below meth c D dA base 5 112 (some (.int r)) σ0 τ σ H locs 146 ls []) (x0 : Nat) (x1 : Nat) (x2 : Int32) (x4 : Int32) {σ : HS} {H : Heap} {locs : List Loc} {ls : Array Slot} (h : Wd D dA base σ s H locs) (g : LE σ0 σ) (hl : lv_has ls 6 [(0, vr x0), (1, vr x1), (2, .int x2), (4, .int x4)]) (hF : B_X5_lockRow_226 k146 x0 x1 x2 x4 σ = some (r, τ)) : WG p l e s m args below meth c D dA base 5 112 (some (.int r)) σ0 τ σ H locs 226 ls [] := by
  obtain ⟨hx, hb, -⟩ := id cx
  unfold B_X5_lockRow_226 at hF
  refine x_iinc (k := 3) (v := (1 : Int32)) (lv' := [(4, .int (x4 + (1 : Int32))), (0, vr x0), (1, vr x1), (2, .int x2)]) hx hb dX5_lockRow_226 hl rfl (by decide) (by decide) (cR (cR (cI (cI cN)))) rfl (fun ls hl => ?_)
  refine lv_goto (tgt := 146) hx hb dX5_lockRow_229 (by decide) ?_
  exact hk146 x0 x1 x2 (x4 + (1 : Int32)) σ _ _ _ h g (lv_sub hl [1, 2, 3, 0] rfl) hF
def B_X5_lockRow_146 (k146 : Nat → Nat → Int32 → Int32 → HS → Option (Int32 × HS)) (x0 : Nat) (x1 : Nat) (x2 : Int32) (x4 : Int32) (σ : HS) : Option (Int32 × HS) :=
  if (x2 + (4 : Int32)) ≤ x4 then (if kd σ x1 = 5 then (some ((1 : Int32), (si σ 169 x1 ((gi σ 169 x1) + (1 : Int32))))) else none) else (if kd σ x1 = 5 then (bd (F_X4_placeOf x1 x4 σ) (fun r4 σ4 => if r4 < 0 then (B_X5_lockRow_226 k146 x0 x1 x2 x4 σ4) else (if kd σ4 x0 = 6 then (if kd σ4 (gr σ4 200 x0) = 4 then (if kd σ4 (gr σ4 120 (gr σ4 200 x0)) = 102 ∧ inb x4 (ln σ4 (gr σ4 120 (gr σ4 200 x0))) then (if kd σ4 x1 = 5 then (if kd σ4 (gr σ4 166 x1) = 100 ∧ inb r4 (ln σ4 (gr σ4 166 x1)) then (bd (F_X3_addData (gr σ4 200 x0) (ar σ4 (gr σ4 120 (gr σ4 200 x0)) x4.toNatClampNeg) (gi σ4 161 x1) (ai σ4 (gr σ4 166 x1) r4.toNatClampNeg) σ4) (fun r11 σ11 => if kd σ11 x0 = 6 then (if kd σ11 (gr σ11 200 x0) = 4 then (if kd σ11 (gr σ11 120 (gr σ11 200 x0)) = 102 ∧ inb x4 (ln σ11 (gr σ11 120 (gr σ11 200 x0))) then (if kd σ11 x1 = 5 then (if kd σ11 (gr σ11 165 x1) = 100 ∧ inb (0 : Int32) (ln σ11 (gr σ11 165 x1)) then (bd (F_X3_addLock (gr σ11 200 x0) (ar σ11 (gr σ11 120 (gr σ11 200 x0)) x4.toNatClampNeg) (gi σ11 161 x1) (ai σ11 (gr σ11 165 x1) (0 : Int32).toNatClampNeg) (gi σ11 203 x0) σ11) (fun r17 σ17 => B_X5_lockRow_226 k146 x0 x1 x2 x4 σ17)) else none) else none) else none) else none) else none)) else none) else none) else none) else none) else none))) else none)
theorem mo_B_X5_lockRow_146 {k146 : Nat → Nat → Int32 → Int32 → HS → Option (Int32 × HS)} (mk146 : ∀ x0 x1 x2 x4 σ, Mo σ (k146 x0 x1 x2 x4 σ)) (x0 : Nat) (x1 : Nat) (x2 : Int32) (x4 : Int32) (σ : HS) : Mo σ (B_X5_lockRow_146 k146 x0 x1 x2 x4 σ) := by
  unfold B_X5_lockRow_146
  exact (mo_ite (mo_ite (mo_le (τ := (si σ 169 x1 ((gi σ 169 x1) + (1 : Int32)))) ⟨Nat.le_refl _, Nat.le_refl _⟩ mo_ret) mo_none) (mo_ite (mo_bd (mo_F_X4_placeOf x1 x4 _) (fun r4 σ4 => (mo_ite (mo_B_X5_lockRow_226 mk146 x0 x1 x2 x4 _) (mo_ite (mo_ite (mo_ite (mo_ite (mo_ite (mo_bd (mo_F_X3_addData (gr σ4 200 x0) (ar σ4 (gr σ4 120 (gr σ4 200 x0)) x4.toNatClampNeg) (gi σ4 161 x1) (ai σ4 (gr σ4 166 x1) r4.toNatClampNeg) _) (fun r11 σ11 => (mo_ite (mo_ite (mo_ite (mo_ite (mo_ite (mo_bd (mo_F_X3_addLock (gr σ11 200 x0) (ar σ11 (gr σ11 120 (gr σ11 200 x0)) x4.toNatClampNeg) (gi σ11 161 x1) (ai σ11 (gr σ11 165 x1) (0 : Int32).toNatClampNeg) (gi σ11 203 x0) _) (fun r17 σ17 => (mo_B_X5_lockRow_226 mk146 x0 x1 x2 x4 _))) mo_none) mo_none) mo_none) mo_none) mo_none))) mo_none) mo_none) mo_none) mo_none) mo_none)))) mo_none))
set_option maxHeartbeats 4000000 in
set_option maxRecDepth 100000 in
theorem w_X5_lockRow_146 {p : Program} {l : Launch} {e : Env} {s : State} {m : MethodId} {args : Array Value} {below : List Frame} {meth : Method} {c : Code} {D : va_G} {dA : Nat → ClassId} {base : Nat} {σ0 τ : HS} {r : Int32} (cx : CX p s m args meth c cX5_lockRow 6 (some .int) RX5 "lockRow" D dA base) {k146 : Nat → Nat → Int32 → Int32 → HS → Option (Int32 × HS)} (mk146 : ∀ x0 x1 x2 x4 σ, Mo σ (k146 x0 x1 x2 x4 σ)) (hk146 : ∀ x0 x1 x2 x4 σ H locs ls, Wd D dA base σ s H locs → LE σ0 σ → lv_has ls 6 [(0, vr x0), (1, vr x1), (2, .int x2), (4, .int x4)] → k146 x0 x1 x2 x4 σ = some (r, τ) → WG p l e s m args below meth c D dA base 5 112 (some (.int r)) σ0 τ σ H locs 146 ls []) (x0 : Nat) (x1 : Nat) (x2 : Int32) (x4 : Int32) {σ : HS} {H : Heap} {locs : List Loc} {ls : Array Slot} (h : Wd D dA base σ s H locs) (g : LE σ0 σ) (hl : lv_has ls 6 [(0, vr x0), (1, vr x1), (2, .int x2), (4, .int x4)]) (hF : B_X5_lockRow_146 k146 x0 x1 x2 x4 σ = some (r, τ)) : WG p l e s m args below meth c D dA base 5 112 (some (.int r)) σ0 τ σ H locs 146 ls [] := by
  obtain ⟨hx, hb, -⟩ := id cx
  unfold B_X5_lockRow_146 at hF
  refine lv_iload hx hb dX5_lockRow_146 (lv_at hl 3 rfl) ?_
  refine lv_iload_n hx hb dX5_lockRow_148 rfl (lv_at hl 2 rfl) ?_
  refine lv_iconst (v := (4 : Int32)) hx hb dX5_lockRow_149 (by decide) ?_
  refine lv_iadd hx hb dX5_lockRow_150 ?_
  refine lv_icmp_ge (tgt := 232) hx hb dX5_lockRow_151 (by decide) (fun c1 => ?_) (fun c1 => ?_)
  · replace hF := ifp c1 hF
    refine x_aload_n hx hb dX5_lockRow_232 rfl (lv_at hl 1 rfl) ?_
    refine lv_dup hx hb dX5_lockRow_233 (vr_cat _) ?_
    obtain ⟨hq2, hF⟩ := ifs hF
    refine x_geti cx h fa_X5_119 (f := 169) rfl hq2 dX5_lockRow_234 ?_
    refine lv_iconst (v := (1 : Int32)) hx hb dX5_lockRow_237 (by decide) ?_
    refine lv_iadd hx hb dX5_lockRow_238 ?_
    refine x_sti cx h fa_X5_119 (f := 169) rfl (Or.inl rfl) hq2 dX5_lockRow_239 (fun H locs h => ?_)
    refine lv_iconst (v := (1 : Int32)) hx hb dX5_lockRow_242 (by decide) ?_
    obtain ⟨rfl, rfl⟩ := rts hF
    exact x_iret cx h dX5_lockRow_243
  · replace hF := ifn c1 hF
    refine x_aload_n hx hb dX5_lockRow_154 rfl (lv_at hl 1 rfl) ?_
    refine lv_iload hx hb dX5_lockRow_155 (lv_at hl 3 rfl) ?_
    obtain ⟨hq3, hF⟩ := ifs hF
    obtain ⟨r4, σ4, hc4, hF⟩ := bds hF
    refine x_calli (σ := σ) g (LEm hc4 (mo_F_X4_placeOf x1 x4 _)) (x_runV (As := [.int x4]) (rest := []) cx h (c_X4_placeOf l D dA base x1 x4 hc4) ml_X5_196 mi_X4_placeOf hq3 rfl ⟨Nat.le_of_ble_eq_true rfl, Nat.le_of_ble_eq_true rfl⟩ hl.1 rfl (s8 sN (by decide)) dX5_lockRow_157 (le_room g (LEm hc4 (mo_F_X4_placeOf x1 x4 _)) (LEm hF (mo_ite (mo_B_X5_lockRow_226 mk146 x0 x1 x2 x4 _) (mo_ite (mo_ite (mo_ite (mo_ite (mo_ite (mo_bd (mo_F_X3_addData (gr σ4 200 x0) (ar σ4 (gr σ4 120 (gr σ4 200 x0)) x4.toNatClampNeg) (gi σ4 161 x1) (ai σ4 (gr σ4 166 x1) r4.toNatClampNeg) _) (fun r11 σ11 => (mo_ite (mo_ite (mo_ite (mo_ite (mo_ite (mo_bd (mo_F_X3_addLock (gr σ11 200 x0) (ar σ11 (gr σ11 120 (gr σ11 200 x0)) x4.toNatClampNeg) (gi σ11 161 x1) (ai σ11 (gr σ11 165 x1) (0 : Int32).toNatClampNeg) (gi σ11 203 x0) _) (fun r17 σ17 => (mo_B_X5_lockRow_226 mk146 x0 x1 x2 x4 _))) mo_none) mo_none) mo_none) mo_none) mo_none))) mo_none) mo_none) mo_none) mo_none) mo_none))))) h (fun H locs h g => ?_)
    refine x_istore (lv' := [(5, .int r4), (0, vr x0), (1, vr x1), (2, .int x2), (4, .int x4)]) hx hb dX5_lockRow_160 hl (by decide) (cR (cR (cI (cI cN)))) rfl (fun ls hl => ?_)
    refine lv_iload hx hb dX5_lockRow_162 (lv_at hl 0 rfl) ?_
    refine lv_if_lt (tgt := 226) hx hb dX5_lockRow_164 (by decide) (fun c5 => ?_) (fun c5 => ?_)
    · replace hF := ifp c5 hF
      exact w_X5_lockRow_226 (σ := σ4) cx mk146 hk146 x0 x1 x2 x4 h g (lv_sub hl [1, 2, 3, 4] rfl) hF
    · replace hF := ifn c5 hF
      refine x_aload_n hx hb dX5_lockRow_167 rfl (lv_at hl 1 rfl) ?_
      obtain ⟨hq6, hF⟩ := ifs hF
      refine x_getr cx h fa_X5_10 (f := 200) rfl hq6 dX5_lockRow_168 ?_
      refine x_aload_n hx hb dX5_lockRow_171 rfl (lv_at hl 1 rfl) ?_
      refine x_getr cx h fa_X5_10 (f := 200) rfl hq6 dX5_lockRow_172 ?_
      obtain ⟨hq7, hF⟩ := ifs hF
      refine x_getr cx h fa_X5_125 (f := 120) rfl hq7 dX5_lockRow_175 ?_
      refine lv_iload hx hb dX5_lockRow_178 (lv_at hl 4 rfl) ?_
      obtain ⟨hq8, hF⟩ := ifs hF
      refine x_aald cx h RA2 hq8.1 (inb.vp hq8.2) dX5_lockRow_180 ?_
      refine x_aload_n hx hb dX5_lockRow_181 rfl (lv_at hl 2 rfl) ?_
      obtain ⟨hq9, hF⟩ := ifs hF
      refine x_geti cx h fa_X5_56 (f := 161) rfl hq9 dX5_lockRow_182 ?_
      refine x_aload_n hx hb dX5_lockRow_185 rfl (lv_at hl 2 rfl) ?_
      refine x_getr cx h fa_X5_199 (f := 166) rfl hq9 dX5_lockRow_186 ?_
      refine lv_iload hx hb dX5_lockRow_189 (lv_at hl 0 rfl) ?_
      obtain ⟨hq10, hF⟩ := ifs hF
      refine x_iald cx h hq10.1 (inb.vp hq10.2) dX5_lockRow_191 ?_
      obtain ⟨r11, σ11, hc11, hF⟩ := bds hF
      refine x_callv (σ := σ4) g (LEm hc11 (mo_F_X3_addData (gr σ4 200 x0) (ar σ4 (gr σ4 120 (gr σ4 200 x0)) x4.toNatClampNeg) (gi σ4 161 x1) (ai σ4 (gr σ4 166 x1) r4.toNatClampNeg) _)) (x_runV (As := [vr (ar σ4 (gr σ4 120 (gr σ4 200 x0)) x4.toNatClampNeg), .int (gi σ4 161 x1), .int (ai σ4 (gr σ4 166 x1) r4.toNatClampNeg)]) (rest := []) cx h (c_X3_addData l D dA base (gr σ4 200 x0) (ar σ4 (gr σ4 120 (gr σ4 200 x0)) x4.toNatClampNeg) (gi σ4 161 x1) (ai σ4 (gr σ4 166 x1) r4.toNatClampNeg) hc11) ml_X5_233 mi_X3_addData hq7 rfl ⟨Nat.le_of_ble_eq_true rfl, Nat.le_of_ble_eq_true rfl⟩ hl.1 rfl (s8 sN (by decide)) dX5_lockRow_192 (le_room g (LEm hc11 (mo_F_X3_addData (gr σ4 200 x0) (ar σ4 (gr σ4 120 (gr σ4 200 x0)) x4.toNatClampNeg) (gi σ4 161 x1) (ai σ4 (gr σ4 166 x1) r4.toNatClampNeg) _)) (LEm hF (mo_ite (mo_ite (mo_ite (mo_ite (mo_ite (mo_bd (mo_F_X3_addLock (gr σ11 200 x0) (ar σ11 (gr σ11 120 (gr σ11 200 x0)) x4.toNatClampNeg) (gi σ11 161 x1) (ai σ11 (gr σ11 165 x1) (0 : Int32).toNatClampNeg) (gi σ11 203 x0) _) (fun r17 σ17 => (mo_B_X5_lockRow_226 mk146 x0 x1 x2 x4 _))) mo_none) mo_none) mo_none) mo_none) mo_none)))) h (fun H locs h g => ?_)
      refine x_aload_n hx hb dX5_lockRow_195 rfl (lv_at hl 1 rfl) ?_
      obtain ⟨hq12, hF⟩ := ifs hF
      refine x_getr cx h fa_X5_10 (f := 200) rfl hq12 dX5_lockRow_196 ?_
      refine x_aload_n hx hb dX5_lockRow_199 rfl (lv_at hl 1 rfl) ?_
      refine x_getr cx h fa_X5_10 (f := 200) rfl hq12 dX5_lockRow_200 ?_
      obtain ⟨hq13, hF⟩ := ifs hF
      refine x_getr cx h fa_X5_125 (f := 120) rfl hq13 dX5_lockRow_203 ?_
      refine lv_iload hx hb dX5_lockRow_206 (lv_at hl 4 rfl) ?_
      obtain ⟨hq14, hF⟩ := ifs hF
      refine x_aald cx h RA2 hq14.1 (inb.vp hq14.2) dX5_lockRow_208 ?_
      refine x_aload_n hx hb dX5_lockRow_209 rfl (lv_at hl 2 rfl) ?_
      obtain ⟨hq15, hF⟩ := ifs hF
      refine x_geti cx h fa_X5_56 (f := 161) rfl hq15 dX5_lockRow_210 ?_
      refine x_aload_n hx hb dX5_lockRow_213 rfl (lv_at hl 2 rfl) ?_
      refine x_getr cx h fa_X5_237 (f := 165) rfl hq15 dX5_lockRow_214 ?_
      refine lv_iconst (v := (0 : Int32)) hx hb dX5_lockRow_217 (by decide) ?_
      obtain ⟨hq16, hF⟩ := ifs hF
      refine x_iald cx h hq16.1 (inb.vp hq16.2) dX5_lockRow_218 ?_
      refine x_aload_n hx hb dX5_lockRow_219 rfl (lv_at hl 1 rfl) ?_
      refine x_geti cx h fa_X5_41 (f := 203) rfl hq12 dX5_lockRow_220 ?_
      obtain ⟨r17, σ17, hc17, hF⟩ := bds hF
      refine x_callv (σ := σ11) g (LEm hc17 (mo_F_X3_addLock (gr σ11 200 x0) (ar σ11 (gr σ11 120 (gr σ11 200 x0)) x4.toNatClampNeg) (gi σ11 161 x1) (ai σ11 (gr σ11 165 x1) (0 : Int32).toNatClampNeg) (gi σ11 203 x0) _)) (x_runV (As := [vr (ar σ11 (gr σ11 120 (gr σ11 200 x0)) x4.toNatClampNeg), .int (gi σ11 161 x1), .int (ai σ11 (gr σ11 165 x1) (0 : Int32).toNatClampNeg), .int (gi σ11 203 x0)]) (rest := []) cx h (c_X3_addLock l D dA base (gr σ11 200 x0) (ar σ11 (gr σ11 120 (gr σ11 200 x0)) x4.toNatClampNeg) (gi σ11 161 x1) (ai σ11 (gr σ11 165 x1) (0 : Int32).toNatClampNeg) (gi σ11 203 x0) hc17) ml_X5_239 mi_X3_addLock hq13 rfl ⟨Nat.le_of_ble_eq_true rfl, Nat.le_of_ble_eq_true rfl⟩ hl.1 rfl (s8 sN (by decide)) dX5_lockRow_223 (le_room g (LEm hc17 (mo_F_X3_addLock (gr σ11 200 x0) (ar σ11 (gr σ11 120 (gr σ11 200 x0)) x4.toNatClampNeg) (gi σ11 161 x1) (ai σ11 (gr σ11 165 x1) (0 : Int32).toNatClampNeg) (gi σ11 203 x0) _)) (LEm hF (mo_B_X5_lockRow_226 mk146 x0 x1 x2 x4 _)))) h (fun H locs h g => ?_)
      exact w_X5_lockRow_226 (σ := σ17) cx mk146 hk146 x0 x1 x2 x4 h g (lv_sub hl [1, 2, 3, 4] rfl) hF
def L_X5_lockRow_146  : Nat → Nat → Nat → Int32 → Int32 → HS → Option (Int32 × HS)
  | 0, _, _, _, _, _ => none
  | N + 1, x0, x1, x2, x4, σ => B_X5_lockRow_146 (L_X5_lockRow_146  N) x0 x1 x2 x4 σ
theorem mo_L_X5_lockRow_146  : ∀ (N : Nat) (x0 : Nat) (x1 : Nat) (x2 : Int32) (x4 : Int32) (σ : HS), Mo σ (L_X5_lockRow_146  N x0 x1 x2 x4 σ) := by
  intro N
  induction N with
  | zero => intro x0 x1 x2 x4 σ; exact mo_none
  | succ N ih => intro x0 x1 x2 x4 σ; exact mo_B_X5_lockRow_146 ih x0 x1 x2 x4 σ
theorem wl_X5_lockRow_146 {p : Program} {l : Launch} {e : Env} {s : State} {m : MethodId} {args : Array Value} {below : List Frame} {meth : Method} {c : Code} {D : va_G} {dA : Nat → ClassId} {base : Nat} {σ0 τ : HS} {r : Int32} (cx : CX p s m args meth c cX5_lockRow 6 (some .int) RX5 "lockRow" D dA base)  : ∀ (N : Nat) (x0 : Nat) (x1 : Nat) (x2 : Int32) (x4 : Int32) (σ : HS) (H : Heap) (locs : List Loc) (ls : Array Slot), Wd D dA base σ s H locs → LE σ0 σ → lv_has ls 6 [(0, vr x0), (1, vr x1), (2, .int x2), (4, .int x4)] → L_X5_lockRow_146  N x0 x1 x2 x4 σ = some (r, τ) → WG p l e s m args below meth c D dA base 5 112 (some (.int r)) σ0 τ σ H locs 146 ls [] := by
  intro N
  induction N with
  | zero => intro x0 x1 x2 x4 σ H locs ls h g hl hF; cases hF
  | succ N ih => intro x0 x1 x2 x4 σ H locs ls h g hl hF; exact w_X5_lockRow_146 cx (mo_L_X5_lockRow_146  N) ih x0 x1 x2 x4 h g hl hF
def B_X5_lockRow_117 (k19 : Nat → Nat → Int32 → Int32 → Int32 → HS → Option (Int32 × HS)) (x0 : Nat) (x1 : Nat) (x2 : Int32) (x3 : Int32) (x4 : Int32) (σ : HS) : Option (Int32 × HS) :=
  k19 x0 x1 x2 x3 (x4 + (1 : Int32)) σ
theorem mo_B_X5_lockRow_117 {k19 : Nat → Nat → Int32 → Int32 → Int32 → HS → Option (Int32 × HS)} (mk19 : ∀ x0 x1 x2 x3 x4 σ, Mo σ (k19 x0 x1 x2 x3 x4 σ)) (x0 : Nat) (x1 : Nat) (x2 : Int32) (x3 : Int32) (x4 : Int32) (σ : HS) : Mo σ (B_X5_lockRow_117 k19 x0 x1 x2 x3 x4 σ) := by
  unfold B_X5_lockRow_117
  exact (mk19 x0 x1 x2 x3 (x4 + (1 : Int32)) _)
set_option maxHeartbeats 4000000 in
set_option maxRecDepth 100000 in
theorem w_X5_lockRow_117 {p : Program} {l : Launch} {e : Env} {s : State} {m : MethodId} {args : Array Value} {below : List Frame} {meth : Method} {c : Code} {D : va_G} {dA : Nat → ClassId} {base : Nat} {σ0 τ : HS} {r : Int32} (cx : CX p s m args meth c cX5_lockRow 6 (some .int) RX5 "lockRow" D dA base) {k19 : Nat → Nat → Int32 → Int32 → Int32 → HS → Option (Int32 × HS)} (mk19 : ∀ x0 x1 x2 x3 x4 σ, Mo σ (k19 x0 x1 x2 x3 x4 σ)) (hk19 : ∀ x0 x1 x2 x3 x4 σ H locs ls, Wd D dA base σ s H locs → LE σ0 σ → lv_has ls 6 [(0, vr x0), (1, vr x1), (2, .int x2), (3, .int x3), (4, .int x4)] → k19 x0 x1 x2 x3 x4 σ = some (r, τ) → WG p l e s m args below meth c D dA base 5 112 (some (.int r)) σ0 τ σ H locs 19 ls []) (x0 : Nat) (x1 : Nat) (x2 : Int32) (x3 : Int32) (x4 : Int32) {σ : HS} {H : Heap} {locs : List Loc} {ls : Array Slot} (h : Wd D dA base σ s H locs) (g : LE σ0 σ) (hl : lv_has ls 6 [(0, vr x0), (1, vr x1), (2, .int x2), (3, .int x3), (4, .int x4)]) (hF : B_X5_lockRow_117 k19 x0 x1 x2 x3 x4 σ = some (r, τ)) : WG p l e s m args below meth c D dA base 5 112 (some (.int r)) σ0 τ σ H locs 117 ls [] := by
  obtain ⟨hx, hb, -⟩ := id cx
  unfold B_X5_lockRow_117 at hF
  refine x_iinc (k := 4) (v := (1 : Int32)) (lv' := [(4, .int (x4 + (1 : Int32))), (0, vr x0), (1, vr x1), (2, .int x2), (3, .int x3)]) hx hb dX5_lockRow_117 hl rfl (by decide) (by decide) (cR (cR (cI (cI (cI cN))))) rfl (fun ls hl => ?_)
  refine lv_goto (tgt := 19) hx hb dX5_lockRow_120 (by decide) ?_
  exact hk19 x0 x1 x2 x3 (x4 + (1 : Int32)) σ _ _ _ h g (lv_sub hl [1, 2, 3, 4, 0] rfl) hF
def B_X5_lockRow_83 (k19 : Nat → Nat → Int32 → Int32 → Int32 → HS → Option (Int32 × HS)) (x0 : Nat) (x1 : Nat) (x2 : Int32) (x3 : Int32) (x4 : Int32) (x5 : Nat) (σ : HS) : Option (Int32 × HS) :=
  if kd σ x5 = 1 then (bd (F_X0_isLocked x5 σ) (fun r2 σ2 => if r2 = 0 then (B_X5_lockRow_117 k19 x0 x1 x2 x3 x4 σ2) else (if kd σ2 x0 = 6 then (bd (F_X5_isForCleaning x0 x5 σ2) (fun r5 σ5 => if r5 = 0 then (if kd σ5 x0 = 6 then (bd (F_X5_lose x0 x1 σ5) (fun r11 σ11 => some (r11, σ11))) else none) else (if kd σ5 x0 = 6 then (if kd σ5 (gr σ5 200 x0) = 4 then (bd (F_X3_clean (gr σ5 200 x0) x5 σ5) (fun r9 σ9 => some ((5 : Int32), σ9))) else none) else none))) else none))) else none
theorem mo_B_X5_lockRow_83 {k19 : Nat → Nat → Int32 → Int32 → Int32 → HS → Option (Int32 × HS)} (mk19 : ∀ x0 x1 x2 x3 x4 σ, Mo σ (k19 x0 x1 x2 x3 x4 σ)) (x0 : Nat) (x1 : Nat) (x2 : Int32) (x3 : Int32) (x4 : Int32) (x5 : Nat) (σ : HS) : Mo σ (B_X5_lockRow_83 k19 x0 x1 x2 x3 x4 x5 σ) := by
  unfold B_X5_lockRow_83
  exact (mo_ite (mo_bd (mo_F_X0_isLocked x5 _) (fun r2 σ2 => (mo_ite (mo_B_X5_lockRow_117 mk19 x0 x1 x2 x3 x4 _) (mo_ite (mo_bd (mo_F_X5_isForCleaning x0 x5 _) (fun r5 σ5 => (mo_ite (mo_ite (mo_bd (mo_F_X5_lose x0 x1 _) (fun r11 σ11 => mo_ret)) mo_none) (mo_ite (mo_ite (mo_bd (mo_F_X3_clean (gr σ5 200 x0) x5 _) (fun r9 σ9 => mo_ret)) mo_none) mo_none)))) mo_none)))) mo_none)
set_option maxHeartbeats 4000000 in
set_option maxRecDepth 100000 in
theorem w_X5_lockRow_83 {p : Program} {l : Launch} {e : Env} {s : State} {m : MethodId} {args : Array Value} {below : List Frame} {meth : Method} {c : Code} {D : va_G} {dA : Nat → ClassId} {base : Nat} {σ0 τ : HS} {r : Int32} (cx : CX p s m args meth c cX5_lockRow 6 (some .int) RX5 "lockRow" D dA base) {k19 : Nat → Nat → Int32 → Int32 → Int32 → HS → Option (Int32 × HS)} (mk19 : ∀ x0 x1 x2 x3 x4 σ, Mo σ (k19 x0 x1 x2 x3 x4 σ)) (hk19 : ∀ x0 x1 x2 x3 x4 σ H locs ls, Wd D dA base σ s H locs → LE σ0 σ → lv_has ls 6 [(0, vr x0), (1, vr x1), (2, .int x2), (3, .int x3), (4, .int x4)] → k19 x0 x1 x2 x3 x4 σ = some (r, τ) → WG p l e s m args below meth c D dA base 5 112 (some (.int r)) σ0 τ σ H locs 19 ls []) (x0 : Nat) (x1 : Nat) (x2 : Int32) (x3 : Int32) (x4 : Int32) (x5 : Nat) {σ : HS} {H : Heap} {locs : List Loc} {ls : Array Slot} (h : Wd D dA base σ s H locs) (g : LE σ0 σ) (hl : lv_has ls 6 [(0, vr x0), (1, vr x1), (2, .int x2), (3, .int x3), (4, .int x4), (5, vr x5)]) (hF : B_X5_lockRow_83 k19 x0 x1 x2 x3 x4 x5 σ = some (r, τ)) : WG p l e s m args below meth c D dA base 5 112 (some (.int r)) σ0 τ σ H locs 83 ls [] := by
  obtain ⟨hx, hb, -⟩ := id cx
  unfold B_X5_lockRow_83 at hF
  refine x_aload hx hb dX5_lockRow_83 (lv_at hl 5 rfl) ?_
  obtain ⟨hq1, hF⟩ := ifs hF
  obtain ⟨r2, σ2, hc2, hF⟩ := bds hF
  refine x_calli (σ := σ) g (LEm hc2 (mo_F_X0_isLocked x5 _)) (x_runV (As := []) (rest := []) cx h (c_X0_isLocked l D dA base x5 hc2) ml_X5_140 mi_X0_isLocked hq1 rfl ⟨Nat.le_of_ble_eq_true rfl, Nat.le_of_ble_eq_true rfl⟩ hl.1 rfl (s8 sN (by decide)) dX5_lockRow_85 (le_room g (LEm hc2 (mo_F_X0_isLocked x5 _)) (LEm hF (mo_ite (mo_B_X5_lockRow_117 mk19 x0 x1 x2 x3 x4 _) (mo_ite (mo_bd (mo_F_X5_isForCleaning x0 x5 _) (fun r5 σ5 => (mo_ite (mo_ite (mo_bd (mo_F_X5_lose x0 x1 _) (fun r11 σ11 => mo_ret)) mo_none) (mo_ite (mo_ite (mo_bd (mo_F_X3_clean (gr σ5 200 x0) x5 _) (fun r9 σ9 => mo_ret)) mo_none) mo_none)))) mo_none))))) h (fun H locs h g => ?_)
  refine lv_if_eq (tgt := 117) hx hb dX5_lockRow_88 (by decide) (fun c3 => ?_) (fun c3 => ?_)
  · replace hF := ifp c3 hF
    exact w_X5_lockRow_117 (σ := σ2) cx mk19 hk19 x0 x1 x2 x3 x4 h g (lv_sub hl [0, 1, 2, 3, 4] rfl) hF
  · replace hF := ifn c3 hF
    refine x_aload_n hx hb dX5_lockRow_91 rfl (lv_at hl 0 rfl) ?_
    refine x_aload hx hb dX5_lockRow_92 (lv_at hl 5 rfl) ?_
    obtain ⟨hq4, hF⟩ := ifs hF
    obtain ⟨r5, σ5, hc5, hF⟩ := bds hF
    refine x_calli (σ := σ2) g (LEm hc5 (mo_F_X5_isForCleaning x0 x5 _)) (x_runV (As := [vr x5]) (rest := []) cx h (c_X5_isForCleaning l D dA base x0 x5 hc5) ml_X5_202 mi_X5_isForCleaning hq4 rfl ⟨Nat.le_of_ble_eq_true rfl, Nat.le_of_ble_eq_true rfl⟩ hl.1 rfl (s8 sN (by decide)) dX5_lockRow_94 (le_room g (LEm hc5 (mo_F_X5_isForCleaning x0 x5 _)) (LEm hF (mo_ite (mo_ite (mo_bd (mo_F_X5_lose x0 x1 _) (fun r11 σ11 => mo_ret)) mo_none) (mo_ite (mo_ite (mo_bd (mo_F_X3_clean (gr σ5 200 x0) x5 _) (fun r9 σ9 => mo_ret)) mo_none) mo_none))))) h (fun H locs h g => ?_)
    refine lv_if_ne (tgt := 106) hx hb dX5_lockRow_97 (by decide) (fun c6 => ?_) (fun c6 => ?_)
    · replace hF := ifn c6 hF
      refine x_aload_n hx hb dX5_lockRow_106 rfl (lv_at hl 0 rfl) ?_
      obtain ⟨hq7, hF⟩ := ifs hF
      refine x_getr cx h fa_X5_10 (f := 200) rfl hq7 dX5_lockRow_107 ?_
      refine x_aload hx hb dX5_lockRow_110 (lv_at hl 5 rfl) ?_
      obtain ⟨hq8, hF⟩ := ifs hF
      obtain ⟨r9, σ9, hc9, hF⟩ := bds hF
      refine x_callv (σ := σ5) g (LEm hc9 (mo_F_X3_clean (gr σ5 200 x0) x5 _)) (x_runV (As := [vr x5]) (rest := []) cx h (c_X3_clean l D dA base (gr σ5 200 x0) x5 hc9) ml_X5_205 mi_X3_clean hq8 rfl ⟨Nat.le_of_ble_eq_true rfl, Nat.le_of_ble_eq_true rfl⟩ hl.1 rfl (s8 sN (by decide)) dX5_lockRow_112 (le_room g (LEm hc9 (mo_F_X3_clean (gr σ5 200 x0) x5 _)) (LEm hF mo_ret))) h (fun H locs h g => ?_)
      refine lv_iconst (v := (5 : Int32)) hx hb dX5_lockRow_115 (by decide) ?_
      obtain ⟨rfl, rfl⟩ := rts hF
      exact x_iret cx h dX5_lockRow_116
    · replace hF := ifp c6 hF
      refine x_aload_n hx hb dX5_lockRow_100 rfl (lv_at hl 0 rfl) ?_
      refine x_aload_n hx hb dX5_lockRow_101 rfl (lv_at hl 1 rfl) ?_
      obtain ⟨hq10, hF⟩ := ifs hF
      obtain ⟨r11, σ11, hc11, hF⟩ := bds hF
      refine x_calli (σ := σ5) g (LEm hc11 (mo_F_X5_lose x0 x1 _)) (x_runV (As := [vr x1]) (rest := []) cx h (c_X5_lose l D dA base x0 x1 hc11) ml_X5_230 mi_X5_lose hq10 rfl ⟨Nat.le_of_ble_eq_true rfl, Nat.le_of_ble_eq_true rfl⟩ hl.1 rfl (s8 sN (by decide)) dX5_lockRow_102 (le_room g (LEm hc11 (mo_F_X5_lose x0 x1 _)) (LEm hF mo_ret))) h (fun H locs h g => ?_)
      obtain ⟨rfl, rfl⟩ := rts hF
      exact x_iret cx h dX5_lockRow_105
def B_X5_lockRow_19 (k19 : Nat → Nat → Int32 → Int32 → Int32 → HS → Option (Int32 × HS)) (x0 : Nat) (x1 : Nat) (x2 : Int32) (x3 : Int32) (x4 : Int32) (σ : HS) : Option (Int32 × HS) :=
  if (x2 + (4 : Int32)) ≤ x4 then (if kd σ x0 = 6 then (if kd σ (gr σ 200 x0) = 4 then (if ((gi σ 121 (gr σ 200 x0)) + (x3 * (3 : Int32))) ≤ (3000 : Int32) then (L_X5_lockRow_146  NF x0 x1 x2 x2 σ) else (some ((-4 : Int32), σ))) else none) else none) else (if kd σ x1 = 5 then (bd (F_X4_placeOf x1 x4 σ) (fun r6 σ6 => if 0 ≤ r6 then (if kd σ6 x0 = 6 then (if kd σ6 (gr σ6 200 x0) = 4 then (if kd σ6 (gr σ6 120 (gr σ6 200 x0)) = 102 ∧ inb x4 (ln σ6 (gr σ6 120 (gr σ6 200 x0))) then (if kd σ6 (ar σ6 (gr σ6 120 (gr σ6 200 x0)) x4.toNatClampNeg) = 1 then (if (gr σ6 1 (ar σ6 (gr σ6 120 (gr σ6 200 x0)) x4.toNatClampNeg)) = 0 then (B_X5_lockRow_83 k19 x0 x1 x2 (x3 + (1 : Int32)) x4 (ar σ6 (gr σ6 120 (gr σ6 200 x0)) x4.toNatClampNeg) σ6) else (if kd σ6 (gr σ6 1 (ar σ6 (gr σ6 120 (gr σ6 200 x0)) x4.toNatClampNeg)) = 2 then (if kd σ6 x1 = 5 then (if (gi σ6 40 (gr σ6 1 (ar σ6 (gr σ6 120 (gr σ6 200 x0)) x4.toNatClampNeg))) < (gi σ6 161 x1) then (B_X5_lockRow_83 k19 x0 x1 x2 (x3 + (1 : Int32)) x4 (ar σ6 (gr σ6 120 (gr σ6 200 x0)) x4.toNatClampNeg) σ6) else (bd (F_X5_lose x0 x1 σ6) (fun r16 σ16 => some (r16, σ16)))) else none) else none)) else none) else none) else none) else none) else (B_X5_lockRow_117 k19 x0 x1 x2 x3 x4 σ6))) else none)
theorem mo_B_X5_lockRow_19 {k19 : Nat → Nat → Int32 → Int32 → Int32 → HS → Option (Int32 × HS)} (mk19 : ∀ x0 x1 x2 x3 x4 σ, Mo σ (k19 x0 x1 x2 x3 x4 σ)) (x0 : Nat) (x1 : Nat) (x2 : Int32) (x3 : Int32) (x4 : Int32) (σ : HS) : Mo σ (B_X5_lockRow_19 k19 x0 x1 x2 x3 x4 σ) := by
  unfold B_X5_lockRow_19
  exact (mo_ite (mo_ite (mo_ite (mo_ite (mo_L_X5_lockRow_146  NF x0 x1 x2 x2 _) mo_ret) mo_none) mo_none) (mo_ite (mo_bd (mo_F_X4_placeOf x1 x4 _) (fun r6 σ6 => (mo_ite (mo_ite (mo_ite (mo_ite (mo_ite (mo_ite (mo_B_X5_lockRow_83 mk19 x0 x1 x2 (x3 + (1 : Int32)) x4 (ar σ6 (gr σ6 120 (gr σ6 200 x0)) x4.toNatClampNeg) _) (mo_ite (mo_ite (mo_ite (mo_B_X5_lockRow_83 mk19 x0 x1 x2 (x3 + (1 : Int32)) x4 (ar σ6 (gr σ6 120 (gr σ6 200 x0)) x4.toNatClampNeg) _) (mo_bd (mo_F_X5_lose x0 x1 _) (fun r16 σ16 => mo_ret))) mo_none) mo_none)) mo_none) mo_none) mo_none) mo_none) (mo_B_X5_lockRow_117 mk19 x0 x1 x2 x3 x4 _)))) mo_none))
set_option maxHeartbeats 4000000 in
set_option maxRecDepth 100000 in
theorem w_X5_lockRow_19 {p : Program} {l : Launch} {e : Env} {s : State} {m : MethodId} {args : Array Value} {below : List Frame} {meth : Method} {c : Code} {D : va_G} {dA : Nat → ClassId} {base : Nat} {σ0 τ : HS} {r : Int32} (cx : CX p s m args meth c cX5_lockRow 6 (some .int) RX5 "lockRow" D dA base) {k19 : Nat → Nat → Int32 → Int32 → Int32 → HS → Option (Int32 × HS)} (mk19 : ∀ x0 x1 x2 x3 x4 σ, Mo σ (k19 x0 x1 x2 x3 x4 σ)) (hk19 : ∀ x0 x1 x2 x3 x4 σ H locs ls, Wd D dA base σ s H locs → LE σ0 σ → lv_has ls 6 [(0, vr x0), (1, vr x1), (2, .int x2), (3, .int x3), (4, .int x4)] → k19 x0 x1 x2 x3 x4 σ = some (r, τ) → WG p l e s m args below meth c D dA base 5 112 (some (.int r)) σ0 τ σ H locs 19 ls []) (x0 : Nat) (x1 : Nat) (x2 : Int32) (x3 : Int32) (x4 : Int32) {σ : HS} {H : Heap} {locs : List Loc} {ls : Array Slot} (h : Wd D dA base σ s H locs) (g : LE σ0 σ) (hl : lv_has ls 6 [(0, vr x0), (1, vr x1), (2, .int x2), (3, .int x3), (4, .int x4)]) (hF : B_X5_lockRow_19 k19 x0 x1 x2 x3 x4 σ = some (r, τ)) : WG p l e s m args below meth c D dA base 5 112 (some (.int r)) σ0 τ σ H locs 19 ls [] := by
  obtain ⟨hx, hb, -⟩ := id cx
  unfold B_X5_lockRow_19 at hF
  refine lv_iload hx hb dX5_lockRow_19 (lv_at hl 4 rfl) ?_
  refine lv_iload_n hx hb dX5_lockRow_21 rfl (lv_at hl 2 rfl) ?_
  refine lv_iconst (v := (4 : Int32)) hx hb dX5_lockRow_22 (by decide) ?_
  refine lv_iadd hx hb dX5_lockRow_23 ?_
  refine lv_icmp_ge (tgt := 123) hx hb dX5_lockRow_24 (by decide) (fun c1 => ?_) (fun c1 => ?_)
  · replace hF := ifp c1 hF
    refine x_aload_n hx hb dX5_lockRow_123 rfl (lv_at hl 0 rfl) ?_
    obtain ⟨hq2, hF⟩ := ifs hF
    refine x_getr cx h fa_X5_10 (f := 200) rfl hq2 dX5_lockRow_124 ?_
    obtain ⟨hq3, hF⟩ := ifs hF
    refine x_geti cx h fa_X5_180 (f := 121) rfl hq3 dX5_lockRow_127 ?_
    refine lv_iload_n hx hb dX5_lockRow_130 rfl (lv_at hl 3 rfl) ?_
    refine lv_iconst (v := (3 : Int32)) hx hb dX5_lockRow_131 (by decide) ?_
    refine lv_imul hx hb dX5_lockRow_132 ?_
    refine lv_iadd hx hb dX5_lockRow_133 ?_
    refine lv_sipush (v := (3000 : Int32)) hx hb dX5_lockRow_134 (by decide) ?_
    refine lv_icmp_le (tgt := 143) hx hb dX5_lockRow_137 (by decide) (fun c4 => ?_) (fun c4 => ?_)
    · replace hF := ifp c4 hF
      refine lv_iload_n hx hb dX5_lockRow_143 rfl (lv_at hl 2 rfl) ?_
      refine x_istore (lv' := [(4, .int x2), (0, vr x0), (1, vr x1), (2, .int x2), (3, .int x3)]) hx hb dX5_lockRow_144 hl (by decide) (cR (cR (cI (cI (cI cN))))) rfl (fun ls hl => ?_)
      exact wl_X5_lockRow_146 cx   NF x0 x1 x2 x2 σ _ _ _ h g (lv_sub hl [1, 2, 3, 0] rfl) hF
    · replace hF := ifn c4 hF
      refine lv_bipush (v := (-4 : Int32)) hx hb dX5_lockRow_140 (by decide) ?_
      obtain ⟨rfl, rfl⟩ := rts hF
      exact x_iret cx h dX5_lockRow_142
  · replace hF := ifn c1 hF
    refine x_aload_n hx hb dX5_lockRow_27 rfl (lv_at hl 1 rfl) ?_
    refine lv_iload hx hb dX5_lockRow_28 (lv_at hl 4 rfl) ?_
    obtain ⟨hq5, hF⟩ := ifs hF
    obtain ⟨r6, σ6, hc6, hF⟩ := bds hF
    refine x_calli (σ := σ) g (LEm hc6 (mo_F_X4_placeOf x1 x4 _)) (x_runV (As := [.int x4]) (rest := []) cx h (c_X4_placeOf l D dA base x1 x4 hc6) ml_X5_196 mi_X4_placeOf hq5 rfl ⟨Nat.le_of_ble_eq_true rfl, Nat.le_of_ble_eq_true rfl⟩ hl.1 rfl (s8 sN (by decide)) dX5_lockRow_30 (le_room g (LEm hc6 (mo_F_X4_placeOf x1 x4 _)) (LEm hF (mo_ite (mo_ite (mo_ite (mo_ite (mo_ite (mo_ite (mo_B_X5_lockRow_83 mk19 x0 x1 x2 (x3 + (1 : Int32)) x4 (ar σ6 (gr σ6 120 (gr σ6 200 x0)) x4.toNatClampNeg) _) (mo_ite (mo_ite (mo_ite (mo_B_X5_lockRow_83 mk19 x0 x1 x2 (x3 + (1 : Int32)) x4 (ar σ6 (gr σ6 120 (gr σ6 200 x0)) x4.toNatClampNeg) _) (mo_bd (mo_F_X5_lose x0 x1 _) (fun r16 σ16 => mo_ret))) mo_none) mo_none)) mo_none) mo_none) mo_none) mo_none) (mo_B_X5_lockRow_117 mk19 x0 x1 x2 x3 x4 _))))) h (fun H locs h g => ?_)
    refine lv_if_ge (tgt := 39) hx hb dX5_lockRow_33 (by decide) (fun c7 => ?_) (fun c7 => ?_)
    · replace hF := ifp c7 hF
      refine x_iinc (k := 3) (v := (1 : Int32)) (lv' := [(3, .int (x3 + (1 : Int32))), (0, vr x0), (1, vr x1), (2, .int x2), (4, .int x4)]) hx hb dX5_lockRow_39 hl rfl (by decide) (by decide) (cR (cR (cI (cI (cI cN))))) rfl (fun ls hl => ?_)
      refine x_aload_n hx hb dX5_lockRow_42 rfl (lv_at hl 1 rfl) ?_
      obtain ⟨hq8, hF⟩ := ifs hF
      refine x_getr cx h fa_X5_10 (f := 200) rfl hq8 dX5_lockRow_43 ?_
      obtain ⟨hq9, hF⟩ := ifs hF
      refine x_getr cx h fa_X5_125 (f := 120) rfl hq9 dX5_lockRow_46 ?_
      refine lv_iload hx hb dX5_lockRow_49 (lv_at hl 4 rfl) ?_
      obtain ⟨hq10, hF⟩ := ifs hF
      refine x_aald cx h RA2 hq10.1 (inb.vp hq10.2) dX5_lockRow_51 ?_
      refine x_astore (lv' := [(5, vr (ar σ6 (gr σ6 120 (gr σ6 200 x0)) x4.toNatClampNeg)), (3, .int (x3 + (1 : Int32))), (0, vr x0), (1, vr x1), (2, .int x2), (4, .int x4)]) hx hb dX5_lockRow_52 hl (by decide) (cI (cR (cR (cI (cI cN))))) rfl (fun ls hl => ?_)
      refine x_aload hx hb dX5_lockRow_54 (lv_at hl 0 rfl) ?_
      obtain ⟨hq11, hF⟩ := ifs hF
      refine x_getr cx h fa_X5_151 (f := 1) rfl hq11 dX5_lockRow_56 ?_
      refine x_ifnull (tgt := 83) hx hb dX5_lockRow_59 (by decide) (fun c12 => ?_) (fun c12 => ?_)
      · replace hF := ifp c12 hF
        exact w_X5_lockRow_83 (σ := σ6) cx mk19 hk19 x0 x1 x2 (x3 + (1 : Int32)) x4 (ar σ6 (gr σ6 120 (gr σ6 200 x0)) x4.toNatClampNeg) h g (lv_sub hl [2, 3, 4, 1, 5, 0] rfl) hF
      · replace hF := ifn c12 hF
        refine x_aload hx hb dX5_lockRow_62 (lv_at hl 0 rfl) ?_
        refine x_getr cx h fa_X5_151 (f := 1) rfl hq11 dX5_lockRow_64 ?_
        obtain ⟨hq13, hF⟩ := ifs hF
        refine x_geti cx h fa_X5_165 (f := 40) rfl hq13 dX5_lockRow_67 ?_
        refine x_aload_n hx hb dX5_lockRow_70 rfl (lv_at hl 3 rfl) ?_
        obtain ⟨hq14, hF⟩ := ifs hF
        refine x_geti cx h fa_X5_56 (f := 161) rfl hq14 dX5_lockRow_71 ?_
        refine lv_icmp_lt (tgt := 83) hx hb dX5_lockRow_74 (by decide) (fun c15 => ?_) (fun c15 => ?_)
        · replace hF := ifp c15 hF
          exact w_X5_lockRow_83 (σ := σ6) cx mk19 hk19 x0 x1 x2 (x3 + (1 : Int32)) x4 (ar σ6 (gr σ6 120 (gr σ6 200 x0)) x4.toNatClampNeg) h g (lv_sub hl [2, 3, 4, 1, 5, 0] rfl) hF
        · replace hF := ifn c15 hF
          refine x_aload_n hx hb dX5_lockRow_77 rfl (lv_at hl 2 rfl) ?_
          refine x_aload_n hx hb dX5_lockRow_78 rfl (lv_at hl 3 rfl) ?_
          obtain ⟨r16, σ16, hc16, hF⟩ := bds hF
          refine x_calli (σ := σ6) g (LEm hc16 (mo_F_X5_lose x0 x1 _)) (x_runV (As := [vr x1]) (rest := []) cx h (c_X5_lose l D dA base x0 x1 hc16) ml_X5_230 mi_X5_lose hq8 rfl ⟨Nat.le_of_ble_eq_true rfl, Nat.le_of_ble_eq_true rfl⟩ hl.1 rfl (s8 sN (by decide)) dX5_lockRow_79 (le_room g (LEm hc16 (mo_F_X5_lose x0 x1 _)) (LEm hF mo_ret))) h (fun H locs h g => ?_)
          obtain ⟨rfl, rfl⟩ := rts hF
          exact x_iret cx h dX5_lockRow_82
    · replace hF := ifn c7 hF
      refine lv_goto (tgt := 117) hx hb dX5_lockRow_36 (by decide) ?_
      exact w_X5_lockRow_117 (σ := σ6) cx mk19 hk19 x0 x1 x2 x3 x4 h g (lv_sub hl [0, 1, 2, 3, 4] rfl) hF
def L_X5_lockRow_19  : Nat → Nat → Nat → Int32 → Int32 → Int32 → HS → Option (Int32 × HS)
  | 0, _, _, _, _, _, _ => none
  | N + 1, x0, x1, x2, x3, x4, σ => B_X5_lockRow_19 (L_X5_lockRow_19  N) x0 x1 x2 x3 x4 σ
theorem mo_L_X5_lockRow_19  : ∀ (N : Nat) (x0 : Nat) (x1 : Nat) (x2 : Int32) (x3 : Int32) (x4 : Int32) (σ : HS), Mo σ (L_X5_lockRow_19  N x0 x1 x2 x3 x4 σ) := by
  intro N
  induction N with
  | zero => intro x0 x1 x2 x3 x4 σ; exact mo_none
  | succ N ih => intro x0 x1 x2 x3 x4 σ; exact mo_B_X5_lockRow_19 ih x0 x1 x2 x3 x4 σ
theorem wl_X5_lockRow_19 {p : Program} {l : Launch} {e : Env} {s : State} {m : MethodId} {args : Array Value} {below : List Frame} {meth : Method} {c : Code} {D : va_G} {dA : Nat → ClassId} {base : Nat} {σ0 τ : HS} {r : Int32} (cx : CX p s m args meth c cX5_lockRow 6 (some .int) RX5 "lockRow" D dA base)  : ∀ (N : Nat) (x0 : Nat) (x1 : Nat) (x2 : Int32) (x3 : Int32) (x4 : Int32) (σ : HS) (H : Heap) (locs : List Loc) (ls : Array Slot), Wd D dA base σ s H locs → LE σ0 σ → lv_has ls 6 [(0, vr x0), (1, vr x1), (2, .int x2), (3, .int x3), (4, .int x4)] → L_X5_lockRow_19  N x0 x1 x2 x3 x4 σ = some (r, τ) → WG p l e s m args below meth c D dA base 5 112 (some (.int r)) σ0 τ σ H locs 19 ls [] := by
  intro N
  induction N with
  | zero => intro x0 x1 x2 x3 x4 σ H locs ls h g hl hF; cases hF
  | succ N ih => intro x0 x1 x2 x3 x4 σ H locs ls h g hl hF; exact w_X5_lockRow_19 cx (mo_L_X5_lockRow_19  N) ih x0 x1 x2 x3 x4 h g hl hF
def F_X5_lockRow (a0 : Nat) (a1 : Nat) (σ : HS) : Option (Int32 × HS) :=
  if kd σ a1 = 5 then (if kd σ (gr σ 168 a1) = 100 ∧ inb (gi σ 169 a1) (ln σ (gr σ 168 a1)) then (bd (F_X5_cellIndex (ai σ (gr σ 168 a1) (gi σ 169 a1).toNatClampNeg) (0 : Int32) σ) (fun r3 σ3 => L_X5_lockRow_19  NF a0 a1 r3 (0 : Int32) r3 σ3)) else none) else none
theorem mo_F_X5_lockRow (a0 : Nat) (a1 : Nat) (σ : HS) : Mo σ (F_X5_lockRow a0 a1 σ) := by
  unfold F_X5_lockRow
  exact (mo_ite (mo_ite (mo_bd (mo_F_X5_cellIndex (ai σ (gr σ 168 a1) (gi σ 169 a1).toNatClampNeg) (0 : Int32) _) (fun r3 σ3 => (mo_L_X5_lockRow_19  NF a0 a1 r3 (0 : Int32) r3 _))) mo_none) mo_none)
set_option maxHeartbeats 4000000 in
set_option maxRecDepth 100000 in
theorem c_X5_lockRow (l : Launch) (D : va_G) (dA : Nat → ClassId) (base : Nat) (a0 : Nat) (a1 : Nat) {σ τ : HS} {r : Int32} (hF : F_X5_lockRow a0 a1 σ = some (r, τ)) : CT l yX5_lockRow cX5_lockRow 6 (some .int) 5 112 D dA base [vr a0, vr a1] (some (.int r)) σ τ := by
  refine CT.of (lv := [(0, vr a0), (1, vr a1)]) (by decide) (vR (vR vN)) (Nat.le_of_ble_eq_true rfl) rfl ?_
  intro p e s m args below meth c ls cx hl h
  have cx : CX p s m args meth c cX5_lockRow 6 (some .int) RX5 "lockRow" D dA base := cx
  have g : LE σ σ := LE.rf
  obtain ⟨hx, hb, -⟩ := id cx
  unfold F_X5_lockRow at hF
  refine x_aload_n hx hb dX5_lockRow_0 rfl (lv_at hl 1 rfl) ?_
  obtain ⟨hq1, hF⟩ := ifs hF
  refine x_getr cx h fa_X5_227 (f := 168) rfl hq1 dX5_lockRow_1 ?_
  refine x_aload_n hx hb dX5_lockRow_4 rfl (lv_at hl 1 rfl) ?_
  refine x_geti cx h fa_X5_119 (f := 169) rfl hq1 dX5_lockRow_5 ?_
  obtain ⟨hq2, hF⟩ := ifs hF
  refine x_iald cx h hq2.1 (inb.vp hq2.2) dX5_lockRow_8 ?_
  refine lv_iconst (v := (0 : Int32)) hx hb dX5_lockRow_9 (by decide) ?_
  obtain ⟨r3, σ3, hc3, hF⟩ := bds hF
  refine x_calli (σ := σ) g (LEm hc3 (mo_F_X5_cellIndex (ai σ (gr σ 168 a1) (gi σ 169 a1).toNatClampNeg) (0 : Int32) _)) (x_runS (As := [.int (ai σ (gr σ 168 a1) (gi σ 169 a1).toNatClampNeg), .int (0 : Int32)]) (rest := []) cx h (c_X5_cellIndex l D dA base (ai σ (gr σ 168 a1) (gi σ 169 a1).toNatClampNeg) (0 : Int32) hc3) ml_X5_63 mi_X5_cellIndex rfl ⟨Nat.le_of_ble_eq_true rfl, Nat.le_of_ble_eq_true rfl⟩ hl.1 rfl (s8 sN (by decide)) dX5_lockRow_10 (le_room g (LEm hc3 (mo_F_X5_cellIndex (ai σ (gr σ 168 a1) (gi σ 169 a1).toNatClampNeg) (0 : Int32) _)) (LEm hF (mo_L_X5_lockRow_19  NF a0 a1 r3 (0 : Int32) r3 _)))) h (fun H locs h g => ?_)
  refine x_istore_n (lv' := [(2, .int r3), (0, vr a0), (1, vr a1)]) hx hb dX5_lockRow_13 rfl hl (by decide) (cR (cR cN)) rfl (fun ls hl => ?_)
  refine lv_iconst (v := (0 : Int32)) hx hb dX5_lockRow_14 (by decide) ?_
  refine x_istore_n (lv' := [(3, .int (0 : Int32)), (2, .int r3), (0, vr a0), (1, vr a1)]) hx hb dX5_lockRow_15 rfl hl (by decide) (cI (cR (cR cN))) rfl (fun ls hl => ?_)
  refine lv_iload_n hx hb dX5_lockRow_16 rfl (lv_at hl 1 rfl) ?_
  refine x_istore (lv' := [(4, .int r3), (3, .int (0 : Int32)), (2, .int r3), (0, vr a0), (1, vr a1)]) hx hb dX5_lockRow_17 hl (by decide) (cI (cI (cR (cR cN)))) rfl (fun ls hl => ?_)
  exact wl_X5_lockRow_19 cx   NF a0 a1 r3 (0 : Int32) r3 σ3 _ _ _ h g (lv_sub hl [3, 4, 2, 1, 0] rfl) hF
def B_X5_settleCells_57 (k2 : Nat → Nat → Int32 → Int32 → HS → Option (Unit × HS)) (x0 : Nat) (x1 : Nat) (x2 : Int32) (x3 : Int32) (σ : HS) : Option (Unit × HS) :=
  k2 x0 x1 x2 (x3 + (1 : Int32)) σ
theorem mo_B_X5_settleCells_57 {k2 : Nat → Nat → Int32 → Int32 → HS → Option (Unit × HS)} (mk2 : ∀ x0 x1 x2 x3 σ, Mo σ (k2 x0 x1 x2 x3 σ)) (x0 : Nat) (x1 : Nat) (x2 : Int32) (x3 : Int32) (σ : HS) : Mo σ (B_X5_settleCells_57 k2 x0 x1 x2 x3 σ) := by
  unfold B_X5_settleCells_57
  exact (mk2 x0 x1 x2 (x3 + (1 : Int32)) _)
set_option maxHeartbeats 4000000 in
set_option maxRecDepth 100000 in
theorem w_X5_settleCells_57 {p : Program} {l : Launch} {e : Env} {s : State} {m : MethodId} {args : Array Value} {below : List Frame} {meth : Method} {c : Code} {D : va_G} {dA : Nat → ClassId} {base : Nat} {σ0 τ : HS} {r : Unit} (cx : CX p s m args meth c cX5_settleCells 5 none RX5 "settleCells" D dA base) {k2 : Nat → Nat → Int32 → Int32 → HS → Option (Unit × HS)} (mk2 : ∀ x0 x1 x2 x3 σ, Mo σ (k2 x0 x1 x2 x3 σ)) (hk2 : ∀ x0 x1 x2 x3 σ H locs ls, Wd D dA base σ s H locs → LE σ0 σ → lv_has ls 5 [(0, vr x0), (1, vr x1), (2, .int x2), (3, .int x3)] → k2 x0 x1 x2 x3 σ = some (r, τ) → WG p l e s m args below meth c D dA base 3 66 none σ0 τ σ H locs 2 ls []) (x0 : Nat) (x1 : Nat) (x2 : Int32) (x3 : Int32) {σ : HS} {H : Heap} {locs : List Loc} {ls : Array Slot} (h : Wd D dA base σ s H locs) (g : LE σ0 σ) (hl : lv_has ls 5 [(0, vr x0), (1, vr x1), (2, .int x2), (3, .int x3)]) (hF : B_X5_settleCells_57 k2 x0 x1 x2 x3 σ = some (r, τ)) : WG p l e s m args below meth c D dA base 3 66 none σ0 τ σ H locs 57 ls [] := by
  obtain ⟨hx, hb, -⟩ := id cx
  unfold B_X5_settleCells_57 at hF
  refine x_iinc (k := 3) (v := (1 : Int32)) (lv' := [(3, .int (x3 + (1 : Int32))), (0, vr x0), (1, vr x1), (2, .int x2)]) hx hb dX5_settleCells_57 hl rfl (by decide) (by decide) (cR (cR (cI (cI cN)))) rfl (fun ls hl => ?_)
  refine lv_goto (tgt := 2) hx hb dX5_settleCells_60 (by decide) ?_
  exact hk2 x0 x1 x2 (x3 + (1 : Int32)) σ _ _ _ h g (lv_sub hl [1, 2, 3, 0] rfl) hF
def B_X5_settleCells_2 (k2 : Nat → Nat → Int32 → Int32 → HS → Option (Unit × HS)) (x0 : Nat) (x1 : Nat) (x2 : Int32) (x3 : Int32) (σ : HS) : Option (Unit × HS) :=
  if (4 : Int32) ≤ x3 then (some ((), σ)) else (if kd σ x0 = 6 then (if kd σ (gr σ 200 x0) = 4 then (bd (F_X5_cellIndex x2 x3 σ) (fun r4 σ4 => if kd σ4 (gr σ 120 (gr σ 200 x0)) = 102 ∧ inb r4 (ln σ4 (gr σ 120 (gr σ 200 x0))) then (if kd σ4 x1 = 5 then (bd (F_X4_hasLockIn x1 (ar σ4 (gr σ 120 (gr σ 200 x0)) r4.toNatClampNeg) σ4) (fun r7 σ7 => if r7 = 0 then (B_X5_settleCells_57 k2 x0 x1 x2 x3 σ7) else (if kd σ7 x0 = 6 then (if kd σ7 x1 = 5 then (if kd σ7 (gr σ7 200 x0) = 4 then (bd (F_X3_addWrite (gr σ7 200 x0) (ar σ4 (gr σ 120 (gr σ 200 x0)) r4.toNatClampNeg) (gi σ7 163 x1) (gi σ7 161 x1) σ7) (fun r12 σ12 => if kd σ12 x0 = 6 then (if kd σ12 (gr σ12 200 x0) = 4 then (bd (F_X3_dropLock (gr σ12 200 x0) (ar σ4 (gr σ 120 (gr σ 200 x0)) r4.toNatClampNeg) σ12) (fun r15 σ15 => B_X5_settleCells_57 k2 x0 x1 x2 x3 σ15)) else none) else none)) else none) else none) else none))) else none) else none)) else none) else none)
theorem mo_B_X5_settleCells_2 {k2 : Nat → Nat → Int32 → Int32 → HS → Option (Unit × HS)} (mk2 : ∀ x0 x1 x2 x3 σ, Mo σ (k2 x0 x1 x2 x3 σ)) (x0 : Nat) (x1 : Nat) (x2 : Int32) (x3 : Int32) (σ : HS) : Mo σ (B_X5_settleCells_2 k2 x0 x1 x2 x3 σ) := by
  unfold B_X5_settleCells_2
  exact (mo_ite mo_ret (mo_ite (mo_ite (mo_bd (mo_F_X5_cellIndex x2 x3 _) (fun r4 σ4 => (mo_ite (mo_ite (mo_bd (mo_F_X4_hasLockIn x1 (ar σ4 (gr σ 120 (gr σ 200 x0)) r4.toNatClampNeg) _) (fun r7 σ7 => (mo_ite (mo_B_X5_settleCells_57 mk2 x0 x1 x2 x3 _) (mo_ite (mo_ite (mo_ite (mo_bd (mo_F_X3_addWrite (gr σ7 200 x0) (ar σ4 (gr σ 120 (gr σ 200 x0)) r4.toNatClampNeg) (gi σ7 163 x1) (gi σ7 161 x1) _) (fun r12 σ12 => (mo_ite (mo_ite (mo_bd (mo_F_X3_dropLock (gr σ12 200 x0) (ar σ4 (gr σ 120 (gr σ 200 x0)) r4.toNatClampNeg) _) (fun r15 σ15 => (mo_B_X5_settleCells_57 mk2 x0 x1 x2 x3 _))) mo_none) mo_none))) mo_none) mo_none) mo_none)))) mo_none) mo_none))) mo_none) mo_none))
set_option maxHeartbeats 4000000 in
set_option maxRecDepth 100000 in
theorem w_X5_settleCells_2 {p : Program} {l : Launch} {e : Env} {s : State} {m : MethodId} {args : Array Value} {below : List Frame} {meth : Method} {c : Code} {D : va_G} {dA : Nat → ClassId} {base : Nat} {σ0 τ : HS} {r : Unit} (cx : CX p s m args meth c cX5_settleCells 5 none RX5 "settleCells" D dA base) {k2 : Nat → Nat → Int32 → Int32 → HS → Option (Unit × HS)} (mk2 : ∀ x0 x1 x2 x3 σ, Mo σ (k2 x0 x1 x2 x3 σ)) (hk2 : ∀ x0 x1 x2 x3 σ H locs ls, Wd D dA base σ s H locs → LE σ0 σ → lv_has ls 5 [(0, vr x0), (1, vr x1), (2, .int x2), (3, .int x3)] → k2 x0 x1 x2 x3 σ = some (r, τ) → WG p l e s m args below meth c D dA base 3 66 none σ0 τ σ H locs 2 ls []) (x0 : Nat) (x1 : Nat) (x2 : Int32) (x3 : Int32) {σ : HS} {H : Heap} {locs : List Loc} {ls : Array Slot} (h : Wd D dA base σ s H locs) (g : LE σ0 σ) (hl : lv_has ls 5 [(0, vr x0), (1, vr x1), (2, .int x2), (3, .int x3)]) (hF : B_X5_settleCells_2 k2 x0 x1 x2 x3 σ = some (r, τ)) : WG p l e s m args below meth c D dA base 3 66 none σ0 τ σ H locs 2 ls [] := by
  obtain ⟨hx, hb, -⟩ := id cx
  unfold B_X5_settleCells_2 at hF
  refine lv_iload_n hx hb dX5_settleCells_2 rfl (lv_at hl 3 rfl) ?_
  refine lv_iconst (v := (4 : Int32)) hx hb dX5_settleCells_3 (by decide) ?_
  refine lv_icmp_ge (tgt := 63) hx hb dX5_settleCells_4 (by decide) (fun c1 => ?_) (fun c1 => ?_)
  · replace hF := ifp c1 hF
    obtain ⟨rfl, rfl⟩ := rts hF
    exact x_vret cx h dX5_settleCells_63
  · replace hF := ifn c1 hF
    refine x_aload_n hx hb dX5_settleCells_7 rfl (lv_at hl 0 rfl) ?_
    obtain ⟨hq2, hF⟩ := ifs hF
    refine x_getr cx h fa_X5_10 (f := 200) rfl hq2 dX5_settleCells_8 ?_
    obtain ⟨hq3, hF⟩ := ifs hF
    refine x_getr cx h fa_X5_125 (f := 120) rfl hq3 dX5_settleCells_11 ?_
    refine lv_iload_n hx hb dX5_settleCells_14 rfl (lv_at hl 2 rfl) ?_
    refine lv_iload_n hx hb dX5_settleCells_15 rfl (lv_at hl 3 rfl) ?_
    obtain ⟨r4, σ4, hc4, hF⟩ := bds hF
    refine x_calli (σ := σ) g (LEm hc4 (mo_F_X5_cellIndex x2 x3 _)) (x_runS (As := [.int x2, .int x3]) (rest := [vr (gr σ 120 (gr σ 200 x0))]) cx h (c_X5_cellIndex l D dA base x2 x3 hc4) ml_X5_63 mi_X5_cellIndex rfl ⟨Nat.le_of_ble_eq_true rfl, Nat.le_of_ble_eq_true rfl⟩ hl.1 rfl (s8 (sR sN) (by decide)) dX5_settleCells_16 (le_room g (LEm hc4 (mo_F_X5_cellIndex x2 x3 _)) (LEm hF (mo_ite (mo_ite (mo_bd (mo_F_X4_hasLockIn x1 (ar σ4 (gr σ 120 (gr σ 200 x0)) r4.toNatClampNeg) _) (fun r7 σ7 => (mo_ite (mo_B_X5_settleCells_57 mk2 x0 x1 x2 x3 _) (mo_ite (mo_ite (mo_ite (mo_bd (mo_F_X3_addWrite (gr σ7 200 x0) (ar σ4 (gr σ 120 (gr σ 200 x0)) r4.toNatClampNeg) (gi σ7 163 x1) (gi σ7 161 x1) _) (fun r12 σ12 => (mo_ite (mo_ite (mo_bd (mo_F_X3_dropLock (gr σ12 200 x0) (ar σ4 (gr σ 120 (gr σ 200 x0)) r4.toNatClampNeg) _) (fun r15 σ15 => (mo_B_X5_settleCells_57 mk2 x0 x1 x2 x3 _))) mo_none) mo_none))) mo_none) mo_none) mo_none)))) mo_none) mo_none)))) h (fun H locs h g => ?_)
    obtain ⟨hq5, hF⟩ := ifs hF
    refine x_aald cx h RA2 hq5.1 (inb.vp hq5.2) dX5_settleCells_19 ?_
    refine x_astore (lv' := [(4, vr (ar σ4 (gr σ 120 (gr σ 200 x0)) r4.toNatClampNeg)), (0, vr x0), (1, vr x1), (2, .int x2), (3, .int x3)]) hx hb dX5_settleCells_20 hl (by decide) (cR (cR (cI (cI cN)))) rfl (fun ls hl => ?_)
    refine x_aload_n hx hb dX5_settleCells_22 rfl (lv_at hl 2 rfl) ?_
    refine x_aload hx hb dX5_settleCells_23 (lv_at hl 0 rfl) ?_
    obtain ⟨hq6, hF⟩ := ifs hF
    obtain ⟨r7, σ7, hc7, hF⟩ := bds hF
    refine x_calli (σ := σ4) g (LEm hc7 (mo_F_X4_hasLockIn x1 (ar σ4 (gr σ 120 (gr σ 200 x0)) r4.toNatClampNeg) _)) (x_runV (As := [vr (ar σ4 (gr σ 120 (gr σ 200 x0)) r4.toNatClampNeg)]) (rest := []) cx h (c_X4_hasLockIn l D dA base x1 (ar σ4 (gr σ 120 (gr σ 200 x0)) r4.toNatClampNeg) hc7) ml_X5_247 mi_X4_hasLockIn hq6 rfl ⟨Nat.le_of_ble_eq_true rfl, Nat.le_of_ble_eq_true rfl⟩ hl.1 rfl (s8 sN (by decide)) dX5_settleCells_25 (le_room g (LEm hc7 (mo_F_X4_hasLockIn x1 (ar σ4 (gr σ 120 (gr σ 200 x0)) r4.toNatClampNeg) _)) (LEm hF (mo_ite (mo_B_X5_settleCells_57 mk2 x0 x1 x2 x3 _) (mo_ite (mo_ite (mo_ite (mo_bd (mo_F_X3_addWrite (gr σ7 200 x0) (ar σ4 (gr σ 120 (gr σ 200 x0)) r4.toNatClampNeg) (gi σ7 163 x1) (gi σ7 161 x1) _) (fun r12 σ12 => (mo_ite (mo_ite (mo_bd (mo_F_X3_dropLock (gr σ12 200 x0) (ar σ4 (gr σ 120 (gr σ 200 x0)) r4.toNatClampNeg) _) (fun r15 σ15 => (mo_B_X5_settleCells_57 mk2 x0 x1 x2 x3 _))) mo_none) mo_none))) mo_none) mo_none) mo_none))))) h (fun H locs h g => ?_)
    refine lv_if_eq (tgt := 57) hx hb dX5_settleCells_28 (by decide) (fun c8 => ?_) (fun c8 => ?_)
    · replace hF := ifp c8 hF
      exact w_X5_settleCells_57 (σ := σ7) cx mk2 hk2 x0 x1 x2 x3 h g (lv_sub hl [1, 2, 3, 4] rfl) hF
    · replace hF := ifn c8 hF
      refine x_aload_n hx hb dX5_settleCells_31 rfl (lv_at hl 1 rfl) ?_
      obtain ⟨hq9, hF⟩ := ifs hF
      refine x_getr cx h fa_X5_10 (f := 200) rfl hq9 dX5_settleCells_32 ?_
      refine x_aload hx hb dX5_settleCells_35 (lv_at hl 0 rfl) ?_
      refine x_aload_n hx hb dX5_settleCells_37 rfl (lv_at hl 2 rfl) ?_
      obtain ⟨hq10, hF⟩ := ifs hF
      refine x_geti cx h fa_X5_122 (f := 163) rfl hq10 dX5_settleCells_38 ?_
      refine x_aload_n hx hb dX5_settleCells_41 rfl (lv_at hl 2 rfl) ?_
      refine x_geti cx h fa_X5_56 (f := 161) rfl hq10 dX5_settleCells_42 ?_
      obtain ⟨hq11, hF⟩ := ifs hF
      obtain ⟨r12, σ12, hc12, hF⟩ := bds hF
      refine x_callv (σ := σ7) g (LEm hc12 (mo_F_X3_addWrite (gr σ7 200 x0) (ar σ4 (gr σ 120 (gr σ 200 x0)) r4.toNatClampNeg) (gi σ7 163 x1) (gi σ7 161 x1) _)) (x_runV (As := [vr (ar σ4 (gr σ 120 (gr σ 200 x0)) r4.toNatClampNeg), .int (gi σ7 163 x1), .int (gi σ7 161 x1)]) (rest := []) cx h (c_X3_addWrite l D dA base (gr σ7 200 x0) (ar σ4 (gr σ 120 (gr σ 200 x0)) r4.toNatClampNeg) (gi σ7 163 x1) (gi σ7 161 x1) hc12) ml_X5_250 mi_X3_addWrite hq11 rfl ⟨Nat.le_of_ble_eq_true rfl, Nat.le_of_ble_eq_true rfl⟩ hl.1 rfl (s8 sN (by decide)) dX5_settleCells_45 (le_room g (LEm hc12 (mo_F_X3_addWrite (gr σ7 200 x0) (ar σ4 (gr σ 120 (gr σ 200 x0)) r4.toNatClampNeg) (gi σ7 163 x1) (gi σ7 161 x1) _)) (LEm hF (mo_ite (mo_ite (mo_bd (mo_F_X3_dropLock (gr σ12 200 x0) (ar σ4 (gr σ 120 (gr σ 200 x0)) r4.toNatClampNeg) _) (fun r15 σ15 => (mo_B_X5_settleCells_57 mk2 x0 x1 x2 x3 _))) mo_none) mo_none)))) h (fun H locs h g => ?_)
      refine x_aload_n hx hb dX5_settleCells_48 rfl (lv_at hl 1 rfl) ?_
      obtain ⟨hq13, hF⟩ := ifs hF
      refine x_getr cx h fa_X5_10 (f := 200) rfl hq13 dX5_settleCells_49 ?_
      refine x_aload hx hb dX5_settleCells_52 (lv_at hl 0 rfl) ?_
      obtain ⟨hq14, hF⟩ := ifs hF
      obtain ⟨r15, σ15, hc15, hF⟩ := bds hF
      refine x_callv (σ := σ12) g (LEm hc15 (mo_F_X3_dropLock (gr σ12 200 x0) (ar σ4 (gr σ 120 (gr σ 200 x0)) r4.toNatClampNeg) _)) (x_runV (As := [vr (ar σ4 (gr σ 120 (gr σ 200 x0)) r4.toNatClampNeg)]) (rest := []) cx h (c_X3_dropLock l D dA base (gr σ12 200 x0) (ar σ4 (gr σ 120 (gr σ 200 x0)) r4.toNatClampNeg) hc15) ml_X5_253 mi_X3_dropLock hq14 rfl ⟨Nat.le_of_ble_eq_true rfl, Nat.le_of_ble_eq_true rfl⟩ hl.1 rfl (s8 sN (by decide)) dX5_settleCells_54 (le_room g (LEm hc15 (mo_F_X3_dropLock (gr σ12 200 x0) (ar σ4 (gr σ 120 (gr σ 200 x0)) r4.toNatClampNeg) _)) (LEm hF (mo_B_X5_settleCells_57 mk2 x0 x1 x2 x3 _)))) h (fun H locs h g => ?_)
      exact w_X5_settleCells_57 (σ := σ15) cx mk2 hk2 x0 x1 x2 x3 h g (lv_sub hl [1, 2, 3, 4] rfl) hF
def L_X5_settleCells_2  : Nat → Nat → Nat → Int32 → Int32 → HS → Option (Unit × HS)
  | 0, _, _, _, _, _ => none
  | N + 1, x0, x1, x2, x3, σ => B_X5_settleCells_2 (L_X5_settleCells_2  N) x0 x1 x2 x3 σ
theorem mo_L_X5_settleCells_2  : ∀ (N : Nat) (x0 : Nat) (x1 : Nat) (x2 : Int32) (x3 : Int32) (σ : HS), Mo σ (L_X5_settleCells_2  N x0 x1 x2 x3 σ) := by
  intro N
  induction N with
  | zero => intro x0 x1 x2 x3 σ; exact mo_none
  | succ N ih => intro x0 x1 x2 x3 σ; exact mo_B_X5_settleCells_2 ih x0 x1 x2 x3 σ
theorem wl_X5_settleCells_2 {p : Program} {l : Launch} {e : Env} {s : State} {m : MethodId} {args : Array Value} {below : List Frame} {meth : Method} {c : Code} {D : va_G} {dA : Nat → ClassId} {base : Nat} {σ0 τ : HS} {r : Unit} (cx : CX p s m args meth c cX5_settleCells 5 none RX5 "settleCells" D dA base)  : ∀ (N : Nat) (x0 : Nat) (x1 : Nat) (x2 : Int32) (x3 : Int32) (σ : HS) (H : Heap) (locs : List Loc) (ls : Array Slot), Wd D dA base σ s H locs → LE σ0 σ → lv_has ls 5 [(0, vr x0), (1, vr x1), (2, .int x2), (3, .int x3)] → L_X5_settleCells_2  N x0 x1 x2 x3 σ = some (r, τ) → WG p l e s m args below meth c D dA base 3 66 none σ0 τ σ H locs 2 ls [] := by
  intro N
  induction N with
  | zero => intro x0 x1 x2 x3 σ H locs ls h g hl hF; cases hF
  | succ N ih => intro x0 x1 x2 x3 σ H locs ls h g hl hF; exact w_X5_settleCells_2 cx (mo_L_X5_settleCells_2  N) ih x0 x1 x2 x3 h g hl hF
def F_X5_settleCells (a0 : Nat) (a1 : Nat) (a2 : Int32) (σ : HS) : Option (Unit × HS) :=
  L_X5_settleCells_2  NF a0 a1 a2 (0 : Int32) σ
theorem mo_F_X5_settleCells (a0 : Nat) (a1 : Nat) (a2 : Int32) (σ : HS) : Mo σ (F_X5_settleCells a0 a1 a2 σ) := by
  unfold F_X5_settleCells
  exact (mo_L_X5_settleCells_2  NF a0 a1 a2 (0 : Int32) _)
set_option maxHeartbeats 4000000 in
set_option maxRecDepth 100000 in
theorem c_X5_settleCells (l : Launch) (D : va_G) (dA : Nat → ClassId) (base : Nat) (a0 : Nat) (a1 : Nat) (a2 : Int32) {σ τ : HS} {r : Unit} (hF : F_X5_settleCells a0 a1 a2 σ = some (r, τ)) : CT l yX5_settleCells cX5_settleCells 5 none 3 66 D dA base [vr a0, vr a1, .int a2] none σ τ := by
  refine CT.of (lv := [(0, vr a0), (1, vr a1), (2, .int a2)]) (by decide) (vR (vR (vI vN))) (Nat.le_of_ble_eq_true rfl) rfl ?_
  intro p e s m args below meth c ls cx hl h
  have cx : CX p s m args meth c cX5_settleCells 5 none RX5 "settleCells" D dA base := cx
  have g : LE σ σ := LE.rf
  obtain ⟨hx, hb, -⟩ := id cx
  unfold F_X5_settleCells at hF
  refine lv_iconst (v := (0 : Int32)) hx hb dX5_settleCells_0 (by decide) ?_
  refine x_istore_n (lv' := [(3, .int (0 : Int32)), (0, vr a0), (1, vr a1), (2, .int a2)]) hx hb dX5_settleCells_1 rfl hl (by decide) (cR (cR (cI cN))) rfl (fun ls hl => ?_)
  exact wl_X5_settleCells_2 cx   NF a0 a1 a2 (0 : Int32) σ _ _ _ h g (lv_sub hl [1, 2, 3, 0] rfl) hF
