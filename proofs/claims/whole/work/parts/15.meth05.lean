def B_X5_decide_86   (σ : HS) : Option (Int32 × HS) :=
  some ((2 : Int32), σ)
theorem mo_B_X5_decide_86   (σ : HS) : Mo σ (B_X5_decide_86   σ) := by
  unfold B_X5_decide_86
  exact mo_ret
set_option maxHeartbeats 4000000 in
set_option maxRecDepth 100000 in
theorem w_X5_decide_86 {p : Program} {l : Launch} {e : Env} {s : State} {m : MethodId} {args : Array Value} {below : List Frame} {meth : Method} {c : Code} {D : va_G} {dA : Nat → ClassId} {base : Nat} {σ0 τ : HS} {r : Int32} (cx : CX p s m args meth c cX5_decide 3 (some .int) RX5 "decide" D dA base)   {σ : HS} {H : Heap} {locs : List Loc} {ls : Array Slot} (h : Wd D dA base σ s H locs) (g : LE σ0 σ) (hl : lv_has ls 3 []) (hF : B_X5_decide_86   σ = some (r, τ)) : WG p l e s m args below meth c D dA base 4 90 (some (.int r)) σ0 τ σ H locs 86 ls [] := by
  obtain ⟨hx, hb, -⟩ := id cx
  unfold B_X5_decide_86 at hF
  refine lv_iconst (v := (2 : Int32)) hx hb dX5_decide_86 (by decide) ?_
  obtain ⟨rfl, rfl⟩ := rts hF
  exact x_iret cx h dX5_decide_87
def F_X5_decide (a0 : Nat) (a1 : Nat) (σ : HS) : Option (Int32 × HS) :=
  if kd σ a0 = 6 then (if kd σ (gr σ 201 a0) = 3 then (bd (F_X2_give (gr σ 201 a0) σ) (fun r3 σ3 => if kd σ3 a0 = 6 then (if kd σ3 (gr σ3 200 a0) = 4 then (if kd σ3 a1 = 5 then (if kd σ3 (gr σ3 165 a1) = 100 ∧ inb (0 : Int32) (ln σ3 (gr σ3 165 a1)) then (if kd σ3 (gr σ3 120 (gr σ3 200 a0)) = 102 ∧ inb (ai σ3 (gr σ3 165 a1) (0 : Int32).toNatClampNeg) (ln σ3 (gr σ3 120 (gr σ3 200 a0))) then (if kd σ3 (ar σ3 (gr σ3 120 (gr σ3 200 a0)) (ai σ3 (gr σ3 165 a1) (0 : Int32).toNatClampNeg).toNatClampNeg) = 1 then (if (gi σ3 2 (ar σ3 (gr σ3 120 (gr σ3 200 a0)) (ai σ3 (gr σ3 165 a1) (0 : Int32).toNatClampNeg).toNatClampNeg)) = (gi σ3 161 a1) then (lt1 (si (si (si σ3 163 a1 r3) 205 a0 ((gi (si σ3 163 a1 r3) 205 a0) + (1 : Int32))) 160 a1 (3 : Int32)) (fun σ11 => if kd σ11 (gr σ11 168 a1) = 100 ∧ inb (0 : Int32) (ln σ11 (gr σ11 168 a1)) then (bd (F_X5_settleCells a0 a1 (ai σ11 (gr σ11 168 a1) (0 : Int32).toNatClampNeg) σ11) (fun r13 σ13 => if kd σ13 a1 = 5 then (if (gi (si σ13 169 a1 (1 : Int32)) 167 a1) = (1 : Int32) then (bd (F_X4_end a1 (si σ13 169 a1 (1 : Int32))) (fun r16 σ16 => B_X5_decide_86   σ16)) else (B_X5_decide_86   (si σ13 169 a1 (1 : Int32)))) else none)) else none)) else (bd (F_X5_lose a0 a1 σ3) (fun r17 σ17 => some (r17, σ17)))) else none) else none) else none) else none) else none) else none)) else none) else none
theorem mo_F_X5_decide (a0 : Nat) (a1 : Nat) (σ : HS) : Mo σ (F_X5_decide a0 a1 σ) := by
  unfold F_X5_decide
  exact (mo_ite (mo_ite (mo_bd (mo_F_X2_give (gr σ 201 a0) _) (fun r3 σ3 => (mo_ite (mo_ite (mo_ite (mo_ite (mo_ite (mo_ite (mo_ite (mo_lt ⟨Nat.le_refl _, Nat.le_refl _⟩ (fun σ11 => (mo_ite (mo_bd (mo_F_X5_settleCells a0 a1 (ai σ11 (gr σ11 168 a1) (0 : Int32).toNatClampNeg) _) (fun r13 σ13 => (mo_ite (mo_ite (mo_le (τ := (si σ13 169 a1 (1 : Int32))) ⟨Nat.le_refl _, Nat.le_refl _⟩ (mo_bd (mo_F_X4_end a1 _) (fun r16 σ16 => (mo_B_X5_decide_86   _)))) (mo_le (τ := (si σ13 169 a1 (1 : Int32))) ⟨Nat.le_refl _, Nat.le_refl _⟩ (mo_B_X5_decide_86   _))) mo_none))) mo_none))) (mo_bd (mo_F_X5_lose a0 a1 _) (fun r17 σ17 => mo_ret))) mo_none) mo_none) mo_none) mo_none) mo_none) mo_none))) mo_none) mo_none)
set_option maxHeartbeats 4000000 in
set_option maxRecDepth 100000 in
theorem c_X5_decide (l : Launch) (D : va_G) (dA : Nat → ClassId) (base : Nat) (a0 : Nat) (a1 : Nat) {σ τ : HS} {r : Int32} (hF : F_X5_decide a0 a1 σ = some (r, τ)) : CT l yX5_decide cX5_decide 3 (some .int) 4 90 D dA base [vr a0, vr a1] (some (.int r)) σ τ := by
  refine CT.of (lv := [(0, vr a0), (1, vr a1)]) (by decide) (vR (vR vN)) (Nat.le_of_ble_eq_true rfl) rfl ?_
  intro p e s m args below meth c ls cx hl h
  have cx : CX p s m args meth c cX5_decide 3 (some .int) RX5 "decide" D dA base := cx
  have g : LE σ σ := LE.rf
  obtain ⟨hx, hb, -⟩ := id cx
  unfold F_X5_decide at hF
  refine x_aload_n hx hb dX5_decide_0 rfl (lv_at hl 0 rfl) ?_
  obtain ⟨hq1, hF⟩ := ifs hF
  refine x_getr cx h fa_X5_19 (f := 201) rfl hq1 dX5_decide_1 ?_
  obtain ⟨hq2, hF⟩ := ifs hF
  obtain ⟨r3, σ3, hc3, hF⟩ := bds hF
  refine x_calli (σ := σ) g (LEm hc3 (mo_F_X2_give (gr σ 201 a0) _)) (x_runV (As := []) (rest := []) cx h (c_X2_give l D dA base (gr σ 201 a0) hc3) ml_X5_48 mi_X2_give hq2 rfl ⟨Nat.le_of_ble_eq_true rfl, Nat.le_of_ble_eq_true rfl⟩ hl.1 rfl (s8 sN (by decide)) dX5_decide_4 (le_room g (LEm hc3 (mo_F_X2_give (gr σ 201 a0) _)) (LEm hF (mo_ite (mo_ite (mo_ite (mo_ite (mo_ite (mo_ite (mo_ite (mo_lt ⟨Nat.le_refl _, Nat.le_refl _⟩ (fun σ11 => (mo_ite (mo_bd (mo_F_X5_settleCells a0 a1 (ai σ11 (gr σ11 168 a1) (0 : Int32).toNatClampNeg) _) (fun r13 σ13 => (mo_ite (mo_ite (mo_le (τ := (si σ13 169 a1 (1 : Int32))) ⟨Nat.le_refl _, Nat.le_refl _⟩ (mo_bd (mo_F_X4_end a1 _) (fun r16 σ16 => (mo_B_X5_decide_86   _)))) (mo_le (τ := (si σ13 169 a1 (1 : Int32))) ⟨Nat.le_refl _, Nat.le_refl _⟩ (mo_B_X5_decide_86   _))) mo_none))) mo_none))) (mo_bd (mo_F_X5_lose a0 a1 _) (fun r17 σ17 => mo_ret))) mo_none) mo_none) mo_none) mo_none) mo_none) mo_none)))) h (fun H locs h g => ?_)
  refine x_istore_n (lv' := [(2, .int r3), (0, vr a0), (1, vr a1)]) hx hb dX5_decide_7 rfl hl (by decide) (cR (cR cN)) rfl (fun ls hl => ?_)
  refine x_aload_n hx hb dX5_decide_8 rfl (lv_at hl 1 rfl) ?_
  obtain ⟨hq4, hF⟩ := ifs hF
  refine x_getr cx h fa_X5_10 (f := 200) rfl hq4 dX5_decide_9 ?_
  obtain ⟨hq5, hF⟩ := ifs hF
  refine x_getr cx h fa_X5_125 (f := 120) rfl hq5 dX5_decide_12 ?_
  refine x_aload_n hx hb dX5_decide_15 rfl (lv_at hl 2 rfl) ?_
  obtain ⟨hq6, hF⟩ := ifs hF
  refine x_getr cx h fa_X5_237 (f := 165) rfl hq6 dX5_decide_16 ?_
  refine lv_iconst (v := (0 : Int32)) hx hb dX5_decide_19 (by decide) ?_
  obtain ⟨hq7, hF⟩ := ifs hF
  refine x_iald cx h hq7.1 (inb.vp hq7.2) dX5_decide_20 ?_
  obtain ⟨hq8, hF⟩ := ifs hF
  refine x_aald cx h RA2 hq8.1 (inb.vp hq8.2) dX5_decide_21 ?_
  obtain ⟨hq9, hF⟩ := ifs hF
  refine x_geti cx h fa_X5_129 (f := 2) rfl hq9 dX5_decide_22 ?_
  refine x_aload_n hx hb dX5_decide_25 rfl (lv_at hl 2 rfl) ?_
  refine x_geti cx h fa_X5_56 (f := 161) rfl hq6 dX5_decide_26 ?_
  refine lv_icmp_eq (tgt := 38) hx hb dX5_decide_29 (by decide) (fun c10 => ?_) (fun c10 => ?_)
  · replace hF := ifp c10 hF
    refine x_aload_n hx hb dX5_decide_38 rfl (lv_at hl 2 rfl) ?_
    refine lv_iload_n hx hb dX5_decide_39 rfl (lv_at hl 0 rfl) ?_
    refine x_sti cx h fa_X5_122 (f := 163) rfl (Or.inl rfl) hq6 dX5_decide_40 (fun H locs h => ?_)
    refine x_aload_n hx hb dX5_decide_43 rfl (lv_at hl 1 rfl) ?_
    refine lv_dup hx hb dX5_decide_44 (vr_cat _) ?_
    refine x_geti cx h fa_X5_189 (f := 205) rfl hq4 dX5_decide_45 ?_
    refine lv_iconst (v := (1 : Int32)) hx hb dX5_decide_48 (by decide) ?_
    refine lv_iadd hx hb dX5_decide_49 ?_
    refine x_sti cx h fa_X5_189 (f := 205) rfl (Or.inl rfl) hq4 dX5_decide_50 (fun H locs h => ?_)
    refine x_aload_n hx hb dX5_decide_53 rfl (lv_at hl 2 rfl) ?_
    refine lv_iconst (v := (3 : Int32)) hx hb dX5_decide_54 (by decide) ?_
    refine x_sti cx h fa_X5_38 (f := 160) rfl (Or.inl rfl) hq6 dX5_decide_55 (fun H locs h => ?_)
    obtain ⟨σ11, e11, hF⟩ := lts hF
    have h := Wd.nm e11 h
    have g := LE.nm e11 g
    refine W.cs (cells' := hs σ11 - hs σ) (slots' := ns σ11 - ns σ) (by rw [e11]; try rfl) (by rw [e11]; try rfl) ?_
    refine x_aload_n hx hb dX5_decide_58 rfl (lv_at hl 1 rfl) ?_
    refine x_aload_n hx hb dX5_decide_59 rfl (lv_at hl 2 rfl) ?_
    refine x_aload_n hx hb dX5_decide_60 rfl (lv_at hl 2 rfl) ?_
    refine x_getr cx h fa_X5_227 (f := 168) rfl (by rw [e11]; exact hq6) dX5_decide_61 ?_
    refine lv_iconst (v := (0 : Int32)) hx hb dX5_decide_64 (by decide) ?_
    obtain ⟨hq12, hF⟩ := ifs hF
    refine x_iald cx h hq12.1 (inb.vp hq12.2) dX5_decide_65 ?_
    obtain ⟨r13, σ13, hc13, hF⟩ := bds hF
    refine x_callv (σ := σ11) g (LEm hc13 (mo_F_X5_settleCells a0 a1 (ai σ11 (gr σ11 168 a1) (0 : Int32).toNatClampNeg) _)) (x_runV (As := [vr a1, .int (ai σ11 (gr σ11 168 a1) (0 : Int32).toNatClampNeg)]) (rest := []) cx h (c_X5_settleCells l D dA base a0 a1 (ai σ11 (gr σ11 168 a1) (0 : Int32).toNatClampNeg) hc13) ml_X5_243 mi_X5_settleCells (by rw [e11]; exact hq4) rfl ⟨Nat.le_of_ble_eq_true rfl, Nat.le_of_ble_eq_true rfl⟩ hl.1 rfl (s8 sN (by decide)) dX5_decide_66 (le_room g (LEm hc13 (mo_F_X5_settleCells a0 a1 (ai σ11 (gr σ11 168 a1) (0 : Int32).toNatClampNeg) _)) (LEm hF (mo_ite (mo_ite (mo_le (τ := (si σ13 169 a1 (1 : Int32))) ⟨Nat.le_refl _, Nat.le_refl _⟩ (mo_bd (mo_F_X4_end a1 _) (fun r16 σ16 => (mo_B_X5_decide_86   _)))) (mo_le (τ := (si σ13 169 a1 (1 : Int32))) ⟨Nat.le_refl _, Nat.le_refl _⟩ (mo_B_X5_decide_86   _))) mo_none)))) h (fun H locs h g => ?_)
    refine x_aload_n hx hb dX5_decide_69 rfl (lv_at hl 2 rfl) ?_
    refine lv_iconst (v := (1 : Int32)) hx hb dX5_decide_70 (by decide) ?_
    obtain ⟨hq14, hF⟩ := ifs hF
    refine x_sti cx h fa_X5_119 (f := 169) rfl (Or.inl rfl) hq14 dX5_decide_71 (fun H locs h => ?_)
    refine x_aload_n hx hb dX5_decide_74 rfl (lv_at hl 2 rfl) ?_
    refine x_geti cx h fa_X5_212 (f := 167) rfl hq14 dX5_decide_75 ?_
    refine lv_iconst (v := (1 : Int32)) hx hb dX5_decide_78 (by decide) ?_
    refine lv_icmp_ne (tgt := 86) hx hb dX5_decide_79 (by decide) (fun c15 => ?_) (fun c15 => ?_)
    · replace hF := ifn c15 hF
      exact w_X5_decide_86 (σ := (si σ13 169 a1 (1 : Int32))) cx    h g (lv_sub hl [] rfl) hF
    · replace hF := ifp c15 hF
      refine x_aload_n hx hb dX5_decide_82 rfl (lv_at hl 2 rfl) ?_
      obtain ⟨r16, σ16, hc16, hF⟩ := bds hF
      refine x_callv (σ := (si σ13 169 a1 (1 : Int32))) g (LEm hc16 (mo_F_X4_end a1 _)) (x_runV (As := []) (rest := []) cx h (c_X4_end l D dA base a1 hc16) ml_X5_86 mi_X4_end hq14 rfl ⟨Nat.le_of_ble_eq_true rfl, Nat.le_of_ble_eq_true rfl⟩ hl.1 rfl (s8 sN (by decide)) dX5_decide_83 (le_room g (LEm hc16 (mo_F_X4_end a1 _)) (LEm hF (mo_B_X5_decide_86   _)))) h (fun H locs h g => ?_)
      exact w_X5_decide_86 (σ := σ16) cx    h g (lv_sub hl [] rfl) hF
  · replace hF := ifn c10 hF
    refine x_aload_n hx hb dX5_decide_32 rfl (lv_at hl 1 rfl) ?_
    refine x_aload_n hx hb dX5_decide_33 rfl (lv_at hl 2 rfl) ?_
    obtain ⟨r17, σ17, hc17, hF⟩ := bds hF
    refine x_calli (σ := σ3) g (LEm hc17 (mo_F_X5_lose a0 a1 _)) (x_runV (As := [vr a1]) (rest := []) cx h (c_X5_lose l D dA base a0 a1 hc17) ml_X5_230 mi_X5_lose hq4 rfl ⟨Nat.le_of_ble_eq_true rfl, Nat.le_of_ble_eq_true rfl⟩ hl.1 rfl (s8 sN (by decide)) dX5_decide_34 (le_room g (LEm hc17 (mo_F_X5_lose a0 a1 _)) (LEm hF mo_ret))) h (fun H locs h g => ?_)
    obtain ⟨rfl, rfl⟩ := rts hF
    exact x_iret cx h dX5_decide_37
def B_X5_settleRow_35  (x1 : Nat) (σ : HS) : Option (Int32 × HS) :=
  if kd σ x1 = 5 then (if (gi σ 167 x1) ≤ (gi σ 169 x1) then (bd (F_X4_end x1 σ) (fun r3 σ3 => some ((3 : Int32), σ3))) else (some ((1 : Int32), σ))) else none
theorem mo_B_X5_settleRow_35  (x1 : Nat) (σ : HS) : Mo σ (B_X5_settleRow_35  x1 σ) := by
  unfold B_X5_settleRow_35
  exact (mo_ite (mo_ite (mo_bd (mo_F_X4_end x1 _) (fun r3 σ3 => mo_ret)) mo_ret) mo_none)
set_option maxHeartbeats 4000000 in
set_option maxRecDepth 100000 in
theorem w_X5_settleRow_35 {p : Program} {l : Launch} {e : Env} {s : State} {m : MethodId} {args : Array Value} {below : List Frame} {meth : Method} {c : Code} {D : va_G} {dA : Nat → ClassId} {base : Nat} {σ0 τ : HS} {r : Int32} (cx : CX p s m args meth c cX5_settleRow 2 (some .int) RX5 "settleRow" D dA base)  (x1 : Nat) {σ : HS} {H : Heap} {locs : List Loc} {ls : Array Slot} (h : Wd D dA base σ s H locs) (g : LE σ0 σ) (hl : lv_has ls 2 [(1, vr x1)]) (hF : B_X5_settleRow_35  x1 σ = some (r, τ)) : WG p l e s m args below meth c D dA base 4 90 (some (.int r)) σ0 τ σ H locs 35 ls [] := by
  obtain ⟨hx, hb, -⟩ := id cx
  unfold B_X5_settleRow_35 at hF
  refine x_aload_n hx hb dX5_settleRow_35 rfl (lv_at hl 0 rfl) ?_
  obtain ⟨hq1, hF⟩ := ifs hF
  refine x_geti cx h fa_X5_119 (f := 169) rfl hq1 dX5_settleRow_36 ?_
  refine x_aload_n hx hb dX5_settleRow_39 rfl (lv_at hl 0 rfl) ?_
  refine x_geti cx h fa_X5_212 (f := 167) rfl hq1 dX5_settleRow_40 ?_
  refine lv_icmp_ge (tgt := 48) hx hb dX5_settleRow_43 (by decide) (fun c2 => ?_) (fun c2 => ?_)
  · replace hF := ifp c2 hF
    refine x_aload_n hx hb dX5_settleRow_48 rfl (lv_at hl 0 rfl) ?_
    obtain ⟨r3, σ3, hc3, hF⟩ := bds hF
    refine x_callv (σ := σ) g (LEm hc3 (mo_F_X4_end x1 _)) (x_runV (As := []) (rest := []) cx h (c_X4_end l D dA base x1 hc3) ml_X5_86 mi_X4_end hq1 rfl ⟨Nat.le_of_ble_eq_true rfl, Nat.le_of_ble_eq_true rfl⟩ hl.1 rfl (s8 sN (by decide)) dX5_settleRow_49 (le_room g (LEm hc3 (mo_F_X4_end x1 _)) (LEm hF mo_ret))) h (fun H locs h g => ?_)
    refine lv_iconst (v := (3 : Int32)) hx hb dX5_settleRow_52 (by decide) ?_
    obtain ⟨rfl, rfl⟩ := rts hF
    exact x_iret cx h dX5_settleRow_53
  · replace hF := ifn c2 hF
    refine lv_iconst (v := (1 : Int32)) hx hb dX5_settleRow_46 (by decide) ?_
    obtain ⟨rfl, rfl⟩ := rts hF
    exact x_iret cx h dX5_settleRow_47
def F_X5_settleRow (a0 : Nat) (a1 : Nat) (σ : HS) : Option (Int32 × HS) :=
  if kd σ a1 = 5 then (if (gi σ 167 a1) ≤ (gi σ 169 a1) then (B_X5_settleRow_35  a1 σ) else (if kd σ (gr σ 168 a1) = 100 ∧ inb (gi σ 169 a1) (ln σ (gr σ 168 a1)) then (if kd σ a0 = 6 then (bd (F_X5_settleCells a0 a1 (ai σ (gr σ 168 a1) (gi σ 169 a1).toNatClampNeg) σ) (fun r5 σ5 => if kd σ5 a1 = 5 then (B_X5_settleRow_35  a1 (si σ5 169 a1 ((gi σ5 169 a1) + (1 : Int32)))) else none)) else none) else none)) else none
theorem mo_F_X5_settleRow (a0 : Nat) (a1 : Nat) (σ : HS) : Mo σ (F_X5_settleRow a0 a1 σ) := by
  unfold F_X5_settleRow
  exact (mo_ite (mo_ite (mo_B_X5_settleRow_35  a1 _) (mo_ite (mo_ite (mo_bd (mo_F_X5_settleCells a0 a1 (ai σ (gr σ 168 a1) (gi σ 169 a1).toNatClampNeg) _) (fun r5 σ5 => (mo_ite (mo_le (τ := (si σ5 169 a1 ((gi σ5 169 a1) + (1 : Int32)))) ⟨Nat.le_refl _, Nat.le_refl _⟩ (mo_B_X5_settleRow_35  a1 _)) mo_none))) mo_none) mo_none)) mo_none)
set_option maxHeartbeats 4000000 in
set_option maxRecDepth 100000 in
theorem c_X5_settleRow (l : Launch) (D : va_G) (dA : Nat → ClassId) (base : Nat) (a0 : Nat) (a1 : Nat) {σ τ : HS} {r : Int32} (hF : F_X5_settleRow a0 a1 σ = some (r, τ)) : CT l yX5_settleRow cX5_settleRow 2 (some .int) 4 90 D dA base [vr a0, vr a1] (some (.int r)) σ τ := by
  refine CT.of (lv := [(0, vr a0), (1, vr a1)]) (by decide) (vR (vR vN)) (Nat.le_of_ble_eq_true rfl) rfl ?_
  intro p e s m args below meth c ls cx hl h
  have cx : CX p s m args meth c cX5_settleRow 2 (some .int) RX5 "settleRow" D dA base := cx
  have g : LE σ σ := LE.rf
  obtain ⟨hx, hb, -⟩ := id cx
  unfold F_X5_settleRow at hF
  refine x_aload_n hx hb dX5_settleRow_0 rfl (lv_at hl 1 rfl) ?_
  obtain ⟨hq1, hF⟩ := ifs hF
  refine x_geti cx h fa_X5_119 (f := 169) rfl hq1 dX5_settleRow_1 ?_
  refine x_aload_n hx hb dX5_settleRow_4 rfl (lv_at hl 1 rfl) ?_
  refine x_geti cx h fa_X5_212 (f := 167) rfl hq1 dX5_settleRow_5 ?_
  refine lv_icmp_ge (tgt := 35) hx hb dX5_settleRow_8 (by decide) (fun c2 => ?_) (fun c2 => ?_)
  · replace hF := ifp c2 hF
    exact w_X5_settleRow_35 (σ := σ) cx   a1 h g (lv_sub hl [1] rfl) hF
  · replace hF := ifn c2 hF
    refine x_aload_n hx hb dX5_settleRow_11 rfl (lv_at hl 0 rfl) ?_
    refine x_aload_n hx hb dX5_settleRow_12 rfl (lv_at hl 1 rfl) ?_
    refine x_aload_n hx hb dX5_settleRow_13 rfl (lv_at hl 1 rfl) ?_
    refine x_getr cx h fa_X5_227 (f := 168) rfl hq1 dX5_settleRow_14 ?_
    refine x_aload_n hx hb dX5_settleRow_17 rfl (lv_at hl 1 rfl) ?_
    refine x_geti cx h fa_X5_119 (f := 169) rfl hq1 dX5_settleRow_18 ?_
    obtain ⟨hq3, hF⟩ := ifs hF
    refine x_iald cx h hq3.1 (inb.vp hq3.2) dX5_settleRow_21 ?_
    obtain ⟨hq4, hF⟩ := ifs hF
    obtain ⟨r5, σ5, hc5, hF⟩ := bds hF
    refine x_callv (σ := σ) g (LEm hc5 (mo_F_X5_settleCells a0 a1 (ai σ (gr σ 168 a1) (gi σ 169 a1).toNatClampNeg) _)) (x_runV (As := [vr a1, .int (ai σ (gr σ 168 a1) (gi σ 169 a1).toNatClampNeg)]) (rest := []) cx h (c_X5_settleCells l D dA base a0 a1 (ai σ (gr σ 168 a1) (gi σ 169 a1).toNatClampNeg) hc5) ml_X5_243 mi_X5_settleCells hq4 rfl ⟨Nat.le_of_ble_eq_true rfl, Nat.le_of_ble_eq_true rfl⟩ hl.1 rfl (s8 sN (by decide)) dX5_settleRow_22 (le_room g (LEm hc5 (mo_F_X5_settleCells a0 a1 (ai σ (gr σ 168 a1) (gi σ 169 a1).toNatClampNeg) _)) (LEm hF (mo_ite (mo_le (τ := (si σ5 169 a1 ((gi σ5 169 a1) + (1 : Int32)))) ⟨Nat.le_refl _, Nat.le_refl _⟩ (mo_B_X5_settleRow_35  a1 _)) mo_none)))) h (fun H locs h g => ?_)
    refine x_aload_n hx hb dX5_settleRow_25 rfl (lv_at hl 1 rfl) ?_
    refine lv_dup hx hb dX5_settleRow_26 (vr_cat _) ?_
    obtain ⟨hq6, hF⟩ := ifs hF
    refine x_geti cx h fa_X5_119 (f := 169) rfl hq6 dX5_settleRow_27 ?_
    refine lv_iconst (v := (1 : Int32)) hx hb dX5_settleRow_30 (by decide) ?_
    refine lv_iadd hx hb dX5_settleRow_31 ?_
    refine x_sti cx h fa_X5_119 (f := 169) rfl (Or.inl rfl) hq6 dX5_settleRow_32 (fun H locs h => ?_)
    exact w_X5_settleRow_35 (σ := (si σ5 169 a1 ((gi σ5 169 a1) + (1 : Int32)))) cx   a1 h g (lv_sub hl [1] rfl) hF
def B_X5_undoCells_67 (k5 : Nat → Nat → Int32 → Int32 → Int32 → HS → Option (Int32 × HS)) (x0 : Nat) (x1 : Nat) (x2 : Int32) (x3 : Int32) (x4 : Int32) (σ : HS) : Option (Int32 × HS) :=
  k5 x0 x1 x2 x3 (x4 + (1 : Int32)) σ
theorem mo_B_X5_undoCells_67 {k5 : Nat → Nat → Int32 → Int32 → Int32 → HS → Option (Int32 × HS)} (mk5 : ∀ x0 x1 x2 x3 x4 σ, Mo σ (k5 x0 x1 x2 x3 x4 σ)) (x0 : Nat) (x1 : Nat) (x2 : Int32) (x3 : Int32) (x4 : Int32) (σ : HS) : Mo σ (B_X5_undoCells_67 k5 x0 x1 x2 x3 x4 σ) := by
  unfold B_X5_undoCells_67
  exact (mk5 x0 x1 x2 x3 (x4 + (1 : Int32)) _)
set_option maxHeartbeats 4000000 in
set_option maxRecDepth 100000 in
theorem w_X5_undoCells_67 {p : Program} {l : Launch} {e : Env} {s : State} {m : MethodId} {args : Array Value} {below : List Frame} {meth : Method} {c : Code} {D : va_G} {dA : Nat → ClassId} {base : Nat} {σ0 τ : HS} {r : Int32} (cx : CX p s m args meth c cX5_undoCells 7 (some .boolean) RX5 "undoCells" D dA base) {k5 : Nat → Nat → Int32 → Int32 → Int32 → HS → Option (Int32 × HS)} (mk5 : ∀ x0 x1 x2 x3 x4 σ, Mo σ (k5 x0 x1 x2 x3 x4 σ)) (hk5 : ∀ x0 x1 x2 x3 x4 σ H locs ls, Wd D dA base σ s H locs → LE σ0 σ → lv_has ls 7 [(0, vr x0), (1, vr x1), (2, .int x2), (3, .int x3), (4, .int x4)] → k5 x0 x1 x2 x3 x4 σ = some (r, τ) → WG p l e s m args below meth c D dA base 4 89 (some (.int r)) σ0 τ σ H locs 5 ls []) (x0 : Nat) (x1 : Nat) (x2 : Int32) (x3 : Int32) (x4 : Int32) {σ : HS} {H : Heap} {locs : List Loc} {ls : Array Slot} (h : Wd D dA base σ s H locs) (g : LE σ0 σ) (hl : lv_has ls 7 [(0, vr x0), (1, vr x1), (2, .int x2), (3, .int x3), (4, .int x4)]) (hF : B_X5_undoCells_67 k5 x0 x1 x2 x3 x4 σ = some (r, τ)) : WG p l e s m args below meth c D dA base 4 89 (some (.int r)) σ0 τ σ H locs 67 ls [] := by
  obtain ⟨hx, hb, -⟩ := id cx
  unfold B_X5_undoCells_67 at hF
  refine x_iinc (k := 4) (v := (1 : Int32)) (lv' := [(4, .int (x4 + (1 : Int32))), (0, vr x0), (1, vr x1), (2, .int x2), (3, .int x3)]) hx hb dX5_undoCells_67 hl rfl (by decide) (by decide) (cR (cR (cI (cI (cI cN))))) rfl (fun ls hl => ?_)
  refine lv_goto (tgt := 5) hx hb dX5_undoCells_70 (by decide) ?_
  exact hk5 x0 x1 x2 x3 (x4 + (1 : Int32)) σ _ _ _ h g (lv_sub hl [1, 2, 3, 4, 0] rfl) hF
def B_X5_undoCells_62 (k5 : Nat → Nat → Int32 → Int32 → Int32 → HS → Option (Int32 × HS)) (x0 : Nat) (x1 : Nat) (x2 : Int32) (x4 : Int32) (y0 : Nat) (y1 : Nat) (y2 : Int32) (σ : HS) : Option (Int32 × HS) :=
  if kd σ y0 = 4 then (bd (F_X3_undo y0 y1 y2 σ) (fun r2 σ2 => B_X5_undoCells_67 k5 x0 x1 x2 (1 : Int32) x4 σ2)) else none
theorem mo_B_X5_undoCells_62 {k5 : Nat → Nat → Int32 → Int32 → Int32 → HS → Option (Int32 × HS)} (mk5 : ∀ x0 x1 x2 x3 x4 σ, Mo σ (k5 x0 x1 x2 x3 x4 σ)) (x0 : Nat) (x1 : Nat) (x2 : Int32) (x4 : Int32) (y0 : Nat) (y1 : Nat) (y2 : Int32) (σ : HS) : Mo σ (B_X5_undoCells_62 k5 x0 x1 x2 x4 y0 y1 y2 σ) := by
  unfold B_X5_undoCells_62
  exact (mo_ite (mo_bd (mo_F_X3_undo y0 y1 y2 _) (fun r2 σ2 => (mo_B_X5_undoCells_67 mk5 x0 x1 x2 (1 : Int32) x4 _))) mo_none)
set_option maxHeartbeats 4000000 in
set_option maxRecDepth 100000 in
theorem w_X5_undoCells_62 {p : Program} {l : Launch} {e : Env} {s : State} {m : MethodId} {args : Array Value} {below : List Frame} {meth : Method} {c : Code} {D : va_G} {dA : Nat → ClassId} {base : Nat} {σ0 τ : HS} {r : Int32} (cx : CX p s m args meth c cX5_undoCells 7 (some .boolean) RX5 "undoCells" D dA base) {k5 : Nat → Nat → Int32 → Int32 → Int32 → HS → Option (Int32 × HS)} (mk5 : ∀ x0 x1 x2 x3 x4 σ, Mo σ (k5 x0 x1 x2 x3 x4 σ)) (hk5 : ∀ x0 x1 x2 x3 x4 σ H locs ls, Wd D dA base σ s H locs → LE σ0 σ → lv_has ls 7 [(0, vr x0), (1, vr x1), (2, .int x2), (3, .int x3), (4, .int x4)] → k5 x0 x1 x2 x3 x4 σ = some (r, τ) → WG p l e s m args below meth c D dA base 4 89 (some (.int r)) σ0 τ σ H locs 5 ls []) (x0 : Nat) (x1 : Nat) (x2 : Int32) (x4 : Int32) (y0 : Nat) (y1 : Nat) (y2 : Int32) {σ : HS} {H : Heap} {locs : List Loc} {ls : Array Slot} (h : Wd D dA base σ s H locs) (g : LE σ0 σ) (hl : lv_has ls 7 [(0, vr x0), (1, vr x1), (2, .int x2), (4, .int x4)]) (hF : B_X5_undoCells_62 k5 x0 x1 x2 x4 y0 y1 y2 σ = some (r, τ)) : WG p l e s m args below meth c D dA base 4 89 (some (.int r)) σ0 τ σ H locs 62 ls [.int y2, vr y1, vr y0] := by
  obtain ⟨hx, hb, -⟩ := id cx
  unfold B_X5_undoCells_62 at hF
  obtain ⟨hq1, hF⟩ := ifs hF
  obtain ⟨r2, σ2, hc2, hF⟩ := bds hF
  refine x_callv (σ := σ) g (LEm hc2 (mo_F_X3_undo y0 y1 y2 _)) (x_runV (As := [vr y1, .int y2]) (rest := []) cx h (c_X3_undo l D dA base y0 y1 y2 hc2) ml_X5_260 mi_X3_undo hq1 rfl ⟨Nat.le_of_ble_eq_true rfl, Nat.le_of_ble_eq_true rfl⟩ hl.1 rfl (s8 sN (by decide)) dX5_undoCells_62 (le_room g (LEm hc2 (mo_F_X3_undo y0 y1 y2 _)) (LEm hF (mo_B_X5_undoCells_67 mk5 x0 x1 x2 (1 : Int32) x4 _)))) h (fun H locs h g => ?_)
  refine lv_iconst (v := (1 : Int32)) hx hb dX5_undoCells_65 (by decide) ?_
  refine x_istore_n (lv' := [(3, .int (1 : Int32)), (0, vr x0), (1, vr x1), (2, .int x2), (4, .int x4)]) hx hb dX5_undoCells_66 rfl hl (by decide) (cR (cR (cI (cI cN)))) rfl (fun ls hl => ?_)
  exact w_X5_undoCells_67 (σ := σ2) cx mk5 hk5 x0 x1 x2 (1 : Int32) x4 h g (lv_sub hl [1, 2, 3, 0, 4] rfl) hF
def B_X5_undoCells_5 (k5 : Nat → Nat → Int32 → Int32 → Int32 → HS → Option (Int32 × HS)) (x0 : Nat) (x1 : Nat) (x2 : Int32) (x3 : Int32) (x4 : Int32) (σ : HS) : Option (Int32 × HS) :=
  if (4 : Int32) ≤ x4 then (if x3 = 0 ∨ x3 = 1 then (some (x3, σ)) else none) else (bd (F_X5_cellIndex x2 x4 σ) (fun r3 σ3 => if kd σ3 x0 = 6 then (if kd σ3 (gr σ3 200 x0) = 4 then (if kd σ3 (gr σ3 120 (gr σ3 200 x0)) = 102 ∧ inb r3 (ln σ3 (gr σ3 120 (gr σ3 200 x0))) then (if kd σ3 x1 = 5 then (bd (F_X4_hasLockIn x1 (ar σ3 (gr σ3 120 (gr σ3 200 x0)) r3.toNatClampNeg) σ3) (fun r8 σ8 => if r8 = 0 then (B_X5_undoCells_67 k5 x0 x1 x2 x3 x4 σ8) else (if kd σ8 x0 = 6 then (if kd σ8 x1 = 5 then (if kd σ8 (gr σ8 165 x1) = 100 ∧ inb (0 : Int32) (ln σ8 (gr σ8 165 x1)) then (if r3 = (ai σ8 (gr σ8 165 x1) (0 : Int32).toNatClampNeg) then (B_X5_undoCells_62 k5 x0 x1 x2 x4 (gr σ8 200 x0) (ar σ3 (gr σ3 120 (gr σ3 200 x0)) r3.toNatClampNeg) (1 : Int32) σ8) else (B_X5_undoCells_62 k5 x0 x1 x2 x4 (gr σ8 200 x0) (ar σ3 (gr σ3 120 (gr σ3 200 x0)) r3.toNatClampNeg) (0 : Int32) σ8)) else none) else none) else none))) else none) else none) else none) else none))
theorem mo_B_X5_undoCells_5 {k5 : Nat → Nat → Int32 → Int32 → Int32 → HS → Option (Int32 × HS)} (mk5 : ∀ x0 x1 x2 x3 x4 σ, Mo σ (k5 x0 x1 x2 x3 x4 σ)) (x0 : Nat) (x1 : Nat) (x2 : Int32) (x3 : Int32) (x4 : Int32) (σ : HS) : Mo σ (B_X5_undoCells_5 k5 x0 x1 x2 x3 x4 σ) := by
  unfold B_X5_undoCells_5
  exact (mo_ite (mo_ite mo_ret mo_none) (mo_bd (mo_F_X5_cellIndex x2 x4 _) (fun r3 σ3 => (mo_ite (mo_ite (mo_ite (mo_ite (mo_bd (mo_F_X4_hasLockIn x1 (ar σ3 (gr σ3 120 (gr σ3 200 x0)) r3.toNatClampNeg) _) (fun r8 σ8 => (mo_ite (mo_B_X5_undoCells_67 mk5 x0 x1 x2 x3 x4 _) (mo_ite (mo_ite (mo_ite (mo_ite (mo_B_X5_undoCells_62 mk5 x0 x1 x2 x4 (gr σ8 200 x0) (ar σ3 (gr σ3 120 (gr σ3 200 x0)) r3.toNatClampNeg) (1 : Int32) _) (mo_B_X5_undoCells_62 mk5 x0 x1 x2 x4 (gr σ8 200 x0) (ar σ3 (gr σ3 120 (gr σ3 200 x0)) r3.toNatClampNeg) (0 : Int32) _)) mo_none) mo_none) mo_none)))) mo_none) mo_none) mo_none) mo_none))))
set_option maxHeartbeats 4000000 in
set_option maxRecDepth 100000 in
theorem w_X5_undoCells_5 {p : Program} {l : Launch} {e : Env} {s : State} {m : MethodId} {args : Array Value} {below : List Frame} {meth : Method} {c : Code} {D : va_G} {dA : Nat → ClassId} {base : Nat} {σ0 τ : HS} {r : Int32} (cx : CX p s m args meth c cX5_undoCells 7 (some .boolean) RX5 "undoCells" D dA base) {k5 : Nat → Nat → Int32 → Int32 → Int32 → HS → Option (Int32 × HS)} (mk5 : ∀ x0 x1 x2 x3 x4 σ, Mo σ (k5 x0 x1 x2 x3 x4 σ)) (hk5 : ∀ x0 x1 x2 x3 x4 σ H locs ls, Wd D dA base σ s H locs → LE σ0 σ → lv_has ls 7 [(0, vr x0), (1, vr x1), (2, .int x2), (3, .int x3), (4, .int x4)] → k5 x0 x1 x2 x3 x4 σ = some (r, τ) → WG p l e s m args below meth c D dA base 4 89 (some (.int r)) σ0 τ σ H locs 5 ls []) (x0 : Nat) (x1 : Nat) (x2 : Int32) (x3 : Int32) (x4 : Int32) {σ : HS} {H : Heap} {locs : List Loc} {ls : Array Slot} (h : Wd D dA base σ s H locs) (g : LE σ0 σ) (hl : lv_has ls 7 [(0, vr x0), (1, vr x1), (2, .int x2), (3, .int x3), (4, .int x4)]) (hF : B_X5_undoCells_5 k5 x0 x1 x2 x3 x4 σ = some (r, τ)) : WG p l e s m args below meth c D dA base 4 89 (some (.int r)) σ0 τ σ H locs 5 ls [] := by
  obtain ⟨hx, hb, -⟩ := id cx
  unfold B_X5_undoCells_5 at hF
  refine lv_iload hx hb dX5_undoCells_5 (lv_at hl 4 rfl) ?_
  refine lv_iconst (v := (4 : Int32)) hx hb dX5_undoCells_7 (by decide) ?_
  refine lv_icmp_ge (tgt := 73) hx hb dX5_undoCells_8 (by decide) (fun c1 => ?_) (fun c1 => ?_)
  · replace hF := ifp c1 hF
    refine lv_iload_n hx hb dX5_undoCells_73 rfl (lv_at hl 3 rfl) ?_
    obtain ⟨hz2, hF⟩ := ifs hF
    obtain ⟨rfl, rfl⟩ := rts hF
    exact x_zret cx h hz2 dX5_undoCells_74
  · replace hF := ifn c1 hF
    refine lv_iload_n hx hb dX5_undoCells_11 rfl (lv_at hl 2 rfl) ?_
    refine lv_iload hx hb dX5_undoCells_12 (lv_at hl 4 rfl) ?_
    obtain ⟨r3, σ3, hc3, hF⟩ := bds hF
    refine x_calli (σ := σ) g (LEm hc3 (mo_F_X5_cellIndex x2 x4 _)) (x_runS (As := [.int x2, .int x4]) (rest := []) cx h (c_X5_cellIndex l D dA base x2 x4 hc3) ml_X5_63 mi_X5_cellIndex rfl ⟨Nat.le_of_ble_eq_true rfl, Nat.le_of_ble_eq_true rfl⟩ hl.1 rfl (s8 sN (by decide)) dX5_undoCells_14 (le_room g (LEm hc3 (mo_F_X5_cellIndex x2 x4 _)) (LEm hF (mo_ite (mo_ite (mo_ite (mo_ite (mo_bd (mo_F_X4_hasLockIn x1 (ar σ3 (gr σ3 120 (gr σ3 200 x0)) r3.toNatClampNeg) _) (fun r8 σ8 => (mo_ite (mo_B_X5_undoCells_67 mk5 x0 x1 x2 x3 x4 _) (mo_ite (mo_ite (mo_ite (mo_ite (mo_B_X5_undoCells_62 mk5 x0 x1 x2 x4 (gr σ8 200 x0) (ar σ3 (gr σ3 120 (gr σ3 200 x0)) r3.toNatClampNeg) (1 : Int32) _) (mo_B_X5_undoCells_62 mk5 x0 x1 x2 x4 (gr σ8 200 x0) (ar σ3 (gr σ3 120 (gr σ3 200 x0)) r3.toNatClampNeg) (0 : Int32) _)) mo_none) mo_none) mo_none)))) mo_none) mo_none) mo_none) mo_none)))) h (fun H locs h g => ?_)
    refine x_istore (lv' := [(5, .int r3), (0, vr x0), (1, vr x1), (2, .int x2), (3, .int x3), (4, .int x4)]) hx hb dX5_undoCells_17 hl (by decide) (cR (cR (cI (cI (cI cN))))) rfl (fun ls hl => ?_)
    refine x_aload_n hx hb dX5_undoCells_19 rfl (lv_at hl 1 rfl) ?_
    obtain ⟨hq4, hF⟩ := ifs hF
    refine x_getr cx h fa_X5_10 (f := 200) rfl hq4 dX5_undoCells_20 ?_
    obtain ⟨hq5, hF⟩ := ifs hF
    refine x_getr cx h fa_X5_125 (f := 120) rfl hq5 dX5_undoCells_23 ?_
    refine lv_iload hx hb dX5_undoCells_26 (lv_at hl 0 rfl) ?_
    obtain ⟨hq6, hF⟩ := ifs hF
    refine x_aald cx h RA2 hq6.1 (inb.vp hq6.2) dX5_undoCells_28 ?_
    refine x_astore (lv' := [(6, vr (ar σ3 (gr σ3 120 (gr σ3 200 x0)) r3.toNatClampNeg)), (5, .int r3), (0, vr x0), (1, vr x1), (2, .int x2), (3, .int x3), (4, .int x4)]) hx hb dX5_undoCells_29 hl (by decide) (cI (cR (cR (cI (cI (cI cN)))))) rfl (fun ls hl => ?_)
    refine x_aload_n hx hb dX5_undoCells_31 rfl (lv_at hl 3 rfl) ?_
    refine x_aload hx hb dX5_undoCells_32 (lv_at hl 0 rfl) ?_
    obtain ⟨hq7, hF⟩ := ifs hF
    obtain ⟨r8, σ8, hc8, hF⟩ := bds hF
    refine x_calli (σ := σ3) g (LEm hc8 (mo_F_X4_hasLockIn x1 (ar σ3 (gr σ3 120 (gr σ3 200 x0)) r3.toNatClampNeg) _)) (x_runV (As := [vr (ar σ3 (gr σ3 120 (gr σ3 200 x0)) r3.toNatClampNeg)]) (rest := []) cx h (c_X4_hasLockIn l D dA base x1 (ar σ3 (gr σ3 120 (gr σ3 200 x0)) r3.toNatClampNeg) hc8) ml_X5_247 mi_X4_hasLockIn hq7 rfl ⟨Nat.le_of_ble_eq_true rfl, Nat.le_of_ble_eq_true rfl⟩ hl.1 rfl (s8 sN (by decide)) dX5_undoCells_34 (le_room g (LEm hc8 (mo_F_X4_hasLockIn x1 (ar σ3 (gr σ3 120 (gr σ3 200 x0)) r3.toNatClampNeg) _)) (LEm hF (mo_ite (mo_B_X5_undoCells_67 mk5 x0 x1 x2 x3 x4 _) (mo_ite (mo_ite (mo_ite (mo_ite (mo_B_X5_undoCells_62 mk5 x0 x1 x2 x4 (gr σ8 200 x0) (ar σ3 (gr σ3 120 (gr σ3 200 x0)) r3.toNatClampNeg) (1 : Int32) _) (mo_B_X5_undoCells_62 mk5 x0 x1 x2 x4 (gr σ8 200 x0) (ar σ3 (gr σ3 120 (gr σ3 200 x0)) r3.toNatClampNeg) (0 : Int32) _)) mo_none) mo_none) mo_none))))) h (fun H locs h g => ?_)
    refine lv_if_eq (tgt := 67) hx hb dX5_undoCells_37 (by decide) (fun c9 => ?_) (fun c9 => ?_)
    · replace hF := ifp c9 hF
      exact w_X5_undoCells_67 (σ := σ8) cx mk5 hk5 x0 x1 x2 x3 x4 h g (lv_sub hl [2, 3, 4, 5, 6] rfl) hF
    · replace hF := ifn c9 hF
      refine x_aload_n hx hb dX5_undoCells_40 rfl (lv_at hl 2 rfl) ?_
      obtain ⟨hq10, hF⟩ := ifs hF
      refine x_getr cx h fa_X5_10 (f := 200) rfl hq10 dX5_undoCells_41 ?_
      refine x_aload hx hb dX5_undoCells_44 (lv_at hl 0 rfl) ?_
      refine lv_iload hx hb dX5_undoCells_46 (lv_at hl 1 rfl) ?_
      refine x_aload_n hx hb dX5_undoCells_48 rfl (lv_at hl 3 rfl) ?_
      obtain ⟨hq11, hF⟩ := ifs hF
      refine x_getr cx h fa_X5_237 (f := 165) rfl hq11 dX5_undoCells_49 ?_
      refine lv_iconst (v := (0 : Int32)) hx hb dX5_undoCells_52 (by decide) ?_
      obtain ⟨hq12, hF⟩ := ifs hF
      refine x_iald cx h hq12.1 (inb.vp hq12.2) dX5_undoCells_53 ?_
      refine lv_icmp_ne (tgt := 61) hx hb dX5_undoCells_54 (by decide) (fun c13 => ?_) (fun c13 => ?_)
      · replace hF := ifn c13 hF
        refine lv_iconst (v := (0 : Int32)) hx hb dX5_undoCells_61 (by decide) ?_
        exact w_X5_undoCells_62 (σ := σ8) cx mk5 hk5 x0 x1 x2 x4 (gr σ8 200 x0) (ar σ3 (gr σ3 120 (gr σ3 200 x0)) r3.toNatClampNeg) (0 : Int32) h g (lv_sub hl [2, 3, 4, 6] rfl) hF
      · replace hF := ifp c13 hF
        refine lv_iconst (v := (1 : Int32)) hx hb dX5_undoCells_57 (by decide) ?_
        refine lv_goto (tgt := 62) hx hb dX5_undoCells_58 (by decide) ?_
        exact w_X5_undoCells_62 (σ := σ8) cx mk5 hk5 x0 x1 x2 x4 (gr σ8 200 x0) (ar σ3 (gr σ3 120 (gr σ3 200 x0)) r3.toNatClampNeg) (1 : Int32) h g (lv_sub hl [2, 3, 4, 6] rfl) hF
def L_X5_undoCells_5  : Nat → Nat → Nat → Int32 → Int32 → Int32 → HS → Option (Int32 × HS)
  | 0, _, _, _, _, _, _ => none
  | N + 1, x0, x1, x2, x3, x4, σ => B_X5_undoCells_5 (L_X5_undoCells_5  N) x0 x1 x2 x3 x4 σ
theorem mo_L_X5_undoCells_5  : ∀ (N : Nat) (x0 : Nat) (x1 : Nat) (x2 : Int32) (x3 : Int32) (x4 : Int32) (σ : HS), Mo σ (L_X5_undoCells_5  N x0 x1 x2 x3 x4 σ) := by
  intro N
  induction N with
  | zero => intro x0 x1 x2 x3 x4 σ; exact mo_none
  | succ N ih => intro x0 x1 x2 x3 x4 σ; exact mo_B_X5_undoCells_5 ih x0 x1 x2 x3 x4 σ
theorem wl_X5_undoCells_5 {p : Program} {l : Launch} {e : Env} {s : State} {m : MethodId} {args : Array Value} {below : List Frame} {meth : Method} {c : Code} {D : va_G} {dA : Nat → ClassId} {base : Nat} {σ0 τ : HS} {r : Int32} (cx : CX p s m args meth c cX5_undoCells 7 (some .boolean) RX5 "undoCells" D dA base)  : ∀ (N : Nat) (x0 : Nat) (x1 : Nat) (x2 : Int32) (x3 : Int32) (x4 : Int32) (σ : HS) (H : Heap) (locs : List Loc) (ls : Array Slot), Wd D dA base σ s H locs → LE σ0 σ → lv_has ls 7 [(0, vr x0), (1, vr x1), (2, .int x2), (3, .int x3), (4, .int x4)] → L_X5_undoCells_5  N x0 x1 x2 x3 x4 σ = some (r, τ) → WG p l e s m args below meth c D dA base 4 89 (some (.int r)) σ0 τ σ H locs 5 ls [] := by
  intro N
  induction N with
  | zero => intro x0 x1 x2 x3 x4 σ H locs ls h g hl hF; cases hF
  | succ N ih => intro x0 x1 x2 x3 x4 σ H locs ls h g hl hF; exact w_X5_undoCells_5 cx (mo_L_X5_undoCells_5  N) ih x0 x1 x2 x3 x4 h g hl hF
def F_X5_undoCells (a0 : Nat) (a1 : Nat) (a2 : Int32) (σ : HS) : Option (Int32 × HS) :=
  L_X5_undoCells_5  NF a0 a1 a2 (0 : Int32) (0 : Int32) σ
theorem mo_F_X5_undoCells (a0 : Nat) (a1 : Nat) (a2 : Int32) (σ : HS) : Mo σ (F_X5_undoCells a0 a1 a2 σ) := by
  unfold F_X5_undoCells
  exact (mo_L_X5_undoCells_5  NF a0 a1 a2 (0 : Int32) (0 : Int32) _)
set_option maxHeartbeats 4000000 in
set_option maxRecDepth 100000 in
theorem c_X5_undoCells (l : Launch) (D : va_G) (dA : Nat → ClassId) (base : Nat) (a0 : Nat) (a1 : Nat) (a2 : Int32) {σ τ : HS} {r : Int32} (hF : F_X5_undoCells a0 a1 a2 σ = some (r, τ)) : CT l yX5_undoCells cX5_undoCells 7 (some .boolean) 4 89 D dA base [vr a0, vr a1, .int a2] (some (.int r)) σ τ := by
  refine CT.of (lv := [(0, vr a0), (1, vr a1), (2, .int a2)]) (by decide) (vR (vR (vI vN))) (Nat.le_of_ble_eq_true rfl) rfl ?_
  intro p e s m args below meth c ls cx hl h
  have cx : CX p s m args meth c cX5_undoCells 7 (some .boolean) RX5 "undoCells" D dA base := cx
  have g : LE σ σ := LE.rf
  obtain ⟨hx, hb, -⟩ := id cx
  unfold F_X5_undoCells at hF
  refine lv_iconst (v := (0 : Int32)) hx hb dX5_undoCells_0 (by decide) ?_
  refine x_istore_n (lv' := [(3, .int (0 : Int32)), (0, vr a0), (1, vr a1), (2, .int a2)]) hx hb dX5_undoCells_1 rfl hl (by decide) (cR (cR (cI cN))) rfl (fun ls hl => ?_)
  refine lv_iconst (v := (0 : Int32)) hx hb dX5_undoCells_2 (by decide) ?_
  refine x_istore (lv' := [(4, .int (0 : Int32)), (3, .int (0 : Int32)), (0, vr a0), (1, vr a1), (2, .int a2)]) hx hb dX5_undoCells_3 hl (by decide) (cI (cR (cR (cI cN)))) rfl (fun ls hl => ?_)
  exact wl_X5_undoCells_5 cx   NF a0 a1 a2 (0 : Int32) (0 : Int32) σ _ _ _ h g (lv_sub hl [2, 3, 4, 1, 0] rfl) hF
def B_X5_undoRow_2 (k2 : Nat → Nat → Int32 → HS → Option (Int32 × HS)) (x0 : Nat) (x1 : Nat) (x2 : Int32) (σ : HS) : Option (Int32 × HS) :=
  if kd σ x1 = 5 then (if (gi σ 167 x1) ≤ x2 then (bd (F_X4_end x1 σ) (fun r3 σ3 => some ((0 : Int32), σ3))) else (if kd σ (gr σ 168 x1) = 100 ∧ inb x2 (ln σ (gr σ 168 x1)) then (if kd σ x0 = 6 then (bd (F_X5_undoCells x0 x1 (ai σ (gr σ 168 x1) x2.toNatClampNeg) σ) (fun r6 σ6 => if r6 = 0 then (k2 x0 x1 (x2 + (1 : Int32)) σ6) else (some ((1 : Int32), σ6)))) else none) else none)) else none
theorem mo_B_X5_undoRow_2 {k2 : Nat → Nat → Int32 → HS → Option (Int32 × HS)} (mk2 : ∀ x0 x1 x2 σ, Mo σ (k2 x0 x1 x2 σ)) (x0 : Nat) (x1 : Nat) (x2 : Int32) (σ : HS) : Mo σ (B_X5_undoRow_2 k2 x0 x1 x2 σ) := by
  unfold B_X5_undoRow_2
  exact (mo_ite (mo_ite (mo_bd (mo_F_X4_end x1 _) (fun r3 σ3 => mo_ret)) (mo_ite (mo_ite (mo_bd (mo_F_X5_undoCells x0 x1 (ai σ (gr σ 168 x1) x2.toNatClampNeg) _) (fun r6 σ6 => (mo_ite (mk2 x0 x1 (x2 + (1 : Int32)) _) mo_ret))) mo_none) mo_none)) mo_none)
set_option maxHeartbeats 4000000 in
set_option maxRecDepth 100000 in
theorem w_X5_undoRow_2 {p : Program} {l : Launch} {e : Env} {s : State} {m : MethodId} {args : Array Value} {below : List Frame} {meth : Method} {c : Code} {D : va_G} {dA : Nat → ClassId} {base : Nat} {σ0 τ : HS} {r : Int32} (cx : CX p s m args meth c cX5_undoRow 3 (some .int) RX5 "undoRow" D dA base) {k2 : Nat → Nat → Int32 → HS → Option (Int32 × HS)} (mk2 : ∀ x0 x1 x2 σ, Mo σ (k2 x0 x1 x2 σ)) (hk2 : ∀ x0 x1 x2 σ H locs ls, Wd D dA base σ s H locs → LE σ0 σ → lv_has ls 3 [(0, vr x0), (1, vr x1), (2, .int x2)] → k2 x0 x1 x2 σ = some (r, τ) → WG p l e s m args below meth c D dA base 5 115 (some (.int r)) σ0 τ σ H locs 2 ls []) (x0 : Nat) (x1 : Nat) (x2 : Int32) {σ : HS} {H : Heap} {locs : List Loc} {ls : Array Slot} (h : Wd D dA base σ s H locs) (g : LE σ0 σ) (hl : lv_has ls 3 [(0, vr x0), (1, vr x1), (2, .int x2)]) (hF : B_X5_undoRow_2 k2 x0 x1 x2 σ = some (r, τ)) : WG p l e s m args below meth c D dA base 5 115 (some (.int r)) σ0 τ σ H locs 2 ls [] := by
  obtain ⟨hx, hb, -⟩ := id cx
  unfold B_X5_undoRow_2 at hF
  refine lv_iload_n hx hb dX5_undoRow_2 rfl (lv_at hl 2 rfl) ?_
  refine x_aload_n hx hb dX5_undoRow_3 rfl (lv_at hl 1 rfl) ?_
  obtain ⟨hq1, hF⟩ := ifs hF
  refine x_geti cx h fa_X5_212 (f := 167) rfl hq1 dX5_undoRow_4 ?_
  refine lv_icmp_ge (tgt := 32) hx hb dX5_undoRow_7 (by decide) (fun c2 => ?_) (fun c2 => ?_)
  · replace hF := ifp c2 hF
    refine x_aload_n hx hb dX5_undoRow_32 rfl (lv_at hl 1 rfl) ?_
    obtain ⟨r3, σ3, hc3, hF⟩ := bds hF
    refine x_callv (σ := σ) g (LEm hc3 (mo_F_X4_end x1 _)) (x_runV (As := []) (rest := []) cx h (c_X4_end l D dA base x1 hc3) ml_X5_86 mi_X4_end hq1 rfl ⟨Nat.le_of_ble_eq_true rfl, Nat.le_of_ble_eq_true rfl⟩ hl.1 rfl (s8 sN (by decide)) dX5_undoRow_33 (le_room g (LEm hc3 (mo_F_X4_end x1 _)) (LEm hF mo_ret))) h (fun H locs h g => ?_)
    refine lv_iconst (v := (0 : Int32)) hx hb dX5_undoRow_36 (by decide) ?_
    obtain ⟨rfl, rfl⟩ := rts hF
    exact x_iret cx h dX5_undoRow_37
  · replace hF := ifn c2 hF
    refine x_aload_n hx hb dX5_undoRow_10 rfl (lv_at hl 0 rfl) ?_
    refine x_aload_n hx hb dX5_undoRow_11 rfl (lv_at hl 1 rfl) ?_
    refine x_aload_n hx hb dX5_undoRow_12 rfl (lv_at hl 1 rfl) ?_
    refine x_getr cx h fa_X5_227 (f := 168) rfl hq1 dX5_undoRow_13 ?_
    refine lv_iload_n hx hb dX5_undoRow_16 rfl (lv_at hl 2 rfl) ?_
    obtain ⟨hq4, hF⟩ := ifs hF
    refine x_iald cx h hq4.1 (inb.vp hq4.2) dX5_undoRow_17 ?_
    obtain ⟨hq5, hF⟩ := ifs hF
    obtain ⟨r6, σ6, hc6, hF⟩ := bds hF
    refine x_calli (σ := σ) g (LEm hc6 (mo_F_X5_undoCells x0 x1 (ai σ (gr σ 168 x1) x2.toNatClampNeg) _)) (x_runV (As := [vr x1, .int (ai σ (gr σ 168 x1) x2.toNatClampNeg)]) (rest := []) cx h (c_X5_undoCells l D dA base x0 x1 (ai σ (gr σ 168 x1) x2.toNatClampNeg) hc6) ml_X5_256 mi_X5_undoCells hq5 rfl ⟨Nat.le_of_ble_eq_true rfl, Nat.le_of_ble_eq_true rfl⟩ hl.1 rfl (s8 sN (by decide)) dX5_undoRow_18 (le_room g (LEm hc6 (mo_F_X5_undoCells x0 x1 (ai σ (gr σ 168 x1) x2.toNatClampNeg) _)) (LEm hF (mo_ite (mk2 x0 x1 (x2 + (1 : Int32)) _) mo_ret)))) h (fun H locs h g => ?_)
    refine lv_if_eq (tgt := 26) hx hb dX5_undoRow_21 (by decide) (fun c7 => ?_) (fun c7 => ?_)
    · replace hF := ifp c7 hF
      refine x_iinc (k := 2) (v := (1 : Int32)) (lv' := [(2, .int (x2 + (1 : Int32))), (0, vr x0), (1, vr x1)]) hx hb dX5_undoRow_26 hl rfl (by decide) (by decide) (cR (cR (cI cN))) rfl (fun ls hl => ?_)
      refine lv_goto (tgt := 2) hx hb dX5_undoRow_29 (by decide) ?_
      exact hk2 x0 x1 (x2 + (1 : Int32)) σ6 _ _ _ h g (lv_sub hl [1, 2, 0] rfl) hF
    · replace hF := ifn c7 hF
      refine lv_iconst (v := (1 : Int32)) hx hb dX5_undoRow_24 (by decide) ?_
      obtain ⟨rfl, rfl⟩ := rts hF
      exact x_iret cx h dX5_undoRow_25
def L_X5_undoRow_2  : Nat → Nat → Nat → Int32 → HS → Option (Int32 × HS)
  | 0, _, _, _, _ => none
  | N + 1, x0, x1, x2, σ => B_X5_undoRow_2 (L_X5_undoRow_2  N) x0 x1 x2 σ
theorem mo_L_X5_undoRow_2  : ∀ (N : Nat) (x0 : Nat) (x1 : Nat) (x2 : Int32) (σ : HS), Mo σ (L_X5_undoRow_2  N x0 x1 x2 σ) := by
  intro N
  induction N with
  | zero => intro x0 x1 x2 σ; exact mo_none
  | succ N ih => intro x0 x1 x2 σ; exact mo_B_X5_undoRow_2 ih x0 x1 x2 σ
theorem wl_X5_undoRow_2 {p : Program} {l : Launch} {e : Env} {s : State} {m : MethodId} {args : Array Value} {below : List Frame} {meth : Method} {c : Code} {D : va_G} {dA : Nat → ClassId} {base : Nat} {σ0 τ : HS} {r : Int32} (cx : CX p s m args meth c cX5_undoRow 3 (some .int) RX5 "undoRow" D dA base)  : ∀ (N : Nat) (x0 : Nat) (x1 : Nat) (x2 : Int32) (σ : HS) (H : Heap) (locs : List Loc) (ls : Array Slot), Wd D dA base σ s H locs → LE σ0 σ → lv_has ls 3 [(0, vr x0), (1, vr x1), (2, .int x2)] → L_X5_undoRow_2  N x0 x1 x2 σ = some (r, τ) → WG p l e s m args below meth c D dA base 5 115 (some (.int r)) σ0 τ σ H locs 2 ls [] := by
  intro N
  induction N with
  | zero => intro x0 x1 x2 σ H locs ls h g hl hF; cases hF
  | succ N ih => intro x0 x1 x2 σ H locs ls h g hl hF; exact w_X5_undoRow_2 cx (mo_L_X5_undoRow_2  N) ih x0 x1 x2 h g hl hF
def F_X5_undoRow (a0 : Nat) (a1 : Nat) (σ : HS) : Option (Int32 × HS) :=
  L_X5_undoRow_2  NF a0 a1 (0 : Int32) σ
theorem mo_F_X5_undoRow (a0 : Nat) (a1 : Nat) (σ : HS) : Mo σ (F_X5_undoRow a0 a1 σ) := by
  unfold F_X5_undoRow
  exact (mo_L_X5_undoRow_2  NF a0 a1 (0 : Int32) _)
set_option maxHeartbeats 4000000 in
set_option maxRecDepth 100000 in
theorem c_X5_undoRow (l : Launch) (D : va_G) (dA : Nat → ClassId) (base : Nat) (a0 : Nat) (a1 : Nat) {σ τ : HS} {r : Int32} (hF : F_X5_undoRow a0 a1 σ = some (r, τ)) : CT l yX5_undoRow cX5_undoRow 3 (some .int) 5 115 D dA base [vr a0, vr a1] (some (.int r)) σ τ := by
  refine CT.of (lv := [(0, vr a0), (1, vr a1)]) (by decide) (vR (vR vN)) (Nat.le_of_ble_eq_true rfl) rfl ?_
  intro p e s m args below meth c ls cx hl h
  have cx : CX p s m args meth c cX5_undoRow 3 (some .int) RX5 "undoRow" D dA base := cx
  have g : LE σ σ := LE.rf
  obtain ⟨hx, hb, -⟩ := id cx
  unfold F_X5_undoRow at hF
  refine lv_iconst (v := (0 : Int32)) hx hb dX5_undoRow_0 (by decide) ?_
  refine x_istore_n (lv' := [(2, .int (0 : Int32)), (0, vr a0), (1, vr a1)]) hx hb dX5_undoRow_1 rfl hl (by decide) (cR (cR cN)) rfl (fun ls hl => ?_)
  exact wl_X5_undoRow_2 cx   NF a0 a1 (0 : Int32) σ _ _ _ h g (lv_sub hl [1, 2, 0] rfl) hF
def B_X5_goOn_56  (y0 : Int32) (σ : HS) : Option (Int32 × HS) :=
  some (y0, σ)
theorem mo_B_X5_goOn_56  (y0 : Int32) (σ : HS) : Mo σ (B_X5_goOn_56  y0 σ) := by
  unfold B_X5_goOn_56
  exact mo_ret
set_option maxHeartbeats 4000000 in
set_option maxRecDepth 100000 in
theorem w_X5_goOn_56 {p : Program} {l : Launch} {e : Env} {s : State} {m : MethodId} {args : Array Value} {below : List Frame} {meth : Method} {c : Code} {D : va_G} {dA : Nat → ClassId} {base : Nat} {σ0 τ : HS} {r : Int32} (cx : CX p s m args meth c cX5_goOn 2 (some .int) RX5 "goOn" D dA base)  (y0 : Int32) {σ : HS} {H : Heap} {locs : List Loc} {ls : Array Slot} (h : Wd D dA base σ s H locs) (g : LE σ0 σ) (hl : lv_has ls 2 []) (hF : B_X5_goOn_56  y0 σ = some (r, τ)) : WG p l e s m args below meth c D dA base 6 137 (some (.int r)) σ0 τ σ H locs 56 ls [.int y0] := by
  obtain ⟨hx, hb, -⟩ := id cx
  unfold B_X5_goOn_56 at hF
  obtain ⟨rfl, rfl⟩ := rts hF
  exact x_iret cx h dX5_goOn_56
def F_X5_goOn (a0 : Nat) (a1 : Nat) (σ : HS) : Option (Int32 × HS) :=
  if kd σ a1 = 5 then (if (gi σ 160 a1) = (2 : Int32) then (if (gi σ 167 a1) ≤ (gi σ 169 a1) then (if kd σ a0 = 6 then (bd (F_X5_decide a0 a1 σ) (fun r5 σ5 => B_X5_goOn_56  r5 σ5)) else none) else (if kd σ a0 = 6 then (bd (F_X5_lockRow a0 a1 σ) (fun r7 σ7 => B_X5_goOn_56  r7 σ7)) else none)) else (if (gi σ 160 a1) = (3 : Int32) then (if kd σ a0 = 6 then (bd (F_X5_settleRow a0 a1 σ) (fun r10 σ10 => some (r10, σ10))) else none) else (if (gi σ 160 a1) = (4 : Int32) then (if kd σ a0 = 6 then (bd (F_X5_undoRow a0 a1 σ) (fun r13 σ13 => some (r13, σ13))) else none) else (some ((-3 : Int32), σ))))) else none
theorem mo_F_X5_goOn (a0 : Nat) (a1 : Nat) (σ : HS) : Mo σ (F_X5_goOn a0 a1 σ) := by
  unfold F_X5_goOn
  exact (mo_ite (mo_ite (mo_ite (mo_ite (mo_bd (mo_F_X5_decide a0 a1 _) (fun r5 σ5 => (mo_B_X5_goOn_56  r5 _))) mo_none) (mo_ite (mo_bd (mo_F_X5_lockRow a0 a1 _) (fun r7 σ7 => (mo_B_X5_goOn_56  r7 _))) mo_none)) (mo_ite (mo_ite (mo_bd (mo_F_X5_settleRow a0 a1 _) (fun r10 σ10 => mo_ret)) mo_none) (mo_ite (mo_ite (mo_bd (mo_F_X5_undoRow a0 a1 _) (fun r13 σ13 => mo_ret)) mo_none) mo_ret))) mo_none)
set_option maxHeartbeats 4000000 in
set_option maxRecDepth 100000 in
theorem c_X5_goOn (l : Launch) (D : va_G) (dA : Nat → ClassId) (base : Nat) (a0 : Nat) (a1 : Nat) {σ τ : HS} {r : Int32} (hF : F_X5_goOn a0 a1 σ = some (r, τ)) : CT l yX5_goOn cX5_goOn 2 (some .int) 6 137 D dA base [vr a0, vr a1] (some (.int r)) σ τ := by
  refine CT.of (lv := [(0, vr a0), (1, vr a1)]) (by decide) (vR (vR vN)) (Nat.le_of_ble_eq_true rfl) rfl ?_
  intro p e s m args below meth c ls cx hl h
  have cx : CX p s m args meth c cX5_goOn 2 (some .int) RX5 "goOn" D dA base := cx
  have g : LE σ σ := LE.rf
  obtain ⟨hx, hb, -⟩ := id cx
  unfold F_X5_goOn at hF
  refine x_aload_n hx hb dX5_goOn_0 rfl (lv_at hl 1 rfl) ?_
  obtain ⟨hq1, hF⟩ := ifs hF
  refine x_geti cx h fa_X5_38 (f := 160) rfl hq1 dX5_goOn_1 ?_
  by_cases c2 : (gi σ 160 a1) = (2 : Int32)
  · replace hF := ifp c2 hF
    refine lv_tableIn (off := 28) (tgt := 32) hx hb dX5_goOn_4 (by rw [c2]; decide) (by rw [c2]; decide) (by rw [c2]; rfl) (by decide) ?_
    refine x_aload_n hx hb dX5_goOn_32 rfl (lv_at hl 1 rfl) ?_
    refine x_geti cx h fa_X5_119 (f := 169) rfl hq1 dX5_goOn_33 ?_
    refine x_aload_n hx hb dX5_goOn_36 rfl (lv_at hl 1 rfl) ?_
    refine x_geti cx h fa_X5_212 (f := 167) rfl hq1 dX5_goOn_37 ?_
    refine lv_icmp_ge (tgt := 51) hx hb dX5_goOn_40 (by decide) (fun c3 => ?_) (fun c3 => ?_)
    · replace hF := ifp c3 hF
      refine x_aload_n hx hb dX5_goOn_51 rfl (lv_at hl 0 rfl) ?_
      refine x_aload_n hx hb dX5_goOn_52 rfl (lv_at hl 1 rfl) ?_
      obtain ⟨hq4, hF⟩ := ifs hF
      obtain ⟨r5, σ5, hc5, hF⟩ := bds hF
      refine x_calli (σ := σ) g (LEm hc5 (mo_F_X5_decide a0 a1 _)) (x_runV (As := [vr a1]) (rest := []) cx h (c_X5_decide l D dA base a0 a1 hc5) ml_X5_218 mi_X5_decide hq4 rfl ⟨Nat.le_of_ble_eq_true rfl, Nat.le_of_ble_eq_true rfl⟩ hl.1 rfl (s8 sN (by decide)) dX5_goOn_53 (le_room g (LEm hc5 (mo_F_X5_decide a0 a1 _)) (LEm hF (mo_B_X5_goOn_56  r5 _)))) h (fun H locs h g => ?_)
      exact w_X5_goOn_56 (σ := σ5) cx   r5 h g (lv_sub hl [] rfl) hF
    · replace hF := ifn c3 hF
      refine x_aload_n hx hb dX5_goOn_43 rfl (lv_at hl 0 rfl) ?_
      refine x_aload_n hx hb dX5_goOn_44 rfl (lv_at hl 1 rfl) ?_
      obtain ⟨hq6, hF⟩ := ifs hF
      obtain ⟨r7, σ7, hc7, hF⟩ := bds hF
      refine x_calli (σ := σ) g (LEm hc7 (mo_F_X5_lockRow a0 a1 _)) (x_runV (As := [vr a1]) (rest := []) cx h (c_X5_lockRow l D dA base a0 a1 hc7) ml_X5_215 mi_X5_lockRow hq6 rfl ⟨Nat.le_of_ble_eq_true rfl, Nat.le_of_ble_eq_true rfl⟩ hl.1 rfl (s8 sN (by decide)) dX5_goOn_45 (le_room g (LEm hc7 (mo_F_X5_lockRow a0 a1 _)) (LEm hF (mo_B_X5_goOn_56  r7 _)))) h (fun H locs h g => ?_)
      refine lv_goto (tgt := 56) hx hb dX5_goOn_48 (by decide) ?_
      exact w_X5_goOn_56 (σ := σ7) cx   r7 h g (lv_sub hl [] rfl) hF
  · replace hF := ifn c2 hF
    by_cases c8 : (gi σ 160 a1) = (3 : Int32)
    · replace hF := ifp c8 hF
      refine lv_tableIn (off := 53) (tgt := 57) hx hb dX5_goOn_4 (by rw [c8]; decide) (by rw [c8]; decide) (by rw [c8]; rfl) (by decide) ?_
      refine x_aload_n hx hb dX5_goOn_57 rfl (lv_at hl 0 rfl) ?_
      refine x_aload_n hx hb dX5_goOn_58 rfl (lv_at hl 1 rfl) ?_
      obtain ⟨hq9, hF⟩ := ifs hF
      obtain ⟨r10, σ10, hc10, hF⟩ := bds hF
      refine x_calli (σ := σ) g (LEm hc10 (mo_F_X5_settleRow a0 a1 _)) (x_runV (As := [vr a1]) (rest := []) cx h (c_X5_settleRow l D dA base a0 a1 hc10) ml_X5_221 mi_X5_settleRow hq9 rfl ⟨Nat.le_of_ble_eq_true rfl, Nat.le_of_ble_eq_true rfl⟩ hl.1 rfl (s8 sN (by decide)) dX5_goOn_59 (le_room g (LEm hc10 (mo_F_X5_settleRow a0 a1 _)) (LEm hF mo_ret))) h (fun H locs h g => ?_)
      obtain ⟨rfl, rfl⟩ := rts hF
      exact x_iret cx h dX5_goOn_62
    · replace hF := ifn c8 hF
      by_cases c11 : (gi σ 160 a1) = (4 : Int32)
      · replace hF := ifp c11 hF
        refine lv_tableIn (off := 59) (tgt := 63) hx hb dX5_goOn_4 (by rw [c11]; decide) (by rw [c11]; decide) (by rw [c11]; rfl) (by decide) ?_
        refine x_aload_n hx hb dX5_goOn_63 rfl (lv_at hl 0 rfl) ?_
        refine x_aload_n hx hb dX5_goOn_64 rfl (lv_at hl 1 rfl) ?_
        obtain ⟨hq12, hF⟩ := ifs hF
        obtain ⟨r13, σ13, hc13, hF⟩ := bds hF
        refine x_calli (σ := σ) g (LEm hc13 (mo_F_X5_undoRow a0 a1 _)) (x_runV (As := [vr a1]) (rest := []) cx h (c_X5_undoRow l D dA base a0 a1 hc13) ml_X5_224 mi_X5_undoRow hq12 rfl ⟨Nat.le_of_ble_eq_true rfl, Nat.le_of_ble_eq_true rfl⟩ hl.1 rfl (s8 sN (by decide)) dX5_goOn_65 (le_room g (LEm hc13 (mo_F_X5_undoRow a0 a1 _)) (LEm hF mo_ret))) h (fun H locs h g => ?_)
        obtain ⟨rfl, rfl⟩ := rts hF
        exact x_iret cx h dX5_goOn_68
      · replace hF := ifn c11 hF
        refine lv_tableOut (tgt := 69) hx hb dX5_goOn_4 (by have b2 := lv_neT c2 (a := 2) rfl; have b3 := lv_neT c8 (a := 3) rfl; have b4 := lv_neT c11 (a := 4) rfl; omega) (by decide) ?_
        refine lv_bipush (v := (-3 : Int32)) hx hb dX5_goOn_69 (by decide) ?_
        obtain ⟨rfl, rfl⟩ := rts hF
        exact x_iret cx h dX5_goOn_71
def F_X5_step (a0 : Nat) (a1 : Int32) (σ : HS) : Option (Int32 × HS) :=
  bd (F_X5_isClient a1 σ) (fun r1 σ1 => if r1 = 0 then (some ((-1 : Int32), σ1)) else (if kd σ1 a0 = 6 then (if kd σ1 (gr σ1 202 a0) = 103 ∧ inb a1 (ln σ1 (gr σ1 202 a0)) then (if kd σ1 (ar σ1 (gr σ1 202 a0) a1.toNatClampNeg) = 5 then (bd (F_X4_touch (ar σ1 (gr σ1 202 a0) a1.toNatClampNeg) (gi σ1 203 a0) σ1) (fun r6 σ6 => if kd σ6 a0 = 6 then (bd (F_X5_goOn a0 (ar σ1 (gr σ1 202 a0) a1.toNatClampNeg) σ6) (fun r8 σ8 => if kd σ8 a0 = 6 then (if kd σ8 (gr σ8 200 a0) = 4 then (bd (F_X3_putDownLog (gr σ8 200 a0) σ8) (fun r11 σ11 => some (r8, σ11))) else none) else none)) else none)) else none) else none) else none))
theorem mo_F_X5_step (a0 : Nat) (a1 : Int32) (σ : HS) : Mo σ (F_X5_step a0 a1 σ) := by
  unfold F_X5_step
  exact (mo_bd (mo_F_X5_isClient a1 _) (fun r1 σ1 => (mo_ite mo_ret (mo_ite (mo_ite (mo_ite (mo_bd (mo_F_X4_touch (ar σ1 (gr σ1 202 a0) a1.toNatClampNeg) (gi σ1 203 a0) _) (fun r6 σ6 => (mo_ite (mo_bd (mo_F_X5_goOn a0 (ar σ1 (gr σ1 202 a0) a1.toNatClampNeg) _) (fun r8 σ8 => (mo_ite (mo_ite (mo_bd (mo_F_X3_putDownLog (gr σ8 200 a0) _) (fun r11 σ11 => mo_ret)) mo_none) mo_none))) mo_none))) mo_none) mo_none) mo_none))))
set_option maxHeartbeats 4000000 in
set_option maxRecDepth 100000 in
theorem c_X5_step (l : Launch) (D : va_G) (dA : Nat → ClassId) (base : Nat) (a0 : Nat) (a1 : Int32) {σ τ : HS} {r : Int32} (hF : F_X5_step a0 a1 σ = some (r, τ)) : CT l yX5_step cX5_step 4 (some .int) 7 158 D dA base [vr a0, .int a1] (some (.int r)) σ τ := by
  refine CT.of (lv := [(0, vr a0), (1, .int a1)]) (by decide) (vR (vI vN)) (Nat.le_of_ble_eq_true rfl) rfl ?_
  intro p e s m args below meth c ls cx hl h
  have cx : CX p s m args meth c cX5_step 4 (some .int) RX5 "step" D dA base := cx
  have g : LE σ σ := LE.rf
  obtain ⟨hx, hb, -⟩ := id cx
  unfold F_X5_step at hF
  refine lv_iload_n hx hb dX5_step_0 rfl (lv_at hl 1 rfl) ?_
  obtain ⟨r1, σ1, hc1, hF⟩ := bds hF
  refine x_calli (σ := σ) g (LEm hc1 (mo_F_X5_isClient a1 _)) (x_runS (As := [.int a1]) (rest := []) cx h (c_X5_isClient l D dA base a1 hc1) ml_X5_34 mi_X5_isClient rfl ⟨Nat.le_of_ble_eq_true rfl, Nat.le_of_ble_eq_true rfl⟩ hl.1 rfl (s8 sN (by decide)) dX5_step_1 (le_room g (LEm hc1 (mo_F_X5_isClient a1 _)) (LEm hF (mo_ite mo_ret (mo_ite (mo_ite (mo_ite (mo_bd (mo_F_X4_touch (ar σ1 (gr σ1 202 a0) a1.toNatClampNeg) (gi σ1 203 a0) _) (fun r6 σ6 => (mo_ite (mo_bd (mo_F_X5_goOn a0 (ar σ1 (gr σ1 202 a0) a1.toNatClampNeg) _) (fun r8 σ8 => (mo_ite (mo_ite (mo_bd (mo_F_X3_putDownLog (gr σ8 200 a0) _) (fun r11 σ11 => mo_ret)) mo_none) mo_none))) mo_none))) mo_none) mo_none) mo_none))))) h (fun H locs h g => ?_)
  refine lv_if_ne (tgt := 9) hx hb dX5_step_4 (by decide) (fun c2 => ?_) (fun c2 => ?_)
  · replace hF := ifn c2 hF
    refine x_aload_n hx hb dX5_step_9 rfl (lv_at hl 0 rfl) ?_
    obtain ⟨hq3, hF⟩ := ifs hF
    refine x_getr cx h fa_X5_25 (f := 202) rfl hq3 dX5_step_10 ?_
    refine lv_iload_n hx hb dX5_step_13 rfl (lv_at hl 1 rfl) ?_
    obtain ⟨hq4, hF⟩ := ifs hF
    refine x_aald cx h RA3 hq4.1 (inb.vp hq4.2) dX5_step_14 ?_
    refine x_astore_n (lv' := [(2, vr (ar σ1 (gr σ1 202 a0) a1.toNatClampNeg)), (0, vr a0), (1, .int a1)]) hx hb dX5_step_15 rfl hl (by decide) (cR (cI cN)) rfl (fun ls hl => ?_)
    refine x_aload_n hx hb dX5_step_16 rfl (lv_at hl 0 rfl) ?_
    refine x_aload_n hx hb dX5_step_17 rfl (lv_at hl 1 rfl) ?_
    refine x_geti cx h fa_X5_41 (f := 203) rfl hq3 dX5_step_18 ?_
    obtain ⟨hq5, hF⟩ := ifs hF
    obtain ⟨r6, σ6, hc6, hF⟩ := bds hF
    refine x_callv (σ := σ1) g (LEm hc6 (mo_F_X4_touch (ar σ1 (gr σ1 202 a0) a1.toNatClampNeg) (gi σ1 203 a0) _)) (x_runV (As := [.int (gi σ1 203 a0)]) (rest := []) cx h (c_X4_touch l D dA base (ar σ1 (gr σ1 202 a0) a1.toNatClampNeg) (gi σ1 203 a0) hc6) ml_X5_44 mi_X4_touch hq5 rfl ⟨Nat.le_of_ble_eq_true rfl, Nat.le_of_ble_eq_true rfl⟩ hl.1 rfl (s8 sN (by decide)) dX5_step_21 (le_room g (LEm hc6 (mo_F_X4_touch (ar σ1 (gr σ1 202 a0) a1.toNatClampNeg) (gi σ1 203 a0) _)) (LEm hF (mo_ite (mo_bd (mo_F_X5_goOn a0 (ar σ1 (gr σ1 202 a0) a1.toNatClampNeg) _) (fun r8 σ8 => (mo_ite (mo_ite (mo_bd (mo_F_X3_putDownLog (gr σ8 200 a0) _) (fun r11 σ11 => mo_ret)) mo_none) mo_none))) mo_none)))) h (fun H locs h g => ?_)
    refine x_aload_n hx hb dX5_step_24 rfl (lv_at hl 1 rfl) ?_
    refine x_aload_n hx hb dX5_step_25 rfl (lv_at hl 0 rfl) ?_
    obtain ⟨hq7, hF⟩ := ifs hF
    obtain ⟨r8, σ8, hc8, hF⟩ := bds hF
    refine x_calli (σ := σ6) g (LEm hc8 (mo_F_X5_goOn a0 (ar σ1 (gr σ1 202 a0) a1.toNatClampNeg) _)) (x_runV (As := [vr (ar σ1 (gr σ1 202 a0) a1.toNatClampNeg)]) (rest := []) cx h (c_X5_goOn l D dA base a0 (ar σ1 (gr σ1 202 a0) a1.toNatClampNeg) hc8) ml_X5_89 mi_X5_goOn hq7 rfl ⟨Nat.le_of_ble_eq_true rfl, Nat.le_of_ble_eq_true rfl⟩ hl.1 rfl (s8 sN (by decide)) dX5_step_26 (le_room g (LEm hc8 (mo_F_X5_goOn a0 (ar σ1 (gr σ1 202 a0) a1.toNatClampNeg) _)) (LEm hF (mo_ite (mo_ite (mo_bd (mo_F_X3_putDownLog (gr σ8 200 a0) _) (fun r11 σ11 => mo_ret)) mo_none) mo_none)))) h (fun H locs h g => ?_)
    refine x_istore_n (lv' := [(3, .int r8), (2, vr (ar σ1 (gr σ1 202 a0) a1.toNatClampNeg)), (0, vr a0), (1, .int a1)]) hx hb dX5_step_29 rfl hl (by decide) (cR (cR (cI cN))) rfl (fun ls hl => ?_)
    refine x_aload_n hx hb dX5_step_30 rfl (lv_at hl 2 rfl) ?_
    obtain ⟨hq9, hF⟩ := ifs hF
    refine x_getr cx h fa_X5_10 (f := 200) rfl hq9 dX5_step_31 ?_
    obtain ⟨hq10, hF⟩ := ifs hF
    obtain ⟨r11, σ11, hc11, hF⟩ := bds hF
    refine x_callv (σ := σ8) g (LEm hc11 (mo_F_X3_putDownLog (gr σ8 200 a0) _)) (x_runV (As := []) (rest := []) cx h (c_X3_putDownLog l D dA base (gr σ8 200 a0) hc11) ml_X5_71 mi_X3_putDownLog hq10 rfl ⟨Nat.le_of_ble_eq_true rfl, Nat.le_of_ble_eq_true rfl⟩ hl.1 rfl (s8 sN (by decide)) dX5_step_34 (le_room g (LEm hc11 (mo_F_X3_putDownLog (gr σ8 200 a0) _)) (LEm hF mo_ret))) h (fun H locs h g => ?_)
    refine lv_iload_n hx hb dX5_step_37 rfl (lv_at hl 0 rfl) ?_
    obtain ⟨rfl, rfl⟩ := rts hF
    exact x_iret cx h dX5_step_38
  · replace hF := ifp c2 hF
    refine lv_iconst (v := (-1 : Int32)) hx hb dX5_step_7 (by decide) ?_
    obtain ⟨rfl, rfl⟩ := rts hF
    exact x_iret cx h dX5_step_8
def B_X5_crash_28  (x2 : Nat) (y0 : Int32) (σ : HS) : Option (Int32 × HS) :=
  if kd σ x2 = 5 then (bd (F_X4_end x2 σ) (fun r2 σ2 => some (y0, σ2))) else none
theorem mo_B_X5_crash_28  (x2 : Nat) (y0 : Int32) (σ : HS) : Mo σ (B_X5_crash_28  x2 y0 σ) := by
  unfold B_X5_crash_28
  exact (mo_ite (mo_bd (mo_F_X4_end x2 _) (fun r2 σ2 => mo_ret)) mo_none)
set_option maxHeartbeats 4000000 in
set_option maxRecDepth 100000 in
theorem w_X5_crash_28 {p : Program} {l : Launch} {e : Env} {s : State} {m : MethodId} {args : Array Value} {below : List Frame} {meth : Method} {c : Code} {D : va_G} {dA : Nat → ClassId} {base : Nat} {σ0 τ : HS} {r : Int32} (cx : CX p s m args meth c cX5_crash 4 (some .int) RX5 "crash" D dA base)  (x2 : Nat) (y0 : Int32) {σ : HS} {H : Heap} {locs : List Loc} {ls : Array Slot} (h : Wd D dA base σ s H locs) (g : LE σ0 σ) (hl : lv_has ls 4 [(2, vr x2)]) (hF : B_X5_crash_28  x2 y0 σ = some (r, τ)) : WG p l e s m args below meth c D dA base 1 20 (some (.int r)) σ0 τ σ H locs 28 ls [.int y0] := by
  obtain ⟨hx, hb, -⟩ := id cx
  unfold B_X5_crash_28 at hF
  refine x_istore_n (lv' := [(3, .int y0), (2, vr x2)]) hx hb dX5_crash_28 rfl hl (by decide) (cR cN) rfl (fun ls hl => ?_)
  refine x_aload_n hx hb dX5_crash_29 rfl (lv_at hl 1 rfl) ?_
  obtain ⟨hq1, hF⟩ := ifs hF
  obtain ⟨r2, σ2, hc2, hF⟩ := bds hF
  refine x_callv (σ := σ) g (LEm hc2 (mo_F_X4_end x2 _)) (x_runV (As := []) (rest := []) cx h (c_X4_end l D dA base x2 hc2) ml_X5_86 mi_X4_end hq1 rfl ⟨Nat.le_of_ble_eq_true rfl, Nat.le_of_ble_eq_true rfl⟩ hl.1 rfl (s8 sN (by decide)) dX5_crash_30 (le_room g (LEm hc2 (mo_F_X4_end x2 _)) (LEm hF mo_ret))) h (fun H locs h g => ?_)
  refine lv_iload_n hx hb dX5_crash_33 rfl (lv_at hl 0 rfl) ?_
  obtain ⟨rfl, rfl⟩ := rts hF
  exact x_iret cx h dX5_crash_34
def F_X5_crash (a0 : Nat) (a1 : Int32) (σ : HS) : Option (Int32 × HS) :=
  bd (F_X5_isClient a1 σ) (fun r1 σ1 => if r1 = 0 then (some ((-1 : Int32), σ1)) else (if kd σ1 a0 = 6 then (if kd σ1 (gr σ1 202 a0) = 103 ∧ inb a1 (ln σ1 (gr σ1 202 a0)) then (if kd σ1 (ar σ1 (gr σ1 202 a0) a1.toNatClampNeg) = 5 then (if (gi σ1 160 (ar σ1 (gr σ1 202 a0) a1.toNatClampNeg)) = 0 then (B_X5_crash_28  (ar σ1 (gr σ1 202 a0) a1.toNatClampNeg) (0 : Int32) σ1) else (B_X5_crash_28  (ar σ1 (gr σ1 202 a0) a1.toNatClampNeg) (1 : Int32) σ1)) else none) else none) else none))
theorem mo_F_X5_crash (a0 : Nat) (a1 : Int32) (σ : HS) : Mo σ (F_X5_crash a0 a1 σ) := by
  unfold F_X5_crash
  exact (mo_bd (mo_F_X5_isClient a1 _) (fun r1 σ1 => (mo_ite mo_ret (mo_ite (mo_ite (mo_ite (mo_ite (mo_B_X5_crash_28  (ar σ1 (gr σ1 202 a0) a1.toNatClampNeg) (0 : Int32) _) (mo_B_X5_crash_28  (ar σ1 (gr σ1 202 a0) a1.toNatClampNeg) (1 : Int32) _)) mo_none) mo_none) mo_none))))
set_option maxHeartbeats 4000000 in
set_option maxRecDepth 100000 in
theorem c_X5_crash (l : Launch) (D : va_G) (dA : Nat → ClassId) (base : Nat) (a0 : Nat) (a1 : Int32) {σ τ : HS} {r : Int32} (hF : F_X5_crash a0 a1 σ = some (r, τ)) : CT l yX5_crash cX5_crash 4 (some .int) 1 20 D dA base [vr a0, .int a1] (some (.int r)) σ τ := by
  refine CT.of (lv := [(0, vr a0), (1, .int a1)]) (by decide) (vR (vI vN)) (Nat.le_of_ble_eq_true rfl) rfl ?_
  intro p e s m args below meth c ls cx hl h
  have cx : CX p s m args meth c cX5_crash 4 (some .int) RX5 "crash" D dA base := cx
  have g : LE σ σ := LE.rf
  obtain ⟨hx, hb, -⟩ := id cx
  unfold F_X5_crash at hF
  refine lv_iload_n hx hb dX5_crash_0 rfl (lv_at hl 1 rfl) ?_
  obtain ⟨r1, σ1, hc1, hF⟩ := bds hF
  refine x_calli (σ := σ) g (LEm hc1 (mo_F_X5_isClient a1 _)) (x_runS (As := [.int a1]) (rest := []) cx h (c_X5_isClient l D dA base a1 hc1) ml_X5_34 mi_X5_isClient rfl ⟨Nat.le_of_ble_eq_true rfl, Nat.le_of_ble_eq_true rfl⟩ hl.1 rfl (s8 sN (by decide)) dX5_crash_1 (le_room g (LEm hc1 (mo_F_X5_isClient a1 _)) (LEm hF (mo_ite mo_ret (mo_ite (mo_ite (mo_ite (mo_ite (mo_B_X5_crash_28  (ar σ1 (gr σ1 202 a0) a1.toNatClampNeg) (0 : Int32) _) (mo_B_X5_crash_28  (ar σ1 (gr σ1 202 a0) a1.toNatClampNeg) (1 : Int32) _)) mo_none) mo_none) mo_none))))) h (fun H locs h g => ?_)
  refine lv_if_ne (tgt := 9) hx hb dX5_crash_4 (by decide) (fun c2 => ?_) (fun c2 => ?_)
  · replace hF := ifn c2 hF
    refine x_aload_n hx hb dX5_crash_9 rfl (lv_at hl 0 rfl) ?_
    obtain ⟨hq3, hF⟩ := ifs hF
    refine x_getr cx h fa_X5_25 (f := 202) rfl hq3 dX5_crash_10 ?_
    refine lv_iload_n hx hb dX5_crash_13 rfl (lv_at hl 1 rfl) ?_
    obtain ⟨hq4, hF⟩ := ifs hF
    refine x_aald cx h RA3 hq4.1 (inb.vp hq4.2) dX5_crash_14 ?_
    refine x_astore_n (lv' := [(2, vr (ar σ1 (gr σ1 202 a0) a1.toNatClampNeg)), (0, vr a0), (1, .int a1)]) hx hb dX5_crash_15 rfl hl (by decide) (cR (cI cN)) rfl (fun ls hl => ?_)
    refine x_aload_n hx hb dX5_crash_16 rfl (lv_at hl 0 rfl) ?_
    obtain ⟨hq5, hF⟩ := ifs hF
    refine x_geti cx h fa_X5_38 (f := 160) rfl hq5 dX5_crash_17 ?_
    refine lv_if_ne (tgt := 27) hx hb dX5_crash_20 (by decide) (fun c6 => ?_) (fun c6 => ?_)
    · replace hF := ifn c6 hF
      refine lv_iconst (v := (1 : Int32)) hx hb dX5_crash_27 (by decide) ?_
      exact w_X5_crash_28 (σ := σ1) cx   (ar σ1 (gr σ1 202 a0) a1.toNatClampNeg) (1 : Int32) h g (lv_sub hl [0] rfl) hF
    · replace hF := ifp c6 hF
      refine lv_iconst (v := (0 : Int32)) hx hb dX5_crash_23 (by decide) ?_
      refine lv_goto (tgt := 28) hx hb dX5_crash_24 (by decide) ?_
      exact w_X5_crash_28 (σ := σ1) cx   (ar σ1 (gr σ1 202 a0) a1.toNatClampNeg) (0 : Int32) h g (lv_sub hl [0] rfl) hF
  · replace hF := ifp c2 hF
    refine lv_iconst (v := (-1 : Int32)) hx hb dX5_crash_7 (by decide) ?_
    obtain ⟨rfl, rfl⟩ := rts hF
    exact x_iret cx h dX5_crash_8
def B_X5_isTime_15  (y0 : Int32) (σ : HS) : Option (Int32 × HS) :=
  if y0 = 0 ∨ y0 = 1 then (some (y0, σ)) else none
theorem mo_B_X5_isTime_15  (y0 : Int32) (σ : HS) : Mo σ (B_X5_isTime_15  y0 σ) := by
  unfold B_X5_isTime_15
  exact (mo_ite mo_ret mo_none)
set_option maxHeartbeats 4000000 in
set_option maxRecDepth 100000 in
theorem w_X5_isTime_15 {p : Program} {l : Launch} {e : Env} {s : State} {m : MethodId} {args : Array Value} {below : List Frame} {meth : Method} {c : Code} {D : va_G} {dA : Nat → ClassId} {base : Nat} {σ0 τ : HS} {r : Int32} (cx : CX p s m args meth c cX5_isTime 1 (some .boolean) RX5 "isTime" D dA base)  (y0 : Int32) {σ : HS} {H : Heap} {locs : List Loc} {ls : Array Slot} (h : Wd D dA base σ s H locs) (g : LE σ0 σ) (hl : lv_has ls 1 []) (hF : B_X5_isTime_15  y0 σ = some (r, τ)) : WG p l e s m args below meth c D dA base 0 0 (some (.int r)) σ0 τ σ H locs 15 ls [.int y0] := by
  obtain ⟨hx, hb, -⟩ := id cx
  unfold B_X5_isTime_15 at hF
  obtain ⟨hz1, hF⟩ := ifs hF
  obtain ⟨rfl, rfl⟩ := rts hF
  exact x_zret cx h hz1 dX5_isTime_15
def B_X5_isTime_14   (σ : HS) : Option (Int32 × HS) :=
  B_X5_isTime_15  (0 : Int32) σ
theorem mo_B_X5_isTime_14   (σ : HS) : Mo σ (B_X5_isTime_14   σ) := by
  unfold B_X5_isTime_14
  exact (mo_B_X5_isTime_15  (0 : Int32) _)
set_option maxHeartbeats 4000000 in
set_option maxRecDepth 100000 in
theorem w_X5_isTime_14 {p : Program} {l : Launch} {e : Env} {s : State} {m : MethodId} {args : Array Value} {below : List Frame} {meth : Method} {c : Code} {D : va_G} {dA : Nat → ClassId} {base : Nat} {σ0 τ : HS} {r : Int32} (cx : CX p s m args meth c cX5_isTime 1 (some .boolean) RX5 "isTime" D dA base)   {σ : HS} {H : Heap} {locs : List Loc} {ls : Array Slot} (h : Wd D dA base σ s H locs) (g : LE σ0 σ) (hl : lv_has ls 1 []) (hF : B_X5_isTime_14   σ = some (r, τ)) : WG p l e s m args below meth c D dA base 0 0 (some (.int r)) σ0 τ σ H locs 14 ls [] := by
  obtain ⟨hx, hb, -⟩ := id cx
  unfold B_X5_isTime_14 at hF
  refine lv_iconst (v := (0 : Int32)) hx hb dX5_isTime_14 (by decide) ?_
  exact w_X5_isTime_15 (σ := σ) cx   (0 : Int32) h g (lv_sub hl [] rfl) hF
def F_X5_isTime (a0 : Int32) (σ : HS) : Option (Int32 × HS) :=
  if a0 < 0 then (B_X5_isTime_14   σ) else (if (100000 : Int32) < a0 then (B_X5_isTime_14   σ) else (B_X5_isTime_15  (1 : Int32) σ))
theorem mo_F_X5_isTime (a0 : Int32) (σ : HS) : Mo σ (F_X5_isTime a0 σ) := by
  unfold F_X5_isTime
  exact (mo_ite (mo_B_X5_isTime_14   _) (mo_ite (mo_B_X5_isTime_14   _) (mo_B_X5_isTime_15  (1 : Int32) _)))
set_option maxHeartbeats 4000000 in
set_option maxRecDepth 100000 in
theorem c_X5_isTime (l : Launch) (D : va_G) (dA : Nat → ClassId) (base : Nat) (a0 : Int32) {σ τ : HS} {r : Int32} (hF : F_X5_isTime a0 σ = some (r, τ)) : CT l yX5_isTime cX5_isTime 1 (some .boolean) 0 0 D dA base [.int a0] (some (.int r)) σ τ := by
  refine CT.of (lv := [(0, .int a0)]) (by decide) (vI vN) (Nat.le_of_ble_eq_true rfl) rfl ?_
  intro p e s m args below meth c ls cx hl h
  have cx : CX p s m args meth c cX5_isTime 1 (some .boolean) RX5 "isTime" D dA base := cx
  have g : LE σ σ := LE.rf
  obtain ⟨hx, hb, -⟩ := id cx
  unfold F_X5_isTime at hF
  refine lv_iload_n hx hb dX5_isTime_0 rfl (lv_at hl 0 rfl) ?_
  refine lv_if_lt (tgt := 14) hx hb dX5_isTime_1 (by decide) (fun c1 => ?_) (fun c1 => ?_)
  · replace hF := ifp c1 hF
    exact w_X5_isTime_14 (σ := σ) cx    h g (lv_sub hl [] rfl) hF
  · replace hF := ifn c1 hF
    refine lv_iload_n hx hb dX5_isTime_4 rfl (lv_at hl 0 rfl) ?_
    refine lv_ldc hx hb cx.2.2.2.1 (cx.2.2.2.2.1 _ wc_X5_195) dX5_isTime_5 ?_
    refine lv_icmp_gt (tgt := 14) hx hb dX5_isTime_7 (by decide) (fun c2 => ?_) (fun c2 => ?_)
    · replace hF := ifp c2 hF
      exact w_X5_isTime_14 (σ := σ) cx    h g (lv_sub hl [] rfl) hF
    · replace hF := ifn c2 hF
      refine lv_iconst (v := (1 : Int32)) hx hb dX5_isTime_10 (by decide) ?_
      refine lv_goto (tgt := 15) hx hb dX5_isTime_11 (by decide) ?_
      exact w_X5_isTime_15 (σ := σ) cx   (1 : Int32) h g (lv_sub hl [] rfl) hF
def B_X5_tick_18   (σ : HS) : Option (Int32 × HS) :=
  some ((-2 : Int32), σ)
theorem mo_B_X5_tick_18   (σ : HS) : Mo σ (B_X5_tick_18   σ) := by
  unfold B_X5_tick_18
  exact mo_ret
set_option maxHeartbeats 4000000 in
set_option maxRecDepth 100000 in
theorem w_X5_tick_18 {p : Program} {l : Launch} {e : Env} {s : State} {m : MethodId} {args : Array Value} {below : List Frame} {meth : Method} {c : Code} {D : va_G} {dA : Nat → ClassId} {base : Nat} {σ0 τ : HS} {r : Int32} (cx : CX p s m args meth c cX5_tick 2 (some .int) RX5 "tick" D dA base)   {σ : HS} {H : Heap} {locs : List Loc} {ls : Array Slot} (h : Wd D dA base σ s H locs) (g : LE σ0 σ) (hl : lv_has ls 2 []) (hF : B_X5_tick_18   σ = some (r, τ)) : WG p l e s m args below meth c D dA base 1 20 (some (.int r)) σ0 τ σ H locs 18 ls [] := by
  obtain ⟨hx, hb, -⟩ := id cx
  unfold B_X5_tick_18 at hF
  refine lv_bipush (v := (-2 : Int32)) hx hb dX5_tick_18 (by decide) ?_
  obtain ⟨rfl, rfl⟩ := rts hF
  exact x_iret cx h dX5_tick_20
def F_X5_tick (a0 : Nat) (a1 : Int32) (σ : HS) : Option (Int32 × HS) :=
  bd (F_X5_isTime a1 σ) (fun r1 σ1 => if r1 = 0 then (B_X5_tick_18   σ1) else (if kd σ1 a0 = 6 then (if a1 ≤ ((2147483647 : Int32) - (gi σ1 203 a0)) then (some ((gi (si σ1 203 a0 ((gi σ1 203 a0) + a1)) 203 a0), (si σ1 203 a0 ((gi σ1 203 a0) + a1)))) else (B_X5_tick_18   σ1)) else none))
theorem mo_F_X5_tick (a0 : Nat) (a1 : Int32) (σ : HS) : Mo σ (F_X5_tick a0 a1 σ) := by
  unfold F_X5_tick
  exact (mo_bd (mo_F_X5_isTime a1 _) (fun r1 σ1 => (mo_ite (mo_B_X5_tick_18   _) (mo_ite (mo_ite (mo_le (τ := (si σ1 203 a0 ((gi σ1 203 a0) + a1))) ⟨Nat.le_refl _, Nat.le_refl _⟩ mo_ret) (mo_B_X5_tick_18   _)) mo_none))))
set_option maxHeartbeats 4000000 in
set_option maxRecDepth 100000 in
theorem c_X5_tick (l : Launch) (D : va_G) (dA : Nat → ClassId) (base : Nat) (a0 : Nat) (a1 : Int32) {σ τ : HS} {r : Int32} (hF : F_X5_tick a0 a1 σ = some (r, τ)) : CT l yX5_tick cX5_tick 2 (some .int) 1 20 D dA base [vr a0, .int a1] (some (.int r)) σ τ := by
  refine CT.of (lv := [(0, vr a0), (1, .int a1)]) (by decide) (vR (vI vN)) (Nat.le_of_ble_eq_true rfl) rfl ?_
  intro p e s m args below meth c ls cx hl h
  have cx : CX p s m args meth c cX5_tick 2 (some .int) RX5 "tick" D dA base := cx
  have g : LE σ σ := LE.rf
  obtain ⟨hx, hb, -⟩ := id cx
  unfold F_X5_tick at hF
  refine lv_iload_n hx hb dX5_tick_0 rfl (lv_at hl 1 rfl) ?_
  obtain ⟨r1, σ1, hc1, hF⟩ := bds hF
  refine x_calli (σ := σ) g (LEm hc1 (mo_F_X5_isTime a1 _)) (x_runS (As := [.int a1]) (rest := []) cx h (c_X5_isTime l D dA base a1 hc1) ml_X5_93 mi_X5_isTime rfl ⟨Nat.le_of_ble_eq_true rfl, Nat.le_of_ble_eq_true rfl⟩ hl.1 rfl (s8 sN (by decide)) dX5_tick_1 (le_room g (LEm hc1 (mo_F_X5_isTime a1 _)) (LEm hF (mo_ite (mo_B_X5_tick_18   _) (mo_ite (mo_ite (mo_le (τ := (si σ1 203 a0 ((gi σ1 203 a0) + a1))) ⟨Nat.le_refl _, Nat.le_refl _⟩ mo_ret) (mo_B_X5_tick_18   _)) mo_none))))) h (fun H locs h g => ?_)
  refine lv_if_eq (tgt := 18) hx hb dX5_tick_4 (by decide) (fun c2 => ?_) (fun c2 => ?_)
  · replace hF := ifp c2 hF
    exact w_X5_tick_18 (σ := σ1) cx    h g (lv_sub hl [] rfl) hF
  · replace hF := ifn c2 hF
    refine lv_iload_n hx hb dX5_tick_7 rfl (lv_at hl 1 rfl) ?_
    refine lv_ldc hx hb cx.2.2.2.1 (cx.2.2.2.2.1 _ wc_X5_96) dX5_tick_8 ?_
    refine x_aload_n hx hb dX5_tick_10 rfl (lv_at hl 0 rfl) ?_
    obtain ⟨hq3, hF⟩ := ifs hF
    refine x_geti cx h fa_X5_41 (f := 203) rfl hq3 dX5_tick_11 ?_
    refine lv_isub hx hb dX5_tick_14 ?_
    refine lv_icmp_le (tgt := 21) hx hb dX5_tick_15 (by decide) (fun c4 => ?_) (fun c4 => ?_)
    · replace hF := ifp c4 hF
      refine x_aload_n hx hb dX5_tick_21 rfl (lv_at hl 0 rfl) ?_
      refine lv_dup hx hb dX5_tick_22 (vr_cat _) ?_
      refine x_geti cx h fa_X5_41 (f := 203) rfl hq3 dX5_tick_23 ?_
      refine lv_iload_n hx hb dX5_tick_26 rfl (lv_at hl 1 rfl) ?_
      refine lv_iadd hx hb dX5_tick_27 ?_
      refine x_sti cx h fa_X5_41 (f := 203) rfl (Or.inl rfl) hq3 dX5_tick_28 (fun H locs h => ?_)
      refine x_aload_n hx hb dX5_tick_31 rfl (lv_at hl 0 rfl) ?_
      refine x_geti cx h fa_X5_41 (f := 203) rfl hq3 dX5_tick_32 ?_
      obtain ⟨rfl, rfl⟩ := rts hF
      exact x_iret cx h dX5_tick_35
    · replace hF := ifn c4 hF
      exact w_X5_tick_18 (σ := σ1) cx    h g (lv_sub hl [] rfl) hF
def F_X5_timeout (a0 : Nat) (a1 : Int32) (σ : HS) : Option (Int32 × HS) :=
  bd (F_X5_isTime a1 σ) (fun r1 σ1 => if r1 = 0 then (some ((-2 : Int32), σ1)) else (if kd σ1 a0 = 6 then (some ((gi σ1 204 a0), (si σ1 204 a0 a1))) else none))
theorem mo_F_X5_timeout (a0 : Nat) (a1 : Int32) (σ : HS) : Mo σ (F_X5_timeout a0 a1 σ) := by
  unfold F_X5_timeout
  exact (mo_bd (mo_F_X5_isTime a1 _) (fun r1 σ1 => (mo_ite mo_ret (mo_ite (mo_le (τ := (si σ1 204 a0 a1)) ⟨Nat.le_refl _, Nat.le_refl _⟩ mo_ret) mo_none))))
set_option maxHeartbeats 4000000 in
set_option maxRecDepth 100000 in
theorem c_X5_timeout (l : Launch) (D : va_G) (dA : Nat → ClassId) (base : Nat) (a0 : Nat) (a1 : Int32) {σ τ : HS} {r : Int32} (hF : F_X5_timeout a0 a1 σ = some (r, τ)) : CT l yX5_timeout cX5_timeout 3 (some .int) 1 20 D dA base [vr a0, .int a1] (some (.int r)) σ τ := by
  refine CT.of (lv := [(0, vr a0), (1, .int a1)]) (by decide) (vR (vI vN)) (Nat.le_of_ble_eq_true rfl) rfl ?_
  intro p e s m args below meth c ls cx hl h
  have cx : CX p s m args meth c cX5_timeout 3 (some .int) RX5 "timeout" D dA base := cx
  have g : LE σ σ := LE.rf
  obtain ⟨hx, hb, -⟩ := id cx
  unfold F_X5_timeout at hF
  refine lv_iload_n hx hb dX5_timeout_0 rfl (lv_at hl 1 rfl) ?_
  obtain ⟨r1, σ1, hc1, hF⟩ := bds hF
  refine x_calli (σ := σ) g (LEm hc1 (mo_F_X5_isTime a1 _)) (x_runS (As := [.int a1]) (rest := []) cx h (c_X5_isTime l D dA base a1 hc1) ml_X5_93 mi_X5_isTime rfl ⟨Nat.le_of_ble_eq_true rfl, Nat.le_of_ble_eq_true rfl⟩ hl.1 rfl (s8 sN (by decide)) dX5_timeout_1 (le_room g (LEm hc1 (mo_F_X5_isTime a1 _)) (LEm hF (mo_ite mo_ret (mo_ite (mo_le (τ := (si σ1 204 a0 a1)) ⟨Nat.le_refl _, Nat.le_refl _⟩ mo_ret) mo_none))))) h (fun H locs h g => ?_)
  refine lv_if_ne (tgt := 10) hx hb dX5_timeout_4 (by decide) (fun c2 => ?_) (fun c2 => ?_)
  · replace hF := ifn c2 hF
    refine x_aload_n hx hb dX5_timeout_10 rfl (lv_at hl 0 rfl) ?_
    obtain ⟨hq3, hF⟩ := ifs hF
    refine x_geti cx h fa_X5_30 (f := 204) rfl hq3 dX5_timeout_11 ?_
    refine x_istore_n (lv' := [(2, .int (gi σ1 204 a0)), (0, vr a0), (1, .int a1)]) hx hb dX5_timeout_14 rfl hl (by decide) (cR (cI cN)) rfl (fun ls hl => ?_)
    refine x_aload_n hx hb dX5_timeout_15 rfl (lv_at hl 1 rfl) ?_
    refine lv_iload_n hx hb dX5_timeout_16 rfl (lv_at hl 2 rfl) ?_
    refine x_sti cx h fa_X5_30 (f := 204) rfl (Or.inl rfl) hq3 dX5_timeout_17 (fun H locs h => ?_)
    refine lv_iload_n hx hb dX5_timeout_20 rfl (lv_at hl 0 rfl) ?_
    obtain ⟨rfl, rfl⟩ := rts hF
    exact x_iret cx h dX5_timeout_21
  · replace hF := ifp c2 hF
    refine lv_bipush (v := (-2 : Int32)) hx hb dX5_timeout_7 (by decide) ?_
    obtain ⟨rfl, rfl⟩ := rts hF
    exact x_iret cx h dX5_timeout_9
def F_X5_fallOracle (a0 : Nat) (σ : HS) : Option (Int32 × HS) :=
  if kd σ a0 = 6 then (if kd σ (gr σ 201 a0) = 3 then (bd (F_X2_restart (gr σ 201 a0) σ) (fun r3 σ3 => some (r3, σ3))) else none) else none
theorem mo_F_X5_fallOracle (a0 : Nat) (σ : HS) : Mo σ (F_X5_fallOracle a0 σ) := by
  unfold F_X5_fallOracle
  exact (mo_ite (mo_ite (mo_bd (mo_F_X2_restart (gr σ 201 a0) _) (fun r3 σ3 => mo_ret)) mo_none) mo_none)
set_option maxHeartbeats 4000000 in
set_option maxRecDepth 100000 in
theorem c_X5_fallOracle (l : Launch) (D : va_G) (dA : Nat → ClassId) (base : Nat) (a0 : Nat) {σ τ : HS} {r : Int32} (hF : F_X5_fallOracle a0 σ = some (r, τ)) : CT l yX5_fallOracle cX5_fallOracle 1 (some .int) 1 20 D dA base [vr a0] (some (.int r)) σ τ := by
  refine CT.of (lv := [(0, vr a0)]) (by decide) (vR vN) (Nat.le_of_ble_eq_true rfl) rfl ?_
  intro p e s m args below meth c ls cx hl h
  have cx : CX p s m args meth c cX5_fallOracle 1 (some .int) RX5 "fallOracle" D dA base := cx
  have g : LE σ σ := LE.rf
  obtain ⟨hx, hb, -⟩ := id cx
  unfold F_X5_fallOracle at hF
  refine x_aload_n hx hb dX5_fallOracle_0 rfl (lv_at hl 0 rfl) ?_
  obtain ⟨hq1, hF⟩ := ifs hF
  refine x_getr cx h fa_X5_19 (f := 201) rfl hq1 dX5_fallOracle_1 ?_
  obtain ⟨hq2, hF⟩ := ifs hF
  obtain ⟨r3, σ3, hc3, hF⟩ := bds hF
  refine x_calli (σ := σ) g (LEm hc3 (mo_F_X2_restart (gr σ 201 a0) _)) (x_runV (As := []) (rest := []) cx h (c_X2_restart l D dA base (gr σ 201 a0) hc3) ml_X5_97 mi_X2_restart hq2 rfl ⟨Nat.le_of_ble_eq_true rfl, Nat.le_of_ble_eq_true rfl⟩ hl.1 rfl (s8 sN (by decide)) dX5_fallOracle_4 (le_room g (LEm hc3 (mo_F_X2_restart (gr σ 201 a0) _)) (LEm hF mo_ret))) h (fun H locs h g => ?_)
  obtain ⟨rfl, rfl⟩ := rts hF
  exact x_iret cx h dX5_fallOracle_7
def F_X5_fall (a0 : Nat) (σ : HS) : Option (Int32 × HS) :=
  if kd σ a0 = 6 then (if kd σ (gr σ 200 a0) = 4 then (some ((gi σ 122 (gr σ 200 a0)), σ)) else none) else none
theorem mo_F_X5_fall (a0 : Nat) (σ : HS) : Mo σ (F_X5_fall a0 σ) := by
  unfold F_X5_fall
  exact (mo_ite (mo_ite mo_ret mo_none) mo_none)
set_option maxHeartbeats 4000000 in
set_option maxRecDepth 100000 in
theorem c_X5_fall (l : Launch) (D : va_G) (dA : Nat → ClassId) (base : Nat) (a0 : Nat) {σ τ : HS} {r : Int32} (hF : F_X5_fall a0 σ = some (r, τ)) : CT l yX5_fall cX5_fall 1 (some .int) 0 0 D dA base [vr a0] (some (.int r)) σ τ := by
  refine CT.of (lv := [(0, vr a0)]) (by decide) (vR vN) (Nat.le_of_ble_eq_true rfl) rfl ?_
  intro p e s m args below meth c ls cx hl h
  have cx : CX p s m args meth c cX5_fall 1 (some .int) RX5 "fall" D dA base := cx
  have g : LE σ σ := LE.rf
  obtain ⟨hx, hb, -⟩ := id cx
  unfold F_X5_fall at hF
  refine x_aload_n hx hb dX5_fall_0 rfl (lv_at hl 0 rfl) ?_
  obtain ⟨hq1, hF⟩ := ifs hF
  refine x_getr cx h fa_X5_10 (f := 200) rfl hq1 dX5_fall_1 ?_
  obtain ⟨hq2, hF⟩ := ifs hF
  refine x_geti cx h fa_X5_100 (f := 122) rfl hq2 dX5_fall_4 ?_
  obtain ⟨rfl, rfl⟩ := rts hF
  exact x_iret cx h dX5_fall_7
def B_X5_isBeginBelow_35 (k2 : Nat → Int32 → Int32 → HS → Option (Int32 × HS)) (x0 : Nat) (x1 : Int32) (x2 : Int32) (σ : HS) : Option (Int32 × HS) :=
  k2 x0 x1 (x2 + (1 : Int32)) σ
theorem mo_B_X5_isBeginBelow_35 {k2 : Nat → Int32 → Int32 → HS → Option (Int32 × HS)} (mk2 : ∀ x0 x1 x2 σ, Mo σ (k2 x0 x1 x2 σ)) (x0 : Nat) (x1 : Int32) (x2 : Int32) (σ : HS) : Mo σ (B_X5_isBeginBelow_35 k2 x0 x1 x2 σ) := by
  unfold B_X5_isBeginBelow_35
  exact (mk2 x0 x1 (x2 + (1 : Int32)) _)
set_option maxHeartbeats 4000000 in
set_option maxRecDepth 100000 in
theorem w_X5_isBeginBelow_35 {p : Program} {l : Launch} {e : Env} {s : State} {m : MethodId} {args : Array Value} {below : List Frame} {meth : Method} {c : Code} {D : va_G} {dA : Nat → ClassId} {base : Nat} {σ0 τ : HS} {r : Int32} (cx : CX p s m args meth c cX5_isBeginBelow 3 (some .boolean) RX5 "isBeginBelow" D dA base) {k2 : Nat → Int32 → Int32 → HS → Option (Int32 × HS)} (mk2 : ∀ x0 x1 x2 σ, Mo σ (k2 x0 x1 x2 σ)) (hk2 : ∀ x0 x1 x2 σ H locs ls, Wd D dA base σ s H locs → LE σ0 σ → lv_has ls 3 [(0, vr x0), (1, .int x1), (2, .int x2)] → k2 x0 x1 x2 σ = some (r, τ) → WG p l e s m args below meth c D dA base 0 0 (some (.int r)) σ0 τ σ H locs 2 ls []) (x0 : Nat) (x1 : Int32) (x2 : Int32) {σ : HS} {H : Heap} {locs : List Loc} {ls : Array Slot} (h : Wd D dA base σ s H locs) (g : LE σ0 σ) (hl : lv_has ls 3 [(0, vr x0), (1, .int x1), (2, .int x2)]) (hF : B_X5_isBeginBelow_35 k2 x0 x1 x2 σ = some (r, τ)) : WG p l e s m args below meth c D dA base 0 0 (some (.int r)) σ0 τ σ H locs 35 ls [] := by
  obtain ⟨hx, hb, -⟩ := id cx
  unfold B_X5_isBeginBelow_35 at hF
  refine x_iinc (k := 2) (v := (1 : Int32)) (lv' := [(2, .int (x2 + (1 : Int32))), (0, vr x0), (1, .int x1)]) hx hb dX5_isBeginBelow_35 hl rfl (by decide) (by decide) (cR (cI (cI cN))) rfl (fun ls hl => ?_)
  refine lv_goto (tgt := 2) hx hb dX5_isBeginBelow_38 (by decide) ?_
  exact hk2 x0 x1 (x2 + (1 : Int32)) σ _ _ _ h g (lv_sub hl [1, 2, 0] rfl) hF
def B_X5_isBeginBelow_2 (k2 : Nat → Int32 → Int32 → HS → Option (Int32 × HS)) (x0 : Nat) (x1 : Int32) (x2 : Int32) (σ : HS) : Option (Int32 × HS) :=
  if (8 : Int32) ≤ x2 then (some ((0 : Int32), σ)) else (if kd σ x0 = 6 then (if kd σ (gr σ 202 x0) = 103 ∧ inb x2 (ln σ (gr σ 202 x0)) then (if kd σ (ar σ (gr σ 202 x0) x2.toNatClampNeg) = 5 then (if (gi σ 160 (ar σ (gr σ 202 x0) x2.toNatClampNeg)) = 0 then (B_X5_isBeginBelow_35 k2 x0 x1 x2 σ) else (if x1 ≤ (gi σ 161 (ar σ (gr σ 202 x0) x2.toNatClampNeg)) then (B_X5_isBeginBelow_35 k2 x0 x1 x2 σ) else (some ((1 : Int32), σ)))) else none) else none) else none)
theorem mo_B_X5_isBeginBelow_2 {k2 : Nat → Int32 → Int32 → HS → Option (Int32 × HS)} (mk2 : ∀ x0 x1 x2 σ, Mo σ (k2 x0 x1 x2 σ)) (x0 : Nat) (x1 : Int32) (x2 : Int32) (σ : HS) : Mo σ (B_X5_isBeginBelow_2 k2 x0 x1 x2 σ) := by
  unfold B_X5_isBeginBelow_2
  exact (mo_ite mo_ret (mo_ite (mo_ite (mo_ite (mo_ite (mo_B_X5_isBeginBelow_35 mk2 x0 x1 x2 _) (mo_ite (mo_B_X5_isBeginBelow_35 mk2 x0 x1 x2 _) mo_ret)) mo_none) mo_none) mo_none))
set_option maxHeartbeats 4000000 in
set_option maxRecDepth 100000 in
theorem w_X5_isBeginBelow_2 {p : Program} {l : Launch} {e : Env} {s : State} {m : MethodId} {args : Array Value} {below : List Frame} {meth : Method} {c : Code} {D : va_G} {dA : Nat → ClassId} {base : Nat} {σ0 τ : HS} {r : Int32} (cx : CX p s m args meth c cX5_isBeginBelow 3 (some .boolean) RX5 "isBeginBelow" D dA base) {k2 : Nat → Int32 → Int32 → HS → Option (Int32 × HS)} (mk2 : ∀ x0 x1 x2 σ, Mo σ (k2 x0 x1 x2 σ)) (hk2 : ∀ x0 x1 x2 σ H locs ls, Wd D dA base σ s H locs → LE σ0 σ → lv_has ls 3 [(0, vr x0), (1, .int x1), (2, .int x2)] → k2 x0 x1 x2 σ = some (r, τ) → WG p l e s m args below meth c D dA base 0 0 (some (.int r)) σ0 τ σ H locs 2 ls []) (x0 : Nat) (x1 : Int32) (x2 : Int32) {σ : HS} {H : Heap} {locs : List Loc} {ls : Array Slot} (h : Wd D dA base σ s H locs) (g : LE σ0 σ) (hl : lv_has ls 3 [(0, vr x0), (1, .int x1), (2, .int x2)]) (hF : B_X5_isBeginBelow_2 k2 x0 x1 x2 σ = some (r, τ)) : WG p l e s m args below meth c D dA base 0 0 (some (.int r)) σ0 τ σ H locs 2 ls [] := by
  obtain ⟨hx, hb, -⟩ := id cx
  unfold B_X5_isBeginBelow_2 at hF
  refine lv_iload_n hx hb dX5_isBeginBelow_2 rfl (lv_at hl 2 rfl) ?_
  refine lv_bipush (v := (8 : Int32)) hx hb dX5_isBeginBelow_3 (by decide) ?_
  refine lv_icmp_ge (tgt := 41) hx hb dX5_isBeginBelow_5 (by decide) (fun c1 => ?_) (fun c1 => ?_)
  · replace hF := ifp c1 hF
    refine lv_iconst (v := (0 : Int32)) hx hb dX5_isBeginBelow_41 (by decide) ?_
    obtain ⟨rfl, rfl⟩ := rts hF
    exact x_zret cx h (Or.inl rfl) dX5_isBeginBelow_42
  · replace hF := ifn c1 hF
    refine x_aload_n hx hb dX5_isBeginBelow_8 rfl (lv_at hl 0 rfl) ?_
    obtain ⟨hq2, hF⟩ := ifs hF
    refine x_getr cx h fa_X5_25 (f := 202) rfl hq2 dX5_isBeginBelow_9 ?_
    refine lv_iload_n hx hb dX5_isBeginBelow_12 rfl (lv_at hl 2 rfl) ?_
    obtain ⟨hq3, hF⟩ := ifs hF
    refine x_aald cx h RA3 hq3.1 (inb.vp hq3.2) dX5_isBeginBelow_13 ?_
    obtain ⟨hq4, hF⟩ := ifs hF
    refine x_geti cx h fa_X5_38 (f := 160) rfl hq4 dX5_isBeginBelow_14 ?_
    refine lv_if_eq (tgt := 35) hx hb dX5_isBeginBelow_17 (by decide) (fun c5 => ?_) (fun c5 => ?_)
    · replace hF := ifp c5 hF
      exact w_X5_isBeginBelow_35 (σ := σ) cx mk2 hk2 x0 x1 x2 h g (lv_sub hl [0, 1, 2] rfl) hF
    · replace hF := ifn c5 hF
      refine x_aload_n hx hb dX5_isBeginBelow_20 rfl (lv_at hl 0 rfl) ?_
      refine x_getr cx h fa_X5_25 (f := 202) rfl hq2 dX5_isBeginBelow_21 ?_
      refine lv_iload_n hx hb dX5_isBeginBelow_24 rfl (lv_at hl 2 rfl) ?_
      refine x_aald cx h RA3 hq3.1 (inb.vp hq3.2) dX5_isBeginBelow_25 ?_
      refine x_geti cx h fa_X5_56 (f := 161) rfl hq4 dX5_isBeginBelow_26 ?_
      refine lv_iload_n hx hb dX5_isBeginBelow_29 rfl (lv_at hl 1 rfl) ?_
      refine lv_icmp_ge (tgt := 35) hx hb dX5_isBeginBelow_30 (by decide) (fun c6 => ?_) (fun c6 => ?_)
      · replace hF := ifp c6 hF
        exact w_X5_isBeginBelow_35 (σ := σ) cx mk2 hk2 x0 x1 x2 h g (lv_sub hl [0, 1, 2] rfl) hF
      · replace hF := ifn c6 hF
        refine lv_iconst (v := (1 : Int32)) hx hb dX5_isBeginBelow_33 (by decide) ?_
        obtain ⟨rfl, rfl⟩ := rts hF
        exact x_zret cx h (Or.inr rfl) dX5_isBeginBelow_34
def L_X5_isBeginBelow_2  : Nat → Nat → Int32 → Int32 → HS → Option (Int32 × HS)
  | 0, _, _, _, _ => none
  | N + 1, x0, x1, x2, σ => B_X5_isBeginBelow_2 (L_X5_isBeginBelow_2  N) x0 x1 x2 σ
theorem mo_L_X5_isBeginBelow_2  : ∀ (N : Nat) (x0 : Nat) (x1 : Int32) (x2 : Int32) (σ : HS), Mo σ (L_X5_isBeginBelow_2  N x0 x1 x2 σ) := by
  intro N
  induction N with
  | zero => intro x0 x1 x2 σ; exact mo_none
  | succ N ih => intro x0 x1 x2 σ; exact mo_B_X5_isBeginBelow_2 ih x0 x1 x2 σ
theorem wl_X5_isBeginBelow_2 {p : Program} {l : Launch} {e : Env} {s : State} {m : MethodId} {args : Array Value} {below : List Frame} {meth : Method} {c : Code} {D : va_G} {dA : Nat → ClassId} {base : Nat} {σ0 τ : HS} {r : Int32} (cx : CX p s m args meth c cX5_isBeginBelow 3 (some .boolean) RX5 "isBeginBelow" D dA base)  : ∀ (N : Nat) (x0 : Nat) (x1 : Int32) (x2 : Int32) (σ : HS) (H : Heap) (locs : List Loc) (ls : Array Slot), Wd D dA base σ s H locs → LE σ0 σ → lv_has ls 3 [(0, vr x0), (1, .int x1), (2, .int x2)] → L_X5_isBeginBelow_2  N x0 x1 x2 σ = some (r, τ) → WG p l e s m args below meth c D dA base 0 0 (some (.int r)) σ0 τ σ H locs 2 ls [] := by
  intro N
  induction N with
  | zero => intro x0 x1 x2 σ H locs ls h g hl hF; cases hF
  | succ N ih => intro x0 x1 x2 σ H locs ls h g hl hF; exact w_X5_isBeginBelow_2 cx (mo_L_X5_isBeginBelow_2  N) ih x0 x1 x2 h g hl hF
def F_X5_isBeginBelow (a0 : Nat) (a1 : Int32) (σ : HS) : Option (Int32 × HS) :=
  L_X5_isBeginBelow_2  NF a0 a1 (0 : Int32) σ
theorem mo_F_X5_isBeginBelow (a0 : Nat) (a1 : Int32) (σ : HS) : Mo σ (F_X5_isBeginBelow a0 a1 σ) := by
  unfold F_X5_isBeginBelow
  exact (mo_L_X5_isBeginBelow_2  NF a0 a1 (0 : Int32) _)
set_option maxHeartbeats 4000000 in
set_option maxRecDepth 100000 in
theorem c_X5_isBeginBelow (l : Launch) (D : va_G) (dA : Nat → ClassId) (base : Nat) (a0 : Nat) (a1 : Int32) {σ τ : HS} {r : Int32} (hF : F_X5_isBeginBelow a0 a1 σ = some (r, τ)) : CT l yX5_isBeginBelow cX5_isBeginBelow 3 (some .boolean) 0 0 D dA base [vr a0, .int a1] (some (.int r)) σ τ := by
  refine CT.of (lv := [(0, vr a0), (1, .int a1)]) (by decide) (vR (vI vN)) (Nat.le_of_ble_eq_true rfl) rfl ?_
  intro p e s m args below meth c ls cx hl h
  have cx : CX p s m args meth c cX5_isBeginBelow 3 (some .boolean) RX5 "isBeginBelow" D dA base := cx
  have g : LE σ σ := LE.rf
  obtain ⟨hx, hb, -⟩ := id cx
  unfold F_X5_isBeginBelow at hF
  refine lv_iconst (v := (0 : Int32)) hx hb dX5_isBeginBelow_0 (by decide) ?_
  refine x_istore_n (lv' := [(2, .int (0 : Int32)), (0, vr a0), (1, .int a1)]) hx hb dX5_isBeginBelow_1 rfl hl (by decide) (cR (cI cN)) rfl (fun ls hl => ?_)
  exact wl_X5_isBeginBelow_2 cx   NF a0 a1 (0 : Int32) σ _ _ _ h g (lv_sub hl [1, 2, 0] rfl) hF
def B_X5_sweep_15   (σ : HS) : Option (Int32 × HS) :=
  some ((-2 : Int32), σ)
theorem mo_B_X5_sweep_15   (σ : HS) : Mo σ (B_X5_sweep_15   σ) := by
  unfold B_X5_sweep_15
  exact mo_ret
set_option maxHeartbeats 4000000 in
set_option maxRecDepth 100000 in
theorem w_X5_sweep_15 {p : Program} {l : Launch} {e : Env} {s : State} {m : MethodId} {args : Array Value} {below : List Frame} {meth : Method} {c : Code} {D : va_G} {dA : Nat → ClassId} {base : Nat} {σ0 τ : HS} {r : Int32} (cx : CX p s m args meth c cX5_sweep 3 (some .int) RX5 "sweep" D dA base)   {σ : HS} {H : Heap} {locs : List Loc} {ls : Array Slot} (h : Wd D dA base σ s H locs) (g : LE σ0 σ) (hl : lv_has ls 3 []) (hF : B_X5_sweep_15   σ = some (r, τ)) : WG p l e s m args below meth c D dA base 4 92 (some (.int r)) σ0 τ σ H locs 15 ls [] := by
  obtain ⟨hx, hb, -⟩ := id cx
  unfold B_X5_sweep_15 at hF
  refine lv_bipush (v := (-2 : Int32)) hx hb dX5_sweep_15 (by decide) ?_
  obtain ⟨rfl, rfl⟩ := rts hF
  exact x_iret cx h dX5_sweep_17
def B_X5_sweep_37   (σ : HS) : Option (Int32 × HS) :=
  some ((-3 : Int32), σ)
theorem mo_B_X5_sweep_37   (σ : HS) : Mo σ (B_X5_sweep_37   σ) := by
  unfold B_X5_sweep_37
  exact mo_ret
set_option maxHeartbeats 4000000 in
set_option maxRecDepth 100000 in
theorem w_X5_sweep_37 {p : Program} {l : Launch} {e : Env} {s : State} {m : MethodId} {args : Array Value} {below : List Frame} {meth : Method} {c : Code} {D : va_G} {dA : Nat → ClassId} {base : Nat} {σ0 τ : HS} {r : Int32} (cx : CX p s m args meth c cX5_sweep 3 (some .int) RX5 "sweep" D dA base)   {σ : HS} {H : Heap} {locs : List Loc} {ls : Array Slot} (h : Wd D dA base σ s H locs) (g : LE σ0 σ) (hl : lv_has ls 3 []) (hF : B_X5_sweep_37   σ = some (r, τ)) : WG p l e s m args below meth c D dA base 4 92 (some (.int r)) σ0 τ σ H locs 37 ls [] := by
  obtain ⟨hx, hb, -⟩ := id cx
  unfold B_X5_sweep_37 at hF
  refine lv_bipush (v := (-3 : Int32)) hx hb dX5_sweep_37 (by decide) ?_
  obtain ⟨rfl, rfl⟩ := rts hF
  exact x_iret cx h dX5_sweep_39
def F_X5_sweep (a0 : Nat) (a1 : Int32) (σ : HS) : Option (Int32 × HS) :=
  if a1 < 0 then (B_X5_sweep_15   σ) else (if kd σ a0 = 6 then (if kd σ (gr σ 201 a0) = 3 then (if a1 ≤ (gi σ 80 (gr σ 201 a0)) then (bd (F_X5_isBeginBelow a0 a1 σ) (fun r5 σ5 => if r5 = 0 then (if kd σ5 a0 = 6 then (if kd σ5 (gr σ5 200 a0) = 4 then (bd (F_X3_hasLockNotAbove (gr σ5 200 a0) a1 σ5) (fun r9 σ9 => if r9 = 0 then (if kd σ9 a0 = 6 then (if kd σ9 (gr σ9 200 a0) = 4 then (bd (F_X3_dropUnseen (gr σ9 200 a0) a1 σ9) (fun r13 σ13 => if kd σ13 a0 = 6 then (if kd σ13 (gr σ13 200 a0) = 4 then (bd (F_X3_putDownLog (gr σ13 200 a0) σ13) (fun r16 σ16 => some (r13, σ16))) else none) else none)) else none) else none) else (B_X5_sweep_37   σ9))) else none) else none) else (B_X5_sweep_37   σ5))) else (B_X5_sweep_15   σ)) else none) else none)
theorem mo_F_X5_sweep (a0 : Nat) (a1 : Int32) (σ : HS) : Mo σ (F_X5_sweep a0 a1 σ) := by
  unfold F_X5_sweep
  exact (mo_ite (mo_B_X5_sweep_15   _) (mo_ite (mo_ite (mo_ite (mo_bd (mo_F_X5_isBeginBelow a0 a1 _) (fun r5 σ5 => (mo_ite (mo_ite (mo_ite (mo_bd (mo_F_X3_hasLockNotAbove (gr σ5 200 a0) a1 _) (fun r9 σ9 => (mo_ite (mo_ite (mo_ite (mo_bd (mo_F_X3_dropUnseen (gr σ9 200 a0) a1 _) (fun r13 σ13 => (mo_ite (mo_ite (mo_bd (mo_F_X3_putDownLog (gr σ13 200 a0) _) (fun r16 σ16 => mo_ret)) mo_none) mo_none))) mo_none) mo_none) (mo_B_X5_sweep_37   _)))) mo_none) mo_none) (mo_B_X5_sweep_37   _)))) (mo_B_X5_sweep_15   _)) mo_none) mo_none))
set_option maxHeartbeats 4000000 in
set_option maxRecDepth 100000 in
theorem c_X5_sweep (l : Launch) (D : va_G) (dA : Nat → ClassId) (base : Nat) (a0 : Nat) (a1 : Int32) {σ τ : HS} {r : Int32} (hF : F_X5_sweep a0 a1 σ = some (r, τ)) : CT l yX5_sweep cX5_sweep 3 (some .int) 4 92 D dA base [vr a0, .int a1] (some (.int r)) σ τ := by
  refine CT.of (lv := [(0, vr a0), (1, .int a1)]) (by decide) (vR (vI vN)) (Nat.le_of_ble_eq_true rfl) rfl ?_
  intro p e s m args below meth c ls cx hl h
  have cx : CX p s m args meth c cX5_sweep 3 (some .int) RX5 "sweep" D dA base := cx
  have g : LE σ σ := LE.rf
  obtain ⟨hx, hb, -⟩ := id cx
  unfold F_X5_sweep at hF
  refine lv_iload_n hx hb dX5_sweep_0 rfl (lv_at hl 1 rfl) ?_
  refine lv_if_lt (tgt := 15) hx hb dX5_sweep_1 (by decide) (fun c1 => ?_) (fun c1 => ?_)
  · replace hF := ifp c1 hF
    exact w_X5_sweep_15 (σ := σ) cx    h g (lv_sub hl [] rfl) hF
  · replace hF := ifn c1 hF
    refine lv_iload_n hx hb dX5_sweep_4 rfl (lv_at hl 1 rfl) ?_
    refine x_aload_n hx hb dX5_sweep_5 rfl (lv_at hl 0 rfl) ?_
    obtain ⟨hq2, hF⟩ := ifs hF
    refine x_getr cx h fa_X5_19 (f := 201) rfl hq2 dX5_sweep_6 ?_
    obtain ⟨hq3, hF⟩ := ifs hF
    refine x_geti cx h fa_X5_103 (f := 80) rfl hq3 dX5_sweep_9 ?_
    refine lv_icmp_le (tgt := 18) hx hb dX5_sweep_12 (by decide) (fun c4 => ?_) (fun c4 => ?_)
    · replace hF := ifp c4 hF
      refine x_aload_n hx hb dX5_sweep_18 rfl (lv_at hl 0 rfl) ?_
      refine lv_iload_n hx hb dX5_sweep_19 rfl (lv_at hl 1 rfl) ?_
      obtain ⟨r5, σ5, hc5, hF⟩ := bds hF
      refine x_calli (σ := σ) g (LEm hc5 (mo_F_X5_isBeginBelow a0 a1 _)) (x_runV (As := [.int a1]) (rest := []) cx h (c_X5_isBeginBelow l D dA base a0 a1 hc5) ml_X5_106 mi_X5_isBeginBelow hq2 rfl ⟨Nat.le_of_ble_eq_true rfl, Nat.le_of_ble_eq_true rfl⟩ hl.1 rfl (s8 sN (by decide)) dX5_sweep_20 (le_room g (LEm hc5 (mo_F_X5_isBeginBelow a0 a1 _)) (LEm hF (mo_ite (mo_ite (mo_ite (mo_bd (mo_F_X3_hasLockNotAbove (gr σ5 200 a0) a1 _) (fun r9 σ9 => (mo_ite (mo_ite (mo_ite (mo_bd (mo_F_X3_dropUnseen (gr σ9 200 a0) a1 _) (fun r13 σ13 => (mo_ite (mo_ite (mo_bd (mo_F_X3_putDownLog (gr σ13 200 a0) _) (fun r16 σ16 => mo_ret)) mo_none) mo_none))) mo_none) mo_none) (mo_B_X5_sweep_37   _)))) mo_none) mo_none) (mo_B_X5_sweep_37   _))))) h (fun H locs h g => ?_)
      refine lv_if_ne (tgt := 37) hx hb dX5_sweep_23 (by decide) (fun c6 => ?_) (fun c6 => ?_)
      · replace hF := ifn c6 hF
        exact w_X5_sweep_37 (σ := σ5) cx    h g (lv_sub hl [] rfl) hF
      · replace hF := ifp c6 hF
        refine x_aload_n hx hb dX5_sweep_26 rfl (lv_at hl 0 rfl) ?_
        obtain ⟨hq7, hF⟩ := ifs hF
        refine x_getr cx h fa_X5_10 (f := 200) rfl hq7 dX5_sweep_27 ?_
        refine lv_iload_n hx hb dX5_sweep_30 rfl (lv_at hl 1 rfl) ?_
        obtain ⟨hq8, hF⟩ := ifs hF
        obtain ⟨r9, σ9, hc9, hF⟩ := bds hF
        refine x_calli (σ := σ5) g (LEm hc9 (mo_F_X3_hasLockNotAbove (gr σ5 200 a0) a1 _)) (x_runV (As := [.int a1]) (rest := []) cx h (c_X3_hasLockNotAbove l D dA base (gr σ5 200 a0) a1 hc9) ml_X5_109 mi_X3_hasLockNotAbove hq8 rfl ⟨Nat.le_of_ble_eq_true rfl, Nat.le_of_ble_eq_true rfl⟩ hl.1 rfl (s8 sN (by decide)) dX5_sweep_31 (le_room g (LEm hc9 (mo_F_X3_hasLockNotAbove (gr σ5 200 a0) a1 _)) (LEm hF (mo_ite (mo_ite (mo_ite (mo_bd (mo_F_X3_dropUnseen (gr σ9 200 a0) a1 _) (fun r13 σ13 => (mo_ite (mo_ite (mo_bd (mo_F_X3_putDownLog (gr σ13 200 a0) _) (fun r16 σ16 => mo_ret)) mo_none) mo_none))) mo_none) mo_none) (mo_B_X5_sweep_37   _))))) h (fun H locs h g => ?_)
        refine lv_if_eq (tgt := 40) hx hb dX5_sweep_34 (by decide) (fun c10 => ?_) (fun c10 => ?_)
        · replace hF := ifp c10 hF
          refine x_aload_n hx hb dX5_sweep_40 rfl (lv_at hl 0 rfl) ?_
          obtain ⟨hq11, hF⟩ := ifs hF
          refine x_getr cx h fa_X5_10 (f := 200) rfl hq11 dX5_sweep_41 ?_
          refine lv_iload_n hx hb dX5_sweep_44 rfl (lv_at hl 1 rfl) ?_
          obtain ⟨hq12, hF⟩ := ifs hF
          obtain ⟨r13, σ13, hc13, hF⟩ := bds hF
          refine x_calli (σ := σ9) g (LEm hc13 (mo_F_X3_dropUnseen (gr σ9 200 a0) a1 _)) (x_runV (As := [.int a1]) (rest := []) cx h (c_X3_dropUnseen l D dA base (gr σ9 200 a0) a1 hc13) ml_X5_112 mi_X3_dropUnseen hq12 rfl ⟨Nat.le_of_ble_eq_true rfl, Nat.le_of_ble_eq_true rfl⟩ hl.1 rfl (s8 sN (by decide)) dX5_sweep_45 (le_room g (LEm hc13 (mo_F_X3_dropUnseen (gr σ9 200 a0) a1 _)) (LEm hF (mo_ite (mo_ite (mo_bd (mo_F_X3_putDownLog (gr σ13 200 a0) _) (fun r16 σ16 => mo_ret)) mo_none) mo_none)))) h (fun H locs h g => ?_)
          refine x_istore_n (lv' := [(2, .int r13), (0, vr a0), (1, .int a1)]) hx hb dX5_sweep_48 rfl hl (by decide) (cR (cI cN)) rfl (fun ls hl => ?_)
          refine x_aload_n hx hb dX5_sweep_49 rfl (lv_at hl 1 rfl) ?_
          obtain ⟨hq14, hF⟩ := ifs hF
          refine x_getr cx h fa_X5_10 (f := 200) rfl hq14 dX5_sweep_50 ?_
          obtain ⟨hq15, hF⟩ := ifs hF
          obtain ⟨r16, σ16, hc16, hF⟩ := bds hF
          refine x_callv (σ := σ13) g (LEm hc16 (mo_F_X3_putDownLog (gr σ13 200 a0) _)) (x_runV (As := []) (rest := []) cx h (c_X3_putDownLog l D dA base (gr σ13 200 a0) hc16) ml_X5_71 mi_X3_putDownLog hq15 rfl ⟨Nat.le_of_ble_eq_true rfl, Nat.le_of_ble_eq_true rfl⟩ hl.1 rfl (s8 sN (by decide)) dX5_sweep_53 (le_room g (LEm hc16 (mo_F_X3_putDownLog (gr σ13 200 a0) _)) (LEm hF mo_ret))) h (fun H locs h g => ?_)
          refine lv_iload_n hx hb dX5_sweep_56 rfl (lv_at hl 0 rfl) ?_
          obtain ⟨rfl, rfl⟩ := rts hF
          exact x_iret cx h dX5_sweep_57
        · replace hF := ifn c10 hF
          exact w_X5_sweep_37 (σ := σ9) cx    h g (lv_sub hl [] rfl) hF
    · replace hF := ifn c4 hF
      exact w_X5_sweep_15 (σ := σ) cx    h g (lv_sub hl [] rfl) hF
