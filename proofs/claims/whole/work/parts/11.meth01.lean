def F_X0_init (a0 : Nat) (σ : HS) : Option (Unit × HS) :=
  if kd σ a0 = 1 then (some ((), σ)) else none
theorem mo_F_X0_init (a0 : Nat) (σ : HS) : Mo σ (F_X0_init a0 σ) := by
  unfold F_X0_init
  exact (mo_ite mo_ret mo_none)
set_option maxHeartbeats 4000000 in
set_option maxRecDepth 100000 in
theorem c_X0_init (l : Launch) (D : va_G) (dA : Nat → ClassId) (base : Nat) (a0 : Nat) {σ τ : HS} {r : Unit} (hF : F_X0_init a0 σ = some (r, τ)) : CT l yX0_init cX0_init 1 none 1 20 D dA base [vr a0] none σ τ := by
  refine CT.of (lv := [(0, vr a0)]) (by decide) (vR vN) (Nat.le_of_ble_eq_true rfl) rfl ?_
  intro p e s m args below meth c ls cx hl h
  have cx : CX p s m args meth c cX0_init 1 none RX0 "<init>" D dA base := cx
  have g : LE σ σ := LE.rf
  obtain ⟨hx, hb, -⟩ := id cx
  unfold F_X0_init at hF
  refine x_aload_n hx hb dX0_init_0 rfl (lv_at hl 0 rfl) ?_
  obtain ⟨hq1, hF⟩ := ifs hF
  refine x_obj cx h ml_X0_3 hq1 hl.1 ⟨Nat.le_of_ble_eq_true rfl, Nat.le_of_ble_eq_true rfl⟩ (s8 sN (by decide)) dX0_init_1 ?_
  obtain ⟨rfl, rfl⟩ := rts hF
  exact x_vret cx h dX0_init_4
def B_X0_isLocked_12  (y0 : Int32) (σ : HS) : Option (Int32 × HS) :=
  if y0 = 0 ∨ y0 = 1 then (some (y0, σ)) else none
theorem mo_B_X0_isLocked_12  (y0 : Int32) (σ : HS) : Mo σ (B_X0_isLocked_12  y0 σ) := by
  unfold B_X0_isLocked_12
  exact (mo_ite mo_ret mo_none)
set_option maxHeartbeats 4000000 in
set_option maxRecDepth 100000 in
theorem w_X0_isLocked_12 {p : Program} {l : Launch} {e : Env} {s : State} {m : MethodId} {args : Array Value} {below : List Frame} {meth : Method} {c : Code} {D : va_G} {dA : Nat → ClassId} {base : Nat} {σ0 τ : HS} {r : Int32} (cx : CX p s m args meth c cX0_isLocked 1 (some .boolean) RX0 "isLocked" D dA base)  (y0 : Int32) {σ : HS} {H : Heap} {locs : List Loc} {ls : Array Slot} (h : Wd D dA base σ s H locs) (g : LE σ0 σ) (hl : lv_has ls 1 []) (hF : B_X0_isLocked_12  y0 σ = some (r, τ)) : WG p l e s m args below meth c D dA base 0 0 (some (.int r)) σ0 τ σ H locs 12 ls [.int y0] := by
  obtain ⟨hx, hb, -⟩ := id cx
  unfold B_X0_isLocked_12 at hF
  obtain ⟨hz1, hF⟩ := ifs hF
  obtain ⟨rfl, rfl⟩ := rts hF
  exact x_zret cx h hz1 dX0_isLocked_12
def F_X0_isLocked (a0 : Nat) (σ : HS) : Option (Int32 × HS) :=
  if kd σ a0 = 1 then (if (gi σ 2 a0) = 0 then (B_X0_isLocked_12  (0 : Int32) σ) else (B_X0_isLocked_12  (1 : Int32) σ)) else none
theorem mo_F_X0_isLocked (a0 : Nat) (σ : HS) : Mo σ (F_X0_isLocked a0 σ) := by
  unfold F_X0_isLocked
  exact (mo_ite (mo_ite (mo_B_X0_isLocked_12  (0 : Int32) _) (mo_B_X0_isLocked_12  (1 : Int32) _)) mo_none)
set_option maxHeartbeats 4000000 in
set_option maxRecDepth 100000 in
theorem c_X0_isLocked (l : Launch) (D : va_G) (dA : Nat → ClassId) (base : Nat) (a0 : Nat) {σ τ : HS} {r : Int32} (hF : F_X0_isLocked a0 σ = some (r, τ)) : CT l yX0_isLocked cX0_isLocked 1 (some .boolean) 0 0 D dA base [vr a0] (some (.int r)) σ τ := by
  refine CT.of (lv := [(0, vr a0)]) (by decide) (vR vN) (Nat.le_of_ble_eq_true rfl) rfl ?_
  intro p e s m args below meth c ls cx hl h
  have cx : CX p s m args meth c cX0_isLocked 1 (some .boolean) RX0 "isLocked" D dA base := cx
  have g : LE σ σ := LE.rf
  obtain ⟨hx, hb, -⟩ := id cx
  unfold F_X0_isLocked at hF
  refine x_aload_n hx hb dX0_isLocked_0 rfl (lv_at hl 0 rfl) ?_
  obtain ⟨hq1, hF⟩ := ifs hF
  refine x_geti cx h fa_X0_9 (f := 2) rfl hq1 dX0_isLocked_1 ?_
  refine lv_if_eq (tgt := 11) hx hb dX0_isLocked_4 (by decide) (fun c2 => ?_) (fun c2 => ?_)
  · replace hF := ifp c2 hF
    refine lv_iconst (v := (0 : Int32)) hx hb dX0_isLocked_11 (by decide) ?_
    exact w_X0_isLocked_12 (σ := σ) cx   (0 : Int32) h g (lv_sub hl [] rfl) hF
  · replace hF := ifn c2 hF
    refine lv_iconst (v := (1 : Int32)) hx hb dX0_isLocked_7 (by decide) ?_
    refine lv_goto (tgt := 12) hx hb dX0_isLocked_8 (by decide) ?_
    exact w_X0_isLocked_12 (σ := σ) cx   (1 : Int32) h g (lv_sub hl [] rfl) hF
def B_X1_withKey_2 (k2 : Int32 → Nat → HS → Option (Nat × HS)) (x1 : Int32) (x2 : Nat) (σ : HS) : Option (Nat × HS) :=
  if x2 = 0 then (some (0, σ)) else (if kd σ x2 = 2 then (if (gi σ 40 x2) = x1 then (some (x2, σ)) else (k2 x1 (gr σ 42 x2) σ)) else none)
theorem mo_B_X1_withKey_2 {k2 : Int32 → Nat → HS → Option (Nat × HS)} (mk2 : ∀ x1 x2 σ, Mo σ (k2 x1 x2 σ)) (x1 : Int32) (x2 : Nat) (σ : HS) : Mo σ (B_X1_withKey_2 k2 x1 x2 σ) := by
  unfold B_X1_withKey_2
  exact (mo_ite mo_ret (mo_ite (mo_ite mo_ret (mk2 x1 (gr σ 42 x2) _)) mo_none))
set_option maxHeartbeats 4000000 in
set_option maxRecDepth 100000 in
theorem w_X1_withKey_2 {p : Program} {l : Launch} {e : Env} {s : State} {m : MethodId} {args : Array Value} {below : List Frame} {meth : Method} {c : Code} {D : va_G} {dA : Nat → ClassId} {base : Nat} {σ0 τ : HS} {r : Nat} (cx : CX p s m args meth c cX1_withKey 3 (some (.object "SnapRows$Entry")) RX1 "withKey" D dA base) {k2 : Int32 → Nat → HS → Option (Nat × HS)} (mk2 : ∀ x1 x2 σ, Mo σ (k2 x1 x2 σ)) (hk2 : ∀ x1 x2 σ H locs ls, Wd D dA base σ s H locs → LE σ0 σ → lv_has ls 3 [(1, .int x1), (2, vr x2)] → k2 x1 x2 σ = some (r, τ) → WG p l e s m args below meth c D dA base 0 0 (some (vr r)) σ0 τ σ H locs 2 ls []) (x1 : Int32) (x2 : Nat) {σ : HS} {H : Heap} {locs : List Loc} {ls : Array Slot} (h : Wd D dA base σ s H locs) (g : LE σ0 σ) (hl : lv_has ls 3 [(1, .int x1), (2, vr x2)]) (hF : B_X1_withKey_2 k2 x1 x2 σ = some (r, τ)) : WG p l e s m args below meth c D dA base 0 0 (some (vr r)) σ0 τ σ H locs 2 ls [] := by
  obtain ⟨hx, hb, -⟩ := id cx
  unfold B_X1_withKey_2 at hF
  refine x_aload_n hx hb dX1_withKey_2 rfl (lv_at hl 1 rfl) ?_
  refine x_ifnull (tgt := 24) hx hb dX1_withKey_3 (by decide) (fun c1 => ?_) (fun c1 => ?_)
  · replace hF := ifp c1 hF
    refine x_null hx hb dX1_withKey_24 ?_
    obtain ⟨rfl, rfl⟩ := rts hF
    exact x_aret cx h dX1_withKey_25
  · replace hF := ifn c1 hF
    refine x_aload_n hx hb dX1_withKey_6 rfl (lv_at hl 1 rfl) ?_
    obtain ⟨hq2, hF⟩ := ifs hF
    refine x_geti cx h fa_X1_7 (f := 40) rfl hq2 dX1_withKey_7 ?_
    refine lv_iload_n hx hb dX1_withKey_10 rfl (lv_at hl 0 rfl) ?_
    refine lv_icmp_ne (tgt := 16) hx hb dX1_withKey_11 (by decide) (fun c3 => ?_) (fun c3 => ?_)
    · replace hF := ifn c3 hF
      refine x_aload_n hx hb dX1_withKey_16 rfl (lv_at hl 1 rfl) ?_
      refine x_getr cx h fa_X1_16 (f := 42) rfl hq2 dX1_withKey_17 ?_
      refine x_astore_n (lv' := [(2, vr (gr σ 42 x2)), (1, .int x1)]) hx hb dX1_withKey_20 rfl hl (by decide) (cI (cR cN)) rfl (fun ls hl => ?_)
      refine lv_goto (tgt := 2) hx hb dX1_withKey_21 (by decide) ?_
      exact hk2 x1 (gr σ 42 x2) σ _ _ _ h g (lv_sub hl [1, 0] rfl) hF
    · replace hF := ifp c3 hF
      refine x_aload_n hx hb dX1_withKey_14 rfl (lv_at hl 1 rfl) ?_
      obtain ⟨rfl, rfl⟩ := rts hF
      exact x_aret cx h dX1_withKey_15
def L_X1_withKey_2  : Nat → Int32 → Nat → HS → Option (Nat × HS)
  | 0, _, _, _ => none
  | N + 1, x1, x2, σ => B_X1_withKey_2 (L_X1_withKey_2  N) x1 x2 σ
theorem mo_L_X1_withKey_2  : ∀ (N : Nat) (x1 : Int32) (x2 : Nat) (σ : HS), Mo σ (L_X1_withKey_2  N x1 x2 σ) := by
  intro N
  induction N with
  | zero => intro x1 x2 σ; exact mo_none
  | succ N ih => intro x1 x2 σ; exact mo_B_X1_withKey_2 ih x1 x2 σ
theorem wl_X1_withKey_2 {p : Program} {l : Launch} {e : Env} {s : State} {m : MethodId} {args : Array Value} {below : List Frame} {meth : Method} {c : Code} {D : va_G} {dA : Nat → ClassId} {base : Nat} {σ0 τ : HS} {r : Nat} (cx : CX p s m args meth c cX1_withKey 3 (some (.object "SnapRows$Entry")) RX1 "withKey" D dA base)  : ∀ (N : Nat) (x1 : Int32) (x2 : Nat) (σ : HS) (H : Heap) (locs : List Loc) (ls : Array Slot), Wd D dA base σ s H locs → LE σ0 σ → lv_has ls 3 [(1, .int x1), (2, vr x2)] → L_X1_withKey_2  N x1 x2 σ = some (r, τ) → WG p l e s m args below meth c D dA base 0 0 (some (vr r)) σ0 τ σ H locs 2 ls [] := by
  intro N
  induction N with
  | zero => intro x1 x2 σ H locs ls h g hl hF; cases hF
  | succ N ih => intro x1 x2 σ H locs ls h g hl hF; exact w_X1_withKey_2 cx (mo_L_X1_withKey_2  N) ih x1 x2 h g hl hF
def F_X1_withKey (a0 : Nat) (a1 : Int32) (σ : HS) : Option (Nat × HS) :=
  L_X1_withKey_2  NF a1 a0 σ
theorem mo_F_X1_withKey (a0 : Nat) (a1 : Int32) (σ : HS) : Mo σ (F_X1_withKey a0 a1 σ) := by
  unfold F_X1_withKey
  exact (mo_L_X1_withKey_2  NF a1 a0 _)
set_option maxHeartbeats 4000000 in
set_option maxRecDepth 100000 in
theorem c_X1_withKey (l : Launch) (D : va_G) (dA : Nat → ClassId) (base : Nat) (a0 : Nat) (a1 : Int32) {σ τ : HS} {r : Nat} (hF : F_X1_withKey a0 a1 σ = some (r, τ)) : CT l yX1_withKey cX1_withKey 3 (some (.object "SnapRows$Entry")) 0 0 D dA base [vr a0, .int a1] (some (vr r)) σ τ := by
  refine CT.of (lv := [(0, vr a0), (1, .int a1)]) (by decide) (vR (vI vN)) (Nat.le_of_ble_eq_true rfl) rfl ?_
  intro p e s m args below meth c ls cx hl h
  have cx : CX p s m args meth c cX1_withKey 3 (some (.object "SnapRows$Entry")) RX1 "withKey" D dA base := cx
  have g : LE σ σ := LE.rf
  obtain ⟨hx, hb, -⟩ := id cx
  unfold F_X1_withKey at hF
  refine x_aload_n hx hb dX1_withKey_0 rfl (lv_at hl 0 rfl) ?_
  refine x_astore_n (lv' := [(2, vr a0), (0, vr a0), (1, .int a1)]) hx hb dX1_withKey_1 rfl hl (by decide) (cR (cI cN)) rfl (fun ls hl => ?_)
  exact wl_X1_withKey_2 cx   NF a1 a0 σ _ _ _ h g (lv_sub hl [2, 0] rfl) hF
def B_X0_valueOf_21  (y0 : Int32) (σ : HS) : Option (Int32 × HS) :=
  some (y0, σ)
theorem mo_B_X0_valueOf_21  (y0 : Int32) (σ : HS) : Mo σ (B_X0_valueOf_21  y0 σ) := by
  unfold B_X0_valueOf_21
  exact mo_ret
set_option maxHeartbeats 4000000 in
set_option maxRecDepth 100000 in
theorem w_X0_valueOf_21 {p : Program} {l : Launch} {e : Env} {s : State} {m : MethodId} {args : Array Value} {below : List Frame} {meth : Method} {c : Code} {D : va_G} {dA : Nat → ClassId} {base : Nat} {σ0 τ : HS} {r : Int32} (cx : CX p s m args meth c cX0_valueOf 3 (some .int) RX0 "valueOf" D dA base)  (y0 : Int32) {σ : HS} {H : Heap} {locs : List Loc} {ls : Array Slot} (h : Wd D dA base σ s H locs) (g : LE σ0 σ) (hl : lv_has ls 3 []) (hF : B_X0_valueOf_21  y0 σ = some (r, τ)) : WG p l e s m args below meth c D dA base 1 22 (some (.int r)) σ0 τ σ H locs 21 ls [.int y0] := by
  obtain ⟨hx, hb, -⟩ := id cx
  unfold B_X0_valueOf_21 at hF
  obtain ⟨rfl, rfl⟩ := rts hF
  exact x_iret cx h dX0_valueOf_21
def F_X0_valueOf (a0 : Nat) (a1 : Int32) (σ : HS) : Option (Int32 × HS) :=
  if kd σ a0 = 1 then (bd (F_X1_withKey (gr σ 0 a0) a1 σ) (fun r2 σ2 => if r2 = 0 then (B_X0_valueOf_21  (-1 : Int32) σ2) else (if kd σ2 r2 = 2 then (B_X0_valueOf_21  (gi σ2 41 r2) σ2) else none))) else none
theorem mo_F_X0_valueOf (a0 : Nat) (a1 : Int32) (σ : HS) : Mo σ (F_X0_valueOf a0 a1 σ) := by
  unfold F_X0_valueOf
  exact (mo_ite (mo_bd (mo_F_X1_withKey (gr σ 0 a0) a1 _) (fun r2 σ2 => (mo_ite (mo_B_X0_valueOf_21  (-1 : Int32) _) (mo_ite (mo_B_X0_valueOf_21  (gi σ2 41 r2) _) mo_none)))) mo_none)
set_option maxHeartbeats 4000000 in
set_option maxRecDepth 100000 in
theorem c_X0_valueOf (l : Launch) (D : va_G) (dA : Nat → ClassId) (base : Nat) (a0 : Nat) (a1 : Int32) {σ τ : HS} {r : Int32} (hF : F_X0_valueOf a0 a1 σ = some (r, τ)) : CT l yX0_valueOf cX0_valueOf 3 (some .int) 1 22 D dA base [vr a0, .int a1] (some (.int r)) σ τ := by
  refine CT.of (lv := [(0, vr a0), (1, .int a1)]) (by decide) (vR (vI vN)) (Nat.le_of_ble_eq_true rfl) rfl ?_
  intro p e s m args below meth c ls cx hl h
  have cx : CX p s m args meth c cX0_valueOf 3 (some .int) RX0 "valueOf" D dA base := cx
  have g : LE σ σ := LE.rf
  obtain ⟨hx, hb, -⟩ := id cx
  unfold F_X0_valueOf at hF
  refine x_aload_n hx hb dX0_valueOf_0 rfl (lv_at hl 0 rfl) ?_
  obtain ⟨hq1, hF⟩ := ifs hF
  refine x_getr cx h fa_X0_15 (f := 0) rfl hq1 dX0_valueOf_1 ?_
  refine lv_iload_n hx hb dX0_valueOf_4 rfl (lv_at hl 1 rfl) ?_
  obtain ⟨r2, σ2, hc2, hF⟩ := bds hF
  refine x_callr (σ := σ) g (LEm hc2 (mo_F_X1_withKey (gr σ 0 a0) a1 _)) (x_runS (As := [vr (gr σ 0 a0), .int a1]) (rest := []) cx h (c_X1_withKey l D dA base (gr σ 0 a0) a1 hc2) ml_X0_19 mi_X1_withKey rfl ⟨Nat.le_of_ble_eq_true rfl, Nat.le_of_ble_eq_true rfl⟩ hl.1 rfl (s8 sN (by decide)) dX0_valueOf_5 (le_room g (LEm hc2 (mo_F_X1_withKey (gr σ 0 a0) a1 _)) (LEm hF (mo_ite (mo_B_X0_valueOf_21  (-1 : Int32) _) (mo_ite (mo_B_X0_valueOf_21  (gi σ2 41 r2) _) mo_none))))) h (fun H locs h g => ?_)
  refine x_astore_n (lv' := [(2, vr r2), (0, vr a0), (1, .int a1)]) hx hb dX0_valueOf_8 rfl hl (by decide) (cR (cI cN)) rfl (fun ls hl => ?_)
  refine x_aload_n hx hb dX0_valueOf_9 rfl (lv_at hl 0 rfl) ?_
  refine x_ifnonnull (tgt := 17) hx hb dX0_valueOf_10 (by decide) (fun c3 => ?_) (fun c3 => ?_)
  · replace hF := ifn c3 hF
    refine x_aload_n hx hb dX0_valueOf_17 rfl (lv_at hl 0 rfl) ?_
    obtain ⟨hq4, hF⟩ := ifs hF
    refine x_geti cx h fa_X0_25 (f := 41) rfl hq4 dX0_valueOf_18 ?_
    exact w_X0_valueOf_21 (σ := σ2) cx   (gi σ2 41 r2) h g (lv_sub hl [] rfl) hF
  · replace hF := ifp c3 hF
    refine lv_iconst (v := (-1 : Int32)) hx hb dX0_valueOf_13 (by decide) ?_
    refine lv_goto (tgt := 21) hx hb dX0_valueOf_14 (by decide) ?_
    exact w_X0_valueOf_21 (σ := σ2) cx   (-1 : Int32) h g (lv_sub hl [] rfl) hF
def B_X0_valueAt_33 (k5 : Nat → Int32 → Nat → HS → Option (Int32 × HS)) (x0 : Nat) (x1 : Int32) (x2 : Nat) (σ : HS) : Option (Int32 × HS) :=
  if kd σ x2 = 2 then (k5 x0 x1 (gr σ 42 x2) σ) else none
theorem mo_B_X0_valueAt_33 {k5 : Nat → Int32 → Nat → HS → Option (Int32 × HS)} (mk5 : ∀ x0 x1 x2 σ, Mo σ (k5 x0 x1 x2 σ)) (x0 : Nat) (x1 : Int32) (x2 : Nat) (σ : HS) : Mo σ (B_X0_valueAt_33 k5 x0 x1 x2 σ) := by
  unfold B_X0_valueAt_33
  exact (mo_ite (mk5 x0 x1 (gr σ 42 x2) _) mo_none)
set_option maxHeartbeats 4000000 in
set_option maxRecDepth 100000 in
theorem w_X0_valueAt_33 {p : Program} {l : Launch} {e : Env} {s : State} {m : MethodId} {args : Array Value} {below : List Frame} {meth : Method} {c : Code} {D : va_G} {dA : Nat → ClassId} {base : Nat} {σ0 τ : HS} {r : Int32} (cx : CX p s m args meth c cX0_valueAt 3 (some .int) RX0 "valueAt" D dA base) {k5 : Nat → Int32 → Nat → HS → Option (Int32 × HS)} (mk5 : ∀ x0 x1 x2 σ, Mo σ (k5 x0 x1 x2 σ)) (hk5 : ∀ x0 x1 x2 σ H locs ls, Wd D dA base σ s H locs → LE σ0 σ → lv_has ls 3 [(0, vr x0), (1, .int x1), (2, vr x2)] → k5 x0 x1 x2 σ = some (r, τ) → WG p l e s m args below meth c D dA base 2 44 (some (.int r)) σ0 τ σ H locs 5 ls []) (x0 : Nat) (x1 : Int32) (x2 : Nat) {σ : HS} {H : Heap} {locs : List Loc} {ls : Array Slot} (h : Wd D dA base σ s H locs) (g : LE σ0 σ) (hl : lv_has ls 3 [(0, vr x0), (1, .int x1), (2, vr x2)]) (hF : B_X0_valueAt_33 k5 x0 x1 x2 σ = some (r, τ)) : WG p l e s m args below meth c D dA base 2 44 (some (.int r)) σ0 τ σ H locs 33 ls [] := by
  obtain ⟨hx, hb, -⟩ := id cx
  unfold B_X0_valueAt_33 at hF
  refine x_aload_n hx hb dX0_valueAt_33 rfl (lv_at hl 2 rfl) ?_
  obtain ⟨hq1, hF⟩ := ifs hF
  refine x_getr cx h fa_X0_38 (f := 42) rfl hq1 dX0_valueAt_34 ?_
  refine x_astore_n (lv' := [(2, vr (gr σ 42 x2)), (0, vr x0), (1, .int x1)]) hx hb dX0_valueAt_37 rfl hl (by decide) (cR (cI (cR cN))) rfl (fun ls hl => ?_)
  refine lv_goto (tgt := 5) hx hb dX0_valueAt_38 (by decide) ?_
  exact hk5 x0 x1 (gr σ 42 x2) σ _ _ _ h g (lv_sub hl [1, 2, 0] rfl) hF
def B_X0_valueAt_5 (k5 : Nat → Int32 → Nat → HS → Option (Int32 × HS)) (x0 : Nat) (x1 : Int32) (x2 : Nat) (σ : HS) : Option (Int32 × HS) :=
  if x2 = 0 then (some ((-1 : Int32), σ)) else (if kd σ x2 = 2 then (if x1 < (gi σ 40 x2) then (B_X0_valueAt_33 k5 x0 x1 x2 σ) else (if (gi σ 41 x2) = 0 then (B_X0_valueAt_33 k5 x0 x1 x2 σ) else (if kd σ x0 = 1 then (bd (F_X0_valueOf x0 (gi σ 41 x2) σ) (fun r6 σ6 => some (r6, σ6))) else none))) else none)
theorem mo_B_X0_valueAt_5 {k5 : Nat → Int32 → Nat → HS → Option (Int32 × HS)} (mk5 : ∀ x0 x1 x2 σ, Mo σ (k5 x0 x1 x2 σ)) (x0 : Nat) (x1 : Int32) (x2 : Nat) (σ : HS) : Mo σ (B_X0_valueAt_5 k5 x0 x1 x2 σ) := by
  unfold B_X0_valueAt_5
  exact (mo_ite mo_ret (mo_ite (mo_ite (mo_B_X0_valueAt_33 mk5 x0 x1 x2 _) (mo_ite (mo_B_X0_valueAt_33 mk5 x0 x1 x2 _) (mo_ite (mo_bd (mo_F_X0_valueOf x0 (gi σ 41 x2) _) (fun r6 σ6 => mo_ret)) mo_none))) mo_none))
set_option maxHeartbeats 4000000 in
set_option maxRecDepth 100000 in
theorem w_X0_valueAt_5 {p : Program} {l : Launch} {e : Env} {s : State} {m : MethodId} {args : Array Value} {below : List Frame} {meth : Method} {c : Code} {D : va_G} {dA : Nat → ClassId} {base : Nat} {σ0 τ : HS} {r : Int32} (cx : CX p s m args meth c cX0_valueAt 3 (some .int) RX0 "valueAt" D dA base) {k5 : Nat → Int32 → Nat → HS → Option (Int32 × HS)} (mk5 : ∀ x0 x1 x2 σ, Mo σ (k5 x0 x1 x2 σ)) (hk5 : ∀ x0 x1 x2 σ H locs ls, Wd D dA base σ s H locs → LE σ0 σ → lv_has ls 3 [(0, vr x0), (1, .int x1), (2, vr x2)] → k5 x0 x1 x2 σ = some (r, τ) → WG p l e s m args below meth c D dA base 2 44 (some (.int r)) σ0 τ σ H locs 5 ls []) (x0 : Nat) (x1 : Int32) (x2 : Nat) {σ : HS} {H : Heap} {locs : List Loc} {ls : Array Slot} (h : Wd D dA base σ s H locs) (g : LE σ0 σ) (hl : lv_has ls 3 [(0, vr x0), (1, .int x1), (2, vr x2)]) (hF : B_X0_valueAt_5 k5 x0 x1 x2 σ = some (r, τ)) : WG p l e s m args below meth c D dA base 2 44 (some (.int r)) σ0 τ σ H locs 5 ls [] := by
  obtain ⟨hx, hb, -⟩ := id cx
  unfold B_X0_valueAt_5 at hF
  refine x_aload_n hx hb dX0_valueAt_5 rfl (lv_at hl 2 rfl) ?_
  refine x_ifnull (tgt := 41) hx hb dX0_valueAt_6 (by decide) (fun c1 => ?_) (fun c1 => ?_)
  · replace hF := ifp c1 hF
    refine lv_iconst (v := (-1 : Int32)) hx hb dX0_valueAt_41 (by decide) ?_
    obtain ⟨rfl, rfl⟩ := rts hF
    exact x_iret cx h dX0_valueAt_42
  · replace hF := ifn c1 hF
    refine x_aload_n hx hb dX0_valueAt_9 rfl (lv_at hl 2 rfl) ?_
    obtain ⟨hq2, hF⟩ := ifs hF
    refine x_geti cx h fa_X0_31 (f := 40) rfl hq2 dX0_valueAt_10 ?_
    refine lv_iload_n hx hb dX0_valueAt_13 rfl (lv_at hl 1 rfl) ?_
    refine lv_icmp_gt (tgt := 33) hx hb dX0_valueAt_14 (by decide) (fun c3 => ?_) (fun c3 => ?_)
    · replace hF := ifp c3 hF
      exact w_X0_valueAt_33 (σ := σ) cx mk5 hk5 x0 x1 x2 h g (lv_sub hl [0, 1, 2] rfl) hF
    · replace hF := ifn c3 hF
      refine x_aload_n hx hb dX0_valueAt_17 rfl (lv_at hl 2 rfl) ?_
      refine x_geti cx h fa_X0_25 (f := 41) rfl hq2 dX0_valueAt_18 ?_
      refine lv_if_eq (tgt := 33) hx hb dX0_valueAt_21 (by decide) (fun c4 => ?_) (fun c4 => ?_)
      · replace hF := ifp c4 hF
        exact w_X0_valueAt_33 (σ := σ) cx mk5 hk5 x0 x1 x2 h g (lv_sub hl [0, 1, 2] rfl) hF
      · replace hF := ifn c4 hF
        refine x_aload_n hx hb dX0_valueAt_24 rfl (lv_at hl 0 rfl) ?_
        refine x_aload_n hx hb dX0_valueAt_25 rfl (lv_at hl 2 rfl) ?_
        refine x_geti cx h fa_X0_25 (f := 41) rfl hq2 dX0_valueAt_26 ?_
        obtain ⟨hq5, hF⟩ := ifs hF
        obtain ⟨r6, σ6, hc6, hF⟩ := bds hF
        refine x_calli (σ := σ) g (LEm hc6 (mo_F_X0_valueOf x0 (gi σ 41 x2) _)) (x_runV (As := [.int (gi σ 41 x2)]) (rest := []) cx h (c_X0_valueOf l D dA base x0 (gi σ 41 x2) hc6) ml_X0_34 mi_X0_valueOf hq5 rfl ⟨Nat.le_of_ble_eq_true rfl, Nat.le_of_ble_eq_true rfl⟩ hl.1 rfl (s8 sN (by decide)) dX0_valueAt_29 (le_room g (LEm hc6 (mo_F_X0_valueOf x0 (gi σ 41 x2) _)) (LEm hF mo_ret))) h (fun H locs h g => ?_)
        obtain ⟨rfl, rfl⟩ := rts hF
        exact x_iret cx h dX0_valueAt_32
def L_X0_valueAt_5  : Nat → Nat → Int32 → Nat → HS → Option (Int32 × HS)
  | 0, _, _, _, _ => none
  | N + 1, x0, x1, x2, σ => B_X0_valueAt_5 (L_X0_valueAt_5  N) x0 x1 x2 σ
theorem mo_L_X0_valueAt_5  : ∀ (N : Nat) (x0 : Nat) (x1 : Int32) (x2 : Nat) (σ : HS), Mo σ (L_X0_valueAt_5  N x0 x1 x2 σ) := by
  intro N
  induction N with
  | zero => intro x0 x1 x2 σ; exact mo_none
  | succ N ih => intro x0 x1 x2 σ; exact mo_B_X0_valueAt_5 ih x0 x1 x2 σ
theorem wl_X0_valueAt_5 {p : Program} {l : Launch} {e : Env} {s : State} {m : MethodId} {args : Array Value} {below : List Frame} {meth : Method} {c : Code} {D : va_G} {dA : Nat → ClassId} {base : Nat} {σ0 τ : HS} {r : Int32} (cx : CX p s m args meth c cX0_valueAt 3 (some .int) RX0 "valueAt" D dA base)  : ∀ (N : Nat) (x0 : Nat) (x1 : Int32) (x2 : Nat) (σ : HS) (H : Heap) (locs : List Loc) (ls : Array Slot), Wd D dA base σ s H locs → LE σ0 σ → lv_has ls 3 [(0, vr x0), (1, .int x1), (2, vr x2)] → L_X0_valueAt_5  N x0 x1 x2 σ = some (r, τ) → WG p l e s m args below meth c D dA base 2 44 (some (.int r)) σ0 τ σ H locs 5 ls [] := by
  intro N
  induction N with
  | zero => intro x0 x1 x2 σ H locs ls h g hl hF; cases hF
  | succ N ih => intro x0 x1 x2 σ H locs ls h g hl hF; exact w_X0_valueAt_5 cx (mo_L_X0_valueAt_5  N) ih x0 x1 x2 h g hl hF
def F_X0_valueAt (a0 : Nat) (a1 : Int32) (σ : HS) : Option (Int32 × HS) :=
  if kd σ a0 = 1 then (L_X0_valueAt_5  NF a0 a1 (gr σ 1 a0) σ) else none
theorem mo_F_X0_valueAt (a0 : Nat) (a1 : Int32) (σ : HS) : Mo σ (F_X0_valueAt a0 a1 σ) := by
  unfold F_X0_valueAt
  exact (mo_ite (mo_L_X0_valueAt_5  NF a0 a1 (gr σ 1 a0) _) mo_none)
set_option maxHeartbeats 4000000 in
set_option maxRecDepth 100000 in
theorem c_X0_valueAt (l : Launch) (D : va_G) (dA : Nat → ClassId) (base : Nat) (a0 : Nat) (a1 : Int32) {σ τ : HS} {r : Int32} (hF : F_X0_valueAt a0 a1 σ = some (r, τ)) : CT l yX0_valueAt cX0_valueAt 3 (some .int) 2 44 D dA base [vr a0, .int a1] (some (.int r)) σ τ := by
  refine CT.of (lv := [(0, vr a0), (1, .int a1)]) (by decide) (vR (vI vN)) (Nat.le_of_ble_eq_true rfl) rfl ?_
  intro p e s m args below meth c ls cx hl h
  have cx : CX p s m args meth c cX0_valueAt 3 (some .int) RX0 "valueAt" D dA base := cx
  have g : LE σ σ := LE.rf
  obtain ⟨hx, hb, -⟩ := id cx
  unfold F_X0_valueAt at hF
  refine x_aload_n hx hb dX0_valueAt_0 rfl (lv_at hl 0 rfl) ?_
  obtain ⟨hq1, hF⟩ := ifs hF
  refine x_getr cx h fa_X0_28 (f := 1) rfl hq1 dX0_valueAt_1 ?_
  refine x_astore_n (lv' := [(2, vr (gr σ 1 a0)), (0, vr a0), (1, .int a1)]) hx hb dX0_valueAt_4 rfl hl (by decide) (cR (cI cN)) rfl (fun ls hl => ?_)
  exact wl_X0_valueAt_5 cx   NF a0 a1 (gr σ 1 a0) σ _ _ _ h g (lv_sub hl [1, 2, 0] rfl) hF
def F_X1_init (a0 : Nat) (a1 : Int32) (a2 : Int32) (a3 : Nat) (σ : HS) : Option (Unit × HS) :=
  if kd σ a0 = 2 then (some ((), (sr (si (si σ 40 a0 a1) 41 a0 a2) 42 a0 a3))) else none
theorem mo_F_X1_init (a0 : Nat) (a1 : Int32) (a2 : Int32) (a3 : Nat) (σ : HS) : Mo σ (F_X1_init a0 a1 a2 a3 σ) := by
  unfold F_X1_init
  exact (mo_ite (mo_le (τ := (sr (si (si σ 40 a0 a1) 41 a0 a2) 42 a0 a3)) ⟨Nat.le_refl _, Nat.le_refl _⟩ mo_ret) mo_none)
set_option maxHeartbeats 4000000 in
set_option maxRecDepth 100000 in
theorem c_X1_init (l : Launch) (D : va_G) (dA : Nat → ClassId) (base : Nat) (a0 : Nat) (a1 : Int32) (a2 : Int32) (a3 : Nat) {σ τ : HS} {r : Unit} (hF : F_X1_init a0 a1 a2 a3 σ = some (r, τ)) : CT l yX1_init cX1_init 4 none 1 20 D dA base [vr a0, .int a1, .int a2, vr a3] none σ τ := by
  refine CT.of (lv := [(0, vr a0), (1, .int a1), (2, .int a2), (3, vr a3)]) (by decide) (vR (vI (vI (vR vN)))) (Nat.le_of_ble_eq_true rfl) rfl ?_
  intro p e s m args below meth c ls cx hl h
  have cx : CX p s m args meth c cX1_init 4 none RX1 "<init>" D dA base := cx
  have g : LE σ σ := LE.rf
  obtain ⟨hx, hb, -⟩ := id cx
  unfold F_X1_init at hF
  refine x_aload_n hx hb dX1_init_0 rfl (lv_at hl 0 rfl) ?_
  obtain ⟨hq1, hF⟩ := ifs hF
  refine x_obj cx h ml_X1_1 hq1 hl.1 ⟨Nat.le_of_ble_eq_true rfl, Nat.le_of_ble_eq_true rfl⟩ (s8 sN (by decide)) dX1_init_1 ?_
  refine x_aload_n hx hb dX1_init_4 rfl (lv_at hl 0 rfl) ?_
  refine lv_iload_n hx hb dX1_init_5 rfl (lv_at hl 1 rfl) ?_
  refine x_sti cx h fa_X1_7 (f := 40) rfl (Or.inr ⟨rfl, rfl, _, _, rfl⟩) hq1 dX1_init_6 (fun H locs h => ?_)
  refine x_aload_n hx hb dX1_init_9 rfl (lv_at hl 0 rfl) ?_
  refine lv_iload_n hx hb dX1_init_10 rfl (lv_at hl 2 rfl) ?_
  refine x_sti cx h fa_X1_13 (f := 41) rfl (Or.inr ⟨rfl, rfl, _, _, rfl⟩) hq1 dX1_init_11 (fun H locs h => ?_)
  refine x_aload_n hx hb dX1_init_14 rfl (lv_at hl 0 rfl) ?_
  refine x_aload_n hx hb dX1_init_15 rfl (lv_at hl 3 rfl) ?_
  refine x_str cx h fa_X1_16 (f := 42) rfl (Or.inl rfl) hq1 dX1_init_16 (fun H locs h => ?_)
  obtain ⟨rfl, rfl⟩ := rts hF
  exact x_vret cx h dX1_init_19
def B_X1_without_12 (k12 : Nat → Nat → Nat → HS → Option (Nat × HS)) (x0 : Nat) (x1 : Nat) (x2 : Nat) (σ : HS) : Option (Nat × HS) :=
  if x2 = 0 then (some (x0, σ)) else (if kd σ x2 = 2 then (if (gr σ 42 x2) = x1 then (if kd σ x1 = 2 then (some (x0, (sr σ 42 x2 (gr σ 42 x1)))) else none) else (k12 x0 x1 (gr σ 42 x2) σ)) else none)
theorem mo_B_X1_without_12 {k12 : Nat → Nat → Nat → HS → Option (Nat × HS)} (mk12 : ∀ x0 x1 x2 σ, Mo σ (k12 x0 x1 x2 σ)) (x0 : Nat) (x1 : Nat) (x2 : Nat) (σ : HS) : Mo σ (B_X1_without_12 k12 x0 x1 x2 σ) := by
  unfold B_X1_without_12
  exact (mo_ite mo_ret (mo_ite (mo_ite (mo_ite (mo_le (τ := (sr σ 42 x2 (gr σ 42 x1))) ⟨Nat.le_refl _, Nat.le_refl _⟩ mo_ret) mo_none) (mk12 x0 x1 (gr σ 42 x2) _)) mo_none))
set_option maxHeartbeats 4000000 in
set_option maxRecDepth 100000 in
theorem w_X1_without_12 {p : Program} {l : Launch} {e : Env} {s : State} {m : MethodId} {args : Array Value} {below : List Frame} {meth : Method} {c : Code} {D : va_G} {dA : Nat → ClassId} {base : Nat} {σ0 τ : HS} {r : Nat} (cx : CX p s m args meth c cX1_without 3 (some (.object "SnapRows$Entry")) RX1 "without" D dA base) {k12 : Nat → Nat → Nat → HS → Option (Nat × HS)} (mk12 : ∀ x0 x1 x2 σ, Mo σ (k12 x0 x1 x2 σ)) (hk12 : ∀ x0 x1 x2 σ H locs ls, Wd D dA base σ s H locs → LE σ0 σ → lv_has ls 3 [(0, vr x0), (1, vr x1), (2, vr x2)] → k12 x0 x1 x2 σ = some (r, τ) → WG p l e s m args below meth c D dA base 0 0 (some (vr r)) σ0 τ σ H locs 12 ls []) (x0 : Nat) (x1 : Nat) (x2 : Nat) {σ : HS} {H : Heap} {locs : List Loc} {ls : Array Slot} (h : Wd D dA base σ s H locs) (g : LE σ0 σ) (hl : lv_has ls 3 [(0, vr x0), (1, vr x1), (2, vr x2)]) (hF : B_X1_without_12 k12 x0 x1 x2 σ = some (r, τ)) : WG p l e s m args below meth c D dA base 0 0 (some (vr r)) σ0 τ σ H locs 12 ls [] := by
  obtain ⟨hx, hb, -⟩ := id cx
  unfold B_X1_without_12 at hF
  refine x_aload_n hx hb dX1_without_12 rfl (lv_at hl 2 rfl) ?_
  refine x_ifnull (tgt := 42) hx hb dX1_without_13 (by decide) (fun c1 => ?_) (fun c1 => ?_)
  · replace hF := ifp c1 hF
    refine x_aload_n hx hb dX1_without_42 rfl (lv_at hl 0 rfl) ?_
    obtain ⟨rfl, rfl⟩ := rts hF
    exact x_aret cx h dX1_without_43
  · replace hF := ifn c1 hF
    refine x_aload_n hx hb dX1_without_16 rfl (lv_at hl 2 rfl) ?_
    obtain ⟨hq2, hF⟩ := ifs hF
    refine x_getr cx h fa_X1_16 (f := 42) rfl hq2 dX1_without_17 ?_
    refine x_aload_n hx hb dX1_without_20 rfl (lv_at hl 1 rfl) ?_
    refine x_acmp_ne (tgt := 34) hx hb dX1_without_21 (by decide) (fun c3 => ?_) (fun c3 => ?_)
    · replace hF := ifn c3 hF
      refine x_aload_n hx hb dX1_without_34 rfl (lv_at hl 2 rfl) ?_
      refine x_getr cx h fa_X1_16 (f := 42) rfl hq2 dX1_without_35 ?_
      refine x_astore_n (lv' := [(2, vr (gr σ 42 x2)), (0, vr x0), (1, vr x1)]) hx hb dX1_without_38 rfl hl (by decide) (cR (cR (cR cN))) rfl (fun ls hl => ?_)
      refine lv_goto (tgt := 12) hx hb dX1_without_39 (by decide) ?_
      exact hk12 x0 x1 (gr σ 42 x2) σ _ _ _ h g (lv_sub hl [1, 2, 0] rfl) hF
    · replace hF := ifp c3 hF
      refine x_aload_n hx hb dX1_without_24 rfl (lv_at hl 2 rfl) ?_
      refine x_aload_n hx hb dX1_without_25 rfl (lv_at hl 1 rfl) ?_
      obtain ⟨hq4, hF⟩ := ifs hF
      refine x_getr cx h fa_X1_16 (f := 42) rfl hq4 dX1_without_26 ?_
      refine x_str cx h fa_X1_16 (f := 42) rfl (Or.inl rfl) hq2 dX1_without_29 (fun H locs h => ?_)
      refine x_aload_n hx hb dX1_without_32 rfl (lv_at hl 0 rfl) ?_
      obtain ⟨rfl, rfl⟩ := rts hF
      exact x_aret cx h dX1_without_33
def L_X1_without_12  : Nat → Nat → Nat → Nat → HS → Option (Nat × HS)
  | 0, _, _, _, _ => none
  | N + 1, x0, x1, x2, σ => B_X1_without_12 (L_X1_without_12  N) x0 x1 x2 σ
theorem mo_L_X1_without_12  : ∀ (N : Nat) (x0 : Nat) (x1 : Nat) (x2 : Nat) (σ : HS), Mo σ (L_X1_without_12  N x0 x1 x2 σ) := by
  intro N
  induction N with
  | zero => intro x0 x1 x2 σ; exact mo_none
  | succ N ih => intro x0 x1 x2 σ; exact mo_B_X1_without_12 ih x0 x1 x2 σ
theorem wl_X1_without_12 {p : Program} {l : Launch} {e : Env} {s : State} {m : MethodId} {args : Array Value} {below : List Frame} {meth : Method} {c : Code} {D : va_G} {dA : Nat → ClassId} {base : Nat} {σ0 τ : HS} {r : Nat} (cx : CX p s m args meth c cX1_without 3 (some (.object "SnapRows$Entry")) RX1 "without" D dA base)  : ∀ (N : Nat) (x0 : Nat) (x1 : Nat) (x2 : Nat) (σ : HS) (H : Heap) (locs : List Loc) (ls : Array Slot), Wd D dA base σ s H locs → LE σ0 σ → lv_has ls 3 [(0, vr x0), (1, vr x1), (2, vr x2)] → L_X1_without_12  N x0 x1 x2 σ = some (r, τ) → WG p l e s m args below meth c D dA base 0 0 (some (vr r)) σ0 τ σ H locs 12 ls [] := by
  intro N
  induction N with
  | zero => intro x0 x1 x2 σ H locs ls h g hl hF; cases hF
  | succ N ih => intro x0 x1 x2 σ H locs ls h g hl hF; exact w_X1_without_12 cx (mo_L_X1_without_12  N) ih x0 x1 x2 h g hl hF
def F_X1_without (a0 : Nat) (a1 : Nat) (σ : HS) : Option (Nat × HS) :=
  if a0 = a1 then (if kd σ a1 = 2 then (some ((gr σ 42 a1), σ)) else none) else (L_X1_without_12  NF a0 a1 a0 σ)
theorem mo_F_X1_without (a0 : Nat) (a1 : Nat) (σ : HS) : Mo σ (F_X1_without a0 a1 σ) := by
  unfold F_X1_without
  exact (mo_ite (mo_ite mo_ret mo_none) (mo_L_X1_without_12  NF a0 a1 a0 _))
set_option maxHeartbeats 4000000 in
set_option maxRecDepth 100000 in
theorem c_X1_without (l : Launch) (D : va_G) (dA : Nat → ClassId) (base : Nat) (a0 : Nat) (a1 : Nat) {σ τ : HS} {r : Nat} (hF : F_X1_without a0 a1 σ = some (r, τ)) : CT l yX1_without cX1_without 3 (some (.object "SnapRows$Entry")) 0 0 D dA base [vr a0, vr a1] (some (vr r)) σ τ := by
  refine CT.of (lv := [(0, vr a0), (1, vr a1)]) (by decide) (vR (vR vN)) (Nat.le_of_ble_eq_true rfl) rfl ?_
  intro p e s m args below meth c ls cx hl h
  have cx : CX p s m args meth c cX1_without 3 (some (.object "SnapRows$Entry")) RX1 "without" D dA base := cx
  have g : LE σ σ := LE.rf
  obtain ⟨hx, hb, -⟩ := id cx
  unfold F_X1_without at hF
  refine x_aload_n hx hb dX1_without_0 rfl (lv_at hl 0 rfl) ?_
  refine x_aload_n hx hb dX1_without_1 rfl (lv_at hl 1 rfl) ?_
  refine x_acmp_ne (tgt := 10) hx hb dX1_without_2 (by decide) (fun c1 => ?_) (fun c1 => ?_)
  · replace hF := ifn c1 hF
    refine x_aload_n hx hb dX1_without_10 rfl (lv_at hl 0 rfl) ?_
    refine x_astore_n (lv' := [(2, vr a0), (0, vr a0), (1, vr a1)]) hx hb dX1_without_11 rfl hl (by decide) (cR (cR cN)) rfl (fun ls hl => ?_)
    exact wl_X1_without_12 cx   NF a0 a1 a0 σ _ _ _ h g (lv_sub hl [1, 2, 0] rfl) hF
  · replace hF := ifp c1 hF
    refine x_aload_n hx hb dX1_without_5 rfl (lv_at hl 1 rfl) ?_
    obtain ⟨hq2, hF⟩ := ifs hF
    refine x_getr cx h fa_X1_16 (f := 42) rfl hq2 dX1_without_6 ?_
    obtain ⟨rfl, rfl⟩ := rts hF
    exact x_aret cx h dX1_without_9
def B_X1_withInfo_2 (k2 : Int32 → Nat → HS → Option (Nat × HS)) (x1 : Int32) (x2 : Nat) (σ : HS) : Option (Nat × HS) :=
  if x2 = 0 then (some (0, σ)) else (if kd σ x2 = 2 then (if (gi σ 41 x2) = x1 then (some (x2, σ)) else (k2 x1 (gr σ 42 x2) σ)) else none)
theorem mo_B_X1_withInfo_2 {k2 : Int32 → Nat → HS → Option (Nat × HS)} (mk2 : ∀ x1 x2 σ, Mo σ (k2 x1 x2 σ)) (x1 : Int32) (x2 : Nat) (σ : HS) : Mo σ (B_X1_withInfo_2 k2 x1 x2 σ) := by
  unfold B_X1_withInfo_2
  exact (mo_ite mo_ret (mo_ite (mo_ite mo_ret (mk2 x1 (gr σ 42 x2) _)) mo_none))
set_option maxHeartbeats 4000000 in
set_option maxRecDepth 100000 in
theorem w_X1_withInfo_2 {p : Program} {l : Launch} {e : Env} {s : State} {m : MethodId} {args : Array Value} {below : List Frame} {meth : Method} {c : Code} {D : va_G} {dA : Nat → ClassId} {base : Nat} {σ0 τ : HS} {r : Nat} (cx : CX p s m args meth c cX1_withInfo 3 (some (.object "SnapRows$Entry")) RX1 "withInfo" D dA base) {k2 : Int32 → Nat → HS → Option (Nat × HS)} (mk2 : ∀ x1 x2 σ, Mo σ (k2 x1 x2 σ)) (hk2 : ∀ x1 x2 σ H locs ls, Wd D dA base σ s H locs → LE σ0 σ → lv_has ls 3 [(1, .int x1), (2, vr x2)] → k2 x1 x2 σ = some (r, τ) → WG p l e s m args below meth c D dA base 0 0 (some (vr r)) σ0 τ σ H locs 2 ls []) (x1 : Int32) (x2 : Nat) {σ : HS} {H : Heap} {locs : List Loc} {ls : Array Slot} (h : Wd D dA base σ s H locs) (g : LE σ0 σ) (hl : lv_has ls 3 [(1, .int x1), (2, vr x2)]) (hF : B_X1_withInfo_2 k2 x1 x2 σ = some (r, τ)) : WG p l e s m args below meth c D dA base 0 0 (some (vr r)) σ0 τ σ H locs 2 ls [] := by
  obtain ⟨hx, hb, -⟩ := id cx
  unfold B_X1_withInfo_2 at hF
  refine x_aload_n hx hb dX1_withInfo_2 rfl (lv_at hl 1 rfl) ?_
  refine x_ifnull (tgt := 24) hx hb dX1_withInfo_3 (by decide) (fun c1 => ?_) (fun c1 => ?_)
  · replace hF := ifp c1 hF
    refine x_null hx hb dX1_withInfo_24 ?_
    obtain ⟨rfl, rfl⟩ := rts hF
    exact x_aret cx h dX1_withInfo_25
  · replace hF := ifn c1 hF
    refine x_aload_n hx hb dX1_withInfo_6 rfl (lv_at hl 1 rfl) ?_
    obtain ⟨hq2, hF⟩ := ifs hF
    refine x_geti cx h fa_X1_13 (f := 41) rfl hq2 dX1_withInfo_7 ?_
    refine lv_iload_n hx hb dX1_withInfo_10 rfl (lv_at hl 0 rfl) ?_
    refine lv_icmp_ne (tgt := 16) hx hb dX1_withInfo_11 (by decide) (fun c3 => ?_) (fun c3 => ?_)
    · replace hF := ifn c3 hF
      refine x_aload_n hx hb dX1_withInfo_16 rfl (lv_at hl 1 rfl) ?_
      refine x_getr cx h fa_X1_16 (f := 42) rfl hq2 dX1_withInfo_17 ?_
      refine x_astore_n (lv' := [(2, vr (gr σ 42 x2)), (1, .int x1)]) hx hb dX1_withInfo_20 rfl hl (by decide) (cI (cR cN)) rfl (fun ls hl => ?_)
      refine lv_goto (tgt := 2) hx hb dX1_withInfo_21 (by decide) ?_
      exact hk2 x1 (gr σ 42 x2) σ _ _ _ h g (lv_sub hl [1, 0] rfl) hF
    · replace hF := ifp c3 hF
      refine x_aload_n hx hb dX1_withInfo_14 rfl (lv_at hl 1 rfl) ?_
      obtain ⟨rfl, rfl⟩ := rts hF
      exact x_aret cx h dX1_withInfo_15
def L_X1_withInfo_2  : Nat → Int32 → Nat → HS → Option (Nat × HS)
  | 0, _, _, _ => none
  | N + 1, x1, x2, σ => B_X1_withInfo_2 (L_X1_withInfo_2  N) x1 x2 σ
theorem mo_L_X1_withInfo_2  : ∀ (N : Nat) (x1 : Int32) (x2 : Nat) (σ : HS), Mo σ (L_X1_withInfo_2  N x1 x2 σ) := by
  intro N
  induction N with
  | zero => intro x1 x2 σ; exact mo_none
  | succ N ih => intro x1 x2 σ; exact mo_B_X1_withInfo_2 ih x1 x2 σ
theorem wl_X1_withInfo_2 {p : Program} {l : Launch} {e : Env} {s : State} {m : MethodId} {args : Array Value} {below : List Frame} {meth : Method} {c : Code} {D : va_G} {dA : Nat → ClassId} {base : Nat} {σ0 τ : HS} {r : Nat} (cx : CX p s m args meth c cX1_withInfo 3 (some (.object "SnapRows$Entry")) RX1 "withInfo" D dA base)  : ∀ (N : Nat) (x1 : Int32) (x2 : Nat) (σ : HS) (H : Heap) (locs : List Loc) (ls : Array Slot), Wd D dA base σ s H locs → LE σ0 σ → lv_has ls 3 [(1, .int x1), (2, vr x2)] → L_X1_withInfo_2  N x1 x2 σ = some (r, τ) → WG p l e s m args below meth c D dA base 0 0 (some (vr r)) σ0 τ σ H locs 2 ls [] := by
  intro N
  induction N with
  | zero => intro x1 x2 σ H locs ls h g hl hF; cases hF
  | succ N ih => intro x1 x2 σ H locs ls h g hl hF; exact w_X1_withInfo_2 cx (mo_L_X1_withInfo_2  N) ih x1 x2 h g hl hF
def F_X1_withInfo (a0 : Nat) (a1 : Int32) (σ : HS) : Option (Nat × HS) :=
  L_X1_withInfo_2  NF a1 a0 σ
theorem mo_F_X1_withInfo (a0 : Nat) (a1 : Int32) (σ : HS) : Mo σ (F_X1_withInfo a0 a1 σ) := by
  unfold F_X1_withInfo
  exact (mo_L_X1_withInfo_2  NF a1 a0 _)
set_option maxHeartbeats 4000000 in
set_option maxRecDepth 100000 in
theorem c_X1_withInfo (l : Launch) (D : va_G) (dA : Nat → ClassId) (base : Nat) (a0 : Nat) (a1 : Int32) {σ τ : HS} {r : Nat} (hF : F_X1_withInfo a0 a1 σ = some (r, τ)) : CT l yX1_withInfo cX1_withInfo 3 (some (.object "SnapRows$Entry")) 0 0 D dA base [vr a0, .int a1] (some (vr r)) σ τ := by
  refine CT.of (lv := [(0, vr a0), (1, .int a1)]) (by decide) (vR (vI vN)) (Nat.le_of_ble_eq_true rfl) rfl ?_
  intro p e s m args below meth c ls cx hl h
  have cx : CX p s m args meth c cX1_withInfo 3 (some (.object "SnapRows$Entry")) RX1 "withInfo" D dA base := cx
  have g : LE σ σ := LE.rf
  obtain ⟨hx, hb, -⟩ := id cx
  unfold F_X1_withInfo at hF
  refine x_aload_n hx hb dX1_withInfo_0 rfl (lv_at hl 0 rfl) ?_
  refine x_astore_n (lv' := [(2, vr a0), (0, vr a0), (1, .int a1)]) hx hb dX1_withInfo_1 rfl hl (by decide) (cR (cI cN)) rfl (fun ls hl => ?_)
  exact wl_X1_withInfo_2 cx   NF a1 a0 σ _ _ _ h g (lv_sub hl [2, 0] rfl) hF
def B_X1_atPlace_4 (k4 : Int32 → Int32 → Nat → HS → Option (Nat × HS)) (x1 : Int32) (x2 : Int32) (x3 : Nat) (σ : HS) : Option (Nat × HS) :=
  if x3 = 0 then (some (0, σ)) else (if x2 = x1 then (some (x3, σ)) else (if kd σ x3 = 2 then (k4 x1 (x2 + (1 : Int32)) (gr σ 42 x3) σ) else none))
theorem mo_B_X1_atPlace_4 {k4 : Int32 → Int32 → Nat → HS → Option (Nat × HS)} (mk4 : ∀ x1 x2 x3 σ, Mo σ (k4 x1 x2 x3 σ)) (x1 : Int32) (x2 : Int32) (x3 : Nat) (σ : HS) : Mo σ (B_X1_atPlace_4 k4 x1 x2 x3 σ) := by
  unfold B_X1_atPlace_4
  exact (mo_ite mo_ret (mo_ite mo_ret (mo_ite (mk4 x1 (x2 + (1 : Int32)) (gr σ 42 x3) _) mo_none)))
set_option maxHeartbeats 4000000 in
set_option maxRecDepth 100000 in
theorem w_X1_atPlace_4 {p : Program} {l : Launch} {e : Env} {s : State} {m : MethodId} {args : Array Value} {below : List Frame} {meth : Method} {c : Code} {D : va_G} {dA : Nat → ClassId} {base : Nat} {σ0 τ : HS} {r : Nat} (cx : CX p s m args meth c cX1_atPlace 4 (some (.object "SnapRows$Entry")) RX1 "atPlace" D dA base) {k4 : Int32 → Int32 → Nat → HS → Option (Nat × HS)} (mk4 : ∀ x1 x2 x3 σ, Mo σ (k4 x1 x2 x3 σ)) (hk4 : ∀ x1 x2 x3 σ H locs ls, Wd D dA base σ s H locs → LE σ0 σ → lv_has ls 4 [(1, .int x1), (2, .int x2), (3, vr x3)] → k4 x1 x2 x3 σ = some (r, τ) → WG p l e s m args below meth c D dA base 0 0 (some (vr r)) σ0 τ σ H locs 4 ls []) (x1 : Int32) (x2 : Int32) (x3 : Nat) {σ : HS} {H : Heap} {locs : List Loc} {ls : Array Slot} (h : Wd D dA base σ s H locs) (g : LE σ0 σ) (hl : lv_has ls 4 [(1, .int x1), (2, .int x2), (3, vr x3)]) (hF : B_X1_atPlace_4 k4 x1 x2 x3 σ = some (r, τ)) : WG p l e s m args below meth c D dA base 0 0 (some (vr r)) σ0 τ σ H locs 4 ls [] := by
  obtain ⟨hx, hb, -⟩ := id cx
  unfold B_X1_atPlace_4 at hF
  refine x_aload_n hx hb dX1_atPlace_4 rfl (lv_at hl 2 rfl) ?_
  refine x_ifnull (tgt := 26) hx hb dX1_atPlace_5 (by decide) (fun c1 => ?_) (fun c1 => ?_)
  · replace hF := ifp c1 hF
    refine x_null hx hb dX1_atPlace_26 ?_
    obtain ⟨rfl, rfl⟩ := rts hF
    exact x_aret cx h dX1_atPlace_27
  · replace hF := ifn c1 hF
    refine lv_iload_n hx hb dX1_atPlace_8 rfl (lv_at hl 1 rfl) ?_
    refine lv_iload_n hx hb dX1_atPlace_9 rfl (lv_at hl 0 rfl) ?_
    refine lv_icmp_ne (tgt := 15) hx hb dX1_atPlace_10 (by decide) (fun c2 => ?_) (fun c2 => ?_)
    · replace hF := ifn c2 hF
      refine x_iinc (k := 1) (v := (1 : Int32)) (lv' := [(2, .int (x2 + (1 : Int32))), (1, .int x1), (3, vr x3)]) hx hb dX1_atPlace_15 hl rfl (by decide) (by decide) (cI (cI (cR cN))) rfl (fun ls hl => ?_)
      refine x_aload_n hx hb dX1_atPlace_18 rfl (lv_at hl 2 rfl) ?_
      obtain ⟨hq3, hF⟩ := ifs hF
      refine x_getr cx h fa_X1_16 (f := 42) rfl hq3 dX1_atPlace_19 ?_
      refine x_astore_n (lv' := [(3, vr (gr σ 42 x3)), (2, .int (x2 + (1 : Int32))), (1, .int x1)]) hx hb dX1_atPlace_22 rfl hl (by decide) (cI (cI (cR cN))) rfl (fun ls hl => ?_)
      refine lv_goto (tgt := 4) hx hb dX1_atPlace_23 (by decide) ?_
      exact hk4 x1 (x2 + (1 : Int32)) (gr σ 42 x3) σ _ _ _ h g (lv_sub hl [2, 1, 0] rfl) hF
    · replace hF := ifp c2 hF
      refine x_aload_n hx hb dX1_atPlace_13 rfl (lv_at hl 2 rfl) ?_
      obtain ⟨rfl, rfl⟩ := rts hF
      exact x_aret cx h dX1_atPlace_14
def L_X1_atPlace_4  : Nat → Int32 → Int32 → Nat → HS → Option (Nat × HS)
  | 0, _, _, _, _ => none
  | N + 1, x1, x2, x3, σ => B_X1_atPlace_4 (L_X1_atPlace_4  N) x1 x2 x3 σ
theorem mo_L_X1_atPlace_4  : ∀ (N : Nat) (x1 : Int32) (x2 : Int32) (x3 : Nat) (σ : HS), Mo σ (L_X1_atPlace_4  N x1 x2 x3 σ) := by
  intro N
  induction N with
  | zero => intro x1 x2 x3 σ; exact mo_none
  | succ N ih => intro x1 x2 x3 σ; exact mo_B_X1_atPlace_4 ih x1 x2 x3 σ
theorem wl_X1_atPlace_4 {p : Program} {l : Launch} {e : Env} {s : State} {m : MethodId} {args : Array Value} {below : List Frame} {meth : Method} {c : Code} {D : va_G} {dA : Nat → ClassId} {base : Nat} {σ0 τ : HS} {r : Nat} (cx : CX p s m args meth c cX1_atPlace 4 (some (.object "SnapRows$Entry")) RX1 "atPlace" D dA base)  : ∀ (N : Nat) (x1 : Int32) (x2 : Int32) (x3 : Nat) (σ : HS) (H : Heap) (locs : List Loc) (ls : Array Slot), Wd D dA base σ s H locs → LE σ0 σ → lv_has ls 4 [(1, .int x1), (2, .int x2), (3, vr x3)] → L_X1_atPlace_4  N x1 x2 x3 σ = some (r, τ) → WG p l e s m args below meth c D dA base 0 0 (some (vr r)) σ0 τ σ H locs 4 ls [] := by
  intro N
  induction N with
  | zero => intro x1 x2 x3 σ H locs ls h g hl hF; cases hF
  | succ N ih => intro x1 x2 x3 σ H locs ls h g hl hF; exact w_X1_atPlace_4 cx (mo_L_X1_atPlace_4  N) ih x1 x2 x3 h g hl hF
def F_X1_atPlace (a0 : Nat) (a1 : Int32) (σ : HS) : Option (Nat × HS) :=
  L_X1_atPlace_4  NF a1 (0 : Int32) a0 σ
theorem mo_F_X1_atPlace (a0 : Nat) (a1 : Int32) (σ : HS) : Mo σ (F_X1_atPlace a0 a1 σ) := by
  unfold F_X1_atPlace
  exact (mo_L_X1_atPlace_4  NF a1 (0 : Int32) a0 _)
set_option maxHeartbeats 4000000 in
set_option maxRecDepth 100000 in
theorem c_X1_atPlace (l : Launch) (D : va_G) (dA : Nat → ClassId) (base : Nat) (a0 : Nat) (a1 : Int32) {σ τ : HS} {r : Nat} (hF : F_X1_atPlace a0 a1 σ = some (r, τ)) : CT l yX1_atPlace cX1_atPlace 4 (some (.object "SnapRows$Entry")) 0 0 D dA base [vr a0, .int a1] (some (vr r)) σ τ := by
  refine CT.of (lv := [(0, vr a0), (1, .int a1)]) (by decide) (vR (vI vN)) (Nat.le_of_ble_eq_true rfl) rfl ?_
  intro p e s m args below meth c ls cx hl h
  have cx : CX p s m args meth c cX1_atPlace 4 (some (.object "SnapRows$Entry")) RX1 "atPlace" D dA base := cx
  have g : LE σ σ := LE.rf
  obtain ⟨hx, hb, -⟩ := id cx
  unfold F_X1_atPlace at hF
  refine lv_iconst (v := (0 : Int32)) hx hb dX1_atPlace_0 (by decide) ?_
  refine x_istore_n (lv' := [(2, .int (0 : Int32)), (0, vr a0), (1, .int a1)]) hx hb dX1_atPlace_1 rfl hl (by decide) (cR (cI cN)) rfl (fun ls hl => ?_)
  refine x_aload_n hx hb dX1_atPlace_2 rfl (lv_at hl 1 rfl) ?_
  refine x_astore_n (lv' := [(3, vr a0), (2, .int (0 : Int32)), (0, vr a0), (1, .int a1)]) hx hb dX1_atPlace_3 rfl hl (by decide) (cI (cR (cI cN))) rfl (fun ls hl => ?_)
  exact wl_X1_atPlace_4 cx   NF a1 (0 : Int32) a0 σ _ _ _ h g (lv_sub hl [3, 1, 0] rfl) hF
def B_X1_count_4 (k4 : Int32 → Nat → HS → Option (Int32 × HS)) (x1 : Int32) (x2 : Nat) (σ : HS) : Option (Int32 × HS) :=
  if x2 = 0 then (some (x1, σ)) else (if kd σ x2 = 2 then (k4 (x1 + (1 : Int32)) (gr σ 42 x2) σ) else none)
theorem mo_B_X1_count_4 {k4 : Int32 → Nat → HS → Option (Int32 × HS)} (mk4 : ∀ x1 x2 σ, Mo σ (k4 x1 x2 σ)) (x1 : Int32) (x2 : Nat) (σ : HS) : Mo σ (B_X1_count_4 k4 x1 x2 σ) := by
  unfold B_X1_count_4
  exact (mo_ite mo_ret (mo_ite (mk4 (x1 + (1 : Int32)) (gr σ 42 x2) _) mo_none))
set_option maxHeartbeats 4000000 in
set_option maxRecDepth 100000 in
theorem w_X1_count_4 {p : Program} {l : Launch} {e : Env} {s : State} {m : MethodId} {args : Array Value} {below : List Frame} {meth : Method} {c : Code} {D : va_G} {dA : Nat → ClassId} {base : Nat} {σ0 τ : HS} {r : Int32} (cx : CX p s m args meth c cX1_count 3 (some .int) RX1 "count" D dA base) {k4 : Int32 → Nat → HS → Option (Int32 × HS)} (mk4 : ∀ x1 x2 σ, Mo σ (k4 x1 x2 σ)) (hk4 : ∀ x1 x2 σ H locs ls, Wd D dA base σ s H locs → LE σ0 σ → lv_has ls 3 [(1, .int x1), (2, vr x2)] → k4 x1 x2 σ = some (r, τ) → WG p l e s m args below meth c D dA base 0 0 (some (.int r)) σ0 τ σ H locs 4 ls []) (x1 : Int32) (x2 : Nat) {σ : HS} {H : Heap} {locs : List Loc} {ls : Array Slot} (h : Wd D dA base σ s H locs) (g : LE σ0 σ) (hl : lv_has ls 3 [(1, .int x1), (2, vr x2)]) (hF : B_X1_count_4 k4 x1 x2 σ = some (r, τ)) : WG p l e s m args below meth c D dA base 0 0 (some (.int r)) σ0 τ σ H locs 4 ls [] := by
  obtain ⟨hx, hb, -⟩ := id cx
  unfold B_X1_count_4 at hF
  refine x_aload_n hx hb dX1_count_4 rfl (lv_at hl 1 rfl) ?_
  refine x_ifnull (tgt := 19) hx hb dX1_count_5 (by decide) (fun c1 => ?_) (fun c1 => ?_)
  · replace hF := ifp c1 hF
    refine lv_iload_n hx hb dX1_count_19 rfl (lv_at hl 0 rfl) ?_
    obtain ⟨rfl, rfl⟩ := rts hF
    exact x_iret cx h dX1_count_20
  · replace hF := ifn c1 hF
    refine x_iinc (k := 0) (v := (1 : Int32)) (lv' := [(1, .int (x1 + (1 : Int32))), (2, vr x2)]) hx hb dX1_count_8 hl rfl (by decide) (by decide) (cI (cR cN)) rfl (fun ls hl => ?_)
    refine x_aload_n hx hb dX1_count_11 rfl (lv_at hl 1 rfl) ?_
    obtain ⟨hq2, hF⟩ := ifs hF
    refine x_getr cx h fa_X1_16 (f := 42) rfl hq2 dX1_count_12 ?_
    refine x_astore_n (lv' := [(2, vr (gr σ 42 x2)), (1, .int (x1 + (1 : Int32)))]) hx hb dX1_count_15 rfl hl (by decide) (cI (cR cN)) rfl (fun ls hl => ?_)
    refine lv_goto (tgt := 4) hx hb dX1_count_16 (by decide) ?_
    exact hk4 (x1 + (1 : Int32)) (gr σ 42 x2) σ _ _ _ h g (lv_sub hl [1, 0] rfl) hF
def L_X1_count_4  : Nat → Int32 → Nat → HS → Option (Int32 × HS)
  | 0, _, _, _ => none
  | N + 1, x1, x2, σ => B_X1_count_4 (L_X1_count_4  N) x1 x2 σ
theorem mo_L_X1_count_4  : ∀ (N : Nat) (x1 : Int32) (x2 : Nat) (σ : HS), Mo σ (L_X1_count_4  N x1 x2 σ) := by
  intro N
  induction N with
  | zero => intro x1 x2 σ; exact mo_none
  | succ N ih => intro x1 x2 σ; exact mo_B_X1_count_4 ih x1 x2 σ
theorem wl_X1_count_4 {p : Program} {l : Launch} {e : Env} {s : State} {m : MethodId} {args : Array Value} {below : List Frame} {meth : Method} {c : Code} {D : va_G} {dA : Nat → ClassId} {base : Nat} {σ0 τ : HS} {r : Int32} (cx : CX p s m args meth c cX1_count 3 (some .int) RX1 "count" D dA base)  : ∀ (N : Nat) (x1 : Int32) (x2 : Nat) (σ : HS) (H : Heap) (locs : List Loc) (ls : Array Slot), Wd D dA base σ s H locs → LE σ0 σ → lv_has ls 3 [(1, .int x1), (2, vr x2)] → L_X1_count_4  N x1 x2 σ = some (r, τ) → WG p l e s m args below meth c D dA base 0 0 (some (.int r)) σ0 τ σ H locs 4 ls [] := by
  intro N
  induction N with
  | zero => intro x1 x2 σ H locs ls h g hl hF; cases hF
  | succ N ih => intro x1 x2 σ H locs ls h g hl hF; exact w_X1_count_4 cx (mo_L_X1_count_4  N) ih x1 x2 h g hl hF
def F_X1_count (a0 : Nat) (σ : HS) : Option (Int32 × HS) :=
  L_X1_count_4  NF (0 : Int32) a0 σ
theorem mo_F_X1_count (a0 : Nat) (σ : HS) : Mo σ (F_X1_count a0 σ) := by
  unfold F_X1_count
  exact (mo_L_X1_count_4  NF (0 : Int32) a0 _)
set_option maxHeartbeats 4000000 in
set_option maxRecDepth 100000 in
theorem c_X1_count (l : Launch) (D : va_G) (dA : Nat → ClassId) (base : Nat) (a0 : Nat) {σ τ : HS} {r : Int32} (hF : F_X1_count a0 σ = some (r, τ)) : CT l yX1_count cX1_count 3 (some .int) 0 0 D dA base [vr a0] (some (.int r)) σ τ := by
  refine CT.of (lv := [(0, vr a0)]) (by decide) (vR vN) (Nat.le_of_ble_eq_true rfl) rfl ?_
  intro p e s m args below meth c ls cx hl h
  have cx : CX p s m args meth c cX1_count 3 (some .int) RX1 "count" D dA base := cx
  have g : LE σ σ := LE.rf
  obtain ⟨hx, hb, -⟩ := id cx
  unfold F_X1_count at hF
  refine lv_iconst (v := (0 : Int32)) hx hb dX1_count_0 (by decide) ?_
  refine x_istore_n (lv' := [(1, .int (0 : Int32)), (0, vr a0)]) hx hb dX1_count_1 rfl hl (by decide) (cR cN) rfl (fun ls hl => ?_)
  refine x_aload_n hx hb dX1_count_2 rfl (lv_at hl 1 rfl) ?_
  refine x_astore_n (lv' := [(2, vr a0), (1, .int (0 : Int32)), (0, vr a0)]) hx hb dX1_count_3 rfl hl (by decide) (cI (cR cN)) rfl (fun ls hl => ?_)
  exact wl_X1_count_4 cx   NF (0 : Int32) a0 σ _ _ _ h g (lv_sub hl [1, 0] rfl) hF
def F_X2_init (a0 : Nat) (σ : HS) : Option (Unit × HS) :=
  if kd σ a0 = 3 then (some ((), (si σ 81 a0 (1 : Int32)))) else none
theorem mo_F_X2_init (a0 : Nat) (σ : HS) : Mo σ (F_X2_init a0 σ) := by
  unfold F_X2_init
  exact (mo_ite (mo_le (τ := (si σ 81 a0 (1 : Int32))) ⟨Nat.le_refl _, Nat.le_refl _⟩ mo_ret) mo_none)
set_option maxHeartbeats 4000000 in
set_option maxRecDepth 100000 in
theorem c_X2_init (l : Launch) (D : va_G) (dA : Nat → ClassId) (base : Nat) (a0 : Nat) {σ τ : HS} {r : Unit} (hF : F_X2_init a0 σ = some (r, τ)) : CT l yX2_init cX2_init 1 none 1 20 D dA base [vr a0] none σ τ := by
  refine CT.of (lv := [(0, vr a0)]) (by decide) (vR vN) (Nat.le_of_ble_eq_true rfl) rfl ?_
  intro p e s m args below meth c ls cx hl h
  have cx : CX p s m args meth c cX2_init 1 none RX2 "<init>" D dA base := cx
  have g : LE σ σ := LE.rf
  obtain ⟨hx, hb, -⟩ := id cx
  unfold F_X2_init at hF
  refine x_aload_n hx hb dX2_init_0 rfl (lv_at hl 0 rfl) ?_
  obtain ⟨hq1, hF⟩ := ifs hF
  refine x_obj cx h ml_X2_3 hq1 hl.1 ⟨Nat.le_of_ble_eq_true rfl, Nat.le_of_ble_eq_true rfl⟩ (s8 sN (by decide)) dX2_init_1 ?_
  refine x_aload_n hx hb dX2_init_4 rfl (lv_at hl 0 rfl) ?_
  refine lv_iconst (v := (1 : Int32)) hx hb dX2_init_5 (by decide) ?_
  refine x_sti cx h fa_X2_9 (f := 81) rfl (Or.inl rfl) hq1 dX2_init_6 (fun H locs h => ?_)
  obtain ⟨rfl, rfl⟩ := rts hF
  exact x_vret cx h dX2_init_9
def B_X2_give_22  (x0 : Nat) (σ : HS) : Option (Int32 × HS) :=
  if kd σ x0 = 3 then (some ((gi (si (si σ 80 x0 (gi σ 81 x0)) 81 x0 ((gi (si σ 80 x0 (gi σ 81 x0)) 81 x0) + (1 : Int32))) 80 x0), (si (si σ 80 x0 (gi σ 81 x0)) 81 x0 ((gi (si σ 80 x0 (gi σ 81 x0)) 81 x0) + (1 : Int32))))) else none
theorem mo_B_X2_give_22  (x0 : Nat) (σ : HS) : Mo σ (B_X2_give_22  x0 σ) := by
  unfold B_X2_give_22
  exact (mo_ite (mo_le (τ := (si (si σ 80 x0 (gi σ 81 x0)) 81 x0 ((gi (si σ 80 x0 (gi σ 81 x0)) 81 x0) + (1 : Int32)))) ⟨Nat.le_refl _, Nat.le_refl _⟩ mo_ret) mo_none)
set_option maxHeartbeats 4000000 in
set_option maxRecDepth 100000 in
theorem w_X2_give_22 {p : Program} {l : Launch} {e : Env} {s : State} {m : MethodId} {args : Array Value} {below : List Frame} {meth : Method} {c : Code} {D : va_G} {dA : Nat → ClassId} {base : Nat} {σ0 τ : HS} {r : Int32} (cx : CX p s m args meth c cX2_give 1 (some .int) RX2 "give" D dA base)  (x0 : Nat) {σ : HS} {H : Heap} {locs : List Loc} {ls : Array Slot} (h : Wd D dA base σ s H locs) (g : LE σ0 σ) (hl : lv_has ls 1 [(0, vr x0)]) (hF : B_X2_give_22  x0 σ = some (r, τ)) : WG p l e s m args below meth c D dA base 0 0 (some (.int r)) σ0 τ σ H locs 22 ls [] := by
  obtain ⟨hx, hb, -⟩ := id cx
  unfold B_X2_give_22 at hF
  refine x_aload_n hx hb dX2_give_22 rfl (lv_at hl 0 rfl) ?_
  refine x_aload_n hx hb dX2_give_23 rfl (lv_at hl 0 rfl) ?_
  obtain ⟨hq1, hF⟩ := ifs hF
  refine x_geti cx h fa_X2_9 (f := 81) rfl hq1 dX2_give_24 ?_
  refine x_sti cx h fa_X2_18 (f := 80) rfl (Or.inl rfl) hq1 dX2_give_27 (fun H locs h => ?_)
  refine x_aload_n hx hb dX2_give_30 rfl (lv_at hl 0 rfl) ?_
  refine lv_dup hx hb dX2_give_31 (vr_cat _) ?_
  refine x_geti cx h fa_X2_9 (f := 81) rfl hq1 dX2_give_32 ?_
  refine lv_iconst (v := (1 : Int32)) hx hb dX2_give_35 (by decide) ?_
  refine lv_iadd hx hb dX2_give_36 ?_
  refine x_sti cx h fa_X2_9 (f := 81) rfl (Or.inl rfl) hq1 dX2_give_37 (fun H locs h => ?_)
  refine x_aload_n hx hb dX2_give_40 rfl (lv_at hl 0 rfl) ?_
  refine x_geti cx h fa_X2_18 (f := 80) rfl hq1 dX2_give_41 ?_
  obtain ⟨rfl, rfl⟩ := rts hF
  exact x_iret cx h dX2_give_44
def F_X2_give (a0 : Nat) (σ : HS) : Option (Int32 × HS) :=
  if kd σ a0 = 3 then (if (gi σ 81 a0) ≤ (gi σ 82 a0) then (B_X2_give_22  a0 σ) else (B_X2_give_22  a0 (si σ 82 a0 ((gi σ 82 a0) + (16 : Int32))))) else none
theorem mo_F_X2_give (a0 : Nat) (σ : HS) : Mo σ (F_X2_give a0 σ) := by
  unfold F_X2_give
  exact (mo_ite (mo_ite (mo_B_X2_give_22  a0 _) (mo_le (τ := (si σ 82 a0 ((gi σ 82 a0) + (16 : Int32)))) ⟨Nat.le_refl _, Nat.le_refl _⟩ (mo_B_X2_give_22  a0 _))) mo_none)
set_option maxHeartbeats 4000000 in
set_option maxRecDepth 100000 in
theorem c_X2_give (l : Launch) (D : va_G) (dA : Nat → ClassId) (base : Nat) (a0 : Nat) {σ τ : HS} {r : Int32} (hF : F_X2_give a0 σ = some (r, τ)) : CT l yX2_give cX2_give 1 (some .int) 0 0 D dA base [vr a0] (some (.int r)) σ τ := by
  refine CT.of (lv := [(0, vr a0)]) (by decide) (vR vN) (Nat.le_of_ble_eq_true rfl) rfl ?_
  intro p e s m args below meth c ls cx hl h
  have cx : CX p s m args meth c cX2_give 1 (some .int) RX2 "give" D dA base := cx
  have g : LE σ σ := LE.rf
  obtain ⟨hx, hb, -⟩ := id cx
  unfold F_X2_give at hF
  refine x_aload_n hx hb dX2_give_0 rfl (lv_at hl 0 rfl) ?_
  obtain ⟨hq1, hF⟩ := ifs hF
  refine x_geti cx h fa_X2_9 (f := 81) rfl hq1 dX2_give_1 ?_
  refine x_aload_n hx hb dX2_give_4 rfl (lv_at hl 0 rfl) ?_
  refine x_geti cx h fa_X2_15 (f := 82) rfl hq1 dX2_give_5 ?_
  refine lv_icmp_le (tgt := 22) hx hb dX2_give_8 (by decide) (fun c2 => ?_) (fun c2 => ?_)
  · replace hF := ifp c2 hF
    exact w_X2_give_22 (σ := σ) cx   a0 h g (lv_sub hl [0] rfl) hF
  · replace hF := ifn c2 hF
    refine x_aload_n hx hb dX2_give_11 rfl (lv_at hl 0 rfl) ?_
    refine lv_dup hx hb dX2_give_12 (vr_cat _) ?_
    refine x_geti cx h fa_X2_15 (f := 82) rfl hq1 dX2_give_13 ?_
    refine lv_bipush (v := (16 : Int32)) hx hb dX2_give_16 (by decide) ?_
    refine lv_iadd hx hb dX2_give_18 ?_
    refine x_sti cx h fa_X2_15 (f := 82) rfl (Or.inl rfl) hq1 dX2_give_19 (fun H locs h => ?_)
    exact w_X2_give_22 (σ := (si σ 82 a0 ((gi σ 82 a0) + (16 : Int32)))) cx   a0 h g (lv_sub hl [0] rfl) hF
def F_X2_restart (a0 : Nat) (σ : HS) : Option (Int32 × HS) :=
  if kd σ a0 = 3 then (some ((gi (si σ 81 a0 ((gi σ 82 a0) + (1 : Int32))) 81 a0), (si σ 81 a0 ((gi σ 82 a0) + (1 : Int32))))) else none
theorem mo_F_X2_restart (a0 : Nat) (σ : HS) : Mo σ (F_X2_restart a0 σ) := by
  unfold F_X2_restart
  exact (mo_ite (mo_le (τ := (si σ 81 a0 ((gi σ 82 a0) + (1 : Int32)))) ⟨Nat.le_refl _, Nat.le_refl _⟩ mo_ret) mo_none)
set_option maxHeartbeats 4000000 in
set_option maxRecDepth 100000 in
theorem c_X2_restart (l : Launch) (D : va_G) (dA : Nat → ClassId) (base : Nat) (a0 : Nat) {σ τ : HS} {r : Int32} (hF : F_X2_restart a0 σ = some (r, τ)) : CT l yX2_restart cX2_restart 1 (some .int) 0 0 D dA base [vr a0] (some (.int r)) σ τ := by
  refine CT.of (lv := [(0, vr a0)]) (by decide) (vR vN) (Nat.le_of_ble_eq_true rfl) rfl ?_
  intro p e s m args below meth c ls cx hl h
  have cx : CX p s m args meth c cX2_restart 1 (some .int) RX2 "restart" D dA base := cx
  have g : LE σ σ := LE.rf
  obtain ⟨hx, hb, -⟩ := id cx
  unfold F_X2_restart at hF
  refine x_aload_n hx hb dX2_restart_0 rfl (lv_at hl 0 rfl) ?_
  refine x_aload_n hx hb dX2_restart_1 rfl (lv_at hl 0 rfl) ?_
  obtain ⟨hq1, hF⟩ := ifs hF
  refine x_geti cx h fa_X2_15 (f := 82) rfl hq1 dX2_restart_2 ?_
  refine lv_iconst (v := (1 : Int32)) hx hb dX2_restart_5 (by decide) ?_
  refine lv_iadd hx hb dX2_restart_6 ?_
  refine x_sti cx h fa_X2_9 (f := 81) rfl (Or.inl rfl) hq1 dX2_restart_7 (fun H locs h => ?_)
  refine x_aload_n hx hb dX2_restart_10 rfl (lv_at hl 0 rfl) ?_
  refine x_geti cx h fa_X2_9 (f := 81) rfl hq1 dX2_restart_11 ?_
  obtain ⟨rfl, rfl⟩ := rts hF
  exact x_iret cx h dX2_restart_14
def B_X3_init_16 (k16 : Nat → Int32 → HS → Option (Unit × HS)) (x0 : Nat) (x1 : Int32) (σ : HS) : Option (Unit × HS) :=
  if (256 : Int32) ≤ x1 then (some ((), σ)) else (if kd σ x0 = 4 then (lt1 (nw σ 1 5) (fun σ3 => bd (F_X0_init (hs σ + 1) σ3) (fun r4 σ4 => if kd σ4 (gr σ 120 x0) = 102 ∧ inb x1 (ln σ4 (gr σ 120 x0)) then (if kd σ4 (hs σ + 1) = 1 then (k16 x0 (x1 + (1 : Int32)) (sar σ4 (gr σ 120 x0) x1.toNatClampNeg (hs σ + 1))) else none) else none))) else none)
theorem mo_B_X3_init_16 {k16 : Nat → Int32 → HS → Option (Unit × HS)} (mk16 : ∀ x0 x1 σ, Mo σ (k16 x0 x1 σ)) (x0 : Nat) (x1 : Int32) (σ : HS) : Mo σ (B_X3_init_16 k16 x0 x1 σ) := by
  unfold B_X3_init_16
  exact (mo_ite mo_ret (mo_ite (mo_lt LE.nw (fun σ3 => (mo_bd (mo_F_X0_init (hs σ + 1) _) (fun r4 σ4 => (mo_ite (mo_ite (mo_le (τ := (sar σ4 (gr σ 120 x0) x1.toNatClampNeg (hs σ + 1))) ⟨Nat.le_refl _, Nat.le_refl _⟩ (mk16 x0 (x1 + (1 : Int32)) _)) mo_none) mo_none))))) mo_none))
set_option maxHeartbeats 4000000 in
set_option maxRecDepth 100000 in
theorem w_X3_init_16 {p : Program} {l : Launch} {e : Env} {s : State} {m : MethodId} {args : Array Value} {below : List Frame} {meth : Method} {c : Code} {D : va_G} {dA : Nat → ClassId} {base : Nat} {σ0 τ : HS} {r : Unit} (cx : CX p s m args meth c cX3_init 2 none RX3 "<init>" D dA base) {k16 : Nat → Int32 → HS → Option (Unit × HS)} (mk16 : ∀ x0 x1 σ, Mo σ (k16 x0 x1 σ)) (hk16 : ∀ x0 x1 σ H locs ls, Wd D dA base σ s H locs → LE σ0 σ → lv_has ls 2 [(0, vr x0), (1, .int x1)] → k16 x0 x1 σ = some (r, τ) → WG p l e s m args below meth c D dA base 2 40 none σ0 τ σ H locs 16 ls []) (x0 : Nat) (x1 : Int32) {σ : HS} {H : Heap} {locs : List Loc} {ls : Array Slot} (h : Wd D dA base σ s H locs) (g : LE σ0 σ) (hl : lv_has ls 2 [(0, vr x0), (1, .int x1)]) (hF : B_X3_init_16 k16 x0 x1 σ = some (r, τ)) : WG p l e s m args below meth c D dA base 2 40 none σ0 τ σ H locs 16 ls [] := by
  obtain ⟨hx, hb, -⟩ := id cx
  unfold B_X3_init_16 at hF
  refine lv_iload_n hx hb dX3_init_16 rfl (lv_at hl 1 rfl) ?_
  refine lv_sipush (v := (256 : Int32)) hx hb dX3_init_17 (by decide) ?_
  refine lv_icmp_ge (tgt := 42) hx hb dX3_init_20 (by decide) (fun c1 => ?_) (fun c1 => ?_)
  · replace hF := ifp c1 hF
    obtain ⟨rfl, rfl⟩ := rts hF
    exact x_vret cx h dX3_init_42
  · replace hF := ifn c1 hF
    refine x_aload_n hx hb dX3_init_23 rfl (lv_at hl 0 rfl) ?_
    obtain ⟨hq2, hF⟩ := ifs hF
    refine x_getr cx h fa_X3_11 (f := 120) rfl hq2 dX3_init_24 ?_
    refine lv_iload_n hx hb dX3_init_27 rfl (lv_at hl 1 rfl) ?_
    obtain ⟨σ3, e3, hF⟩ := lts hF
    refine x_newG (σ := σ) cx h g (by rw [← e3]; exact LEm hF (mo_bd (mo_F_X0_init (hs σ + 1) _) (fun r4 σ4 => (mo_ite (mo_ite (mo_le (τ := (sar σ4 (gr σ 120 x0) x1.toNatClampNeg (hs σ + 1))) ⟨Nat.le_refl _, Nat.le_refl _⟩ (mk16 x0 (x1 + (1 : Int32)) _)) mo_none) mo_none)))) nl_X3_9 dX3_init_28 (fun H h g => ?_)
    have h := Wd.nm e3 h
    have g := LE.nm e3 g
    refine W.cs (cells' := hs σ3 - hs σ0) (slots' := ns σ3 - ns σ0) (by rw [e3]; try rfl) (by rw [e3]; try rfl) ?_
    refine lv_dup hx hb dX3_init_31 (vr_cat _) ?_
    obtain ⟨r4, σ4, hc4, hF⟩ := bds hF
    refine x_callv (σ := σ3) g (LEm hc4 (mo_F_X0_init (hs σ + 1) _)) (x_runIN (As := []) (rest := [vr (hs σ + 1), .int x1, vr (gr σ 120 x0)]) cx h (c_X0_init l D dA base (hs σ + 1) hc4) ml_X3_17 mi_X0_init (by rw [e3]; exact kd_nw_self σ 1 5) rfl ⟨Nat.le_of_ble_eq_true rfl, Nat.le_of_ble_eq_true rfl⟩ hl.1 rfl (s8 (sR (sI (sR sN))) (by decide)) dX3_init_32 (le_room g (LEm hc4 (mo_F_X0_init (hs σ + 1) _)) (LEm hF (mo_ite (mo_ite (mo_le (τ := (sar σ4 (gr σ 120 x0) x1.toNatClampNeg (hs σ + 1))) ⟨Nat.le_refl _, Nat.le_refl _⟩ (mk16 x0 (x1 + (1 : Int32)) _)) mo_none) mo_none)))) h (fun H locs h g => ?_)
    obtain ⟨hq5, hF⟩ := ifs hF
    obtain ⟨hq6, hF⟩ := ifs hF
    refine x_aast cx h RA2 (by decide) hq5.1 (inb.vp hq5.2) hq6 dX3_init_35 (fun H locs h => ?_)
    refine x_iinc (k := 1) (v := (1 : Int32)) (lv' := [(1, .int (x1 + (1 : Int32))), (0, vr x0)]) hx hb dX3_init_36 hl rfl (by decide) (by decide) (cR (cI cN)) rfl (fun ls hl => ?_)
    refine lv_goto (tgt := 16) hx hb dX3_init_39 (by decide) ?_
    exact hk16 x0 (x1 + (1 : Int32)) (sar σ4 (gr σ 120 x0) x1.toNatClampNeg (hs σ + 1)) _ _ _ h g (lv_sub hl [1, 0] rfl) hF
def L_X3_init_16  : Nat → Nat → Int32 → HS → Option (Unit × HS)
  | 0, _, _, _ => none
  | N + 1, x0, x1, σ => B_X3_init_16 (L_X3_init_16  N) x0 x1 σ
theorem mo_L_X3_init_16  : ∀ (N : Nat) (x0 : Nat) (x1 : Int32) (σ : HS), Mo σ (L_X3_init_16  N x0 x1 σ) := by
  intro N
  induction N with
  | zero => intro x0 x1 σ; exact mo_none
  | succ N ih => intro x0 x1 σ; exact mo_B_X3_init_16 ih x0 x1 σ
theorem wl_X3_init_16 {p : Program} {l : Launch} {e : Env} {s : State} {m : MethodId} {args : Array Value} {below : List Frame} {meth : Method} {c : Code} {D : va_G} {dA : Nat → ClassId} {base : Nat} {σ0 τ : HS} {r : Unit} (cx : CX p s m args meth c cX3_init 2 none RX3 "<init>" D dA base)  : ∀ (N : Nat) (x0 : Nat) (x1 : Int32) (σ : HS) (H : Heap) (locs : List Loc) (ls : Array Slot), Wd D dA base σ s H locs → LE σ0 σ → lv_has ls 2 [(0, vr x0), (1, .int x1)] → L_X3_init_16  N x0 x1 σ = some (r, τ) → WG p l e s m args below meth c D dA base 2 40 none σ0 τ σ H locs 16 ls [] := by
  intro N
  induction N with
  | zero => intro x0 x1 σ H locs ls h g hl hF; cases hF
  | succ N ih => intro x0 x1 σ H locs ls h g hl hF; exact w_X3_init_16 cx (mo_L_X3_init_16  N) ih x0 x1 h g hl hF
def F_X3_init (a0 : Nat) (σ : HS) : Option (Unit × HS) :=
  if kd σ a0 = 4 then (lt1 (nw σ 102 256) (fun σ2 => if kd σ2 a0 = 4 then (L_X3_init_16  NF a0 (0 : Int32) (sr σ2 120 a0 (hs σ + 1))) else none)) else none
theorem mo_F_X3_init (a0 : Nat) (σ : HS) : Mo σ (F_X3_init a0 σ) := by
  unfold F_X3_init
  exact (mo_ite (mo_lt LE.nw (fun σ2 => (mo_ite (mo_le (τ := (sr σ2 120 a0 (hs σ + 1))) ⟨Nat.le_refl _, Nat.le_refl _⟩ (mo_L_X3_init_16  NF a0 (0 : Int32) _)) mo_none))) mo_none)
set_option maxHeartbeats 4000000 in
set_option maxRecDepth 100000 in
theorem c_X3_init (l : Launch) (D : va_G) (dA : Nat → ClassId) (base : Nat) (a0 : Nat) {σ τ : HS} {r : Unit} (hF : F_X3_init a0 σ = some (r, τ)) : CT l yX3_init cX3_init 2 none 2 40 D dA base [vr a0] none σ τ := by
  refine CT.of (lv := [(0, vr a0)]) (by decide) (vR vN) (Nat.le_of_ble_eq_true rfl) rfl ?_
  intro p e s m args below meth c ls cx hl h
  have cx : CX p s m args meth c cX3_init 2 none RX3 "<init>" D dA base := cx
  have g : LE σ σ := LE.rf
  obtain ⟨hx, hb, -⟩ := id cx
  unfold F_X3_init at hF
  refine x_aload_n hx hb dX3_init_0 rfl (lv_at hl 0 rfl) ?_
  obtain ⟨hq1, hF⟩ := ifs hF
  refine x_obj cx h ml_X3_3 hq1 hl.1 ⟨Nat.le_of_ble_eq_true rfl, Nat.le_of_ble_eq_true rfl⟩ (s8 sN (by decide)) dX3_init_1 ?_
  refine x_aload_n hx hb dX3_init_4 rfl (lv_at hl 0 rfl) ?_
  refine lv_sipush (v := (256 : Int32)) hx hb dX3_init_5 (by decide) ?_
  obtain ⟨σ2, e2, hF⟩ := lts hF
  refine x_newqG (σ := σ) (j := 2) (N := 256) cx h g (by rw [← e2]; exact LEm hF (mo_ite (mo_le (τ := (sr σ2 120 a0 (hs σ + 1))) ⟨Nat.le_refl _, Nat.le_refl _⟩ (mo_L_X3_init_16  NF a0 (0 : Int32) _)) mo_none)) (by decide) (fun _ => rfl) (fun _ hU => hU.2.2.1) cl_X3_9 (by decide) (by decide) (by decide) dX3_init_8 (fun H h g => ?_)
  have h := Wd.nm e2 h
  have g := LE.nm e2 g
  refine W.cs (cells' := hs σ2 - hs σ) (slots' := ns σ2 - ns σ) (by rw [e2]; try rfl) (by rw [e2]; try rfl) ?_
  obtain ⟨hq3, hF⟩ := ifs hF
  refine x_str cx h fa_X3_11 (f := 120) rfl (Or.inr ⟨rfl, rfl, _, _, rfl⟩) hq3 dX3_init_11 (fun H locs h => ?_)
  refine lv_iconst (v := (0 : Int32)) hx hb dX3_init_14 (by decide) ?_
  refine x_istore_n (lv' := [(1, .int (0 : Int32)), (0, vr a0)]) hx hb dX3_init_15 rfl hl (by decide) (cR cN) rfl (fun ls hl => ?_)
  exact wl_X3_init_16 cx   NF a0 (0 : Int32) (sr σ2 120 a0 (hs σ + 1)) _ _ _ h g (lv_sub hl [1, 0] rfl) hF
def F_X3_addLine (a0 : Nat) (a1 : Int32) (σ : HS) : Option (Unit × HS) :=
  if kd σ a0 = 4 then (lt1 (si (si σ 121 a0 ((gi σ 121 a0) + a1)) 122 a0 ((gi (si σ 121 a0 ((gi σ 121 a0) + a1)) 122 a0) + (1 : Int32))) (fun σ2 => some ((), σ2))) else none
theorem mo_F_X3_addLine (a0 : Nat) (a1 : Int32) (σ : HS) : Mo σ (F_X3_addLine a0 a1 σ) := by
  unfold F_X3_addLine
  exact (mo_ite (mo_lt ⟨Nat.le_refl _, Nat.le_refl _⟩ (fun σ2 => mo_ret)) mo_none)
set_option maxHeartbeats 4000000 in
set_option maxRecDepth 100000 in
theorem c_X3_addLine (l : Launch) (D : va_G) (dA : Nat → ClassId) (base : Nat) (a0 : Nat) (a1 : Int32) {σ τ : HS} {r : Unit} (hF : F_X3_addLine a0 a1 σ = some (r, τ)) : CT l yX3_addLine cX3_addLine 2 none 0 0 D dA base [vr a0, .int a1] none σ τ := by
  refine CT.of (lv := [(0, vr a0), (1, .int a1)]) (by decide) (vR (vI vN)) (Nat.le_of_ble_eq_true rfl) rfl ?_
  intro p e s m args below meth c ls cx hl h
  have cx : CX p s m args meth c cX3_addLine 2 none RX3 "addLine" D dA base := cx
  have g : LE σ σ := LE.rf
  obtain ⟨hx, hb, -⟩ := id cx
  unfold F_X3_addLine at hF
  refine x_aload_n hx hb dX3_addLine_0 rfl (lv_at hl 0 rfl) ?_
  refine lv_dup hx hb dX3_addLine_1 (vr_cat _) ?_
  obtain ⟨hq1, hF⟩ := ifs hF
  refine x_geti cx h fa_X3_52 (f := 121) rfl hq1 dX3_addLine_2 ?_
  refine lv_iload_n hx hb dX3_addLine_5 rfl (lv_at hl 1 rfl) ?_
  refine lv_iadd hx hb dX3_addLine_6 ?_
  refine x_sti cx h fa_X3_52 (f := 121) rfl (Or.inl rfl) hq1 dX3_addLine_7 (fun H locs h => ?_)
  refine x_aload_n hx hb dX3_addLine_10 rfl (lv_at hl 0 rfl) ?_
  refine lv_dup hx hb dX3_addLine_11 (vr_cat _) ?_
  refine x_geti cx h fa_X3_55 (f := 122) rfl hq1 dX3_addLine_12 ?_
  refine lv_iconst (v := (1 : Int32)) hx hb dX3_addLine_15 (by decide) ?_
  refine lv_iadd hx hb dX3_addLine_16 ?_
  refine x_sti cx h fa_X3_55 (f := 122) rfl (Or.inl rfl) hq1 dX3_addLine_17 (fun H locs h => ?_)
  obtain ⟨σ2, e2, hF⟩ := lts hF
  have h := Wd.nm e2 h
  have g := LE.nm e2 g
  refine W.cs (cells' := hs σ2 - hs σ) (slots' := ns σ2 - ns σ) (by rw [e2]; try rfl) (by rw [e2]; try rfl) ?_
  obtain ⟨rfl, rfl⟩ := rts hF
  exact x_vret cx h dX3_addLine_20
def F_X3_addData (a0 : Nat) (a1 : Nat) (a2 : Int32) (a3 : Int32) (σ : HS) : Option (Unit × HS) :=
  lt1 (nw σ 2 3) (fun σ1 => if kd σ1 a1 = 1 then (bd (F_X1_init (hs σ + 1) a2 a3 (gr σ1 0 a1) σ1) (fun r3 σ3 => if kd σ3 a1 = 1 then (if kd (sr σ3 0 a1 (hs σ + 1)) a0 = 4 then (bd (F_X3_addLine a0 (1 : Int32) (sr σ3 0 a1 (hs σ + 1))) (fun r6 σ6 => some ((), σ6))) else none) else none)) else none)
theorem mo_F_X3_addData (a0 : Nat) (a1 : Nat) (a2 : Int32) (a3 : Int32) (σ : HS) : Mo σ (F_X3_addData a0 a1 a2 a3 σ) := by
  unfold F_X3_addData
  exact (mo_lt LE.nw (fun σ1 => (mo_ite (mo_bd (mo_F_X1_init (hs σ + 1) a2 a3 (gr σ1 0 a1) _) (fun r3 σ3 => (mo_ite (mo_ite (mo_le (τ := (sr σ3 0 a1 (hs σ + 1))) ⟨Nat.le_refl _, Nat.le_refl _⟩ (mo_bd (mo_F_X3_addLine a0 (1 : Int32) _) (fun r6 σ6 => mo_ret))) mo_none) mo_none))) mo_none)))
set_option maxHeartbeats 4000000 in
set_option maxRecDepth 100000 in
theorem c_X3_addData (l : Launch) (D : va_G) (dA : Nat → ClassId) (base : Nat) (a0 : Nat) (a1 : Nat) (a2 : Int32) (a3 : Int32) {σ τ : HS} {r : Unit} (hF : F_X3_addData a0 a1 a2 a3 σ = some (r, τ)) : CT l yX3_addData cX3_addData 4 none 2 43 D dA base [vr a0, vr a1, .int a2, .int a3] none σ τ := by
  refine CT.of (lv := [(0, vr a0), (1, vr a1), (2, .int a2), (3, .int a3)]) (by decide) (vR (vR (vI (vI vN)))) (Nat.le_of_ble_eq_true rfl) rfl ?_
  intro p e s m args below meth c ls cx hl h
  have cx : CX p s m args meth c cX3_addData 4 none RX3 "addData" D dA base := cx
  have g : LE σ σ := LE.rf
  obtain ⟨hx, hb, -⟩ := id cx
  unfold F_X3_addData at hF
  refine x_aload_n hx hb dX3_addData_0 rfl (lv_at hl 1 rfl) ?_
  obtain ⟨σ1, e1, hF⟩ := lts hF
  refine x_newG (σ := σ) cx h g (by rw [← e1]; exact LEm hF (mo_ite (mo_bd (mo_F_X1_init (hs σ + 1) a2 a3 (gr σ1 0 a1) _) (fun r3 σ3 => (mo_ite (mo_ite (mo_le (τ := (sr σ3 0 a1 (hs σ + 1))) ⟨Nat.le_refl _, Nat.le_refl _⟩ (mo_bd (mo_F_X3_addLine a0 (1 : Int32) _) (fun r6 σ6 => mo_ret))) mo_none) mo_none))) mo_none)) nl_X3_18 dX3_addData_1 (fun H h g => ?_)
  have h := Wd.nm e1 h
  have g := LE.nm e1 g
  refine W.cs (cells' := hs σ1 - hs σ) (slots' := ns σ1 - ns σ) (by rw [e1]; try rfl) (by rw [e1]; try rfl) ?_
  refine lv_dup hx hb dX3_addData_4 (vr_cat _) ?_
  refine lv_iload_n hx hb dX3_addData_5 rfl (lv_at hl 2 rfl) ?_
  refine lv_iload_n hx hb dX3_addData_6 rfl (lv_at hl 3 rfl) ?_
  refine x_aload_n hx hb dX3_addData_7 rfl (lv_at hl 1 rfl) ?_
  obtain ⟨hq2, hF⟩ := ifs hF
  refine x_getr cx h fa_X3_20 (f := 0) rfl hq2 dX3_addData_8 ?_
  obtain ⟨r3, σ3, hc3, hF⟩ := bds hF
  refine x_callv (σ := σ1) g (LEm hc3 (mo_F_X1_init (hs σ + 1) a2 a3 (gr σ1 0 a1) _)) (x_runI (As := [.int a2, .int a3, vr (gr σ1 0 a1)]) (rest := [vr (hs σ + 1), vr a1]) cx h (c_X1_init l D dA base (hs σ + 1) a2 a3 (gr σ1 0 a1) hc3) ml_X3_24 mi_X1_init (by rw [e1]; exact kd_nw_self σ 2 3) rfl ⟨Nat.le_of_ble_eq_true rfl, Nat.le_of_ble_eq_true rfl⟩ hl.1 rfl (s8 (sR (sR sN)) (by decide)) dX3_addData_11 (le_room g (LEm hc3 (mo_F_X1_init (hs σ + 1) a2 a3 (gr σ1 0 a1) _)) (LEm hF (mo_ite (mo_ite (mo_le (τ := (sr σ3 0 a1 (hs σ + 1))) ⟨Nat.le_refl _, Nat.le_refl _⟩ (mo_bd (mo_F_X3_addLine a0 (1 : Int32) _) (fun r6 σ6 => mo_ret))) mo_none) mo_none)))) h (fun H locs h g => ?_)
  obtain ⟨hq4, hF⟩ := ifs hF
  refine x_str cx h fa_X3_20 (f := 0) rfl (Or.inl rfl) hq4 dX3_addData_14 (fun H locs h => ?_)
  refine x_aload_n hx hb dX3_addData_17 rfl (lv_at hl 0 rfl) ?_
  refine lv_iconst (v := (1 : Int32)) hx hb dX3_addData_18 (by decide) ?_
  obtain ⟨hq5, hF⟩ := ifs hF
  obtain ⟨r6, σ6, hc6, hF⟩ := bds hF
  refine x_callv (σ := (sr σ3 0 a1 (hs σ + 1))) g (LEm hc6 (mo_F_X3_addLine a0 (1 : Int32) _)) (x_runV (As := [.int (1 : Int32)]) (rest := []) cx h (c_X3_addLine l D dA base a0 (1 : Int32) hc6) ml_X3_27 mi_X3_addLine hq5 rfl ⟨Nat.le_of_ble_eq_true rfl, Nat.le_of_ble_eq_true rfl⟩ hl.1 rfl (s8 sN (by decide)) dX3_addData_19 (le_room g (LEm hc6 (mo_F_X3_addLine a0 (1 : Int32) _)) (LEm hF mo_ret))) h (fun H locs h g => ?_)
  obtain ⟨rfl, rfl⟩ := rts hF
  exact x_vret cx h dX3_addData_22
def B_X3_dropData_30   (σ : HS) : Option (Unit × HS) :=
  some ((), σ)
theorem mo_B_X3_dropData_30   (σ : HS) : Mo σ (B_X3_dropData_30   σ) := by
  unfold B_X3_dropData_30
  exact mo_ret
set_option maxHeartbeats 4000000 in
set_option maxRecDepth 100000 in
theorem w_X3_dropData_30 {p : Program} {l : Launch} {e : Env} {s : State} {m : MethodId} {args : Array Value} {below : List Frame} {meth : Method} {c : Code} {D : va_G} {dA : Nat → ClassId} {base : Nat} {σ0 τ : HS} {r : Unit} (cx : CX p s m args meth c cX3_dropData 4 none RX3 "dropData" D dA base)   {σ : HS} {H : Heap} {locs : List Loc} {ls : Array Slot} (h : Wd D dA base σ s H locs) (g : LE σ0 σ) (hl : lv_has ls 4 []) (hF : B_X3_dropData_30   σ = some (r, τ)) : WG p l e s m args below meth c D dA base 1 22 none σ0 τ σ H locs 30 ls [] := by
  obtain ⟨hx, hb, -⟩ := id cx
  unfold B_X3_dropData_30 at hF
  obtain ⟨rfl, rfl⟩ := rts hF
  exact x_vret cx h dX3_dropData_30
def F_X3_dropData (a0 : Nat) (a1 : Nat) (a2 : Int32) (σ : HS) : Option (Unit × HS) :=
  if kd σ a1 = 1 then (bd (F_X1_withKey (gr σ 0 a1) a2 σ) (fun r2 σ2 => if r2 = 0 then (B_X3_dropData_30   σ2) else (if kd σ2 a1 = 1 then (bd (F_X1_without (gr σ2 0 a1) r2 σ2) (fun r5 σ5 => if kd σ5 a1 = 1 then (if kd (sr σ5 0 a1 r5) a0 = 4 then (bd (F_X3_addLine a0 (-1 : Int32) (sr σ5 0 a1 r5)) (fun r8 σ8 => B_X3_dropData_30   σ8)) else none) else none)) else none))) else none
theorem mo_F_X3_dropData (a0 : Nat) (a1 : Nat) (a2 : Int32) (σ : HS) : Mo σ (F_X3_dropData a0 a1 a2 σ) := by
  unfold F_X3_dropData
  exact (mo_ite (mo_bd (mo_F_X1_withKey (gr σ 0 a1) a2 _) (fun r2 σ2 => (mo_ite (mo_B_X3_dropData_30   _) (mo_ite (mo_bd (mo_F_X1_without (gr σ2 0 a1) r2 _) (fun r5 σ5 => (mo_ite (mo_ite (mo_le (τ := (sr σ5 0 a1 r5)) ⟨Nat.le_refl _, Nat.le_refl _⟩ (mo_bd (mo_F_X3_addLine a0 (-1 : Int32) _) (fun r8 σ8 => (mo_B_X3_dropData_30   _)))) mo_none) mo_none))) mo_none)))) mo_none)
set_option maxHeartbeats 4000000 in
set_option maxRecDepth 100000 in
theorem c_X3_dropData (l : Launch) (D : va_G) (dA : Nat → ClassId) (base : Nat) (a0 : Nat) (a1 : Nat) (a2 : Int32) {σ τ : HS} {r : Unit} (hF : F_X3_dropData a0 a1 a2 σ = some (r, τ)) : CT l yX3_dropData cX3_dropData 4 none 1 22 D dA base [vr a0, vr a1, .int a2] none σ τ := by
  refine CT.of (lv := [(0, vr a0), (1, vr a1), (2, .int a2)]) (by decide) (vR (vR (vI vN))) (Nat.le_of_ble_eq_true rfl) rfl ?_
  intro p e s m args below meth c ls cx hl h
  have cx : CX p s m args meth c cX3_dropData 4 none RX3 "dropData" D dA base := cx
  have g : LE σ σ := LE.rf
  obtain ⟨hx, hb, -⟩ := id cx
  unfold F_X3_dropData at hF
  refine x_aload_n hx hb dX3_dropData_0 rfl (lv_at hl 1 rfl) ?_
  obtain ⟨hq1, hF⟩ := ifs hF
  refine x_getr cx h fa_X3_20 (f := 0) rfl hq1 dX3_dropData_1 ?_
  refine lv_iload_n hx hb dX3_dropData_4 rfl (lv_at hl 2 rfl) ?_
  obtain ⟨r2, σ2, hc2, hF⟩ := bds hF
  refine x_callr (σ := σ) g (LEm hc2 (mo_F_X1_withKey (gr σ 0 a1) a2 _)) (x_runS (As := [vr (gr σ 0 a1), .int a2]) (rest := []) cx h (c_X1_withKey l D dA base (gr σ 0 a1) a2 hc2) ml_X3_31 mi_X1_withKey rfl ⟨Nat.le_of_ble_eq_true rfl, Nat.le_of_ble_eq_true rfl⟩ hl.1 rfl (s8 sN (by decide)) dX3_dropData_5 (le_room g (LEm hc2 (mo_F_X1_withKey (gr σ 0 a1) a2 _)) (LEm hF (mo_ite (mo_B_X3_dropData_30   _) (mo_ite (mo_bd (mo_F_X1_without (gr σ2 0 a1) r2 _) (fun r5 σ5 => (mo_ite (mo_ite (mo_le (τ := (sr σ5 0 a1 r5)) ⟨Nat.le_refl _, Nat.le_refl _⟩ (mo_bd (mo_F_X3_addLine a0 (-1 : Int32) _) (fun r8 σ8 => (mo_B_X3_dropData_30   _)))) mo_none) mo_none))) mo_none))))) h (fun H locs h g => ?_)
  refine x_astore_n (lv' := [(3, vr r2), (0, vr a0), (1, vr a1), (2, .int a2)]) hx hb dX3_dropData_8 rfl hl (by decide) (cR (cR (cI cN))) rfl (fun ls hl => ?_)
  refine x_aload_n hx hb dX3_dropData_9 rfl (lv_at hl 0 rfl) ?_
  refine x_ifnull (tgt := 30) hx hb dX3_dropData_10 (by decide) (fun c3 => ?_) (fun c3 => ?_)
  · replace hF := ifp c3 hF
    exact w_X3_dropData_30 (σ := σ2) cx    h g (lv_sub hl [] rfl) hF
  · replace hF := ifn c3 hF
    refine x_aload_n hx hb dX3_dropData_13 rfl (lv_at hl 2 rfl) ?_
    refine x_aload_n hx hb dX3_dropData_14 rfl (lv_at hl 2 rfl) ?_
    obtain ⟨hq4, hF⟩ := ifs hF
    refine x_getr cx h fa_X3_20 (f := 0) rfl hq4 dX3_dropData_15 ?_
    refine x_aload_n hx hb dX3_dropData_18 rfl (lv_at hl 0 rfl) ?_
    obtain ⟨r5, σ5, hc5, hF⟩ := bds hF
    refine x_callr (σ := σ2) g (LEm hc5 (mo_F_X1_without (gr σ2 0 a1) r2 _)) (x_runS (As := [vr (gr σ2 0 a1), vr r2]) (rest := [vr a1]) cx h (c_X1_without l D dA base (gr σ2 0 a1) r2 hc5) ml_X3_35 mi_X1_without rfl ⟨Nat.le_of_ble_eq_true rfl, Nat.le_of_ble_eq_true rfl⟩ hl.1 rfl (s8 (sR sN) (by decide)) dX3_dropData_19 (le_room g (LEm hc5 (mo_F_X1_without (gr σ2 0 a1) r2 _)) (LEm hF (mo_ite (mo_ite (mo_le (τ := (sr σ5 0 a1 r5)) ⟨Nat.le_refl _, Nat.le_refl _⟩ (mo_bd (mo_F_X3_addLine a0 (-1 : Int32) _) (fun r8 σ8 => (mo_B_X3_dropData_30   _)))) mo_none) mo_none)))) h (fun H locs h g => ?_)
    obtain ⟨hq6, hF⟩ := ifs hF
    refine x_str cx h fa_X3_20 (f := 0) rfl (Or.inl rfl) hq6 dX3_dropData_22 (fun H locs h => ?_)
    refine x_aload_n hx hb dX3_dropData_25 rfl (lv_at hl 1 rfl) ?_
    refine lv_iconst (v := (-1 : Int32)) hx hb dX3_dropData_26 (by decide) ?_
    obtain ⟨hq7, hF⟩ := ifs hF
    obtain ⟨r8, σ8, hc8, hF⟩ := bds hF
    refine x_callv (σ := (sr σ5 0 a1 r5)) g (LEm hc8 (mo_F_X3_addLine a0 (-1 : Int32) _)) (x_runV (As := [.int (-1 : Int32)]) (rest := []) cx h (c_X3_addLine l D dA base a0 (-1 : Int32) hc8) ml_X3_27 mi_X3_addLine hq7 rfl ⟨Nat.le_of_ble_eq_true rfl, Nat.le_of_ble_eq_true rfl⟩ hl.1 rfl (s8 sN (by decide)) dX3_dropData_27 (le_room g (LEm hc8 (mo_F_X3_addLine a0 (-1 : Int32) _)) (LEm hF (mo_B_X3_dropData_30   _)))) h (fun H locs h g => ?_)
    exact w_X3_dropData_30 (σ := σ8) cx    h g (lv_sub hl [] rfl) hF
def F_X3_addWrite (a0 : Nat) (a1 : Nat) (a2 : Int32) (a3 : Int32) (σ : HS) : Option (Unit × HS) :=
  lt1 (nw σ 2 3) (fun σ1 => if kd σ1 a1 = 1 then (bd (F_X1_init (hs σ + 1) a2 a3 (gr σ1 1 a1) σ1) (fun r3 σ3 => if kd σ3 a1 = 1 then (if kd (sr σ3 1 a1 (hs σ + 1)) a0 = 4 then (bd (F_X3_addLine a0 (1 : Int32) (sr σ3 1 a1 (hs σ + 1))) (fun r6 σ6 => some ((), σ6))) else none) else none)) else none)
theorem mo_F_X3_addWrite (a0 : Nat) (a1 : Nat) (a2 : Int32) (a3 : Int32) (σ : HS) : Mo σ (F_X3_addWrite a0 a1 a2 a3 σ) := by
  unfold F_X3_addWrite
  exact (mo_lt LE.nw (fun σ1 => (mo_ite (mo_bd (mo_F_X1_init (hs σ + 1) a2 a3 (gr σ1 1 a1) _) (fun r3 σ3 => (mo_ite (mo_ite (mo_le (τ := (sr σ3 1 a1 (hs σ + 1))) ⟨Nat.le_refl _, Nat.le_refl _⟩ (mo_bd (mo_F_X3_addLine a0 (1 : Int32) _) (fun r6 σ6 => mo_ret))) mo_none) mo_none))) mo_none)))
set_option maxHeartbeats 4000000 in
set_option maxRecDepth 100000 in
theorem c_X3_addWrite (l : Launch) (D : va_G) (dA : Nat → ClassId) (base : Nat) (a0 : Nat) (a1 : Nat) (a2 : Int32) (a3 : Int32) {σ τ : HS} {r : Unit} (hF : F_X3_addWrite a0 a1 a2 a3 σ = some (r, τ)) : CT l yX3_addWrite cX3_addWrite 4 none 2 43 D dA base [vr a0, vr a1, .int a2, .int a3] none σ τ := by
  refine CT.of (lv := [(0, vr a0), (1, vr a1), (2, .int a2), (3, .int a3)]) (by decide) (vR (vR (vI (vI vN)))) (Nat.le_of_ble_eq_true rfl) rfl ?_
  intro p e s m args below meth c ls cx hl h
  have cx : CX p s m args meth c cX3_addWrite 4 none RX3 "addWrite" D dA base := cx
  have g : LE σ σ := LE.rf
  obtain ⟨hx, hb, -⟩ := id cx
  unfold F_X3_addWrite at hF
  refine x_aload_n hx hb dX3_addWrite_0 rfl (lv_at hl 1 rfl) ?_
  obtain ⟨σ1, e1, hF⟩ := lts hF
  refine x_newG (σ := σ) cx h g (by rw [← e1]; exact LEm hF (mo_ite (mo_bd (mo_F_X1_init (hs σ + 1) a2 a3 (gr σ1 1 a1) _) (fun r3 σ3 => (mo_ite (mo_ite (mo_le (τ := (sr σ3 1 a1 (hs σ + 1))) ⟨Nat.le_refl _, Nat.le_refl _⟩ (mo_bd (mo_F_X3_addLine a0 (1 : Int32) _) (fun r6 σ6 => mo_ret))) mo_none) mo_none))) mo_none)) nl_X3_18 dX3_addWrite_1 (fun H h g => ?_)
  have h := Wd.nm e1 h
  have g := LE.nm e1 g
  refine W.cs (cells' := hs σ1 - hs σ) (slots' := ns σ1 - ns σ) (by rw [e1]; try rfl) (by rw [e1]; try rfl) ?_
  refine lv_dup hx hb dX3_addWrite_4 (vr_cat _) ?_
  refine lv_iload_n hx hb dX3_addWrite_5 rfl (lv_at hl 2 rfl) ?_
  refine lv_iload_n hx hb dX3_addWrite_6 rfl (lv_at hl 3 rfl) ?_
  refine x_aload_n hx hb dX3_addWrite_7 rfl (lv_at hl 1 rfl) ?_
  obtain ⟨hq2, hF⟩ := ifs hF
  refine x_getr cx h fa_X3_39 (f := 1) rfl hq2 dX3_addWrite_8 ?_
  obtain ⟨r3, σ3, hc3, hF⟩ := bds hF
  refine x_callv (σ := σ1) g (LEm hc3 (mo_F_X1_init (hs σ + 1) a2 a3 (gr σ1 1 a1) _)) (x_runI (As := [.int a2, .int a3, vr (gr σ1 1 a1)]) (rest := [vr (hs σ + 1), vr a1]) cx h (c_X1_init l D dA base (hs σ + 1) a2 a3 (gr σ1 1 a1) hc3) ml_X3_24 mi_X1_init (by rw [e1]; exact kd_nw_self σ 2 3) rfl ⟨Nat.le_of_ble_eq_true rfl, Nat.le_of_ble_eq_true rfl⟩ hl.1 rfl (s8 (sR (sR sN)) (by decide)) dX3_addWrite_11 (le_room g (LEm hc3 (mo_F_X1_init (hs σ + 1) a2 a3 (gr σ1 1 a1) _)) (LEm hF (mo_ite (mo_ite (mo_le (τ := (sr σ3 1 a1 (hs σ + 1))) ⟨Nat.le_refl _, Nat.le_refl _⟩ (mo_bd (mo_F_X3_addLine a0 (1 : Int32) _) (fun r6 σ6 => mo_ret))) mo_none) mo_none)))) h (fun H locs h g => ?_)
  obtain ⟨hq4, hF⟩ := ifs hF
  refine x_str cx h fa_X3_39 (f := 1) rfl (Or.inl rfl) hq4 dX3_addWrite_14 (fun H locs h => ?_)
  refine x_aload_n hx hb dX3_addWrite_17 rfl (lv_at hl 0 rfl) ?_
  refine lv_iconst (v := (1 : Int32)) hx hb dX3_addWrite_18 (by decide) ?_
  obtain ⟨hq5, hF⟩ := ifs hF
  obtain ⟨r6, σ6, hc6, hF⟩ := bds hF
  refine x_callv (σ := (sr σ3 1 a1 (hs σ + 1))) g (LEm hc6 (mo_F_X3_addLine a0 (1 : Int32) _)) (x_runV (As := [.int (1 : Int32)]) (rest := []) cx h (c_X3_addLine l D dA base a0 (1 : Int32) hc6) ml_X3_27 mi_X3_addLine hq5 rfl ⟨Nat.le_of_ble_eq_true rfl, Nat.le_of_ble_eq_true rfl⟩ hl.1 rfl (s8 sN (by decide)) dX3_addWrite_19 (le_room g (LEm hc6 (mo_F_X3_addLine a0 (1 : Int32) _)) (LEm hF mo_ret))) h (fun H locs h g => ?_)
  obtain ⟨rfl, rfl⟩ := rts hF
  exact x_vret cx h dX3_addWrite_22
def F_X3_dropWrite (a0 : Nat) (a1 : Nat) (a2 : Nat) (σ : HS) : Option (Unit × HS) :=
  if kd σ a1 = 1 then (bd (F_X1_without (gr σ 1 a1) a2 σ) (fun r2 σ2 => if kd σ2 a1 = 1 then (if kd (sr σ2 1 a1 r2) a0 = 4 then (bd (F_X3_addLine a0 (-1 : Int32) (sr σ2 1 a1 r2)) (fun r5 σ5 => some ((), σ5))) else none) else none)) else none
theorem mo_F_X3_dropWrite (a0 : Nat) (a1 : Nat) (a2 : Nat) (σ : HS) : Mo σ (F_X3_dropWrite a0 a1 a2 σ) := by
  unfold F_X3_dropWrite
  exact (mo_ite (mo_bd (mo_F_X1_without (gr σ 1 a1) a2 _) (fun r2 σ2 => (mo_ite (mo_ite (mo_le (τ := (sr σ2 1 a1 r2)) ⟨Nat.le_refl _, Nat.le_refl _⟩ (mo_bd (mo_F_X3_addLine a0 (-1 : Int32) _) (fun r5 σ5 => mo_ret))) mo_none) mo_none))) mo_none)
set_option maxHeartbeats 4000000 in
set_option maxRecDepth 100000 in
theorem c_X3_dropWrite (l : Launch) (D : va_G) (dA : Nat → ClassId) (base : Nat) (a0 : Nat) (a1 : Nat) (a2 : Nat) {σ τ : HS} {r : Unit} (hF : F_X3_dropWrite a0 a1 a2 σ = some (r, τ)) : CT l yX3_dropWrite cX3_dropWrite 3 none 1 22 D dA base [vr a0, vr a1, vr a2] none σ τ := by
  refine CT.of (lv := [(0, vr a0), (1, vr a1), (2, vr a2)]) (by decide) (vR (vR (vR vN))) (Nat.le_of_ble_eq_true rfl) rfl ?_
  intro p e s m args below meth c ls cx hl h
  have cx : CX p s m args meth c cX3_dropWrite 3 none RX3 "dropWrite" D dA base := cx
  have g : LE σ σ := LE.rf
  obtain ⟨hx, hb, -⟩ := id cx
  unfold F_X3_dropWrite at hF
  refine x_aload_n hx hb dX3_dropWrite_0 rfl (lv_at hl 1 rfl) ?_
  refine x_aload_n hx hb dX3_dropWrite_1 rfl (lv_at hl 1 rfl) ?_
  obtain ⟨hq1, hF⟩ := ifs hF
  refine x_getr cx h fa_X3_39 (f := 1) rfl hq1 dX3_dropWrite_2 ?_
  refine x_aload_n hx hb dX3_dropWrite_5 rfl (lv_at hl 2 rfl) ?_
  obtain ⟨r2, σ2, hc2, hF⟩ := bds hF
  refine x_callr (σ := σ) g (LEm hc2 (mo_F_X1_without (gr σ 1 a1) a2 _)) (x_runS (As := [vr (gr σ 1 a1), vr a2]) (rest := [vr a1]) cx h (c_X1_without l D dA base (gr σ 1 a1) a2 hc2) ml_X3_35 mi_X1_without rfl ⟨Nat.le_of_ble_eq_true rfl, Nat.le_of_ble_eq_true rfl⟩ hl.1 rfl (s8 (sR sN) (by decide)) dX3_dropWrite_6 (le_room g (LEm hc2 (mo_F_X1_without (gr σ 1 a1) a2 _)) (LEm hF (mo_ite (mo_ite (mo_le (τ := (sr σ2 1 a1 r2)) ⟨Nat.le_refl _, Nat.le_refl _⟩ (mo_bd (mo_F_X3_addLine a0 (-1 : Int32) _) (fun r5 σ5 => mo_ret))) mo_none) mo_none)))) h (fun H locs h g => ?_)
  obtain ⟨hq3, hF⟩ := ifs hF
  refine x_str cx h fa_X3_39 (f := 1) rfl (Or.inl rfl) hq3 dX3_dropWrite_9 (fun H locs h => ?_)
  refine x_aload_n hx hb dX3_dropWrite_12 rfl (lv_at hl 0 rfl) ?_
  refine lv_iconst (v := (-1 : Int32)) hx hb dX3_dropWrite_13 (by decide) ?_
  obtain ⟨hq4, hF⟩ := ifs hF
  obtain ⟨r5, σ5, hc5, hF⟩ := bds hF
  refine x_callv (σ := (sr σ2 1 a1 r2)) g (LEm hc5 (mo_F_X3_addLine a0 (-1 : Int32) _)) (x_runV (As := [.int (-1 : Int32)]) (rest := []) cx h (c_X3_addLine l D dA base a0 (-1 : Int32) hc5) ml_X3_27 mi_X3_addLine hq4 rfl ⟨Nat.le_of_ble_eq_true rfl, Nat.le_of_ble_eq_true rfl⟩ hl.1 rfl (s8 sN (by decide)) dX3_dropWrite_14 (le_room g (LEm hc5 (mo_F_X3_addLine a0 (-1 : Int32) _)) (LEm hF mo_ret))) h (fun H locs h g => ?_)
  obtain ⟨rfl, rfl⟩ := rts hF
  exact x_vret cx h dX3_dropWrite_17
def F_X3_addLock (a0 : Nat) (a1 : Nat) (a2 : Int32) (a3 : Int32) (a4 : Int32) (σ : HS) : Option (Unit × HS) :=
  if kd σ a1 = 1 then (if kd (si (si (si σ 2 a1 a2) 3 a1 a3) 4 a1 a4) a0 = 4 then (bd (F_X3_addLine a0 (2 : Int32) (si (si (si σ 2 a1 a2) 3 a1 a3) 4 a1 a4)) (fun r3 σ3 => some ((), σ3))) else none) else none
theorem mo_F_X3_addLock (a0 : Nat) (a1 : Nat) (a2 : Int32) (a3 : Int32) (a4 : Int32) (σ : HS) : Mo σ (F_X3_addLock a0 a1 a2 a3 a4 σ) := by
  unfold F_X3_addLock
  exact (mo_ite (mo_ite (mo_le (τ := (si (si (si σ 2 a1 a2) 3 a1 a3) 4 a1 a4)) ⟨Nat.le_refl _, Nat.le_refl _⟩ (mo_bd (mo_F_X3_addLine a0 (2 : Int32) _) (fun r3 σ3 => mo_ret))) mo_none) mo_none)
set_option maxHeartbeats 4000000 in
set_option maxRecDepth 100000 in
theorem c_X3_addLock (l : Launch) (D : va_G) (dA : Nat → ClassId) (base : Nat) (a0 : Nat) (a1 : Nat) (a2 : Int32) (a3 : Int32) (a4 : Int32) {σ τ : HS} {r : Unit} (hF : F_X3_addLock a0 a1 a2 a3 a4 σ = some (r, τ)) : CT l yX3_addLock cX3_addLock 5 none 1 21 D dA base [vr a0, vr a1, .int a2, .int a3, .int a4] none σ τ := by
  refine CT.of (lv := [(0, vr a0), (1, vr a1), (2, .int a2), (3, .int a3), (4, .int a4)]) (by decide) (vR (vR (vI (vI (vI vN))))) (Nat.le_of_ble_eq_true rfl) rfl ?_
  intro p e s m args below meth c ls cx hl h
  have cx : CX p s m args meth c cX3_addLock 5 none RX3 "addLock" D dA base := cx
  have g : LE σ σ := LE.rf
  obtain ⟨hx, hb, -⟩ := id cx
  unfold F_X3_addLock at hF
  refine x_aload_n hx hb dX3_addLock_0 rfl (lv_at hl 1 rfl) ?_
  refine lv_iload_n hx hb dX3_addLock_1 rfl (lv_at hl 2 rfl) ?_
  obtain ⟨hq1, hF⟩ := ifs hF
  refine x_sti cx h fa_X3_42 (f := 2) rfl (Or.inl rfl) hq1 dX3_addLock_2 (fun H locs h => ?_)
  refine x_aload_n hx hb dX3_addLock_5 rfl (lv_at hl 1 rfl) ?_
  refine lv_iload_n hx hb dX3_addLock_6 rfl (lv_at hl 3 rfl) ?_
  refine x_sti cx h fa_X3_46 (f := 3) rfl (Or.inl rfl) hq1 dX3_addLock_7 (fun H locs h => ?_)
  refine x_aload_n hx hb dX3_addLock_10 rfl (lv_at hl 1 rfl) ?_
  refine lv_iload hx hb dX3_addLock_11 (lv_at hl 4 rfl) ?_
  refine x_sti cx h fa_X3_49 (f := 4) rfl (Or.inl rfl) hq1 dX3_addLock_13 (fun H locs h => ?_)
  refine x_aload_n hx hb dX3_addLock_16 rfl (lv_at hl 0 rfl) ?_
  refine lv_iconst (v := (2 : Int32)) hx hb dX3_addLock_17 (by decide) ?_
  obtain ⟨hq2, hF⟩ := ifs hF
  obtain ⟨r3, σ3, hc3, hF⟩ := bds hF
  refine x_callv (σ := (si (si (si σ 2 a1 a2) 3 a1 a3) 4 a1 a4)) g (LEm hc3 (mo_F_X3_addLine a0 (2 : Int32) _)) (x_runV (As := [.int (2 : Int32)]) (rest := []) cx h (c_X3_addLine l D dA base a0 (2 : Int32) hc3) ml_X3_27 mi_X3_addLine hq2 rfl ⟨Nat.le_of_ble_eq_true rfl, Nat.le_of_ble_eq_true rfl⟩ hl.1 rfl (s8 sN (by decide)) dX3_addLock_18 (le_room g (LEm hc3 (mo_F_X3_addLine a0 (2 : Int32) _)) (LEm hF mo_ret))) h (fun H locs h g => ?_)
  obtain ⟨rfl, rfl⟩ := rts hF
  exact x_vret cx h dX3_addLock_21
def F_X3_dropLock (a0 : Nat) (a1 : Nat) (σ : HS) : Option (Unit × HS) :=
  if kd σ a1 = 1 then (if kd (si (si (si σ 2 a1 (0 : Int32)) 3 a1 (0 : Int32)) 4 a1 (0 : Int32)) a0 = 4 then (bd (F_X3_addLine a0 (-2 : Int32) (si (si (si σ 2 a1 (0 : Int32)) 3 a1 (0 : Int32)) 4 a1 (0 : Int32))) (fun r3 σ3 => some ((), σ3))) else none) else none
theorem mo_F_X3_dropLock (a0 : Nat) (a1 : Nat) (σ : HS) : Mo σ (F_X3_dropLock a0 a1 σ) := by
  unfold F_X3_dropLock
  exact (mo_ite (mo_ite (mo_le (τ := (si (si (si σ 2 a1 (0 : Int32)) 3 a1 (0 : Int32)) 4 a1 (0 : Int32))) ⟨Nat.le_refl _, Nat.le_refl _⟩ (mo_bd (mo_F_X3_addLine a0 (-2 : Int32) _) (fun r3 σ3 => mo_ret))) mo_none) mo_none)
set_option maxHeartbeats 4000000 in
set_option maxRecDepth 100000 in
theorem c_X3_dropLock (l : Launch) (D : va_G) (dA : Nat → ClassId) (base : Nat) (a0 : Nat) (a1 : Nat) {σ τ : HS} {r : Unit} (hF : F_X3_dropLock a0 a1 σ = some (r, τ)) : CT l yX3_dropLock cX3_dropLock 2 none 1 21 D dA base [vr a0, vr a1] none σ τ := by
  refine CT.of (lv := [(0, vr a0), (1, vr a1)]) (by decide) (vR (vR vN)) (Nat.le_of_ble_eq_true rfl) rfl ?_
  intro p e s m args below meth c ls cx hl h
  have cx : CX p s m args meth c cX3_dropLock 2 none RX3 "dropLock" D dA base := cx
  have g : LE σ σ := LE.rf
  obtain ⟨hx, hb, -⟩ := id cx
  unfold F_X3_dropLock at hF
  refine x_aload_n hx hb dX3_dropLock_0 rfl (lv_at hl 1 rfl) ?_
  refine lv_iconst (v := (0 : Int32)) hx hb dX3_dropLock_1 (by decide) ?_
  obtain ⟨hq1, hF⟩ := ifs hF
  refine x_sti cx h fa_X3_42 (f := 2) rfl (Or.inl rfl) hq1 dX3_dropLock_2 (fun H locs h => ?_)
  refine x_aload_n hx hb dX3_dropLock_5 rfl (lv_at hl 1 rfl) ?_
  refine lv_iconst (v := (0 : Int32)) hx hb dX3_dropLock_6 (by decide) ?_
  refine x_sti cx h fa_X3_46 (f := 3) rfl (Or.inl rfl) hq1 dX3_dropLock_7 (fun H locs h => ?_)
  refine x_aload_n hx hb dX3_dropLock_10 rfl (lv_at hl 1 rfl) ?_
  refine lv_iconst (v := (0 : Int32)) hx hb dX3_dropLock_11 (by decide) ?_
  refine x_sti cx h fa_X3_49 (f := 4) rfl (Or.inl rfl) hq1 dX3_dropLock_12 (fun H locs h => ?_)
  refine x_aload_n hx hb dX3_dropLock_15 rfl (lv_at hl 0 rfl) ?_
  refine lv_bipush (v := (-2 : Int32)) hx hb dX3_dropLock_16 (by decide) ?_
  obtain ⟨hq2, hF⟩ := ifs hF
  obtain ⟨r3, σ3, hc3, hF⟩ := bds hF
  refine x_callv (σ := (si (si (si σ 2 a1 (0 : Int32)) 3 a1 (0 : Int32)) 4 a1 (0 : Int32))) g (LEm hc3 (mo_F_X3_addLine a0 (-2 : Int32) _)) (x_runV (As := [.int (-2 : Int32)]) (rest := []) cx h (c_X3_addLine l D dA base a0 (-2 : Int32) hc3) ml_X3_27 mi_X3_addLine hq2 rfl ⟨Nat.le_of_ble_eq_true rfl, Nat.le_of_ble_eq_true rfl⟩ hl.1 rfl (s8 sN (by decide)) dX3_dropLock_18 (le_room g (LEm hc3 (mo_F_X3_addLine a0 (-2 : Int32) _)) (LEm hF mo_ret))) h (fun H locs h g => ?_)
  obtain ⟨rfl, rfl⟩ := rts hF
  exact x_vret cx h dX3_dropLock_21
