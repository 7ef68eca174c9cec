def B_X6_isLate_85  (y0 : Int32) (σ : HS) : Option (Int32 × HS) :=
  if y0 = 0 ∨ y0 = 1 then (some (y0, σ)) else none
theorem mo_B_X6_isLate_85  (y0 : Int32) (σ : HS) : Mo σ (B_X6_isLate_85  y0 σ) := by
  unfold B_X6_isLate_85
  exact (mo_ite mo_ret mo_none)
set_option maxHeartbeats 4000000 in
set_option maxRecDepth 100000 in
theorem w_X6_isLate_85 {p : Program} {l : Launch} {e : Env} {s : State} {m : MethodId} {args : Array Value} {below : List Frame} {meth : Method} {c : Code} {D : va_G} {dA : Nat → ClassId} {base : Nat} {σ0 τ : HS} {r : Int32} (cx : CX p s m args meth c cX6_isLate 3 (some .boolean) RX6 "isLate" D dA base)  (y0 : Int32) {σ : HS} {H : Heap} {locs : List Loc} {ls : Array Slot} (h : Wd D dA base σ s H locs) (g : LE σ0 σ) (hl : lv_has ls 3 []) (hF : B_X6_isLate_85  y0 σ = some (r, τ)) : WG p l e s m args below meth c D dA base 0 0 (some (.int r)) σ0 τ σ H locs 85 ls [.int y0] := by
  obtain ⟨hx, hb, -⟩ := id cx
  unfold B_X6_isLate_85 at hF
  obtain ⟨hz1, hF⟩ := ifs hF
  obtain ⟨rfl, rfl⟩ := rts hF
  exact x_zret cx h hz1 dX6_isLate_85
def B_X6_isLate_56 (k2 : Nat → Int32 → Int32 → HS → Option (Int32 × HS)) (x0 : Nat) (x1 : Int32) (x2 : Int32) (σ : HS) : Option (Int32 × HS) :=
  k2 x0 x1 (x2 + (1 : Int32)) σ
theorem mo_B_X6_isLate_56 {k2 : Nat → Int32 → Int32 → HS → Option (Int32 × HS)} (mk2 : ∀ x0 x1 x2 σ, Mo σ (k2 x0 x1 x2 σ)) (x0 : Nat) (x1 : Int32) (x2 : Int32) (σ : HS) : Mo σ (B_X6_isLate_56 k2 x0 x1 x2 σ) := by
  unfold B_X6_isLate_56
  exact (mk2 x0 x1 (x2 + (1 : Int32)) _)
set_option maxHeartbeats 4000000 in
set_option maxRecDepth 100000 in
theorem w_X6_isLate_56 {p : Program} {l : Launch} {e : Env} {s : State} {m : MethodId} {args : Array Value} {below : List Frame} {meth : Method} {c : Code} {D : va_G} {dA : Nat → ClassId} {base : Nat} {σ0 τ : HS} {r : Int32} (cx : CX p s m args meth c cX6_isLate 3 (some .boolean) RX6 "isLate" D dA base) {k2 : Nat → Int32 → Int32 → HS → Option (Int32 × HS)} (mk2 : ∀ x0 x1 x2 σ, Mo σ (k2 x0 x1 x2 σ)) (hk2 : ∀ x0 x1 x2 σ H locs ls, Wd D dA base σ s H locs → LE σ0 σ → lv_has ls 3 [(0, vr x0), (1, .int x1), (2, .int x2)] → k2 x0 x1 x2 σ = some (r, τ) → WG p l e s m args below meth c D dA base 0 0 (some (.int r)) σ0 τ σ H locs 2 ls []) (x0 : Nat) (x1 : Int32) (x2 : Int32) {σ : HS} {H : Heap} {locs : List Loc} {ls : Array Slot} (h : Wd D dA base σ s H locs) (g : LE σ0 σ) (hl : lv_has ls 3 [(0, vr x0), (1, .int x1), (2, .int x2)]) (hF : B_X6_isLate_56 k2 x0 x1 x2 σ = some (r, τ)) : WG p l e s m args below meth c D dA base 0 0 (some (.int r)) σ0 τ σ H locs 56 ls [] := by
  obtain ⟨hx, hb, -⟩ := id cx
  unfold B_X6_isLate_56 at hF
  refine x_iinc (k := 2) (v := (1 : Int32)) (lv' := [(2, .int (x2 + (1 : Int32))), (0, vr x0), (1, .int x1)]) hx hb dX6_isLate_56 hl rfl (by decide) (by decide) (cR (cI (cI cN))) rfl (fun ls hl => ?_)
  refine lv_goto (tgt := 2) hx hb dX6_isLate_59 (by decide) ?_
  exact hk2 x0 x1 (x2 + (1 : Int32)) σ _ _ _ h g (lv_sub hl [1, 2, 0] rfl) hF
def B_X6_isLate_55  (y0 : Int32) (σ : HS) : Option (Int32 × HS) :=
  if y0 = 0 ∨ y0 = 1 then (some (y0, σ)) else none
theorem mo_B_X6_isLate_55  (y0 : Int32) (σ : HS) : Mo σ (B_X6_isLate_55  y0 σ) := by
  unfold B_X6_isLate_55
  exact (mo_ite mo_ret mo_none)
set_option maxHeartbeats 4000000 in
set_option maxRecDepth 100000 in
theorem w_X6_isLate_55 {p : Program} {l : Launch} {e : Env} {s : State} {m : MethodId} {args : Array Value} {below : List Frame} {meth : Method} {c : Code} {D : va_G} {dA : Nat → ClassId} {base : Nat} {σ0 τ : HS} {r : Int32} (cx : CX p s m args meth c cX6_isLate 3 (some .boolean) RX6 "isLate" D dA base)  (y0 : Int32) {σ : HS} {H : Heap} {locs : List Loc} {ls : Array Slot} (h : Wd D dA base σ s H locs) (g : LE σ0 σ) (hl : lv_has ls 3 []) (hF : B_X6_isLate_55  y0 σ = some (r, τ)) : WG p l e s m args below meth c D dA base 0 0 (some (.int r)) σ0 τ σ H locs 55 ls [.int y0] := by
  obtain ⟨hx, hb, -⟩ := id cx
  unfold B_X6_isLate_55 at hF
  obtain ⟨hz1, hF⟩ := ifs hF
  obtain ⟨rfl, rfl⟩ := rts hF
  exact x_zret cx h hz1 dX6_isLate_55
def B_X6_isLate_2 (k2 : Nat → Int32 → Int32 → HS → Option (Int32 × HS)) (x0 : Nat) (x1 : Int32) (x2 : Int32) (σ : HS) : Option (Int32 × HS) :=
  if (8 : Int32) ≤ x2 then (if kd σ x0 = 7 then (if kd σ (gr σ 258 x0) = 100 ∧ inb x1 (ln σ (gr σ 258 x0)) then (if ((gi σ 241 x0) - (ai σ (gr σ 258 x0) x1.toNatClampNeg)) ≤ (gi σ 242 x0) then (B_X6_isLate_85  (0 : Int32) σ) else (B_X6_isLate_85  (1 : Int32) σ)) else none) else none) else (if kd σ x0 = 7 then (if kd σ (gr σ 259 x0) = 100 ∧ inb x2 (ln σ (gr σ 259 x0)) then (if (ai σ (gr σ 259 x0) x2.toNatClampNeg) ≤ 0 then (B_X6_isLate_56 k2 x0 x1 x2 σ) else (if kd σ (gr σ 260 x0) = 100 ∧ inb x2 (ln σ (gr σ 260 x0)) then (if kd σ (gr σ 256 x0) = 100 ∧ inb x1 (ln σ (gr σ 256 x0)) then (if (ai σ (gr σ 260 x0) x2.toNatClampNeg) = (ai σ (gr σ 256 x0) x1.toNatClampNeg) then (if kd σ (gr σ 261 x0) = 100 ∧ inb x2 (ln σ (gr σ 261 x0)) then (if ((gi σ 241 x0) - (ai σ (gr σ 261 x0) x2.toNatClampNeg)) ≤ (gi σ 242 x0) then (B_X6_isLate_55  (0 : Int32) σ) else (B_X6_isLate_55  (1 : Int32) σ)) else none) else (B_X6_isLate_56 k2 x0 x1 x2 σ)) else none) else none)) else none) else none)
theorem mo_B_X6_isLate_2 {k2 : Nat → Int32 → Int32 → HS → Option (Int32 × HS)} (mk2 : ∀ x0 x1 x2 σ, Mo σ (k2 x0 x1 x2 σ)) (x0 : Nat) (x1 : Int32) (x2 : Int32) (σ : HS) : Mo σ (B_X6_isLate_2 k2 x0 x1 x2 σ) := by
  unfold B_X6_isLate_2
  exact (mo_ite (mo_ite (mo_ite (mo_ite (mo_B_X6_isLate_85  (0 : Int32) _) (mo_B_X6_isLate_85  (1 : Int32) _)) mo_none) mo_none) (mo_ite (mo_ite (mo_ite (mo_B_X6_isLate_56 mk2 x0 x1 x2 _) (mo_ite (mo_ite (mo_ite (mo_ite (mo_ite (mo_B_X6_isLate_55  (0 : Int32) _) (mo_B_X6_isLate_55  (1 : Int32) _)) mo_none) (mo_B_X6_isLate_56 mk2 x0 x1 x2 _)) mo_none) mo_none)) mo_none) mo_none))
set_option maxHeartbeats 4000000 in
set_option maxRecDepth 100000 in
theorem w_X6_isLate_2 {p : Program} {l : Launch} {e : Env} {s : State} {m : MethodId} {args : Array Value} {below : List Frame} {meth : Method} {c : Code} {D : va_G} {dA : Nat → ClassId} {base : Nat} {σ0 τ : HS} {r : Int32} (cx : CX p s m args meth c cX6_isLate 3 (some .boolean) RX6 "isLate" D dA base) {k2 : Nat → Int32 → Int32 → HS → Option (Int32 × HS)} (mk2 : ∀ x0 x1 x2 σ, Mo σ (k2 x0 x1 x2 σ)) (hk2 : ∀ x0 x1 x2 σ H locs ls, Wd D dA base σ s H locs → LE σ0 σ → lv_has ls 3 [(0, vr x0), (1, .int x1), (2, .int x2)] → k2 x0 x1 x2 σ = some (r, τ) → WG p l e s m args below meth c D dA base 0 0 (some (.int r)) σ0 τ σ H locs 2 ls []) (x0 : Nat) (x1 : Int32) (x2 : Int32) {σ : HS} {H : Heap} {locs : List Loc} {ls : Array Slot} (h : Wd D dA base σ s H locs) (g : LE σ0 σ) (hl : lv_has ls 3 [(0, vr x0), (1, .int x1), (2, .int x2)]) (hF : B_X6_isLate_2 k2 x0 x1 x2 σ = some (r, τ)) : WG p l e s m args below meth c D dA base 0 0 (some (.int r)) σ0 τ σ H locs 2 ls [] := by
  obtain ⟨hx, hb, -⟩ := id cx
  unfold B_X6_isLate_2 at hF
  refine lv_iload_n hx hb dX6_isLate_2 rfl (lv_at hl 2 rfl) ?_
  refine lv_bipush (v := (8 : Int32)) hx hb dX6_isLate_3 (by decide) ?_
  refine lv_icmp_ge (tgt := 62) hx hb dX6_isLate_5 (by decide) (fun c1 => ?_) (fun c1 => ?_)
  · replace hF := ifp c1 hF
    refine x_aload_n hx hb dX6_isLate_62 rfl (lv_at hl 0 rfl) ?_
    obtain ⟨hq2, hF⟩ := ifs hF
    refine x_geti cx h fa_X6_103 (f := 241) rfl hq2 dX6_isLate_63 ?_
    refine x_aload_n hx hb dX6_isLate_66 rfl (lv_at hl 0 rfl) ?_
    refine x_getr cx h fa_X6_45 (f := 258) rfl hq2 dX6_isLate_67 ?_
    refine lv_iload_n hx hb dX6_isLate_70 rfl (lv_at hl 1 rfl) ?_
    obtain ⟨hq3, hF⟩ := ifs hF
    refine x_iald cx h hq3.1 (inb.vp hq3.2) dX6_isLate_71 ?_
    refine lv_isub hx hb dX6_isLate_72 ?_
    refine x_aload_n hx hb dX6_isLate_73 rfl (lv_at hl 0 rfl) ?_
    refine x_geti cx h fa_X6_7 (f := 242) rfl hq2 dX6_isLate_74 ?_
    refine lv_icmp_le (tgt := 84) hx hb dX6_isLate_77 (by decide) (fun c4 => ?_) (fun c4 => ?_)
    · replace hF := ifp c4 hF
      refine lv_iconst (v := (0 : Int32)) hx hb dX6_isLate_84 (by decide) ?_
      exact w_X6_isLate_85 (σ := σ) cx   (0 : Int32) h g (lv_sub hl [] rfl) hF
    · replace hF := ifn c4 hF
      refine lv_iconst (v := (1 : Int32)) hx hb dX6_isLate_80 (by decide) ?_
      refine lv_goto (tgt := 85) hx hb dX6_isLate_81 (by decide) ?_
      exact w_X6_isLate_85 (σ := σ) cx   (1 : Int32) h g (lv_sub hl [] rfl) hF
  · replace hF := ifn c1 hF
    refine x_aload_n hx hb dX6_isLate_8 rfl (lv_at hl 0 rfl) ?_
    obtain ⟨hq5, hF⟩ := ifs hF
    refine x_getr cx h fa_X6_48 (f := 259) rfl hq5 dX6_isLate_9 ?_
    refine lv_iload_n hx hb dX6_isLate_12 rfl (lv_at hl 2 rfl) ?_
    obtain ⟨hq6, hF⟩ := ifs hF
    refine x_iald cx h hq6.1 (inb.vp hq6.2) dX6_isLate_13 ?_
    refine lv_if_le (tgt := 56) hx hb dX6_isLate_14 (by decide) (fun c7 => ?_) (fun c7 => ?_)
    · replace hF := ifp c7 hF
      exact w_X6_isLate_56 (σ := σ) cx mk2 hk2 x0 x1 x2 h g (lv_sub hl [0, 1, 2] rfl) hF
    · replace hF := ifn c7 hF
      refine x_aload_n hx hb dX6_isLate_17 rfl (lv_at hl 0 rfl) ?_
      refine x_getr cx h fa_X6_51 (f := 260) rfl hq5 dX6_isLate_18 ?_
      refine lv_iload_n hx hb dX6_isLate_21 rfl (lv_at hl 2 rfl) ?_
      obtain ⟨hq8, hF⟩ := ifs hF
      refine x_iald cx h hq8.1 (inb.vp hq8.2) dX6_isLate_22 ?_
      refine x_aload_n hx hb dX6_isLate_23 rfl (lv_at hl 0 rfl) ?_
      refine x_getr cx h fa_X6_39 (f := 256) rfl hq5 dX6_isLate_24 ?_
      refine lv_iload_n hx hb dX6_isLate_27 rfl (lv_at hl 1 rfl) ?_
      obtain ⟨hq9, hF⟩ := ifs hF
      refine x_iald cx h hq9.1 (inb.vp hq9.2) dX6_isLate_28 ?_
      refine lv_icmp_ne (tgt := 56) hx hb dX6_isLate_29 (by decide) (fun c10 => ?_) (fun c10 => ?_)
      · replace hF := ifn c10 hF
        exact w_X6_isLate_56 (σ := σ) cx mk2 hk2 x0 x1 x2 h g (lv_sub hl [0, 1, 2] rfl) hF
      · replace hF := ifp c10 hF
        refine x_aload_n hx hb dX6_isLate_32 rfl (lv_at hl 0 rfl) ?_
        refine x_geti cx h fa_X6_103 (f := 241) rfl hq5 dX6_isLate_33 ?_
        refine x_aload_n hx hb dX6_isLate_36 rfl (lv_at hl 0 rfl) ?_
        refine x_getr cx h fa_X6_54 (f := 261) rfl hq5 dX6_isLate_37 ?_
        refine lv_iload_n hx hb dX6_isLate_40 rfl (lv_at hl 2 rfl) ?_
        obtain ⟨hq11, hF⟩ := ifs hF
        refine x_iald cx h hq11.1 (inb.vp hq11.2) dX6_isLate_41 ?_
        refine lv_isub hx hb dX6_isLate_42 ?_
        refine x_aload_n hx hb dX6_isLate_43 rfl (lv_at hl 0 rfl) ?_
        refine x_geti cx h fa_X6_7 (f := 242) rfl hq5 dX6_isLate_44 ?_
        refine lv_icmp_le (tgt := 54) hx hb dX6_isLate_47 (by decide) (fun c12 => ?_) (fun c12 => ?_)
        · replace hF := ifp c12 hF
          refine lv_iconst (v := (0 : Int32)) hx hb dX6_isLate_54 (by decide) ?_
          exact w_X6_isLate_55 (σ := σ) cx   (0 : Int32) h g (lv_sub hl [] rfl) hF
        · replace hF := ifn c12 hF
          refine lv_iconst (v := (1 : Int32)) hx hb dX6_isLate_50 (by decide) ?_
          refine lv_goto (tgt := 55) hx hb dX6_isLate_51 (by decide) ?_
          exact w_X6_isLate_55 (σ := σ) cx   (1 : Int32) h g (lv_sub hl [] rfl) hF
def L_X6_isLate_2  : Nat → Nat → Int32 → Int32 → HS → Option (Int32 × HS)
  | 0, _, _, _, _ => none
  | N + 1, x0, x1, x2, σ => B_X6_isLate_2 (L_X6_isLate_2  N) x0 x1 x2 σ
theorem mo_L_X6_isLate_2  : ∀ (N : Nat) (x0 : Nat) (x1 : Int32) (x2 : Int32) (σ : HS), Mo σ (L_X6_isLate_2  N x0 x1 x2 σ) := by
  intro N
  induction N with
  | zero => intro x0 x1 x2 σ; exact mo_none
  | succ N ih => intro x0 x1 x2 σ; exact mo_B_X6_isLate_2 ih x0 x1 x2 σ
theorem wl_X6_isLate_2 {p : Program} {l : Launch} {e : Env} {s : State} {m : MethodId} {args : Array Value} {below : List Frame} {meth : Method} {c : Code} {D : va_G} {dA : Nat → ClassId} {base : Nat} {σ0 τ : HS} {r : Int32} (cx : CX p s m args meth c cX6_isLate 3 (some .boolean) RX6 "isLate" D dA base)  : ∀ (N : Nat) (x0 : Nat) (x1 : Int32) (x2 : Int32) (σ : HS) (H : Heap) (locs : List Loc) (ls : Array Slot), Wd D dA base σ s H locs → LE σ0 σ → lv_has ls 3 [(0, vr x0), (1, .int x1), (2, .int x2)] → L_X6_isLate_2  N x0 x1 x2 σ = some (r, τ) → WG p l e s m args below meth c D dA base 0 0 (some (.int r)) σ0 τ σ H locs 2 ls [] := by
  intro N
  induction N with
  | zero => intro x0 x1 x2 σ H locs ls h g hl hF; cases hF
  | succ N ih => intro x0 x1 x2 σ H locs ls h g hl hF; exact w_X6_isLate_2 cx (mo_L_X6_isLate_2  N) ih x0 x1 x2 h g hl hF
def F_X6_isLate (a0 : Nat) (a1 : Int32) (σ : HS) : Option (Int32 × HS) :=
  L_X6_isLate_2  NF a0 a1 (0 : Int32) σ
theorem mo_F_X6_isLate (a0 : Nat) (a1 : Int32) (σ : HS) : Mo σ (F_X6_isLate a0 a1 σ) := by
  unfold F_X6_isLate
  exact (mo_L_X6_isLate_2  NF a0 a1 (0 : Int32) _)
set_option maxHeartbeats 4000000 in
set_option maxRecDepth 100000 in
theorem c_X6_isLate (l : Launch) (D : va_G) (dA : Nat → ClassId) (base : Nat) (a0 : Nat) (a1 : Int32) {σ τ : HS} {r : Int32} (hF : F_X6_isLate a0 a1 σ = some (r, τ)) : CT l yX6_isLate cX6_isLate 3 (some .boolean) 0 0 D dA base [vr a0, .int a1] (some (.int r)) σ τ := by
  refine CT.of (lv := [(0, vr a0), (1, .int a1)]) (by decide) (vR (vI vN)) (Nat.le_of_ble_eq_true rfl) rfl ?_
  intro p e s m args below meth c ls cx hl h
  have cx : CX p s m args meth c cX6_isLate 3 (some .boolean) RX6 "isLate" D dA base := cx
  have g : LE σ σ := LE.rf
  obtain ⟨hx, hb, -⟩ := id cx
  unfold F_X6_isLate at hF
  refine lv_iconst (v := (0 : Int32)) hx hb dX6_isLate_0 (by decide) ?_
  refine x_istore_n (lv' := [(2, .int (0 : Int32)), (0, vr a0), (1, .int a1)]) hx hb dX6_isLate_1 rfl hl (by decide) (cR (cI cN)) rfl (fun ls hl => ?_)
  exact wl_X6_isLate_2 cx   NF a0 a1 (0 : Int32) σ _ _ _ h g (lv_sub hl [1, 2, 0] rfl) hF
def B_X6_isDecided_25  (y0 : Int32) (σ : HS) : Option (Int32 × HS) :=
  if y0 = 0 ∨ y0 = 1 then (some (y0, σ)) else none
theorem mo_B_X6_isDecided_25  (y0 : Int32) (σ : HS) : Mo σ (B_X6_isDecided_25  y0 σ) := by
  unfold B_X6_isDecided_25
  exact (mo_ite mo_ret mo_none)
set_option maxHeartbeats 4000000 in
set_option maxRecDepth 100000 in
theorem w_X6_isDecided_25 {p : Program} {l : Launch} {e : Env} {s : State} {m : MethodId} {args : Array Value} {below : List Frame} {meth : Method} {c : Code} {D : va_G} {dA : Nat → ClassId} {base : Nat} {σ0 τ : HS} {r : Int32} (cx : CX p s m args meth c cX6_isDecided 2 (some .boolean) RX6 "isDecided" D dA base)  (y0 : Int32) {σ : HS} {H : Heap} {locs : List Loc} {ls : Array Slot} (h : Wd D dA base σ s H locs) (g : LE σ0 σ) (hl : lv_has ls 2 []) (hF : B_X6_isDecided_25  y0 σ = some (r, τ)) : WG p l e s m args below meth c D dA base 0 0 (some (.int r)) σ0 τ σ H locs 25 ls [.int y0] := by
  obtain ⟨hx, hb, -⟩ := id cx
  unfold B_X6_isDecided_25 at hF
  obtain ⟨hz1, hF⟩ := ifs hF
  obtain ⟨rfl, rfl⟩ := rts hF
  exact x_zret cx h hz1 dX6_isDecided_25
def F_X6_isDecided (a0 : Nat) (a1 : Int32) (σ : HS) : Option (Int32 × HS) :=
  if kd σ a0 = 7 then (if kd σ (gr σ 257 a0) = 100 ∧ inb a1 (ln σ (gr σ 257 a0)) then (if kd σ (gr σ 256 a0) = 100 ∧ inb (ai σ (gr σ 257 a0) a1.toNatClampNeg) (ln σ (gr σ 256 a0)) then (if kd σ (gr σ 256 a0) = 100 ∧ inb a1 (ln σ (gr σ 256 a0)) then (if (ai σ (gr σ 256 a0) (ai σ (gr σ 257 a0) a1.toNatClampNeg).toNatClampNeg) = (ai σ (gr σ 256 a0) a1.toNatClampNeg) then (B_X6_isDecided_25  (0 : Int32) σ) else (B_X6_isDecided_25  (1 : Int32) σ)) else none) else none) else none) else none
theorem mo_F_X6_isDecided (a0 : Nat) (a1 : Int32) (σ : HS) : Mo σ (F_X6_isDecided a0 a1 σ) := by
  unfold F_X6_isDecided
  exact (mo_ite (mo_ite (mo_ite (mo_ite (mo_ite (mo_B_X6_isDecided_25  (0 : Int32) _) (mo_B_X6_isDecided_25  (1 : Int32) _)) mo_none) mo_none) mo_none) mo_none)
set_option maxHeartbeats 4000000 in
set_option maxRecDepth 100000 in
theorem c_X6_isDecided (l : Launch) (D : va_G) (dA : Nat → ClassId) (base : Nat) (a0 : Nat) (a1 : Int32) {σ τ : HS} {r : Int32} (hF : F_X6_isDecided a0 a1 σ = some (r, τ)) : CT l yX6_isDecided cX6_isDecided 2 (some .boolean) 0 0 D dA base [vr a0, .int a1] (some (.int r)) σ τ := by
  refine CT.of (lv := [(0, vr a0), (1, .int a1)]) (by decide) (vR (vI vN)) (Nat.le_of_ble_eq_true rfl) rfl ?_
  intro p e s m args below meth c ls cx hl h
  have cx : CX p s m args meth c cX6_isDecided 2 (some .boolean) RX6 "isDecided" D dA base := cx
  have g : LE σ σ := LE.rf
  obtain ⟨hx, hb, -⟩ := id cx
  unfold F_X6_isDecided at hF
  refine x_aload_n hx hb dX6_isDecided_0 rfl (lv_at hl 0 rfl) ?_
  obtain ⟨hq1, hF⟩ := ifs hF
  refine x_getr cx h fa_X6_39 (f := 256) rfl hq1 dX6_isDecided_1 ?_
  refine x_aload_n hx hb dX6_isDecided_4 rfl (lv_at hl 0 rfl) ?_
  refine x_getr cx h fa_X6_42 (f := 257) rfl hq1 dX6_isDecided_5 ?_
  refine lv_iload_n hx hb dX6_isDecided_8 rfl (lv_at hl 1 rfl) ?_
  obtain ⟨hq2, hF⟩ := ifs hF
  refine x_iald cx h hq2.1 (inb.vp hq2.2) dX6_isDecided_9 ?_
  obtain ⟨hq3, hF⟩ := ifs hF
  refine x_iald cx h hq3.1 (inb.vp hq3.2) dX6_isDecided_10 ?_
  refine x_aload_n hx hb dX6_isDecided_11 rfl (lv_at hl 0 rfl) ?_
  refine x_getr cx h fa_X6_39 (f := 256) rfl hq1 dX6_isDecided_12 ?_
  refine lv_iload_n hx hb dX6_isDecided_15 rfl (lv_at hl 1 rfl) ?_
  obtain ⟨hq4, hF⟩ := ifs hF
  refine x_iald cx h hq4.1 (inb.vp hq4.2) dX6_isDecided_16 ?_
  refine lv_icmp_eq (tgt := 24) hx hb dX6_isDecided_17 (by decide) (fun c5 => ?_) (fun c5 => ?_)
  · replace hF := ifp c5 hF
    refine lv_iconst (v := (0 : Int32)) hx hb dX6_isDecided_24 (by decide) ?_
    exact w_X6_isDecided_25 (σ := σ) cx   (0 : Int32) h g (lv_sub hl [] rfl) hF
  · replace hF := ifn c5 hF
    refine lv_iconst (v := (1 : Int32)) hx hb dX6_isDecided_20 (by decide) ?_
    refine lv_goto (tgt := 25) hx hb dX6_isDecided_21 (by decide) ?_
    exact w_X6_isDecided_25 (σ := σ) cx   (1 : Int32) h g (lv_sub hl [] rfl) hF
def B_X6_clean_118 (k57 : Nat → Int32 → Int32 → Int32 → Int32 → HS → Option (Unit × HS)) (x0 : Nat) (x1 : Int32) (x2 : Int32) (x3 : Int32) (x4 : Int32) (σ : HS) : Option (Unit × HS) :=
  k57 x0 x1 x2 x3 (x4 + (1 : Int32)) σ
theorem mo_B_X6_clean_118 {k57 : Nat → Int32 → Int32 → Int32 → Int32 → HS → Option (Unit × HS)} (mk57 : ∀ x0 x1 x2 x3 x4 σ, Mo σ (k57 x0 x1 x2 x3 x4 σ)) (x0 : Nat) (x1 : Int32) (x2 : Int32) (x3 : Int32) (x4 : Int32) (σ : HS) : Mo σ (B_X6_clean_118 k57 x0 x1 x2 x3 x4 σ) := by
  unfold B_X6_clean_118
  exact (mk57 x0 x1 x2 x3 (x4 + (1 : Int32)) _)
set_option maxHeartbeats 4000000 in
set_option maxRecDepth 100000 in
theorem w_X6_clean_118 {p : Program} {l : Launch} {e : Env} {s : State} {m : MethodId} {args : Array Value} {below : List Frame} {meth : Method} {c : Code} {D : va_G} {dA : Nat → ClassId} {base : Nat} {σ0 τ : HS} {r : Unit} (cx : CX p s m args meth c cX6_clean 5 none RX6 "clean" D dA base) {k57 : Nat → Int32 → Int32 → Int32 → Int32 → HS → Option (Unit × HS)} (mk57 : ∀ x0 x1 x2 x3 x4 σ, Mo σ (k57 x0 x1 x2 x3 x4 σ)) (hk57 : ∀ x0 x1 x2 x3 x4 σ H locs ls, Wd D dA base σ s H locs → LE σ0 σ → lv_has ls 5 [(0, vr x0), (1, .int x1), (2, .int x2), (3, .int x3), (4, .int x4)] → k57 x0 x1 x2 x3 x4 σ = some (r, τ) → WG p l e s m args below meth c D dA base 2 46 none σ0 τ σ H locs 57 ls []) (x0 : Nat) (x1 : Int32) (x2 : Int32) (x3 : Int32) (x4 : Int32) {σ : HS} {H : Heap} {locs : List Loc} {ls : Array Slot} (h : Wd D dA base σ s H locs) (g : LE σ0 σ) (hl : lv_has ls 5 [(0, vr x0), (1, .int x1), (2, .int x2), (3, .int x3), (4, .int x4)]) (hF : B_X6_clean_118 k57 x0 x1 x2 x3 x4 σ = some (r, τ)) : WG p l e s m args below meth c D dA base 2 46 none σ0 τ σ H locs 118 ls [] := by
  obtain ⟨hx, hb, -⟩ := id cx
  unfold B_X6_clean_118 at hF
  refine x_iinc (k := 4) (v := (1 : Int32)) (lv' := [(4, .int (x4 + (1 : Int32))), (0, vr x0), (1, .int x1), (2, .int x2), (3, .int x3)]) hx hb dX6_clean_118 hl rfl (by decide) (by decide) (cR (cI (cI (cI (cI cN))))) rfl (fun ls hl => ?_)
  refine lv_goto (tgt := 57) hx hb dX6_clean_121 (by decide) ?_
  exact hk57 x0 x1 x2 x3 (x4 + (1 : Int32)) σ _ _ _ h g (lv_sub hl [1, 2, 3, 4, 0] rfl) hF
def B_X6_clean_57 (k57 : Nat → Int32 → Int32 → Int32 → Int32 → HS → Option (Unit × HS)) (x0 : Nat) (x1 : Int32) (x2 : Int32) (x3 : Int32) (x4 : Int32) (σ : HS) : Option (Unit × HS) :=
  if kd σ x0 = 7 then (if (gi σ 250 x0) ≤ x4 then (bd (F_X6_dropLock x0 x1 σ) (fun r3 σ3 => if kd σ3 x0 = 7 then (bd (F_X6_dropData x0 x1 x2 σ3) (fun r5 σ5 => some ((), σ5))) else none)) else (if kd σ (gr σ 251 x0) = 100 ∧ inb x4 (ln σ (gr σ 251 x0)) then (if (ai σ (gr σ 251 x0) x4.toNatClampNeg) = x3 then (if kd σ (gr σ 254 x0) = 101 ∧ inb x4 (ln σ (gr σ 254 x0)) then (if (ai σ (gr σ 254 x0) x4.toNatClampNeg) = 0 then (if kd σ (gr σ 253 x0) = 100 ∧ inb x4 (ln σ (gr σ 253 x0)) then (if (ai σ (gr σ 253 x0) x4.toNatClampNeg) = x2 then (if kd σ (gr σ 252 x0) = 100 ∧ inb x4 (ln σ (gr σ 252 x0)) then (bd (F_X6_addWrite x0 x1 (ai σ (gr σ 252 x0) x4.toNatClampNeg) x2 (0 : Int32) σ) (fun r13 σ13 => if kd σ13 x0 = 7 then (bd (F_X6_dropLock x0 x1 σ13) (fun r15 σ15 => some ((), σ15))) else none)) else none) else (B_X6_clean_118 k57 x0 x1 x2 x3 x4 σ)) else none) else (B_X6_clean_118 k57 x0 x1 x2 x3 x4 σ)) else none) else (B_X6_clean_118 k57 x0 x1 x2 x3 x4 σ)) else none)) else none
theorem mo_B_X6_clean_57 {k57 : Nat → Int32 → Int32 → Int32 → Int32 → HS → Option (Unit × HS)} (mk57 : ∀ x0 x1 x2 x3 x4 σ, Mo σ (k57 x0 x1 x2 x3 x4 σ)) (x0 : Nat) (x1 : Int32) (x2 : Int32) (x3 : Int32) (x4 : Int32) (σ : HS) : Mo σ (B_X6_clean_57 k57 x0 x1 x2 x3 x4 σ) := by
  unfold B_X6_clean_57
  exact (mo_ite (mo_ite (mo_bd (mo_F_X6_dropLock x0 x1 _) (fun r3 σ3 => (mo_ite (mo_bd (mo_F_X6_dropData x0 x1 x2 _) (fun r5 σ5 => mo_ret)) mo_none))) (mo_ite (mo_ite (mo_ite (mo_ite (mo_ite (mo_ite (mo_ite (mo_bd (mo_F_X6_addWrite x0 x1 (ai σ (gr σ 252 x0) x4.toNatClampNeg) x2 (0 : Int32) _) (fun r13 σ13 => (mo_ite (mo_bd (mo_F_X6_dropLock x0 x1 _) (fun r15 σ15 => mo_ret)) mo_none))) mo_none) (mo_B_X6_clean_118 mk57 x0 x1 x2 x3 x4 _)) mo_none) (mo_B_X6_clean_118 mk57 x0 x1 x2 x3 x4 _)) mo_none) (mo_B_X6_clean_118 mk57 x0 x1 x2 x3 x4 _)) mo_none)) mo_none)
set_option maxHeartbeats 4000000 in
set_option maxRecDepth 100000 in
theorem w_X6_clean_57 {p : Program} {l : Launch} {e : Env} {s : State} {m : MethodId} {args : Array Value} {below : List Frame} {meth : Method} {c : Code} {D : va_G} {dA : Nat → ClassId} {base : Nat} {σ0 τ : HS} {r : Unit} (cx : CX p s m args meth c cX6_clean 5 none RX6 "clean" D dA base) {k57 : Nat → Int32 → Int32 → Int32 → Int32 → HS → Option (Unit × HS)} (mk57 : ∀ x0 x1 x2 x3 x4 σ, Mo σ (k57 x0 x1 x2 x3 x4 σ)) (hk57 : ∀ x0 x1 x2 x3 x4 σ H locs ls, Wd D dA base σ s H locs → LE σ0 σ → lv_has ls 5 [(0, vr x0), (1, .int x1), (2, .int x2), (3, .int x3), (4, .int x4)] → k57 x0 x1 x2 x3 x4 σ = some (r, τ) → WG p l e s m args below meth c D dA base 2 46 none σ0 τ σ H locs 57 ls []) (x0 : Nat) (x1 : Int32) (x2 : Int32) (x3 : Int32) (x4 : Int32) {σ : HS} {H : Heap} {locs : List Loc} {ls : Array Slot} (h : Wd D dA base σ s H locs) (g : LE σ0 σ) (hl : lv_has ls 5 [(0, vr x0), (1, .int x1), (2, .int x2), (3, .int x3), (4, .int x4)]) (hF : B_X6_clean_57 k57 x0 x1 x2 x3 x4 σ = some (r, τ)) : WG p l e s m args below meth c D dA base 2 46 none σ0 τ σ H locs 57 ls [] := by
  obtain ⟨hx, hb, -⟩ := id cx
  unfold B_X6_clean_57 at hF
  refine lv_iload hx hb dX6_clean_57 (lv_at hl 4 rfl) ?_
  refine x_aload_n hx hb dX6_clean_59 rfl (lv_at hl 0 rfl) ?_
  obtain ⟨hq1, hF⟩ := ifs hF
  refine x_geti cx h fa_X6_81 (f := 250) rfl hq1 dX6_clean_60 ?_
  refine lv_icmp_ge (tgt := 124) hx hb dX6_clean_63 (by decide) (fun c2 => ?_) (fun c2 => ?_)
  · replace hF := ifp c2 hF
    refine x_aload_n hx hb dX6_clean_124 rfl (lv_at hl 0 rfl) ?_
    refine lv_iload_n hx hb dX6_clean_125 rfl (lv_at hl 1 rfl) ?_
    obtain ⟨r3, σ3, hc3, hF⟩ := bds hF
    refine x_callv (σ := σ) g (LEm hc3 (mo_F_X6_dropLock x0 x1 _)) (x_runV (As := [.int x1]) (rest := []) cx h (c_X6_dropLock l D dA base x0 x1 hc3) ml_X6_109 mi_X6_dropLock hq1 rfl ⟨Nat.le_of_ble_eq_true rfl, Nat.le_of_ble_eq_true rfl⟩ hl.1 rfl (s8 sN (by decide)) dX6_clean_126 (le_room g (LEm hc3 (mo_F_X6_dropLock x0 x1 _)) (LEm hF (mo_ite (mo_bd (mo_F_X6_dropData x0 x1 x2 _) (fun r5 σ5 => mo_ret)) mo_none)))) h (fun H locs h g => ?_)
    refine x_aload_n hx hb dX6_clean_129 rfl (lv_at hl 0 rfl) ?_
    refine lv_iload_n hx hb dX6_clean_130 rfl (lv_at hl 1 rfl) ?_
    refine lv_iload_n hx hb dX6_clean_131 rfl (lv_at hl 2 rfl) ?_
    obtain ⟨hq4, hF⟩ := ifs hF
    obtain ⟨r5, σ5, hc5, hF⟩ := bds hF
    refine x_callv (σ := σ3) g (LEm hc5 (mo_F_X6_dropData x0 x1 x2 _)) (x_runV (As := [.int x1, .int x2]) (rest := []) cx h (c_X6_dropData l D dA base x0 x1 x2 hc5) ml_X6_113 mi_X6_dropData hq4 rfl ⟨Nat.le_of_ble_eq_true rfl, Nat.le_of_ble_eq_true rfl⟩ hl.1 rfl (s8 sN (by decide)) dX6_clean_132 (le_room g (LEm hc5 (mo_F_X6_dropData x0 x1 x2 _)) (LEm hF mo_ret))) h (fun H locs h g => ?_)
    obtain ⟨rfl, rfl⟩ := rts hF
    exact x_vret cx h dX6_clean_135
  · replace hF := ifn c2 hF
    refine x_aload_n hx hb dX6_clean_66 rfl (lv_at hl 0 rfl) ?_
    refine x_getr cx h fa_X6_26 (f := 251) rfl hq1 dX6_clean_67 ?_
    refine lv_iload hx hb dX6_clean_70 (lv_at hl 4 rfl) ?_
    obtain ⟨hq6, hF⟩ := ifs hF
    refine x_iald cx h hq6.1 (inb.vp hq6.2) dX6_clean_72 ?_
    refine lv_iload_n hx hb dX6_clean_73 rfl (lv_at hl 3 rfl) ?_
    refine lv_icmp_ne (tgt := 118) hx hb dX6_clean_74 (by decide) (fun c7 => ?_) (fun c7 => ?_)
    · replace hF := ifn c7 hF
      exact w_X6_clean_118 (σ := σ) cx mk57 hk57 x0 x1 x2 x3 x4 h g (lv_sub hl [0, 1, 2, 3, 4] rfl) hF
    · replace hF := ifp c7 hF
      refine x_aload_n hx hb dX6_clean_77 rfl (lv_at hl 0 rfl) ?_
      refine x_getr cx h fa_X6_35 (f := 254) rfl hq1 dX6_clean_78 ?_
      refine lv_iload hx hb dX6_clean_81 (lv_at hl 4 rfl) ?_
      obtain ⟨hq8, hF⟩ := ifs hF
      refine x_zald cx h hq8.1 (inb.vp hq8.2) dX6_clean_83 ?_
      refine lv_if_ne (tgt := 118) hx hb dX6_clean_84 (by decide) (fun c9 => ?_) (fun c9 => ?_)
      · replace hF := ifn c9 hF
        exact w_X6_clean_118 (σ := σ) cx mk57 hk57 x0 x1 x2 x3 x4 h g (lv_sub hl [0, 1, 2, 3, 4] rfl) hF
      · replace hF := ifp c9 hF
        refine x_aload_n hx hb dX6_clean_87 rfl (lv_at hl 0 rfl) ?_
        refine x_getr cx h fa_X6_32 (f := 253) rfl hq1 dX6_clean_88 ?_
        refine lv_iload hx hb dX6_clean_91 (lv_at hl 4 rfl) ?_
        obtain ⟨hq10, hF⟩ := ifs hF
        refine x_iald cx h hq10.1 (inb.vp hq10.2) dX6_clean_93 ?_
        refine lv_iload_n hx hb dX6_clean_94 rfl (lv_at hl 2 rfl) ?_
        refine lv_icmp_ne (tgt := 118) hx hb dX6_clean_95 (by decide) (fun c11 => ?_) (fun c11 => ?_)
        · replace hF := ifn c11 hF
          exact w_X6_clean_118 (σ := σ) cx mk57 hk57 x0 x1 x2 x3 x4 h g (lv_sub hl [0, 1, 2, 3, 4] rfl) hF
        · replace hF := ifp c11 hF
          refine x_aload_n hx hb dX6_clean_98 rfl (lv_at hl 0 rfl) ?_
          refine lv_iload_n hx hb dX6_clean_99 rfl (lv_at hl 1 rfl) ?_
          refine x_aload_n hx hb dX6_clean_100 rfl (lv_at hl 0 rfl) ?_
          refine x_getr cx h fa_X6_29 (f := 252) rfl hq1 dX6_clean_101 ?_
          refine lv_iload hx hb dX6_clean_104 (lv_at hl 4 rfl) ?_
          obtain ⟨hq12, hF⟩ := ifs hF
          refine x_iald cx h hq12.1 (inb.vp hq12.2) dX6_clean_106 ?_
          refine lv_iload_n hx hb dX6_clean_107 rfl (lv_at hl 2 rfl) ?_
          refine lv_iconst (v := (0 : Int32)) hx hb dX6_clean_108 (by decide) ?_
          obtain ⟨r13, σ13, hc13, hF⟩ := bds hF
          refine x_callv (σ := σ) g (LEm hc13 (mo_F_X6_addWrite x0 x1 (ai σ (gr σ 252 x0) x4.toNatClampNeg) x2 (0 : Int32) _)) (x_runV (As := [.int x1, .int (ai σ (gr σ 252 x0) x4.toNatClampNeg), .int x2, .int (0 : Int32)]) (rest := []) cx h (c_X6_addWrite l D dA base x0 x1 (ai σ (gr σ 252 x0) x4.toNatClampNeg) x2 (0 : Int32) hc13) ml_X6_117 mi_X6_addWrite hq1 rfl ⟨Nat.le_of_ble_eq_true rfl, Nat.le_of_ble_eq_true rfl⟩ hl.1 rfl (s8 sN (by decide)) dX6_clean_109 (le_room g (LEm hc13 (mo_F_X6_addWrite x0 x1 (ai σ (gr σ 252 x0) x4.toNatClampNeg) x2 (0 : Int32) _)) (LEm hF (mo_ite (mo_bd (mo_F_X6_dropLock x0 x1 _) (fun r15 σ15 => mo_ret)) mo_none)))) h (fun H locs h g => ?_)
          refine x_aload_n hx hb dX6_clean_112 rfl (lv_at hl 0 rfl) ?_
          refine lv_iload_n hx hb dX6_clean_113 rfl (lv_at hl 1 rfl) ?_
          obtain ⟨hq14, hF⟩ := ifs hF
          obtain ⟨r15, σ15, hc15, hF⟩ := bds hF
          refine x_callv (σ := σ13) g (LEm hc15 (mo_F_X6_dropLock x0 x1 _)) (x_runV (As := [.int x1]) (rest := []) cx h (c_X6_dropLock l D dA base x0 x1 hc15) ml_X6_109 mi_X6_dropLock hq14 rfl ⟨Nat.le_of_ble_eq_true rfl, Nat.le_of_ble_eq_true rfl⟩ hl.1 rfl (s8 sN (by decide)) dX6_clean_114 (le_room g (LEm hc15 (mo_F_X6_dropLock x0 x1 _)) (LEm hF mo_ret))) h (fun H locs h g => ?_)
          obtain ⟨rfl, rfl⟩ := rts hF
          exact x_vret cx h dX6_clean_117
def L_X6_clean_57  : Nat → Nat → Int32 → Int32 → Int32 → Int32 → HS → Option (Unit × HS)
  | 0, _, _, _, _, _, _ => none
  | N + 1, x0, x1, x2, x3, x4, σ => B_X6_clean_57 (L_X6_clean_57  N) x0 x1 x2 x3 x4 σ
theorem mo_L_X6_clean_57  : ∀ (N : Nat) (x0 : Nat) (x1 : Int32) (x2 : Int32) (x3 : Int32) (x4 : Int32) (σ : HS), Mo σ (L_X6_clean_57  N x0 x1 x2 x3 x4 σ) := by
  intro N
  induction N with
  | zero => intro x0 x1 x2 x3 x4 σ; exact mo_none
  | succ N ih => intro x0 x1 x2 x3 x4 σ; exact mo_B_X6_clean_57 ih x0 x1 x2 x3 x4 σ
theorem wl_X6_clean_57 {p : Program} {l : Launch} {e : Env} {s : State} {m : MethodId} {args : Array Value} {below : List Frame} {meth : Method} {c : Code} {D : va_G} {dA : Nat → ClassId} {base : Nat} {σ0 τ : HS} {r : Unit} (cx : CX p s m args meth c cX6_clean 5 none RX6 "clean" D dA base)  : ∀ (N : Nat) (x0 : Nat) (x1 : Int32) (x2 : Int32) (x3 : Int32) (x4 : Int32) (σ : HS) (H : Heap) (locs : List Loc) (ls : Array Slot), Wd D dA base σ s H locs → LE σ0 σ → lv_has ls 5 [(0, vr x0), (1, .int x1), (2, .int x2), (3, .int x3), (4, .int x4)] → L_X6_clean_57  N x0 x1 x2 x3 x4 σ = some (r, τ) → WG p l e s m args below meth c D dA base 2 46 none σ0 τ σ H locs 57 ls [] := by
  intro N
  induction N with
  | zero => intro x0 x1 x2 x3 x4 σ H locs ls h g hl hF; cases hF
  | succ N ih => intro x0 x1 x2 x3 x4 σ H locs ls h g hl hF; exact w_X6_clean_57 cx (mo_L_X6_clean_57  N) ih x0 x1 x2 x3 x4 h g hl hF
def F_X6_clean (a0 : Nat) (a1 : Int32) (σ : HS) : Option (Unit × HS) :=
  if kd σ a0 = 7 then (if kd σ (gr σ 256 a0) = 100 ∧ inb a1 (ln σ (gr σ 256 a0)) then (if kd σ (gr σ 257 a0) = 100 ∧ inb a1 (ln σ (gr σ 257 a0)) then (if kd (si σ 271 a0 ((gi σ 271 a0) + (1 : Int32))) (gr (si σ 271 a0 ((gi σ 271 a0) + (1 : Int32))) 256 a0) = 100 ∧ inb (ai σ (gr σ 257 a0) a1.toNatClampNeg) (ln (si σ 271 a0 ((gi σ 271 a0) + (1 : Int32))) (gr (si σ 271 a0 ((gi σ 271 a0) + (1 : Int32))) 256 a0)) then (if (ai (si σ 271 a0 ((gi σ 271 a0) + (1 : Int32))) (gr (si σ 271 a0 ((gi σ 271 a0) + (1 : Int32))) 256 a0) (ai σ (gr σ 257 a0) a1.toNatClampNeg).toNatClampNeg) = (ai σ (gr σ 256 a0) a1.toNatClampNeg) then (bd (F_X6_dropLock a0 (ai σ (gr σ 257 a0) a1.toNatClampNeg) (si σ 271 a0 ((gi σ 271 a0) + (1 : Int32)))) (fun r6 σ6 => if kd σ6 a0 = 7 then (bd (F_X6_dropData a0 (ai σ (gr σ 257 a0) a1.toNatClampNeg) (ai σ (gr σ 256 a0) a1.toNatClampNeg) σ6) (fun r8 σ8 => if kd σ8 a0 = 7 then (bd (F_X6_addWrite a0 (ai σ (gr σ 257 a0) a1.toNatClampNeg) (ai σ (gr σ 256 a0) a1.toNatClampNeg) (ai σ (gr σ 256 a0) a1.toNatClampNeg) (1 : Int32) σ8) (fun r10 σ10 => some ((), σ10))) else none)) else none)) else (L_X6_clean_57  NF a0 a1 (ai σ (gr σ 256 a0) a1.toNatClampNeg) (ai σ (gr σ 257 a0) a1.toNatClampNeg) (0 : Int32) (si σ 271 a0 ((gi σ 271 a0) + (1 : Int32))))) else none) else none) else none) else none
theorem mo_F_X6_clean (a0 : Nat) (a1 : Int32) (σ : HS) : Mo σ (F_X6_clean a0 a1 σ) := by
  unfold F_X6_clean
  exact (mo_ite (mo_ite (mo_ite (mo_ite (mo_ite (mo_le (τ := (si σ 271 a0 ((gi σ 271 a0) + (1 : Int32)))) ⟨Nat.le_refl _, Nat.le_refl _⟩ (mo_bd (mo_F_X6_dropLock a0 (ai σ (gr σ 257 a0) a1.toNatClampNeg) _) (fun r6 σ6 => (mo_ite (mo_bd (mo_F_X6_dropData a0 (ai σ (gr σ 257 a0) a1.toNatClampNeg) (ai σ (gr σ 256 a0) a1.toNatClampNeg) _) (fun r8 σ8 => (mo_ite (mo_bd (mo_F_X6_addWrite a0 (ai σ (gr σ 257 a0) a1.toNatClampNeg) (ai σ (gr σ 256 a0) a1.toNatClampNeg) (ai σ (gr σ 256 a0) a1.toNatClampNeg) (1 : Int32) _) (fun r10 σ10 => mo_ret)) mo_none))) mo_none)))) (mo_le (τ := (si σ 271 a0 ((gi σ 271 a0) + (1 : Int32)))) ⟨Nat.le_refl _, Nat.le_refl _⟩ (mo_L_X6_clean_57  NF a0 a1 (ai σ (gr σ 256 a0) a1.toNatClampNeg) (ai σ (gr σ 257 a0) a1.toNatClampNeg) (0 : Int32) _))) mo_none) mo_none) mo_none) mo_none)
set_option maxHeartbeats 4000000 in
set_option maxRecDepth 100000 in
theorem c_X6_clean (l : Launch) (D : va_G) (dA : Nat → ClassId) (base : Nat) (a0 : Nat) (a1 : Int32) {σ τ : HS} {r : Unit} (hF : F_X6_clean a0 a1 σ = some (r, τ)) : CT l yX6_clean cX6_clean 5 none 2 46 D dA base [vr a0, .int a1] none σ τ := by
  refine CT.of (lv := [(0, vr a0), (1, .int a1)]) (by decide) (vR (vI vN)) (Nat.le_of_ble_eq_true rfl) rfl ?_
  intro p e s m args below meth c ls cx hl h
  have cx : CX p s m args meth c cX6_clean 5 none RX6 "clean" D dA base := cx
  have g : LE σ σ := LE.rf
  obtain ⟨hx, hb, -⟩ := id cx
  unfold F_X6_clean at hF
  refine x_aload_n hx hb dX6_clean_0 rfl (lv_at hl 0 rfl) ?_
  obtain ⟨hq1, hF⟩ := ifs hF
  refine x_getr cx h fa_X6_39 (f := 256) rfl hq1 dX6_clean_1 ?_
  refine lv_iload_n hx hb dX6_clean_4 rfl (lv_at hl 1 rfl) ?_
  obtain ⟨hq2, hF⟩ := ifs hF
  refine x_iald cx h hq2.1 (inb.vp hq2.2) dX6_clean_5 ?_
  refine x_istore_n (lv' := [(2, .int (ai σ (gr σ 256 a0) a1.toNatClampNeg)), (0, vr a0), (1, .int a1)]) hx hb dX6_clean_6 rfl hl (by decide) (cR (cI cN)) rfl (fun ls hl => ?_)
  refine x_aload_n hx hb dX6_clean_7 rfl (lv_at hl 1 rfl) ?_
  refine x_getr cx h fa_X6_42 (f := 257) rfl hq1 dX6_clean_8 ?_
  refine lv_iload_n hx hb dX6_clean_11 rfl (lv_at hl 2 rfl) ?_
  obtain ⟨hq3, hF⟩ := ifs hF
  refine x_iald cx h hq3.1 (inb.vp hq3.2) dX6_clean_12 ?_
  refine x_istore_n (lv' := [(3, .int (ai σ (gr σ 257 a0) a1.toNatClampNeg)), (2, .int (ai σ (gr σ 256 a0) a1.toNatClampNeg)), (0, vr a0), (1, .int a1)]) hx hb dX6_clean_13 rfl hl (by decide) (cI (cR (cI cN))) rfl (fun ls hl => ?_)
  refine x_aload_n hx hb dX6_clean_14 rfl (lv_at hl 2 rfl) ?_
  refine lv_dup hx hb dX6_clean_15 (vr_cat _) ?_
  refine x_geti cx h fa_X6_106 (f := 271) rfl hq1 dX6_clean_16 ?_
  refine lv_iconst (v := (1 : Int32)) hx hb dX6_clean_19 (by decide) ?_
  refine lv_iadd hx hb dX6_clean_20 ?_
  refine x_sti cx h fa_X6_106 (f := 271) rfl (Or.inl rfl) hq1 dX6_clean_21 (fun H locs h => ?_)
  refine x_aload_n hx hb dX6_clean_24 rfl (lv_at hl 2 rfl) ?_
  refine x_getr cx h fa_X6_39 (f := 256) rfl hq1 dX6_clean_25 ?_
  refine lv_iload_n hx hb dX6_clean_28 rfl (lv_at hl 0 rfl) ?_
  obtain ⟨hq4, hF⟩ := ifs hF
  refine x_iald cx h hq4.1 (inb.vp hq4.2) dX6_clean_29 ?_
  refine lv_iload_n hx hb dX6_clean_30 rfl (lv_at hl 1 rfl) ?_
  refine lv_icmp_ne (tgt := 54) hx hb dX6_clean_31 (by decide) (fun c5 => ?_) (fun c5 => ?_)
  · replace hF := ifn c5 hF
    refine lv_iconst (v := (0 : Int32)) hx hb dX6_clean_54 (by decide) ?_
    refine x_istore (lv' := [(4, .int (0 : Int32)), (3, .int (ai σ (gr σ 257 a0) a1.toNatClampNeg)), (2, .int (ai σ (gr σ 256 a0) a1.toNatClampNeg)), (0, vr a0), (1, .int a1)]) hx hb dX6_clean_55 hl (by decide) (cI (cI (cR (cI cN)))) rfl (fun ls hl => ?_)
    exact wl_X6_clean_57 cx   NF a0 a1 (ai σ (gr σ 256 a0) a1.toNatClampNeg) (ai σ (gr σ 257 a0) a1.toNatClampNeg) (0 : Int32) (si σ 271 a0 ((gi σ 271 a0) + (1 : Int32))) _ _ _ h g (lv_sub hl [3, 4, 2, 1, 0] rfl) hF
  · replace hF := ifp c5 hF
    refine x_aload_n hx hb dX6_clean_34 rfl (lv_at hl 2 rfl) ?_
    refine lv_iload_n hx hb dX6_clean_35 rfl (lv_at hl 0 rfl) ?_
    obtain ⟨r6, σ6, hc6, hF⟩ := bds hF
    refine x_callv (σ := (si σ 271 a0 ((gi σ 271 a0) + (1 : Int32)))) g (LEm hc6 (mo_F_X6_dropLock a0 (ai σ (gr σ 257 a0) a1.toNatClampNeg) _)) (x_runV (As := [.int (ai σ (gr σ 257 a0) a1.toNatClampNeg)]) (rest := []) cx h (c_X6_dropLock l D dA base a0 (ai σ (gr σ 257 a0) a1.toNatClampNeg) hc6) ml_X6_109 mi_X6_dropLock hq1 rfl ⟨Nat.le_of_ble_eq_true rfl, Nat.le_of_ble_eq_true rfl⟩ hl.1 rfl (s8 sN (by decide)) dX6_clean_36 (le_room g (LEm hc6 (mo_F_X6_dropLock a0 (ai σ (gr σ 257 a0) a1.toNatClampNeg) _)) (LEm hF (mo_ite (mo_bd (mo_F_X6_dropData a0 (ai σ (gr σ 257 a0) a1.toNatClampNeg) (ai σ (gr σ 256 a0) a1.toNatClampNeg) _) (fun r8 σ8 => (mo_ite (mo_bd (mo_F_X6_addWrite a0 (ai σ (gr σ 257 a0) a1.toNatClampNeg) (ai σ (gr σ 256 a0) a1.toNatClampNeg) (ai σ (gr σ 256 a0) a1.toNatClampNeg) (1 : Int32) _) (fun r10 σ10 => mo_ret)) mo_none))) mo_none)))) h (fun H locs h g => ?_)
    refine x_aload_n hx hb dX6_clean_39 rfl (lv_at hl 2 rfl) ?_
    refine lv_iload_n hx hb dX6_clean_40 rfl (lv_at hl 0 rfl) ?_
    refine lv_iload_n hx hb dX6_clean_41 rfl (lv_at hl 1 rfl) ?_
    obtain ⟨hq7, hF⟩ := ifs hF
    obtain ⟨r8, σ8, hc8, hF⟩ := bds hF
    refine x_callv (σ := σ6) g (LEm hc8 (mo_F_X6_dropData a0 (ai σ (gr σ 257 a0) a1.toNatClampNeg) (ai σ (gr σ 256 a0) a1.toNatClampNeg) _)) (x_runV (As := [.int (ai σ (gr σ 257 a0) a1.toNatClampNeg), .int (ai σ (gr σ 256 a0) a1.toNatClampNeg)]) (rest := []) cx h (c_X6_dropData l D dA base a0 (ai σ (gr σ 257 a0) a1.toNatClampNeg) (ai σ (gr σ 256 a0) a1.toNatClampNeg) hc8) ml_X6_113 mi_X6_dropData hq7 rfl ⟨Nat.le_of_ble_eq_true rfl, Nat.le_of_ble_eq_true rfl⟩ hl.1 rfl (s8 sN (by decide)) dX6_clean_42 (le_room g (LEm hc8 (mo_F_X6_dropData a0 (ai σ (gr σ 257 a0) a1.toNatClampNeg) (ai σ (gr σ 256 a0) a1.toNatClampNeg) _)) (LEm hF (mo_ite (mo_bd (mo_F_X6_addWrite a0 (ai σ (gr σ 257 a0) a1.toNatClampNeg) (ai σ (gr σ 256 a0) a1.toNatClampNeg) (ai σ (gr σ 256 a0) a1.toNatClampNeg) (1 : Int32) _) (fun r10 σ10 => mo_ret)) mo_none)))) h (fun H locs h g => ?_)
    refine x_aload_n hx hb dX6_clean_45 rfl (lv_at hl 2 rfl) ?_
    refine lv_iload_n hx hb dX6_clean_46 rfl (lv_at hl 0 rfl) ?_
    refine lv_iload_n hx hb dX6_clean_47 rfl (lv_at hl 1 rfl) ?_
    refine lv_iload_n hx hb dX6_clean_48 rfl (lv_at hl 1 rfl) ?_
    refine lv_iconst (v := (1 : Int32)) hx hb dX6_clean_49 (by decide) ?_
    obtain ⟨hq9, hF⟩ := ifs hF
    obtain ⟨r10, σ10, hc10, hF⟩ := bds hF
    refine x_callv (σ := σ8) g (LEm hc10 (mo_F_X6_addWrite a0 (ai σ (gr σ 257 a0) a1.toNatClampNeg) (ai σ (gr σ 256 a0) a1.toNatClampNeg) (ai σ (gr σ 256 a0) a1.toNatClampNeg) (1 : Int32) _)) (x_runV (As := [.int (ai σ (gr σ 257 a0) a1.toNatClampNeg), .int (ai σ (gr σ 256 a0) a1.toNatClampNeg), .int (ai σ (gr σ 256 a0) a1.toNatClampNeg), .int (1 : Int32)]) (rest := []) cx h (c_X6_addWrite l D dA base a0 (ai σ (gr σ 257 a0) a1.toNatClampNeg) (ai σ (gr σ 256 a0) a1.toNatClampNeg) (ai σ (gr σ 256 a0) a1.toNatClampNeg) (1 : Int32) hc10) ml_X6_117 mi_X6_addWrite hq9 rfl ⟨Nat.le_of_ble_eq_true rfl, Nat.le_of_ble_eq_true rfl⟩ hl.1 rfl (s8 sN (by decide)) dX6_clean_50 (le_room g (LEm hc10 (mo_F_X6_addWrite a0 (ai σ (gr σ 257 a0) a1.toNatClampNeg) (ai σ (gr σ 256 a0) a1.toNatClampNeg) (ai σ (gr σ 256 a0) a1.toNatClampNeg) (1 : Int32) _)) (LEm hF mo_ret))) h (fun H locs h g => ?_)
    obtain ⟨rfl, rfl⟩ := rts hF
    exact x_vret cx h dX6_clean_53
def B_X6_ownAt_2 (k2 : Nat → Int32 → Int32 → Int32 → HS → Option (Int32 × HS)) (x0 : Nat) (x1 : Int32) (x2 : Int32) (x3 : Int32) (σ : HS) : Option (Int32 × HS) :=
  if kd σ x0 = 7 then (if kd σ (gr σ 262 x0) = 100 ∧ inb x1 (ln σ (gr σ 262 x0)) then (if (ai σ (gr σ 262 x0) x1.toNatClampNeg) ≤ x3 then (some ((-1 : Int32), σ)) else (if kd σ (gr σ 263 x0) = 100 ∧ inb (((16 : Int32) * x1) + x3) (ln σ (gr σ 263 x0)) then (if (ai σ (gr σ 263 x0) (((16 : Int32) * x1) + x3).toNatClampNeg) = x2 then (some (x3, σ)) else (k2 x0 x1 x2 (x3 + (1 : Int32)) σ)) else none)) else none) else none
theorem mo_B_X6_ownAt_2 {k2 : Nat → Int32 → Int32 → Int32 → HS → Option (Int32 × HS)} (mk2 : ∀ x0 x1 x2 x3 σ, Mo σ (k2 x0 x1 x2 x3 σ)) (x0 : Nat) (x1 : Int32) (x2 : Int32) (x3 : Int32) (σ : HS) : Mo σ (B_X6_ownAt_2 k2 x0 x1 x2 x3 σ) := by
  unfold B_X6_ownAt_2
  exact (mo_ite (mo_ite (mo_ite mo_ret (mo_ite (mo_ite mo_ret (mk2 x0 x1 x2 (x3 + (1 : Int32)) _)) mo_none)) mo_none) mo_none)
set_option maxHeartbeats 4000000 in
set_option maxRecDepth 100000 in
theorem w_X6_ownAt_2 {p : Program} {l : Launch} {e : Env} {s : State} {m : MethodId} {args : Array Value} {below : List Frame} {meth : Method} {c : Code} {D : va_G} {dA : Nat → ClassId} {base : Nat} {σ0 τ : HS} {r : Int32} (cx : CX p s m args meth c cX6_ownAt 4 (some .int) RX6 "ownAt" D dA base) {k2 : Nat → Int32 → Int32 → Int32 → HS → Option (Int32 × HS)} (mk2 : ∀ x0 x1 x2 x3 σ, Mo σ (k2 x0 x1 x2 x3 σ)) (hk2 : ∀ x0 x1 x2 x3 σ H locs ls, Wd D dA base σ s H locs → LE σ0 σ → lv_has ls 4 [(0, vr x0), (1, .int x1), (2, .int x2), (3, .int x3)] → k2 x0 x1 x2 x3 σ = some (r, τ) → WG p l e s m args below meth c D dA base 0 0 (some (.int r)) σ0 τ σ H locs 2 ls []) (x0 : Nat) (x1 : Int32) (x2 : Int32) (x3 : Int32) {σ : HS} {H : Heap} {locs : List Loc} {ls : Array Slot} (h : Wd D dA base σ s H locs) (g : LE σ0 σ) (hl : lv_has ls 4 [(0, vr x0), (1, .int x1), (2, .int x2), (3, .int x3)]) (hF : B_X6_ownAt_2 k2 x0 x1 x2 x3 σ = some (r, τ)) : WG p l e s m args below meth c D dA base 0 0 (some (.int r)) σ0 τ σ H locs 2 ls [] := by
  obtain ⟨hx, hb, -⟩ := id cx
  unfold B_X6_ownAt_2 at hF
  refine lv_iload_n hx hb dX6_ownAt_2 rfl (lv_at hl 3 rfl) ?_
  refine x_aload_n hx hb dX6_ownAt_3 rfl (lv_at hl 0 rfl) ?_
  obtain ⟨hq1, hF⟩ := ifs hF
  refine x_getr cx h fa_X6_57 (f := 262) rfl hq1 dX6_ownAt_4 ?_
  refine lv_iload_n hx hb dX6_ownAt_7 rfl (lv_at hl 1 rfl) ?_
  obtain ⟨hq2, hF⟩ := ifs hF
  refine x_iald cx h hq2.1 (inb.vp hq2.2) dX6_ownAt_8 ?_
  refine lv_icmp_ge (tgt := 35) hx hb dX6_ownAt_9 (by decide) (fun c3 => ?_) (fun c3 => ?_)
  · replace hF := ifp c3 hF
    refine lv_iconst (v := (-1 : Int32)) hx hb dX6_ownAt_35 (by decide) ?_
    obtain ⟨rfl, rfl⟩ := rts hF
    exact x_iret cx h dX6_ownAt_36
  · replace hF := ifn c3 hF
    refine x_aload_n hx hb dX6_ownAt_12 rfl (lv_at hl 0 rfl) ?_
    refine x_getr cx h fa_X6_60 (f := 263) rfl hq1 dX6_ownAt_13 ?_
    refine lv_bipush (v := (16 : Int32)) hx hb dX6_ownAt_16 (by decide) ?_
    refine lv_iload_n hx hb dX6_ownAt_18 rfl (lv_at hl 1 rfl) ?_
    refine lv_imul hx hb dX6_ownAt_19 ?_
    refine lv_iload_n hx hb dX6_ownAt_20 rfl (lv_at hl 3 rfl) ?_
    refine lv_iadd hx hb dX6_ownAt_21 ?_
    obtain ⟨hq4, hF⟩ := ifs hF
    refine x_iald cx h hq4.1 (inb.vp hq4.2) dX6_ownAt_22 ?_
    refine lv_iload_n hx hb dX6_ownAt_23 rfl (lv_at hl 2 rfl) ?_
    refine lv_icmp_ne (tgt := 29) hx hb dX6_ownAt_24 (by decide) (fun c5 => ?_) (fun c5 => ?_)
    · replace hF := ifn c5 hF
      refine x_iinc (k := 3) (v := (1 : Int32)) (lv' := [(3, .int (x3 + (1 : Int32))), (0, vr x0), (1, .int x1), (2, .int x2)]) hx hb dX6_ownAt_29 hl rfl (by decide) (by decide) (cR (cI (cI (cI cN)))) rfl (fun ls hl => ?_)
      refine lv_goto (tgt := 2) hx hb dX6_ownAt_32 (by decide) ?_
      exact hk2 x0 x1 x2 (x3 + (1 : Int32)) σ _ _ _ h g (lv_sub hl [1, 2, 3, 0] rfl) hF
    · replace hF := ifp c5 hF
      refine lv_iload_n hx hb dX6_ownAt_27 rfl (lv_at hl 3 rfl) ?_
      obtain ⟨rfl, rfl⟩ := rts hF
      exact x_iret cx h dX6_ownAt_28
def L_X6_ownAt_2  : Nat → Nat → Int32 → Int32 → Int32 → HS → Option (Int32 × HS)
  | 0, _, _, _, _, _ => none
  | N + 1, x0, x1, x2, x3, σ => B_X6_ownAt_2 (L_X6_ownAt_2  N) x0 x1 x2 x3 σ
theorem mo_L_X6_ownAt_2  : ∀ (N : Nat) (x0 : Nat) (x1 : Int32) (x2 : Int32) (x3 : Int32) (σ : HS), Mo σ (L_X6_ownAt_2  N x0 x1 x2 x3 σ) := by
  intro N
  induction N with
  | zero => intro x0 x1 x2 x3 σ; exact mo_none
  | succ N ih => intro x0 x1 x2 x3 σ; exact mo_B_X6_ownAt_2 ih x0 x1 x2 x3 σ
theorem wl_X6_ownAt_2 {p : Program} {l : Launch} {e : Env} {s : State} {m : MethodId} {args : Array Value} {below : List Frame} {meth : Method} {c : Code} {D : va_G} {dA : Nat → ClassId} {base : Nat} {σ0 τ : HS} {r : Int32} (cx : CX p s m args meth c cX6_ownAt 4 (some .int) RX6 "ownAt" D dA base)  : ∀ (N : Nat) (x0 : Nat) (x1 : Int32) (x2 : Int32) (x3 : Int32) (σ : HS) (H : Heap) (locs : List Loc) (ls : Array Slot), Wd D dA base σ s H locs → LE σ0 σ → lv_has ls 4 [(0, vr x0), (1, .int x1), (2, .int x2), (3, .int x3)] → L_X6_ownAt_2  N x0 x1 x2 x3 σ = some (r, τ) → WG p l e s m args below meth c D dA base 0 0 (some (.int r)) σ0 τ σ H locs 2 ls [] := by
  intro N
  induction N with
  | zero => intro x0 x1 x2 x3 σ H locs ls h g hl hF; cases hF
  | succ N ih => intro x0 x1 x2 x3 σ H locs ls h g hl hF; exact w_X6_ownAt_2 cx (mo_L_X6_ownAt_2  N) ih x0 x1 x2 x3 h g hl hF
def F_X6_ownAt (a0 : Nat) (a1 : Int32) (a2 : Int32) (σ : HS) : Option (Int32 × HS) :=
  L_X6_ownAt_2  NF a0 a1 a2 (0 : Int32) σ
theorem mo_F_X6_ownAt (a0 : Nat) (a1 : Int32) (a2 : Int32) (σ : HS) : Mo σ (F_X6_ownAt a0 a1 a2 σ) := by
  unfold F_X6_ownAt
  exact (mo_L_X6_ownAt_2  NF a0 a1 a2 (0 : Int32) _)
set_option maxHeartbeats 4000000 in
set_option maxRecDepth 100000 in
theorem c_X6_ownAt (l : Launch) (D : va_G) (dA : Nat → ClassId) (base : Nat) (a0 : Nat) (a1 : Int32) (a2 : Int32) {σ τ : HS} {r : Int32} (hF : F_X6_ownAt a0 a1 a2 σ = some (r, τ)) : CT l yX6_ownAt cX6_ownAt 4 (some .int) 0 0 D dA base [vr a0, .int a1, .int a2] (some (.int r)) σ τ := by
  refine CT.of (lv := [(0, vr a0), (1, .int a1), (2, .int a2)]) (by decide) (vR (vI (vI vN))) (Nat.le_of_ble_eq_true rfl) rfl ?_
  intro p e s m args below meth c ls cx hl h
  have cx : CX p s m args meth c cX6_ownAt 4 (some .int) RX6 "ownAt" D dA base := cx
  have g : LE σ σ := LE.rf
  obtain ⟨hx, hb, -⟩ := id cx
  unfold F_X6_ownAt at hF
  refine lv_iconst (v := (0 : Int32)) hx hb dX6_ownAt_0 (by decide) ?_
  refine x_istore_n (lv' := [(3, .int (0 : Int32)), (0, vr a0), (1, .int a1), (2, .int a2)]) hx hb dX6_ownAt_1 rfl hl (by decide) (cR (cI (cI cN))) rfl (fun ls hl => ?_)
  exact wl_X6_ownAt_2 cx   NF a0 a1 a2 (0 : Int32) σ _ _ _ h g (lv_sub hl [1, 2, 3, 0] rfl) hF
def B_X6_see_41  (y0 : Int32) (σ : HS) : Option (Int32 × HS) :=
  some (y0, σ)
theorem mo_B_X6_see_41  (y0 : Int32) (σ : HS) : Mo σ (B_X6_see_41  y0 σ) := by
  unfold B_X6_see_41
  exact mo_ret
set_option maxHeartbeats 4000000 in
set_option maxRecDepth 100000 in
theorem w_X6_see_41 {p : Program} {l : Launch} {e : Env} {s : State} {m : MethodId} {args : Array Value} {below : List Frame} {meth : Method} {c : Code} {D : va_G} {dA : Nat → ClassId} {base : Nat} {σ0 τ : HS} {r : Int32} (cx : CX p s m args meth c cX6_see 7 (some .int) RX6 "see" D dA base)  (y0 : Int32) {σ : HS} {H : Heap} {locs : List Loc} {ls : Array Slot} (h : Wd D dA base σ s H locs) (g : LE σ0 σ) (hl : lv_has ls 7 []) (hF : B_X6_see_41  y0 σ = some (r, τ)) : WG p l e s m args below meth c D dA base 3 70 (some (.int r)) σ0 τ σ H locs 41 ls [.int y0] := by
  obtain ⟨hx, hb, -⟩ := id cx
  unfold B_X6_see_41 at hF
  obtain ⟨rfl, rfl⟩ := rts hF
  exact x_iret cx h dX6_see_41
def B_X6_see_82  (x0 : Nat) (x2 : Int32) (σ : HS) : Option (Int32 × HS) :=
  if kd σ x0 = 7 then (bd (F_X6_clean x0 x2 σ) (fun r2 σ2 => some ((-5 : Int32), σ2))) else none
theorem mo_B_X6_see_82  (x0 : Nat) (x2 : Int32) (σ : HS) : Mo σ (B_X6_see_82  x0 x2 σ) := by
  unfold B_X6_see_82
  exact (mo_ite (mo_bd (mo_F_X6_clean x0 x2 _) (fun r2 σ2 => mo_ret)) mo_none)
set_option maxHeartbeats 4000000 in
set_option maxRecDepth 100000 in
theorem w_X6_see_82 {p : Program} {l : Launch} {e : Env} {s : State} {m : MethodId} {args : Array Value} {below : List Frame} {meth : Method} {c : Code} {D : va_G} {dA : Nat → ClassId} {base : Nat} {σ0 τ : HS} {r : Int32} (cx : CX p s m args meth c cX6_see 7 (some .int) RX6 "see" D dA base)  (x0 : Nat) (x2 : Int32) {σ : HS} {H : Heap} {locs : List Loc} {ls : Array Slot} (h : Wd D dA base σ s H locs) (g : LE σ0 σ) (hl : lv_has ls 7 [(0, vr x0), (2, .int x2)]) (hF : B_X6_see_82  x0 x2 σ = some (r, τ)) : WG p l e s m args below meth c D dA base 3 70 (some (.int r)) σ0 τ σ H locs 82 ls [] := by
  obtain ⟨hx, hb, -⟩ := id cx
  unfold B_X6_see_82 at hF
  refine x_aload_n hx hb dX6_see_82 rfl (lv_at hl 0 rfl) ?_
  refine lv_iload_n hx hb dX6_see_83 rfl (lv_at hl 1 rfl) ?_
  obtain ⟨hq1, hF⟩ := ifs hF
  obtain ⟨r2, σ2, hc2, hF⟩ := bds hF
  refine x_callv (σ := σ) g (LEm hc2 (mo_F_X6_clean x0 x2 _)) (x_runV (As := [.int x2]) (rest := []) cx h (c_X6_clean l D dA base x0 x2 hc2) ml_X6_131 mi_X6_clean hq1 rfl ⟨Nat.le_of_ble_eq_true rfl, Nat.le_of_ble_eq_true rfl⟩ hl.1 rfl (s8 sN (by decide)) dX6_see_84 (le_room g (LEm hc2 (mo_F_X6_clean x0 x2 _)) (LEm hF mo_ret))) h (fun H locs h g => ?_)
  refine lv_bipush (v := (-5 : Int32)) hx hb dX6_see_87 (by decide) ?_
  obtain ⟨rfl, rfl⟩ := rts hF
  exact x_iret cx h dX6_see_89
def B_X6_see_243  (y0 : Int32) (σ : HS) : Option (Int32 × HS) :=
  some (y0, σ)
theorem mo_B_X6_see_243  (y0 : Int32) (σ : HS) : Mo σ (B_X6_see_243  y0 σ) := by
  unfold B_X6_see_243
  exact mo_ret
set_option maxHeartbeats 4000000 in
set_option maxRecDepth 100000 in
theorem w_X6_see_243 {p : Program} {l : Launch} {e : Env} {s : State} {m : MethodId} {args : Array Value} {below : List Frame} {meth : Method} {c : Code} {D : va_G} {dA : Nat → ClassId} {base : Nat} {σ0 τ : HS} {r : Int32} (cx : CX p s m args meth c cX6_see 7 (some .int) RX6 "see" D dA base)  (y0 : Int32) {σ : HS} {H : Heap} {locs : List Loc} {ls : Array Slot} (h : Wd D dA base σ s H locs) (g : LE σ0 σ) (hl : lv_has ls 7 []) (hF : B_X6_see_243  y0 σ = some (r, τ)) : WG p l e s m args below meth c D dA base 3 70 (some (.int r)) σ0 τ σ H locs 243 ls [.int y0] := by
  obtain ⟨hx, hb, -⟩ := id cx
  unfold B_X6_see_243 at hF
  obtain ⟨rfl, rfl⟩ := rts hF
  exact x_iret cx h dX6_see_243
def B_X6_see_231   (σ : HS) : Option (Int32 × HS) :=
  B_X6_see_243  (-7 : Int32) σ
theorem mo_B_X6_see_231   (σ : HS) : Mo σ (B_X6_see_231   σ) := by
  unfold B_X6_see_231
  exact (mo_B_X6_see_243  (-7 : Int32) _)
set_option maxHeartbeats 4000000 in
set_option maxRecDepth 100000 in
theorem w_X6_see_231 {p : Program} {l : Launch} {e : Env} {s : State} {m : MethodId} {args : Array Value} {below : List Frame} {meth : Method} {c : Code} {D : va_G} {dA : Nat → ClassId} {base : Nat} {σ0 τ : HS} {r : Int32} (cx : CX p s m args meth c cX6_see 7 (some .int) RX6 "see" D dA base)   {σ : HS} {H : Heap} {locs : List Loc} {ls : Array Slot} (h : Wd D dA base σ s H locs) (g : LE σ0 σ) (hl : lv_has ls 7 []) (hF : B_X6_see_231   σ = some (r, τ)) : WG p l e s m args below meth c D dA base 3 70 (some (.int r)) σ0 τ σ H locs 231 ls [] := by
  obtain ⟨hx, hb, -⟩ := id cx
  unfold B_X6_see_231 at hF
  refine lv_bipush (v := (-7 : Int32)) hx hb dX6_see_231 (by decide) ?_
  refine lv_goto (tgt := 243) hx hb dX6_see_233 (by decide) ?_
  exact w_X6_see_243 (σ := σ) cx   (-7 : Int32) h g (lv_sub hl [] rfl) hF
def B_X6_see_186 (k99 : Nat → Int32 → Int32 → Int32 → Int32 → HS → Option (Int32 × HS)) (x0 : Nat) (x1 : Int32) (x2 : Int32) (x5 : Int32) (y0 : Int32) (σ : HS) : Option (Int32 × HS) :=
  k99 x0 x1 x2 y0 (x5 + (1 : Int32)) σ
theorem mo_B_X6_see_186 {k99 : Nat → Int32 → Int32 → Int32 → Int32 → HS → Option (Int32 × HS)} (mk99 : ∀ x0 x1 x2 x4 x5 σ, Mo σ (k99 x0 x1 x2 x4 x5 σ)) (x0 : Nat) (x1 : Int32) (x2 : Int32) (x5 : Int32) (y0 : Int32) (σ : HS) : Mo σ (B_X6_see_186 k99 x0 x1 x2 x5 y0 σ) := by
  unfold B_X6_see_186
  exact (mk99 x0 x1 x2 y0 (x5 + (1 : Int32)) _)
set_option maxHeartbeats 4000000 in
set_option maxRecDepth 100000 in
theorem w_X6_see_186 {p : Program} {l : Launch} {e : Env} {s : State} {m : MethodId} {args : Array Value} {below : List Frame} {meth : Method} {c : Code} {D : va_G} {dA : Nat → ClassId} {base : Nat} {σ0 τ : HS} {r : Int32} (cx : CX p s m args meth c cX6_see 7 (some .int) RX6 "see" D dA base) {k99 : Nat → Int32 → Int32 → Int32 → Int32 → HS → Option (Int32 × HS)} (mk99 : ∀ x0 x1 x2 x4 x5 σ, Mo σ (k99 x0 x1 x2 x4 x5 σ)) (hk99 : ∀ x0 x1 x2 x4 x5 σ H locs ls, Wd D dA base σ s H locs → LE σ0 σ → lv_has ls 7 [(0, vr x0), (1, .int x1), (2, .int x2), (4, .int x4), (5, .int x5)] → k99 x0 x1 x2 x4 x5 σ = some (r, τ) → WG p l e s m args below meth c D dA base 3 70 (some (.int r)) σ0 τ σ H locs 99 ls []) (x0 : Nat) (x1 : Int32) (x2 : Int32) (x5 : Int32) (y0 : Int32) {σ : HS} {H : Heap} {locs : List Loc} {ls : Array Slot} (h : Wd D dA base σ s H locs) (g : LE σ0 σ) (hl : lv_has ls 7 [(0, vr x0), (1, .int x1), (2, .int x2), (5, .int x5)]) (hF : B_X6_see_186 k99 x0 x1 x2 x5 y0 σ = some (r, τ)) : WG p l e s m args below meth c D dA base 3 70 (some (.int r)) σ0 τ σ H locs 186 ls [.int y0] := by
  obtain ⟨hx, hb, -⟩ := id cx
  unfold B_X6_see_186 at hF
  refine x_istore (lv' := [(4, .int y0), (0, vr x0), (1, .int x1), (2, .int x2), (5, .int x5)]) hx hb dX6_see_186 hl (by decide) (cR (cI (cI (cI cN)))) rfl (fun ls hl => ?_)
  refine x_iinc (k := 4) (v := (1 : Int32)) (lv' := [(5, .int (x5 + (1 : Int32))), (4, .int y0), (0, vr x0), (1, .int x1), (2, .int x2)]) hx hb dX6_see_188 hl rfl (by decide) (by decide) (cI (cR (cI (cI (cI cN))))) rfl (fun ls hl => ?_)
  refine lv_goto (tgt := 99) hx hb dX6_see_191 (by decide) ?_
  exact hk99 x0 x1 x2 y0 (x5 + (1 : Int32)) σ _ _ _ h g (lv_sub hl [2, 3, 4, 1, 0] rfl) hF
def B_X6_see_184 (k99 : Nat → Int32 → Int32 → Int32 → Int32 → HS → Option (Int32 × HS)) (x0 : Nat) (x1 : Int32) (x2 : Int32) (x4 : Int32) (x5 : Int32) (σ : HS) : Option (Int32 × HS) :=
  B_X6_see_186 k99 x0 x1 x2 x5 x4 σ
theorem mo_B_X6_see_184 {k99 : Nat → Int32 → Int32 → Int32 → Int32 → HS → Option (Int32 × HS)} (mk99 : ∀ x0 x1 x2 x4 x5 σ, Mo σ (k99 x0 x1 x2 x4 x5 σ)) (x0 : Nat) (x1 : Int32) (x2 : Int32) (x4 : Int32) (x5 : Int32) (σ : HS) : Mo σ (B_X6_see_184 k99 x0 x1 x2 x4 x5 σ) := by
  unfold B_X6_see_184
  exact (mo_B_X6_see_186 mk99 x0 x1 x2 x5 x4 _)
set_option maxHeartbeats 4000000 in
set_option maxRecDepth 100000 in
theorem w_X6_see_184 {p : Program} {l : Launch} {e : Env} {s : State} {m : MethodId} {args : Array Value} {below : List Frame} {meth : Method} {c : Code} {D : va_G} {dA : Nat → ClassId} {base : Nat} {σ0 τ : HS} {r : Int32} (cx : CX p s m args meth c cX6_see 7 (some .int) RX6 "see" D dA base) {k99 : Nat → Int32 → Int32 → Int32 → Int32 → HS → Option (Int32 × HS)} (mk99 : ∀ x0 x1 x2 x4 x5 σ, Mo σ (k99 x0 x1 x2 x4 x5 σ)) (hk99 : ∀ x0 x1 x2 x4 x5 σ H locs ls, Wd D dA base σ s H locs → LE σ0 σ → lv_has ls 7 [(0, vr x0), (1, .int x1), (2, .int x2), (4, .int x4), (5, .int x5)] → k99 x0 x1 x2 x4 x5 σ = some (r, τ) → WG p l e s m args below meth c D dA base 3 70 (some (.int r)) σ0 τ σ H locs 99 ls []) (x0 : Nat) (x1 : Int32) (x2 : Int32) (x4 : Int32) (x5 : Int32) {σ : HS} {H : Heap} {locs : List Loc} {ls : Array Slot} (h : Wd D dA base σ s H locs) (g : LE σ0 σ) (hl : lv_has ls 7 [(0, vr x0), (1, .int x1), (2, .int x2), (4, .int x4), (5, .int x5)]) (hF : B_X6_see_184 k99 x0 x1 x2 x4 x5 σ = some (r, τ)) : WG p l e s m args below meth c D dA base 3 70 (some (.int r)) σ0 τ σ H locs 184 ls [] := by
  obtain ⟨hx, hb, -⟩ := id cx
  unfold B_X6_see_184 at hF
  refine lv_iload hx hb dX6_see_184 (lv_at hl 3 rfl) ?_
  exact w_X6_see_186 (σ := σ) cx mk99 hk99 x0 x1 x2 x5 x4 h g (lv_sub hl [0, 1, 2, 4] rfl) hF
def B_X6_see_179 (k99 : Nat → Int32 → Int32 → Int32 → Int32 → HS → Option (Int32 × HS)) (x0 : Nat) (x1 : Int32) (x2 : Int32) (x5 : Int32) (σ : HS) : Option (Int32 × HS) :=
  B_X6_see_186 k99 x0 x1 x2 x5 x5 σ
theorem mo_B_X6_see_179 {k99 : Nat → Int32 → Int32 → Int32 → Int32 → HS → Option (Int32 × HS)} (mk99 : ∀ x0 x1 x2 x4 x5 σ, Mo σ (k99 x0 x1 x2 x4 x5 σ)) (x0 : Nat) (x1 : Int32) (x2 : Int32) (x5 : Int32) (σ : HS) : Mo σ (B_X6_see_179 k99 x0 x1 x2 x5 σ) := by
  unfold B_X6_see_179
  exact (mo_B_X6_see_186 mk99 x0 x1 x2 x5 x5 _)
set_option maxHeartbeats 4000000 in
set_option maxRecDepth 100000 in
theorem w_X6_see_179 {p : Program} {l : Launch} {e : Env} {s : State} {m : MethodId} {args : Array Value} {below : List Frame} {meth : Method} {c : Code} {D : va_G} {dA : Nat → ClassId} {base : Nat} {σ0 τ : HS} {r : Int32} (cx : CX p s m args meth c cX6_see 7 (some .int) RX6 "see" D dA base) {k99 : Nat → Int32 → Int32 → Int32 → Int32 → HS → Option (Int32 × HS)} (mk99 : ∀ x0 x1 x2 x4 x5 σ, Mo σ (k99 x0 x1 x2 x4 x5 σ)) (hk99 : ∀ x0 x1 x2 x4 x5 σ H locs ls, Wd D dA base σ s H locs → LE σ0 σ → lv_has ls 7 [(0, vr x0), (1, .int x1), (2, .int x2), (4, .int x4), (5, .int x5)] → k99 x0 x1 x2 x4 x5 σ = some (r, τ) → WG p l e s m args below meth c D dA base 3 70 (some (.int r)) σ0 τ σ H locs 99 ls []) (x0 : Nat) (x1 : Int32) (x2 : Int32) (x5 : Int32) {σ : HS} {H : Heap} {locs : List Loc} {ls : Array Slot} (h : Wd D dA base σ s H locs) (g : LE σ0 σ) (hl : lv_has ls 7 [(0, vr x0), (1, .int x1), (2, .int x2), (5, .int x5)]) (hF : B_X6_see_179 k99 x0 x1 x2 x5 σ = some (r, τ)) : WG p l e s m args below meth c D dA base 3 70 (some (.int r)) σ0 τ σ H locs 179 ls [] := by
  obtain ⟨hx, hb, -⟩ := id cx
  unfold B_X6_see_179 at hF
  refine lv_iload hx hb dX6_see_179 (lv_at hl 3 rfl) ?_
  refine lv_goto (tgt := 186) hx hb dX6_see_181 (by decide) ?_
  exact w_X6_see_186 (σ := σ) cx mk99 hk99 x0 x1 x2 x5 x5 h g (lv_sub hl [0, 1, 2, 3] rfl) hF
def B_X6_see_150 (k99 : Nat → Int32 → Int32 → Int32 → Int32 → HS → Option (Int32 × HS)) (x0 : Nat) (x1 : Int32) (x2 : Int32) (x4 : Int32) (x5 : Int32) (y0 : Int32) (σ : HS) : Option (Int32 × HS) :=
  if y0 = 0 then (B_X6_see_184 k99 x0 x1 x2 x4 x5 σ) else (if x4 < 0 then (B_X6_see_179 k99 x0 x1 x2 x5 σ) else (if kd σ x0 = 7 then (if kd σ (gr σ 252 x0) = 100 ∧ inb x5 (ln σ (gr σ 252 x0)) then (if kd σ (gr σ 252 x0) = 100 ∧ inb x4 (ln σ (gr σ 252 x0)) then (if (ai σ (gr σ 252 x0) x5.toNatClampNeg) ≤ (ai σ (gr σ 252 x0) x4.toNatClampNeg) then (B_X6_see_184 k99 x0 x1 x2 x4 x5 σ) else (B_X6_see_179 k99 x0 x1 x2 x5 σ)) else none) else none) else none))
theorem mo_B_X6_see_150 {k99 : Nat → Int32 → Int32 → Int32 → Int32 → HS → Option (Int32 × HS)} (mk99 : ∀ x0 x1 x2 x4 x5 σ, Mo σ (k99 x0 x1 x2 x4 x5 σ)) (x0 : Nat) (x1 : Int32) (x2 : Int32) (x4 : Int32) (x5 : Int32) (y0 : Int32) (σ : HS) : Mo σ (B_X6_see_150 k99 x0 x1 x2 x4 x5 y0 σ) := by
  unfold B_X6_see_150
  exact (mo_ite (mo_B_X6_see_184 mk99 x0 x1 x2 x4 x5 _) (mo_ite (mo_B_X6_see_179 mk99 x0 x1 x2 x5 _) (mo_ite (mo_ite (mo_ite (mo_ite (mo_B_X6_see_184 mk99 x0 x1 x2 x4 x5 _) (mo_B_X6_see_179 mk99 x0 x1 x2 x5 _)) mo_none) mo_none) mo_none)))
set_option maxHeartbeats 4000000 in
set_option maxRecDepth 100000 in
theorem w_X6_see_150 {p : Program} {l : Launch} {e : Env} {s : State} {m : MethodId} {args : Array Value} {below : List Frame} {meth : Method} {c : Code} {D : va_G} {dA : Nat → ClassId} {base : Nat} {σ0 τ : HS} {r : Int32} (cx : CX p s m args meth c cX6_see 7 (some .int) RX6 "see" D dA base) {k99 : Nat → Int32 → Int32 → Int32 → Int32 → HS → Option (Int32 × HS)} (mk99 : ∀ x0 x1 x2 x4 x5 σ, Mo σ (k99 x0 x1 x2 x4 x5 σ)) (hk99 : ∀ x0 x1 x2 x4 x5 σ H locs ls, Wd D dA base σ s H locs → LE σ0 σ → lv_has ls 7 [(0, vr x0), (1, .int x1), (2, .int x2), (4, .int x4), (5, .int x5)] → k99 x0 x1 x2 x4 x5 σ = some (r, τ) → WG p l e s m args below meth c D dA base 3 70 (some (.int r)) σ0 τ σ H locs 99 ls []) (x0 : Nat) (x1 : Int32) (x2 : Int32) (x4 : Int32) (x5 : Int32) (y0 : Int32) {σ : HS} {H : Heap} {locs : List Loc} {ls : Array Slot} (h : Wd D dA base σ s H locs) (g : LE σ0 σ) (hl : lv_has ls 7 [(0, vr x0), (1, .int x1), (2, .int x2), (4, .int x4), (5, .int x5)]) (hF : B_X6_see_150 k99 x0 x1 x2 x4 x5 y0 σ = some (r, τ)) : WG p l e s m args below meth c D dA base 3 70 (some (.int r)) σ0 τ σ H locs 150 ls [.int y0] := by
  obtain ⟨hx, hb, -⟩ := id cx
  unfold B_X6_see_150 at hF
  refine x_istore (lv' := [(6, .int y0), (0, vr x0), (1, .int x1), (2, .int x2), (4, .int x4), (5, .int x5)]) hx hb dX6_see_150 hl (by decide) (cR (cI (cI (cI (cI cN))))) rfl (fun ls hl => ?_)
  refine lv_iload hx hb dX6_see_152 (lv_at hl 0 rfl) ?_
  refine lv_if_eq (tgt := 184) hx hb dX6_see_154 (by decide) (fun c1 => ?_) (fun c1 => ?_)
  · replace hF := ifp c1 hF
    exact w_X6_see_184 (σ := σ) cx mk99 hk99 x0 x1 x2 x4 x5 h g (lv_sub hl [1, 2, 3, 4, 5] rfl) hF
  · replace hF := ifn c1 hF
    refine lv_iload hx hb dX6_see_157 (lv_at hl 4 rfl) ?_
    refine lv_if_lt (tgt := 179) hx hb dX6_see_159 (by decide) (fun c2 => ?_) (fun c2 => ?_)
    · replace hF := ifp c2 hF
      exact w_X6_see_179 (σ := σ) cx mk99 hk99 x0 x1 x2 x5 h g (lv_sub hl [1, 2, 3, 5] rfl) hF
    · replace hF := ifn c2 hF
      refine x_aload_n hx hb dX6_see_162 rfl (lv_at hl 1 rfl) ?_
      obtain ⟨hq3, hF⟩ := ifs hF
      refine x_getr cx h fa_X6_29 (f := 252) rfl hq3 dX6_see_163 ?_
      refine lv_iload hx hb dX6_see_166 (lv_at hl 5 rfl) ?_
      obtain ⟨hq4, hF⟩ := ifs hF
      refine x_iald cx h hq4.1 (inb.vp hq4.2) dX6_see_168 ?_
      refine x_aload_n hx hb dX6_see_169 rfl (lv_at hl 1 rfl) ?_
      refine x_getr cx h fa_X6_29 (f := 252) rfl hq3 dX6_see_170 ?_
      refine lv_iload hx hb dX6_see_173 (lv_at hl 4 rfl) ?_
      obtain ⟨hq5, hF⟩ := ifs hF
      refine x_iald cx h hq5.1 (inb.vp hq5.2) dX6_see_175 ?_
      refine lv_icmp_le (tgt := 184) hx hb dX6_see_176 (by decide) (fun c6 => ?_) (fun c6 => ?_)
      · replace hF := ifp c6 hF
        exact w_X6_see_184 (σ := σ) cx mk99 hk99 x0 x1 x2 x4 x5 h g (lv_sub hl [1, 2, 3, 4, 5] rfl) hF
      · replace hF := ifn c6 hF
        exact w_X6_see_179 (σ := σ) cx mk99 hk99 x0 x1 x2 x5 h g (lv_sub hl [1, 2, 3, 5] rfl) hF
def B_X6_see_149 (k99 : Nat → Int32 → Int32 → Int32 → Int32 → HS → Option (Int32 × HS)) (x0 : Nat) (x1 : Int32) (x2 : Int32) (x4 : Int32) (x5 : Int32) (σ : HS) : Option (Int32 × HS) :=
  B_X6_see_150 k99 x0 x1 x2 x4 x5 (0 : Int32) σ
theorem mo_B_X6_see_149 {k99 : Nat → Int32 → Int32 → Int32 → Int32 → HS → Option (Int32 × HS)} (mk99 : ∀ x0 x1 x2 x4 x5 σ, Mo σ (k99 x0 x1 x2 x4 x5 σ)) (x0 : Nat) (x1 : Int32) (x2 : Int32) (x4 : Int32) (x5 : Int32) (σ : HS) : Mo σ (B_X6_see_149 k99 x0 x1 x2 x4 x5 σ) := by
  unfold B_X6_see_149
  exact (mo_B_X6_see_150 mk99 x0 x1 x2 x4 x5 (0 : Int32) _)
set_option maxHeartbeats 4000000 in
set_option maxRecDepth 100000 in
theorem w_X6_see_149 {p : Program} {l : Launch} {e : Env} {s : State} {m : MethodId} {args : Array Value} {below : List Frame} {meth : Method} {c : Code} {D : va_G} {dA : Nat → ClassId} {base : Nat} {σ0 τ : HS} {r : Int32} (cx : CX p s m args meth c cX6_see 7 (some .int) RX6 "see" D dA base) {k99 : Nat → Int32 → Int32 → Int32 → Int32 → HS → Option (Int32 × HS)} (mk99 : ∀ x0 x1 x2 x4 x5 σ, Mo σ (k99 x0 x1 x2 x4 x5 σ)) (hk99 : ∀ x0 x1 x2 x4 x5 σ H locs ls, Wd D dA base σ s H locs → LE σ0 σ → lv_has ls 7 [(0, vr x0), (1, .int x1), (2, .int x2), (4, .int x4), (5, .int x5)] → k99 x0 x1 x2 x4 x5 σ = some (r, τ) → WG p l e s m args below meth c D dA base 3 70 (some (.int r)) σ0 τ σ H locs 99 ls []) (x0 : Nat) (x1 : Int32) (x2 : Int32) (x4 : Int32) (x5 : Int32) {σ : HS} {H : Heap} {locs : List Loc} {ls : Array Slot} (h : Wd D dA base σ s H locs) (g : LE σ0 σ) (hl : lv_has ls 7 [(0, vr x0), (1, .int x1), (2, .int x2), (4, .int x4), (5, .int x5)]) (hF : B_X6_see_149 k99 x0 x1 x2 x4 x5 σ = some (r, τ)) : WG p l e s m args below meth c D dA base 3 70 (some (.int r)) σ0 τ σ H locs 149 ls [] := by
  obtain ⟨hx, hb, -⟩ := id cx
  unfold B_X6_see_149 at hF
  refine lv_iconst (v := (0 : Int32)) hx hb dX6_see_149 (by decide) ?_
  exact w_X6_see_150 (σ := σ) cx mk99 hk99 x0 x1 x2 x4 x5 (0 : Int32) h g (lv_sub hl [0, 1, 2, 3, 4] rfl) hF
def B_X6_see_99 (k99 : Nat → Int32 → Int32 → Int32 → Int32 → HS → Option (Int32 × HS)) (x0 : Nat) (x1 : Int32) (x2 : Int32) (x4 : Int32) (x5 : Int32) (σ : HS) : Option (Int32 × HS) :=
  if kd σ x0 = 7 then (if (gi σ 250 x0) ≤ x5 then (if 0 ≤ x4 then (if kd σ (gr σ 253 x0) = 100 ∧ inb x4 (ln σ (gr σ 253 x0)) then (bd (F_X6_dataAt x0 x2 (ai σ (gr σ 253 x0) x4.toNatClampNeg) σ) (fun r5 σ5 => if r5 < 0 then (B_X6_see_231   σ5) else (if kd σ5 x0 = 7 then (if kd σ5 (gr σ5 249 x0) = 100 ∧ inb r5 (ln σ5 (gr σ5 249 x0)) then (if 0 ≤ (ai σ5 (gr σ5 249 x0) r5.toNatClampNeg) then (B_X6_see_243  (ai σ5 (gr σ5 249 x0) r5.toNatClampNeg) σ5) else (B_X6_see_231   σ5)) else none) else none))) else none) else (some ((-7 : Int32), σ))) else (if kd σ (gr σ 251 x0) = 100 ∧ inb x5 (ln σ (gr σ 251 x0)) then (if (ai σ (gr σ 251 x0) x5.toNatClampNeg) = x2 then (if kd σ (gr σ 254 x0) = 101 ∧ inb x5 (ln σ (gr σ 254 x0)) then (if (ai σ (gr σ 254 x0) x5.toNatClampNeg) = 0 then (if kd σ (gr σ 252 x0) = 100 ∧ inb x5 (ln σ (gr σ 252 x0)) then (if kd σ (gr σ 260 x0) = 100 ∧ inb x1 (ln σ (gr σ 260 x0)) then (if (ai σ (gr σ 260 x0) x1.toNatClampNeg) < (ai σ (gr σ 252 x0) x5.toNatClampNeg) then (B_X6_see_149 k99 x0 x1 x2 x4 x5 σ) else (B_X6_see_150 k99 x0 x1 x2 x4 x5 (1 : Int32) σ)) else none) else none) else (B_X6_see_149 k99 x0 x1 x2 x4 x5 σ)) else none) else (B_X6_see_149 k99 x0 x1 x2 x4 x5 σ)) else none)) else none
theorem mo_B_X6_see_99 {k99 : Nat → Int32 → Int32 → Int32 → Int32 → HS → Option (Int32 × HS)} (mk99 : ∀ x0 x1 x2 x4 x5 σ, Mo σ (k99 x0 x1 x2 x4 x5 σ)) (x0 : Nat) (x1 : Int32) (x2 : Int32) (x4 : Int32) (x5 : Int32) (σ : HS) : Mo σ (B_X6_see_99 k99 x0 x1 x2 x4 x5 σ) := by
  unfold B_X6_see_99
  exact (mo_ite (mo_ite (mo_ite (mo_ite (mo_bd (mo_F_X6_dataAt x0 x2 (ai σ (gr σ 253 x0) x4.toNatClampNeg) _) (fun r5 σ5 => (mo_ite (mo_B_X6_see_231   _) (mo_ite (mo_ite (mo_ite (mo_B_X6_see_243  (ai σ5 (gr σ5 249 x0) r5.toNatClampNeg) _) (mo_B_X6_see_231   _)) mo_none) mo_none)))) mo_none) mo_ret) (mo_ite (mo_ite (mo_ite (mo_ite (mo_ite (mo_ite (mo_ite (mo_B_X6_see_149 mk99 x0 x1 x2 x4 x5 _) (mo_B_X6_see_150 mk99 x0 x1 x2 x4 x5 (1 : Int32) _)) mo_none) mo_none) (mo_B_X6_see_149 mk99 x0 x1 x2 x4 x5 _)) mo_none) (mo_B_X6_see_149 mk99 x0 x1 x2 x4 x5 _)) mo_none)) mo_none)
set_option maxHeartbeats 4000000 in
set_option maxRecDepth 100000 in
theorem w_X6_see_99 {p : Program} {l : Launch} {e : Env} {s : State} {m : MethodId} {args : Array Value} {below : List Frame} {meth : Method} {c : Code} {D : va_G} {dA : Nat → ClassId} {base : Nat} {σ0 τ : HS} {r : Int32} (cx : CX p s m args meth c cX6_see 7 (some .int) RX6 "see" D dA base) {k99 : Nat → Int32 → Int32 → Int32 → Int32 → HS → Option (Int32 × HS)} (mk99 : ∀ x0 x1 x2 x4 x5 σ, Mo σ (k99 x0 x1 x2 x4 x5 σ)) (hk99 : ∀ x0 x1 x2 x4 x5 σ H locs ls, Wd D dA base σ s H locs → LE σ0 σ → lv_has ls 7 [(0, vr x0), (1, .int x1), (2, .int x2), (4, .int x4), (5, .int x5)] → k99 x0 x1 x2 x4 x5 σ = some (r, τ) → WG p l e s m args below meth c D dA base 3 70 (some (.int r)) σ0 τ σ H locs 99 ls []) (x0 : Nat) (x1 : Int32) (x2 : Int32) (x4 : Int32) (x5 : Int32) {σ : HS} {H : Heap} {locs : List Loc} {ls : Array Slot} (h : Wd D dA base σ s H locs) (g : LE σ0 σ) (hl : lv_has ls 7 [(0, vr x0), (1, .int x1), (2, .int x2), (4, .int x4), (5, .int x5)]) (hF : B_X6_see_99 k99 x0 x1 x2 x4 x5 σ = some (r, τ)) : WG p l e s m args below meth c D dA base 3 70 (some (.int r)) σ0 τ σ H locs 99 ls [] := by
  obtain ⟨hx, hb, -⟩ := id cx
  unfold B_X6_see_99 at hF
  refine lv_iload hx hb dX6_see_99 (lv_at hl 4 rfl) ?_
  refine x_aload_n hx hb dX6_see_101 rfl (lv_at hl 0 rfl) ?_
  obtain ⟨hq1, hF⟩ := ifs hF
  refine x_geti cx h fa_X6_81 (f := 250) rfl hq1 dX6_see_102 ?_
  refine lv_icmp_ge (tgt := 194) hx hb dX6_see_105 (by decide) (fun c2 => ?_) (fun c2 => ?_)
  · replace hF := ifp c2 hF
    refine lv_iload hx hb dX6_see_194 (lv_at hl 3 rfl) ?_
    refine lv_if_ge (tgt := 202) hx hb dX6_see_196 (by decide) (fun c3 => ?_) (fun c3 => ?_)
    · replace hF := ifp c3 hF
      refine x_aload_n hx hb dX6_see_202 rfl (lv_at hl 0 rfl) ?_
      refine lv_iload_n hx hb dX6_see_203 rfl (lv_at hl 2 rfl) ?_
      refine x_aload_n hx hb dX6_see_204 rfl (lv_at hl 0 rfl) ?_
      refine x_getr cx h fa_X6_32 (f := 253) rfl hq1 dX6_see_205 ?_
      refine lv_iload hx hb dX6_see_208 (lv_at hl 3 rfl) ?_
      obtain ⟨hq4, hF⟩ := ifs hF
      refine x_iald cx h hq4.1 (inb.vp hq4.2) dX6_see_210 ?_
      obtain ⟨r5, σ5, hc5, hF⟩ := bds hF
      refine x_calli (σ := σ) g (LEm hc5 (mo_F_X6_dataAt x0 x2 (ai σ (gr σ 253 x0) x4.toNatClampNeg) _)) (x_runV (As := [.int x2, .int (ai σ (gr σ 253 x0) x4.toNatClampNeg)]) (rest := []) cx h (c_X6_dataAt l D dA base x0 x2 (ai σ (gr σ 253 x0) x4.toNatClampNeg) hc5) ml_X6_99 mi_X6_dataAt hq1 rfl ⟨Nat.le_of_ble_eq_true rfl, Nat.le_of_ble_eq_true rfl⟩ hl.1 rfl (s8 sN (by decide)) dX6_see_211 (le_room g (LEm hc5 (mo_F_X6_dataAt x0 x2 (ai σ (gr σ 253 x0) x4.toNatClampNeg) _)) (LEm hF (mo_ite (mo_B_X6_see_231   _) (mo_ite (mo_ite (mo_ite (mo_B_X6_see_243  (ai σ5 (gr σ5 249 x0) r5.toNatClampNeg) _) (mo_B_X6_see_231   _)) mo_none) mo_none))))) h (fun H locs h g => ?_)
      refine x_istore (lv' := [(5, .int r5), (0, vr x0), (1, .int x1), (2, .int x2), (4, .int x4)]) hx hb dX6_see_214 hl (by decide) (cR (cI (cI (cI (cI cN))))) rfl (fun ls hl => ?_)
      refine lv_iload hx hb dX6_see_216 (lv_at hl 0 rfl) ?_
      refine lv_if_lt (tgt := 231) hx hb dX6_see_218 (by decide) (fun c6 => ?_) (fun c6 => ?_)
      · replace hF := ifp c6 hF
        exact w_X6_see_231 (σ := σ5) cx    h g (lv_sub hl [] rfl) hF
      · replace hF := ifn c6 hF
        refine x_aload_n hx hb dX6_see_221 rfl (lv_at hl 1 rfl) ?_
        obtain ⟨hq7, hF⟩ := ifs hF
        refine x_getr cx h fa_X6_23 (f := 249) rfl hq7 dX6_see_222 ?_
        refine lv_iload hx hb dX6_see_225 (lv_at hl 0 rfl) ?_
        obtain ⟨hq8, hF⟩ := ifs hF
        refine x_iald cx h hq8.1 (inb.vp hq8.2) dX6_see_227 ?_
        refine lv_if_ge (tgt := 236) hx hb dX6_see_228 (by decide) (fun c9 => ?_) (fun c9 => ?_)
        · replace hF := ifp c9 hF
          refine x_aload_n hx hb dX6_see_236 rfl (lv_at hl 1 rfl) ?_
          refine x_getr cx h fa_X6_23 (f := 249) rfl hq7 dX6_see_237 ?_
          refine lv_iload hx hb dX6_see_240 (lv_at hl 0 rfl) ?_
          refine x_iald cx h hq8.1 (inb.vp hq8.2) dX6_see_242 ?_
          exact w_X6_see_243 (σ := σ5) cx   (ai σ5 (gr σ5 249 x0) r5.toNatClampNeg) h g (lv_sub hl [] rfl) hF
        · replace hF := ifn c9 hF
          exact w_X6_see_231 (σ := σ5) cx    h g (lv_sub hl [] rfl) hF
    · replace hF := ifn c3 hF
      refine lv_bipush (v := (-7 : Int32)) hx hb dX6_see_199 (by decide) ?_
      obtain ⟨rfl, rfl⟩ := rts hF
      exact x_iret cx h dX6_see_201
  · replace hF := ifn c2 hF
    refine x_aload_n hx hb dX6_see_108 rfl (lv_at hl 0 rfl) ?_
    refine x_getr cx h fa_X6_26 (f := 251) rfl hq1 dX6_see_109 ?_
    refine lv_iload hx hb dX6_see_112 (lv_at hl 4 rfl) ?_
    obtain ⟨hq10, hF⟩ := ifs hF
    refine x_iald cx h hq10.1 (inb.vp hq10.2) dX6_see_114 ?_
    refine lv_iload_n hx hb dX6_see_115 rfl (lv_at hl 2 rfl) ?_
    refine lv_icmp_ne (tgt := 149) hx hb dX6_see_116 (by decide) (fun c11 => ?_) (fun c11 => ?_)
    · replace hF := ifn c11 hF
      exact w_X6_see_149 (σ := σ) cx mk99 hk99 x0 x1 x2 x4 x5 h g (lv_sub hl [0, 1, 2, 3, 4] rfl) hF
    · replace hF := ifp c11 hF
      refine x_aload_n hx hb dX6_see_119 rfl (lv_at hl 0 rfl) ?_
      refine x_getr cx h fa_X6_35 (f := 254) rfl hq1 dX6_see_120 ?_
      refine lv_iload hx hb dX6_see_123 (lv_at hl 4 rfl) ?_
      obtain ⟨hq12, hF⟩ := ifs hF
      refine x_zald cx h hq12.1 (inb.vp hq12.2) dX6_see_125 ?_
      refine lv_if_ne (tgt := 149) hx hb dX6_see_126 (by decide) (fun c13 => ?_) (fun c13 => ?_)
      · replace hF := ifn c13 hF
        exact w_X6_see_149 (σ := σ) cx mk99 hk99 x0 x1 x2 x4 x5 h g (lv_sub hl [0, 1, 2, 3, 4] rfl) hF
      · replace hF := ifp c13 hF
        refine x_aload_n hx hb dX6_see_129 rfl (lv_at hl 0 rfl) ?_
        refine x_getr cx h fa_X6_29 (f := 252) rfl hq1 dX6_see_130 ?_
        refine lv_iload hx hb dX6_see_133 (lv_at hl 4 rfl) ?_
        obtain ⟨hq14, hF⟩ := ifs hF
        refine x_iald cx h hq14.1 (inb.vp hq14.2) dX6_see_135 ?_
        refine x_aload_n hx hb dX6_see_136 rfl (lv_at hl 0 rfl) ?_
        refine x_getr cx h fa_X6_51 (f := 260) rfl hq1 dX6_see_137 ?_
        refine lv_iload_n hx hb dX6_see_140 rfl (lv_at hl 1 rfl) ?_
        obtain ⟨hq15, hF⟩ := ifs hF
        refine x_iald cx h hq15.1 (inb.vp hq15.2) dX6_see_141 ?_
        refine lv_icmp_gt (tgt := 149) hx hb dX6_see_142 (by decide) (fun c16 => ?_) (fun c16 => ?_)
        · replace hF := ifp c16 hF
          exact w_X6_see_149 (σ := σ) cx mk99 hk99 x0 x1 x2 x4 x5 h g (lv_sub hl [0, 1, 2, 3, 4] rfl) hF
        · replace hF := ifn c16 hF
          refine lv_iconst (v := (1 : Int32)) hx hb dX6_see_145 (by decide) ?_
          refine lv_goto (tgt := 150) hx hb dX6_see_146 (by decide) ?_
          exact w_X6_see_150 (σ := σ) cx mk99 hk99 x0 x1 x2 x4 x5 (1 : Int32) h g (lv_sub hl [0, 1, 2, 3, 4] rfl) hF
def L_X6_see_99  : Nat → Nat → Int32 → Int32 → Int32 → Int32 → HS → Option (Int32 × HS)
  | 0, _, _, _, _, _, _ => none
  | N + 1, x0, x1, x2, x4, x5, σ => B_X6_see_99 (L_X6_see_99  N) x0 x1 x2 x4 x5 σ
theorem mo_L_X6_see_99  : ∀ (N : Nat) (x0 : Nat) (x1 : Int32) (x2 : Int32) (x4 : Int32) (x5 : Int32) (σ : HS), Mo σ (L_X6_see_99  N x0 x1 x2 x4 x5 σ) := by
  intro N
  induction N with
  | zero => intro x0 x1 x2 x4 x5 σ; exact mo_none
  | succ N ih => intro x0 x1 x2 x4 x5 σ; exact mo_B_X6_see_99 ih x0 x1 x2 x4 x5 σ
theorem wl_X6_see_99 {p : Program} {l : Launch} {e : Env} {s : State} {m : MethodId} {args : Array Value} {below : List Frame} {meth : Method} {c : Code} {D : va_G} {dA : Nat → ClassId} {base : Nat} {σ0 τ : HS} {r : Int32} (cx : CX p s m args meth c cX6_see 7 (some .int) RX6 "see" D dA base)  : ∀ (N : Nat) (x0 : Nat) (x1 : Int32) (x2 : Int32) (x4 : Int32) (x5 : Int32) (σ : HS) (H : Heap) (locs : List Loc) (ls : Array Slot), Wd D dA base σ s H locs → LE σ0 σ → lv_has ls 7 [(0, vr x0), (1, .int x1), (2, .int x2), (4, .int x4), (5, .int x5)] → L_X6_see_99  N x0 x1 x2 x4 x5 σ = some (r, τ) → WG p l e s m args below meth c D dA base 3 70 (some (.int r)) σ0 τ σ H locs 99 ls [] := by
  intro N
  induction N with
  | zero => intro x0 x1 x2 x4 x5 σ H locs ls h g hl hF; cases hF
  | succ N ih => intro x0 x1 x2 x4 x5 σ H locs ls h g hl hF; exact w_X6_see_99 cx (mo_L_X6_see_99  N) ih x0 x1 x2 x4 x5 h g hl hF
def B_X6_see_93  (x0 : Nat) (x1 : Int32) (x2 : Int32) (σ : HS) : Option (Int32 × HS) :=
  L_X6_see_99  NF x0 x1 x2 (-1 : Int32) (0 : Int32) σ
theorem mo_B_X6_see_93  (x0 : Nat) (x1 : Int32) (x2 : Int32) (σ : HS) : Mo σ (B_X6_see_93  x0 x1 x2 σ) := by
  unfold B_X6_see_93
  exact (mo_L_X6_see_99  NF x0 x1 x2 (-1 : Int32) (0 : Int32) _)
set_option maxHeartbeats 4000000 in
set_option maxRecDepth 100000 in
theorem w_X6_see_93 {p : Program} {l : Launch} {e : Env} {s : State} {m : MethodId} {args : Array Value} {below : List Frame} {meth : Method} {c : Code} {D : va_G} {dA : Nat → ClassId} {base : Nat} {σ0 τ : HS} {r : Int32} (cx : CX p s m args meth c cX6_see 7 (some .int) RX6 "see" D dA base)  (x0 : Nat) (x1 : Int32) (x2 : Int32) {σ : HS} {H : Heap} {locs : List Loc} {ls : Array Slot} (h : Wd D dA base σ s H locs) (g : LE σ0 σ) (hl : lv_has ls 7 [(0, vr x0), (1, .int x1), (2, .int x2)]) (hF : B_X6_see_93  x0 x1 x2 σ = some (r, τ)) : WG p l e s m args below meth c D dA base 3 70 (some (.int r)) σ0 τ σ H locs 93 ls [] := by
  obtain ⟨hx, hb, -⟩ := id cx
  unfold B_X6_see_93 at hF
  refine lv_iconst (v := (-1 : Int32)) hx hb dX6_see_93 (by decide) ?_
  refine x_istore (lv' := [(4, .int (-1 : Int32)), (0, vr x0), (1, .int x1), (2, .int x2)]) hx hb dX6_see_94 hl (by decide) (cR (cI (cI cN))) rfl (fun ls hl => ?_)
  refine lv_iconst (v := (0 : Int32)) hx hb dX6_see_96 (by decide) ?_
  refine x_istore (lv' := [(5, .int (0 : Int32)), (4, .int (-1 : Int32)), (0, vr x0), (1, .int x1), (2, .int x2)]) hx hb dX6_see_97 hl (by decide) (cI (cR (cI (cI cN)))) rfl (fun ls hl => ?_)
  exact wl_X6_see_99 cx   NF x0 x1 x2 (-1 : Int32) (0 : Int32) σ _ _ _ h g (lv_sub hl [2, 3, 4, 1, 0] rfl) hF
def F_X6_see (a0 : Nat) (a1 : Int32) (a2 : Int32) (σ : HS) : Option (Int32 × HS) :=
  if kd σ a0 = 7 then (bd (F_X6_ownAt a0 a1 a2 σ) (fun r2 σ2 => if r2 < 0 then (if kd σ2 a0 = 7 then (if kd σ2 (gr σ2 256 a0) = 100 ∧ inb a2 (ln σ2 (gr σ2 256 a0)) then (if (ai σ2 (gr σ2 256 a0) a2.toNatClampNeg) ≤ 0 then (B_X6_see_93  a0 a1 a2 σ2) else (if kd σ2 (gr σ2 260 a0) = 100 ∧ inb a1 (ln σ2 (gr σ2 260 a0)) then (if (ai σ2 (gr σ2 260 a0) a1.toNatClampNeg) ≤ (ai σ2 (gr σ2 256 a0) a2.toNatClampNeg) then (B_X6_see_93  a0 a1 a2 σ2) else (bd (F_X6_isDecided a0 a2 σ2) (fun r9 σ9 => if r9 = 0 then (if kd σ9 a0 = 7 then (bd (F_X6_isLate a0 a2 σ9) (fun r12 σ12 => if r12 = 0 then (some ((-6 : Int32), σ12)) else (B_X6_see_82  a0 a2 σ12))) else none) else (B_X6_see_82  a0 a2 σ9)))) else none)) else none) else none) else (if kd σ2 a0 = 7 then (if kd σ2 (gr σ2 264 a0) = 100 ∧ inb (((16 : Int32) * a1) + r2) (ln σ2 (gr σ2 264 a0)) then (if 0 ≤ (ai σ2 (gr σ2 264 a0) (((16 : Int32) * a1) + r2).toNatClampNeg) then (B_X6_see_41  (ai σ2 (gr σ2 264 a0) (((16 : Int32) * a1) + r2).toNatClampNeg) σ2) else (B_X6_see_41  (-7 : Int32) σ2)) else none) else none))) else none
theorem mo_F_X6_see (a0 : Nat) (a1 : Int32) (a2 : Int32) (σ : HS) : Mo σ (F_X6_see a0 a1 a2 σ) := by
  unfold F_X6_see
  exact (mo_ite (mo_bd (mo_F_X6_ownAt a0 a1 a2 _) (fun r2 σ2 => (mo_ite (mo_ite (mo_ite (mo_ite (mo_B_X6_see_93  a0 a1 a2 _) (mo_ite (mo_ite (mo_B_X6_see_93  a0 a1 a2 _) (mo_bd (mo_F_X6_isDecided a0 a2 _) (fun r9 σ9 => (mo_ite (mo_ite (mo_bd (mo_F_X6_isLate a0 a2 _) (fun r12 σ12 => (mo_ite mo_ret (mo_B_X6_see_82  a0 a2 _)))) mo_none) (mo_B_X6_see_82  a0 a2 _))))) mo_none)) mo_none) mo_none) (mo_ite (mo_ite (mo_ite (mo_B_X6_see_41  (ai σ2 (gr σ2 264 a0) (((16 : Int32) * a1) + r2).toNatClampNeg) _) (mo_B_X6_see_41  (-7 : Int32) _)) mo_none) mo_none)))) mo_none)
set_option maxHeartbeats 4000000 in
set_option maxRecDepth 100000 in
theorem c_X6_see (l : Launch) (D : va_G) (dA : Nat → ClassId) (base : Nat) (a0 : Nat) (a1 : Int32) (a2 : Int32) {σ τ : HS} {r : Int32} (hF : F_X6_see a0 a1 a2 σ = some (r, τ)) : CT l yX6_see cX6_see 7 (some .int) 3 70 D dA base [vr a0, .int a1, .int a2] (some (.int r)) σ τ := by
  refine CT.of (lv := [(0, vr a0), (1, .int a1), (2, .int a2)]) (by decide) (vR (vI (vI vN))) (Nat.le_of_ble_eq_true rfl) rfl ?_
  intro p e s m args below meth c ls cx hl h
  have cx : CX p s m args meth c cX6_see 7 (some .int) RX6 "see" D dA base := cx
  have g : LE σ σ := LE.rf
  obtain ⟨hx, hb, -⟩ := id cx
  unfold F_X6_see at hF
  refine x_aload_n hx hb dX6_see_0 rfl (lv_at hl 0 rfl) ?_
  refine lv_iload_n hx hb dX6_see_1 rfl (lv_at hl 1 rfl) ?_
  refine lv_iload_n hx hb dX6_see_2 rfl (lv_at hl 2 rfl) ?_
  obtain ⟨hq1, hF⟩ := ifs hF
  obtain ⟨r2, σ2, hc2, hF⟩ := bds hF
  refine x_calli (σ := σ) g (LEm hc2 (mo_F_X6_ownAt a0 a1 a2 _)) (x_runV (As := [.int a1, .int a2]) (rest := []) cx h (c_X6_ownAt l D dA base a0 a1 a2 hc2) ml_X6_121 mi_X6_ownAt hq1 rfl ⟨Nat.le_of_ble_eq_true rfl, Nat.le_of_ble_eq_true rfl⟩ hl.1 rfl (s8 sN (by decide)) dX6_see_3 (le_room g (LEm hc2 (mo_F_X6_ownAt a0 a1 a2 _)) (LEm hF (mo_ite (mo_ite (mo_ite (mo_ite (mo_B_X6_see_93  a0 a1 a2 _) (mo_ite (mo_ite (mo_B_X6_see_93  a0 a1 a2 _) (mo_bd (mo_F_X6_isDecided a0 a2 _) (fun r9 σ9 => (mo_ite (mo_ite (mo_bd (mo_F_X6_isLate a0 a2 _) (fun r12 σ12 => (mo_ite mo_ret (mo_B_X6_see_82  a0 a2 _)))) mo_none) (mo_B_X6_see_82  a0 a2 _))))) mo_none)) mo_none) mo_none) (mo_ite (mo_ite (mo_ite (mo_B_X6_see_41  (ai σ2 (gr σ2 264 a0) (((16 : Int32) * a1) + r2).toNatClampNeg) _) (mo_B_X6_see_41  (-7 : Int32) _)) mo_none) mo_none))))) h (fun H locs h g => ?_)
  refine x_istore_n (lv' := [(3, .int r2), (0, vr a0), (1, .int a1), (2, .int a2)]) hx hb dX6_see_6 rfl hl (by decide) (cR (cI (cI cN))) rfl (fun ls hl => ?_)
  refine lv_iload_n hx hb dX6_see_7 rfl (lv_at hl 0 rfl) ?_
  refine lv_if_lt (tgt := 42) hx hb dX6_see_8 (by decide) (fun c3 => ?_) (fun c3 => ?_)
  · replace hF := ifp c3 hF
    refine x_aload_n hx hb dX6_see_42 rfl (lv_at hl 1 rfl) ?_
    obtain ⟨hq4, hF⟩ := ifs hF
    refine x_getr cx h fa_X6_39 (f := 256) rfl hq4 dX6_see_43 ?_
    refine lv_iload_n hx hb dX6_see_46 rfl (lv_at hl 3 rfl) ?_
    obtain ⟨hq5, hF⟩ := ifs hF
    refine x_iald cx h hq5.1 (inb.vp hq5.2) dX6_see_47 ?_
    refine lv_if_le (tgt := 93) hx hb dX6_see_48 (by decide) (fun c6 => ?_) (fun c6 => ?_)
    · replace hF := ifp c6 hF
      exact w_X6_see_93 (σ := σ2) cx   a0 a1 a2 h g (lv_sub hl [1, 2, 3] rfl) hF
    · replace hF := ifn c6 hF
      refine x_aload_n hx hb dX6_see_51 rfl (lv_at hl 1 rfl) ?_
      refine x_getr cx h fa_X6_39 (f := 256) rfl hq4 dX6_see_52 ?_
      refine lv_iload_n hx hb dX6_see_55 rfl (lv_at hl 3 rfl) ?_
      refine x_iald cx h hq5.1 (inb.vp hq5.2) dX6_see_56 ?_
      refine x_aload_n hx hb dX6_see_57 rfl (lv_at hl 1 rfl) ?_
      refine x_getr cx h fa_X6_51 (f := 260) rfl hq4 dX6_see_58 ?_
      refine lv_iload_n hx hb dX6_see_61 rfl (lv_at hl 2 rfl) ?_
      obtain ⟨hq7, hF⟩ := ifs hF
      refine x_iald cx h hq7.1 (inb.vp hq7.2) dX6_see_62 ?_
      refine lv_icmp_ge (tgt := 93) hx hb dX6_see_63 (by decide) (fun c8 => ?_) (fun c8 => ?_)
      · replace hF := ifp c8 hF
        exact w_X6_see_93 (σ := σ2) cx   a0 a1 a2 h g (lv_sub hl [1, 2, 3] rfl) hF
      · replace hF := ifn c8 hF
        refine x_aload_n hx hb dX6_see_66 rfl (lv_at hl 1 rfl) ?_
        refine lv_iload_n hx hb dX6_see_67 rfl (lv_at hl 3 rfl) ?_
        obtain ⟨r9, σ9, hc9, hF⟩ := bds hF
        refine x_calli (σ := σ2) g (LEm hc9 (mo_F_X6_isDecided a0 a2 _)) (x_runV (As := [.int a2]) (rest := []) cx h (c_X6_isDecided l D dA base a0 a2 hc9) ml_X6_124 mi_X6_isDecided hq4 rfl ⟨Nat.le_of_ble_eq_true rfl, Nat.le_of_ble_eq_true rfl⟩ hl.1 rfl (s8 sN (by decide)) dX6_see_68 (le_room g (LEm hc9 (mo_F_X6_isDecided a0 a2 _)) (LEm hF (mo_ite (mo_ite (mo_bd (mo_F_X6_isLate a0 a2 _) (fun r12 σ12 => (mo_ite mo_ret (mo_B_X6_see_82  a0 a2 _)))) mo_none) (mo_B_X6_see_82  a0 a2 _))))) h (fun H locs h g => ?_)
        refine lv_if_ne (tgt := 82) hx hb dX6_see_71 (by decide) (fun c10 => ?_) (fun c10 => ?_)
        · replace hF := ifn c10 hF
          exact w_X6_see_82 (σ := σ9) cx   a0 a2 h g (lv_sub hl [1, 3] rfl) hF
        · replace hF := ifp c10 hF
          refine x_aload_n hx hb dX6_see_74 rfl (lv_at hl 1 rfl) ?_
          refine lv_iload_n hx hb dX6_see_75 rfl (lv_at hl 3 rfl) ?_
          obtain ⟨hq11, hF⟩ := ifs hF
          obtain ⟨r12, σ12, hc12, hF⟩ := bds hF
          refine x_calli (σ := σ9) g (LEm hc12 (mo_F_X6_isLate a0 a2 _)) (x_runV (As := [.int a2]) (rest := []) cx h (c_X6_isLate l D dA base a0 a2 hc12) ml_X6_128 mi_X6_isLate hq11 rfl ⟨Nat.le_of_ble_eq_true rfl, Nat.le_of_ble_eq_true rfl⟩ hl.1 rfl (s8 sN (by decide)) dX6_see_76 (le_room g (LEm hc12 (mo_F_X6_isLate a0 a2 _)) (LEm hF (mo_ite mo_ret (mo_B_X6_see_82  a0 a2 _))))) h (fun H locs h g => ?_)
          refine lv_if_eq (tgt := 90) hx hb dX6_see_79 (by decide) (fun c13 => ?_) (fun c13 => ?_)
          · replace hF := ifp c13 hF
            refine lv_bipush (v := (-6 : Int32)) hx hb dX6_see_90 (by decide) ?_
            obtain ⟨rfl, rfl⟩ := rts hF
            exact x_iret cx h dX6_see_92
          · replace hF := ifn c13 hF
            exact w_X6_see_82 (σ := σ12) cx   a0 a2 h g (lv_sub hl [1, 3] rfl) hF
  · replace hF := ifn c3 hF
    refine x_aload_n hx hb dX6_see_11 rfl (lv_at hl 1 rfl) ?_
    obtain ⟨hq14, hF⟩ := ifs hF
    refine x_getr cx h fa_X6_63 (f := 264) rfl hq14 dX6_see_12 ?_
    refine lv_bipush (v := (16 : Int32)) hx hb dX6_see_15 (by decide) ?_
    refine lv_iload_n hx hb dX6_see_17 rfl (lv_at hl 2 rfl) ?_
    refine lv_imul hx hb dX6_see_18 ?_
    refine lv_iload_n hx hb dX6_see_19 rfl (lv_at hl 0 rfl) ?_
    refine lv_iadd hx hb dX6_see_20 ?_
    obtain ⟨hq15, hF⟩ := ifs hF
    refine x_iald cx h hq15.1 (inb.vp hq15.2) dX6_see_21 ?_
    refine lv_if_ge (tgt := 30) hx hb dX6_see_22 (by decide) (fun c16 => ?_) (fun c16 => ?_)
    · replace hF := ifp c16 hF
      refine x_aload_n hx hb dX6_see_30 rfl (lv_at hl 1 rfl) ?_
      refine x_getr cx h fa_X6_63 (f := 264) rfl hq14 dX6_see_31 ?_
      refine lv_bipush (v := (16 : Int32)) hx hb dX6_see_34 (by decide) ?_
      refine lv_iload_n hx hb dX6_see_36 rfl (lv_at hl 2 rfl) ?_
      refine lv_imul hx hb dX6_see_37 ?_
      refine lv_iload_n hx hb dX6_see_38 rfl (lv_at hl 0 rfl) ?_
      refine lv_iadd hx hb dX6_see_39 ?_
      refine x_iald cx h hq15.1 (inb.vp hq15.2) dX6_see_40 ?_
      exact w_X6_see_41 (σ := σ2) cx   (ai σ2 (gr σ2 264 a0) (((16 : Int32) * a1) + r2).toNatClampNeg) h g (lv_sub hl [] rfl) hF
    · replace hF := ifn c16 hF
      refine lv_bipush (v := (-7 : Int32)) hx hb dX6_see_25 (by decide) ?_
      refine lv_goto (tgt := 41) hx hb dX6_see_27 (by decide) ?_
      exact w_X6_see_41 (σ := σ2) cx   (-7 : Int32) h g (lv_sub hl [] rfl) hF
def B_X6_noClient_15  (y0 : Int32) (σ : HS) : Option (Int32 × HS) :=
  if y0 = 0 ∨ y0 = 1 then (some (y0, σ)) else none
theorem mo_B_X6_noClient_15  (y0 : Int32) (σ : HS) : Mo σ (B_X6_noClient_15  y0 σ) := by
  unfold B_X6_noClient_15
  exact (mo_ite mo_ret mo_none)
set_option maxHeartbeats 4000000 in
set_option maxRecDepth 100000 in
theorem w_X6_noClient_15 {p : Program} {l : Launch} {e : Env} {s : State} {m : MethodId} {args : Array Value} {below : List Frame} {meth : Method} {c : Code} {D : va_G} {dA : Nat → ClassId} {base : Nat} {σ0 τ : HS} {r : Int32} (cx : CX p s m args meth c cX6_noClient 1 (some .boolean) RX6 "noClient" D dA base)  (y0 : Int32) {σ : HS} {H : Heap} {locs : List Loc} {ls : Array Slot} (h : Wd D dA base σ s H locs) (g : LE σ0 σ) (hl : lv_has ls 1 []) (hF : B_X6_noClient_15  y0 σ = some (r, τ)) : WG p l e s m args below meth c D dA base 1 22 (some (.int r)) σ0 τ σ H locs 15 ls [.int y0] := by
  obtain ⟨hx, hb, -⟩ := id cx
  unfold B_X6_noClient_15 at hF
  obtain ⟨hz1, hF⟩ := ifs hF
  obtain ⟨rfl, rfl⟩ := rts hF
  exact x_zret cx h hz1 dX6_noClient_15
def F_X6_noClient (a0 : Int32) (σ : HS) : Option (Int32 × HS) :=
  bd (F_X6_in a0 (0 : Int32) (7 : Int32) σ) (fun r1 σ1 => if r1 = 0 then (B_X6_noClient_15  (1 : Int32) σ1) else (B_X6_noClient_15  (0 : Int32) σ1))
theorem mo_F_X6_noClient (a0 : Int32) (σ : HS) : Mo σ (F_X6_noClient a0 σ) := by
  unfold F_X6_noClient
  exact (mo_bd (mo_F_X6_in a0 (0 : Int32) (7 : Int32) _) (fun r1 σ1 => (mo_ite (mo_B_X6_noClient_15  (1 : Int32) _) (mo_B_X6_noClient_15  (0 : Int32) _))))
set_option maxHeartbeats 4000000 in
set_option maxRecDepth 100000 in
theorem c_X6_noClient (l : Launch) (D : va_G) (dA : Nat → ClassId) (base : Nat) (a0 : Int32) {σ τ : HS} {r : Int32} (hF : F_X6_noClient a0 σ = some (r, τ)) : CT l yX6_noClient cX6_noClient 1 (some .boolean) 1 22 D dA base [.int a0] (some (.int r)) σ τ := by
  refine CT.of (lv := [(0, .int a0)]) (by decide) (vI vN) (Nat.le_of_ble_eq_true rfl) rfl ?_
  intro p e s m args below meth c ls cx hl h
  have cx : CX p s m args meth c cX6_noClient 1 (some .boolean) RX6 "noClient" D dA base := cx
  have g : LE σ σ := LE.rf
  obtain ⟨hx, hb, -⟩ := id cx
  unfold F_X6_noClient at hF
  refine lv_iload_n hx hb dX6_noClient_0 rfl (lv_at hl 0 rfl) ?_
  refine lv_iconst (v := (0 : Int32)) hx hb dX6_noClient_1 (by decide) ?_
  refine lv_bipush (v := (7 : Int32)) hx hb dX6_noClient_2 (by decide) ?_
  obtain ⟨r1, σ1, hc1, hF⟩ := bds hF
  refine x_calli (σ := σ) g (LEm hc1 (mo_F_X6_in a0 (0 : Int32) (7 : Int32) _)) (x_runS (As := [.int a0, .int (0 : Int32), .int (7 : Int32)]) (rest := []) cx h (c_X6_in l D dA base a0 (0 : Int32) (7 : Int32) hc1) ml_X6_134 mi_X6_in rfl ⟨Nat.le_of_ble_eq_true rfl, Nat.le_of_ble_eq_true rfl⟩ hl.1 rfl (s8 sN (by decide)) dX6_noClient_4 (le_room g (LEm hc1 (mo_F_X6_in a0 (0 : Int32) (7 : Int32) _)) (LEm hF (mo_ite (mo_B_X6_noClient_15  (1 : Int32) _) (mo_B_X6_noClient_15  (0 : Int32) _))))) h (fun H locs h g => ?_)
  refine lv_if_ne (tgt := 14) hx hb dX6_noClient_7 (by decide) (fun c2 => ?_) (fun c2 => ?_)
  · replace hF := ifn c2 hF
    refine lv_iconst (v := (0 : Int32)) hx hb dX6_noClient_14 (by decide) ?_
    exact w_X6_noClient_15 (σ := σ1) cx   (0 : Int32) h g (lv_sub hl [] rfl) hF
  · replace hF := ifp c2 hF
    refine lv_iconst (v := (1 : Int32)) hx hb dX6_noClient_10 (by decide) ?_
    refine lv_goto (tgt := 15) hx hb dX6_noClient_11 (by decide) ?_
    exact w_X6_noClient_15 (σ := σ1) cx   (1 : Int32) h g (lv_sub hl [] rfl) hF
