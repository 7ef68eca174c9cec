def B_X6_data_106  (y0 : Int32) (σ : HS) : Option (Int32 × HS) :=
  some (y0, σ)
theorem mo_B_X6_data_106  (y0 : Int32) (σ : HS) : Mo σ (B_X6_data_106  y0 σ) := by
  unfold B_X6_data_106
  exact mo_ret
set_option maxHeartbeats 4000000 in
set_option maxRecDepth 100000 in
theorem w_X6_data_106 {p : Program} {l : Launch} {e : Env} {s : State} {m : MethodId} {args : Array Value} {below : List Frame} {meth : Method} {c : Code} {D : va_G} {dA : Nat → ClassId} {base : Nat} {σ0 τ : HS} {r : Int32} (cx : CX p s m args meth c cX6_data 7 (some .int) RX6 "data" D dA base)  (y0 : Int32) {σ : HS} {H : Heap} {locs : List Loc} {ls : Array Slot} (h : Wd D dA base σ s H locs) (g : LE σ0 σ) (hl : lv_has ls 7 []) (hF : B_X6_data_106  y0 σ = some (r, τ)) : WG p l e s m args below meth c D dA base 2 43 (some (.int r)) σ0 τ σ H locs 106 ls [.int y0] := by
  obtain ⟨hx, hb, -⟩ := id cx
  unfold B_X6_data_106 at hF
  obtain ⟨rfl, rfl⟩ := rts hF
  exact x_iret cx h dX6_data_106
def B_X6_data_89 (k36 : Nat → Int32 → Int32 → Int32 → Int32 → Int32 → Int32 → HS → Option (Int32 × HS)) (x0 : Nat) (x1 : Int32) (x2 : Int32) (x3 : Int32) (x4 : Int32) (x5 : Int32) (x6 : Int32) (σ : HS) : Option (Int32 × HS) :=
  k36 x0 x1 x2 x3 x4 x5 (x6 + (1 : Int32)) σ
theorem mo_B_X6_data_89 {k36 : Nat → Int32 → Int32 → Int32 → Int32 → Int32 → Int32 → HS → Option (Int32 × HS)} (mk36 : ∀ x0 x1 x2 x3 x4 x5 x6 σ, Mo σ (k36 x0 x1 x2 x3 x4 x5 x6 σ)) (x0 : Nat) (x1 : Int32) (x2 : Int32) (x3 : Int32) (x4 : Int32) (x5 : Int32) (x6 : Int32) (σ : HS) : Mo σ (B_X6_data_89 k36 x0 x1 x2 x3 x4 x5 x6 σ) := by
  unfold B_X6_data_89
  exact (mk36 x0 x1 x2 x3 x4 x5 (x6 + (1 : Int32)) _)
set_option maxHeartbeats 4000000 in
set_option maxRecDepth 100000 in
theorem w_X6_data_89 {p : Program} {l : Launch} {e : Env} {s : State} {m : MethodId} {args : Array Value} {below : List Frame} {meth : Method} {c : Code} {D : va_G} {dA : Nat → ClassId} {base : Nat} {σ0 τ : HS} {r : Int32} (cx : CX p s m args meth c cX6_data 7 (some .int) RX6 "data" D dA base) {k36 : Nat → Int32 → Int32 → Int32 → Int32 → Int32 → Int32 → HS → Option (Int32 × HS)} (mk36 : ∀ x0 x1 x2 x3 x4 x5 x6 σ, Mo σ (k36 x0 x1 x2 x3 x4 x5 x6 σ)) (hk36 : ∀ x0 x1 x2 x3 x4 x5 x6 σ H locs ls, Wd D dA base σ s H locs → LE σ0 σ → lv_has ls 7 [(0, vr x0), (1, .int x1), (2, .int x2), (3, .int x3), (4, .int x4), (5, .int x5), (6, .int x6)] → k36 x0 x1 x2 x3 x4 x5 x6 σ = some (r, τ) → WG p l e s m args below meth c D dA base 2 43 (some (.int r)) σ0 τ σ H locs 36 ls []) (x0 : Nat) (x1 : Int32) (x2 : Int32) (x3 : Int32) (x4 : Int32) (x5 : Int32) (x6 : Int32) {σ : HS} {H : Heap} {locs : List Loc} {ls : Array Slot} (h : Wd D dA base σ s H locs) (g : LE σ0 σ) (hl : lv_has ls 7 [(0, vr x0), (1, .int x1), (2, .int x2), (3, .int x3), (4, .int x4), (5, .int x5), (6, .int x6)]) (hF : B_X6_data_89 k36 x0 x1 x2 x3 x4 x5 x6 σ = some (r, τ)) : WG p l e s m args below meth c D dA base 2 43 (some (.int r)) σ0 τ σ H locs 89 ls [] := by
  obtain ⟨hx, hb, -⟩ := id cx
  unfold B_X6_data_89 at hF
  refine x_iinc (k := 6) (v := (1 : Int32)) (lv' := [(6, .int (x6 + (1 : Int32))), (0, vr x0), (1, .int x1), (2, .int x2), (3, .int x3), (4, .int x4), (5, .int x5)]) hx hb dX6_data_89 hl rfl (by decide) (by decide) (cR (cI (cI (cI (cI (cI (cI cN))))))) rfl (fun ls hl => ?_)
  refine lv_goto (tgt := 36) hx hb dX6_data_92 (by decide) ?_
  exact hk36 x0 x1 x2 x3 x4 x5 (x6 + (1 : Int32)) σ _ _ _ h g (lv_sub hl [1, 2, 3, 4, 5, 6, 0] rfl) hF
def B_X6_data_87 (k36 : Nat → Int32 → Int32 → Int32 → Int32 → Int32 → Int32 → HS → Option (Int32 × HS)) (x0 : Nat) (x1 : Int32) (x2 : Int32) (x3 : Int32) (x4 : Int32) (x6 : Int32) (y0 : Int32) (σ : HS) : Option (Int32 × HS) :=
  B_X6_data_89 k36 x0 x1 x2 x3 x4 y0 x6 σ
theorem mo_B_X6_data_87 {k36 : Nat → Int32 → Int32 → Int32 → Int32 → Int32 → Int32 → HS → Option (Int32 × HS)} (mk36 : ∀ x0 x1 x2 x3 x4 x5 x6 σ, Mo σ (k36 x0 x1 x2 x3 x4 x5 x6 σ)) (x0 : Nat) (x1 : Int32) (x2 : Int32) (x3 : Int32) (x4 : Int32) (x6 : Int32) (y0 : Int32) (σ : HS) : Mo σ (B_X6_data_87 k36 x0 x1 x2 x3 x4 x6 y0 σ) := by
  unfold B_X6_data_87
  exact (mo_B_X6_data_89 mk36 x0 x1 x2 x3 x4 y0 x6 _)
set_option maxHeartbeats 4000000 in
set_option maxRecDepth 100000 in
theorem w_X6_data_87 {p : Program} {l : Launch} {e : Env} {s : State} {m : MethodId} {args : Array Value} {below : List Frame} {meth : Method} {c : Code} {D : va_G} {dA : Nat → ClassId} {base : Nat} {σ0 τ : HS} {r : Int32} (cx : CX p s m args meth c cX6_data 7 (some .int) RX6 "data" D dA base) {k36 : Nat → Int32 → Int32 → Int32 → Int32 → Int32 → Int32 → HS → Option (Int32 × HS)} (mk36 : ∀ x0 x1 x2 x3 x4 x5 x6 σ, Mo σ (k36 x0 x1 x2 x3 x4 x5 x6 σ)) (hk36 : ∀ x0 x1 x2 x3 x4 x5 x6 σ H locs ls, Wd D dA base σ s H locs → LE σ0 σ → lv_has ls 7 [(0, vr x0), (1, .int x1), (2, .int x2), (3, .int x3), (4, .int x4), (5, .int x5), (6, .int x6)] → k36 x0 x1 x2 x3 x4 x5 x6 σ = some (r, τ) → WG p l e s m args below meth c D dA base 2 43 (some (.int r)) σ0 τ σ H locs 36 ls []) (x0 : Nat) (x1 : Int32) (x2 : Int32) (x3 : Int32) (x4 : Int32) (x6 : Int32) (y0 : Int32) {σ : HS} {H : Heap} {locs : List Loc} {ls : Array Slot} (h : Wd D dA base σ s H locs) (g : LE σ0 σ) (hl : lv_has ls 7 [(0, vr x0), (1, .int x1), (2, .int x2), (3, .int x3), (4, .int x4), (6, .int x6)]) (hF : B_X6_data_87 k36 x0 x1 x2 x3 x4 x6 y0 σ = some (r, τ)) : WG p l e s m args below meth c D dA base 2 43 (some (.int r)) σ0 τ σ H locs 87 ls [.int y0] := by
  obtain ⟨hx, hb, -⟩ := id cx
  unfold B_X6_data_87 at hF
  refine x_istore (lv' := [(5, .int y0), (0, vr x0), (1, .int x1), (2, .int x2), (3, .int x3), (4, .int x4), (6, .int x6)]) hx hb dX6_data_87 hl (by decide) (cR (cI (cI (cI (cI (cI cN)))))) rfl (fun ls hl => ?_)
  exact w_X6_data_89 (σ := σ) cx mk36 hk36 x0 x1 x2 x3 x4 y0 x6 h g (lv_sub hl [1, 2, 3, 4, 5, 0, 6] rfl) hF
def B_X6_data_36 (k36 : Nat → Int32 → Int32 → Int32 → Int32 → Int32 → Int32 → HS → Option (Int32 × HS)) (x0 : Nat) (x1 : Int32) (x2 : Int32) (x3 : Int32) (x4 : Int32) (x5 : Int32) (x6 : Int32) (σ : HS) : Option (Int32 × HS) :=
  if kd σ x0 = 7 then (if (gi σ 246 x0) ≤ x6 then (if x3 = 0 then (B_X6_data_106  x4 σ) else (B_X6_data_106  x5 σ)) else (if kd σ (gr σ 247 x0) = 100 ∧ inb x6 (ln σ (gr σ 247 x0)) then (if (ai σ (gr σ 247 x0) x6.toNatClampNeg) = (((4 : Int32) * x1) + x2) then (if kd σ (gr σ 248 x0) = 100 ∧ inb x6 (ln σ (gr σ 248 x0)) then (if (ai σ (gr σ 248 x0) x6.toNatClampNeg) ≤ x5 then (B_X6_data_87 k36 x0 x1 x2 x3 (x4 + (1 : Int32)) x6 x5 σ) else (B_X6_data_87 k36 x0 x1 x2 x3 (x4 + (1 : Int32)) x6 (ai σ (gr σ 248 x0) x6.toNatClampNeg) σ)) else none) else (B_X6_data_89 k36 x0 x1 x2 x3 x4 x5 x6 σ)) else none)) else none
theorem mo_B_X6_data_36 {k36 : Nat → Int32 → Int32 → Int32 → Int32 → Int32 → Int32 → HS → Option (Int32 × HS)} (mk36 : ∀ x0 x1 x2 x3 x4 x5 x6 σ, Mo σ (k36 x0 x1 x2 x3 x4 x5 x6 σ)) (x0 : Nat) (x1 : Int32) (x2 : Int32) (x3 : Int32) (x4 : Int32) (x5 : Int32) (x6 : Int32) (σ : HS) : Mo σ (B_X6_data_36 k36 x0 x1 x2 x3 x4 x5 x6 σ) := by
  unfold B_X6_data_36
  exact (mo_ite (mo_ite (mo_ite (mo_B_X6_data_106  x4 _) (mo_B_X6_data_106  x5 _)) (mo_ite (mo_ite (mo_ite (mo_ite (mo_B_X6_data_87 mk36 x0 x1 x2 x3 (x4 + (1 : Int32)) x6 x5 _) (mo_B_X6_data_87 mk36 x0 x1 x2 x3 (x4 + (1 : Int32)) x6 (ai σ (gr σ 248 x0) x6.toNatClampNeg) _)) mo_none) (mo_B_X6_data_89 mk36 x0 x1 x2 x3 x4 x5 x6 _)) mo_none)) mo_none)
set_option maxHeartbeats 4000000 in
set_option maxRecDepth 100000 in
theorem w_X6_data_36 {p : Program} {l : Launch} {e : Env} {s : State} {m : MethodId} {args : Array Value} {below : List Frame} {meth : Method} {c : Code} {D : va_G} {dA : Nat → ClassId} {base : Nat} {σ0 τ : HS} {r : Int32} (cx : CX p s m args meth c cX6_data 7 (some .int) RX6 "data" D dA base) {k36 : Nat → Int32 → Int32 → Int32 → Int32 → Int32 → Int32 → HS → Option (Int32 × HS)} (mk36 : ∀ x0 x1 x2 x3 x4 x5 x6 σ, Mo σ (k36 x0 x1 x2 x3 x4 x5 x6 σ)) (hk36 : ∀ x0 x1 x2 x3 x4 x5 x6 σ H locs ls, Wd D dA base σ s H locs → LE σ0 σ → lv_has ls 7 [(0, vr x0), (1, .int x1), (2, .int x2), (3, .int x3), (4, .int x4), (5, .int x5), (6, .int x6)] → k36 x0 x1 x2 x3 x4 x5 x6 σ = some (r, τ) → WG p l e s m args below meth c D dA base 2 43 (some (.int r)) σ0 τ σ H locs 36 ls []) (x0 : Nat) (x1 : Int32) (x2 : Int32) (x3 : Int32) (x4 : Int32) (x5 : Int32) (x6 : Int32) {σ : HS} {H : Heap} {locs : List Loc} {ls : Array Slot} (h : Wd D dA base σ s H locs) (g : LE σ0 σ) (hl : lv_has ls 7 [(0, vr x0), (1, .int x1), (2, .int x2), (3, .int x3), (4, .int x4), (5, .int x5), (6, .int x6)]) (hF : B_X6_data_36 k36 x0 x1 x2 x3 x4 x5 x6 σ = some (r, τ)) : WG p l e s m args below meth c D dA base 2 43 (some (.int r)) σ0 τ σ H locs 36 ls [] := by
  obtain ⟨hx, hb, -⟩ := id cx
  unfold B_X6_data_36 at hF
  refine lv_iload hx hb dX6_data_36 (lv_at hl 6 rfl) ?_
  refine x_aload_n hx hb dX6_data_38 rfl (lv_at hl 0 rfl) ?_
  obtain ⟨hq1, hF⟩ := ifs hF
  refine x_geti cx h fa_X6_78 (f := 246) rfl hq1 dX6_data_39 ?_
  refine lv_icmp_ge (tgt := 95) hx hb dX6_data_42 (by decide) (fun c2 => ?_) (fun c2 => ?_)
  · replace hF := ifp c2 hF
    refine lv_iload_n hx hb dX6_data_95 rfl (lv_at hl 3 rfl) ?_
    refine lv_if_ne (tgt := 104) hx hb dX6_data_96 (by decide) (fun c3 => ?_) (fun c3 => ?_)
    · replace hF := ifn c3 hF
      refine lv_iload hx hb dX6_data_104 (lv_at hl 5 rfl) ?_
      exact w_X6_data_106 (σ := σ) cx   x5 h g (lv_sub hl [] rfl) hF
    · replace hF := ifp c3 hF
      refine lv_iload hx hb dX6_data_99 (lv_at hl 4 rfl) ?_
      refine lv_goto (tgt := 106) hx hb dX6_data_101 (by decide) ?_
      exact w_X6_data_106 (σ := σ) cx   x4 h g (lv_sub hl [] rfl) hF
  · replace hF := ifn c2 hF
    refine x_aload_n hx hb dX6_data_45 rfl (lv_at hl 0 rfl) ?_
    refine x_getr cx h fa_X6_16 (f := 247) rfl hq1 dX6_data_46 ?_
    refine lv_iload hx hb dX6_data_49 (lv_at hl 6 rfl) ?_
    obtain ⟨hq4, hF⟩ := ifs hF
    refine x_iald cx h hq4.1 (inb.vp hq4.2) dX6_data_51 ?_
    refine lv_iconst (v := (4 : Int32)) hx hb dX6_data_52 (by decide) ?_
    refine lv_iload_n hx hb dX6_data_53 rfl (lv_at hl 1 rfl) ?_
    refine lv_imul hx hb dX6_data_54 ?_
    refine lv_iload_n hx hb dX6_data_55 rfl (lv_at hl 2 rfl) ?_
    refine lv_iadd hx hb dX6_data_56 ?_
    refine lv_icmp_ne (tgt := 89) hx hb dX6_data_57 (by decide) (fun c5 => ?_) (fun c5 => ?_)
    · replace hF := ifn c5 hF
      exact w_X6_data_89 (σ := σ) cx mk36 hk36 x0 x1 x2 x3 x4 x5 x6 h g (lv_sub hl [0, 1, 2, 3, 4, 5, 6] rfl) hF
    · replace hF := ifp c5 hF
      refine x_iinc (k := 4) (v := (1 : Int32)) (lv' := [(4, .int (x4 + (1 : Int32))), (0, vr x0), (1, .int x1), (2, .int x2), (3, .int x3), (5, .int x5), (6, .int x6)]) hx hb dX6_data_60 hl rfl (by decide) (by decide) (cR (cI (cI (cI (cI (cI (cI cN))))))) rfl (fun ls hl => ?_)
      refine x_aload_n hx hb dX6_data_63 rfl (lv_at hl 1 rfl) ?_
      refine x_getr cx h fa_X6_20 (f := 248) rfl hq1 dX6_data_64 ?_
      refine lv_iload hx hb dX6_data_67 (lv_at hl 6 rfl) ?_
      obtain ⟨hq6, hF⟩ := ifs hF
      refine x_iald cx h hq6.1 (inb.vp hq6.2) dX6_data_69 ?_
      refine lv_iload hx hb dX6_data_70 (lv_at hl 5 rfl) ?_
      refine lv_icmp_le (tgt := 85) hx hb dX6_data_72 (by decide) (fun c7 => ?_) (fun c7 => ?_)
      · replace hF := ifp c7 hF
        refine lv_iload hx hb dX6_data_85 (lv_at hl 5 rfl) ?_
        exact w_X6_data_87 (σ := σ) cx mk36 hk36 x0 x1 x2 x3 (x4 + (1 : Int32)) x6 x5 h g (lv_sub hl [1, 2, 3, 4, 0, 6] rfl) hF
      · replace hF := ifn c7 hF
        refine x_aload_n hx hb dX6_data_75 rfl (lv_at hl 1 rfl) ?_
        refine x_getr cx h fa_X6_20 (f := 248) rfl hq1 dX6_data_76 ?_
        refine lv_iload hx hb dX6_data_79 (lv_at hl 6 rfl) ?_
        refine x_iald cx h hq6.1 (inb.vp hq6.2) dX6_data_81 ?_
        refine lv_goto (tgt := 87) hx hb dX6_data_82 (by decide) ?_
        exact w_X6_data_87 (σ := σ) cx mk36 hk36 x0 x1 x2 x3 (x4 + (1 : Int32)) x6 (ai σ (gr σ 248 x0) x6.toNatClampNeg) h g (lv_sub hl [1, 2, 3, 4, 0, 6] rfl) hF
def L_X6_data_36  : Nat → Nat → Int32 → Int32 → Int32 → Int32 → Int32 → Int32 → HS → Option (Int32 × HS)
  | 0, _, _, _, _, _, _, _, _ => none
  | N + 1, x0, x1, x2, x3, x4, x5, x6, σ => B_X6_data_36 (L_X6_data_36  N) x0 x1 x2 x3 x4 x5 x6 σ
theorem mo_L_X6_data_36  : ∀ (N : Nat) (x0 : Nat) (x1 : Int32) (x2 : Int32) (x3 : Int32) (x4 : Int32) (x5 : Int32) (x6 : Int32) (σ : HS), Mo σ (L_X6_data_36  N x0 x1 x2 x3 x4 x5 x6 σ) := by
  intro N
  induction N with
  | zero => intro x0 x1 x2 x3 x4 x5 x6 σ; exact mo_none
  | succ N ih => intro x0 x1 x2 x3 x4 x5 x6 σ; exact mo_B_X6_data_36 ih x0 x1 x2 x3 x4 x5 x6 σ
theorem wl_X6_data_36 {p : Program} {l : Launch} {e : Env} {s : State} {m : MethodId} {args : Array Value} {below : List Frame} {meth : Method} {c : Code} {D : va_G} {dA : Nat → ClassId} {base : Nat} {σ0 τ : HS} {r : Int32} (cx : CX p s m args meth c cX6_data 7 (some .int) RX6 "data" D dA base)  : ∀ (N : Nat) (x0 : Nat) (x1 : Int32) (x2 : Int32) (x3 : Int32) (x4 : Int32) (x5 : Int32) (x6 : Int32) (σ : HS) (H : Heap) (locs : List Loc) (ls : Array Slot), Wd D dA base σ s H locs → LE σ0 σ → lv_has ls 7 [(0, vr x0), (1, .int x1), (2, .int x2), (3, .int x3), (4, .int x4), (5, .int x5), (6, .int x6)] → L_X6_data_36  N x0 x1 x2 x3 x4 x5 x6 σ = some (r, τ) → WG p l e s m args below meth c D dA base 2 43 (some (.int r)) σ0 τ σ H locs 36 ls [] := by
  intro N
  induction N with
  | zero => intro x0 x1 x2 x3 x4 x5 x6 σ H locs ls h g hl hF; cases hF
  | succ N ih => intro x0 x1 x2 x3 x4 x5 x6 σ H locs ls h g hl hF; exact w_X6_data_36 cx (mo_L_X6_data_36  N) ih x0 x1 x2 x3 x4 x5 x6 h g hl hF
def F_X6_data (a0 : Nat) (a1 : Int32) (a2 : Int32) (a3 : Int32) (σ : HS) : Option (Int32 × HS) :=
  if kd σ a0 = 7 then (bd (F_X6_noCell a1 a2 (si σ 240 a0 (0 : Int32))) (fun r2 σ2 => if r2 = 0 then (bd (F_X6_in a3 (0 : Int32) (1 : Int32) σ2) (fun r4 σ4 => if r4 = 0 then (some ((-2 : Int32), σ4)) else (L_X6_data_36  NF a0 a1 a2 a3 (0 : Int32) (0 : Int32) (0 : Int32) σ4))) else (some ((-1 : Int32), σ2)))) else none
theorem mo_F_X6_data (a0 : Nat) (a1 : Int32) (a2 : Int32) (a3 : Int32) (σ : HS) : Mo σ (F_X6_data a0 a1 a2 a3 σ) := by
  unfold F_X6_data
  exact (mo_ite (mo_le (τ := (si σ 240 a0 (0 : Int32))) ⟨Nat.le_refl _, Nat.le_refl _⟩ (mo_bd (mo_F_X6_noCell a1 a2 _) (fun r2 σ2 => (mo_ite (mo_bd (mo_F_X6_in a3 (0 : Int32) (1 : Int32) _) (fun r4 σ4 => (mo_ite mo_ret (mo_L_X6_data_36  NF a0 a1 a2 a3 (0 : Int32) (0 : Int32) (0 : Int32) _)))) mo_ret)))) mo_none)
set_option maxHeartbeats 4000000 in
set_option maxRecDepth 100000 in
theorem c_X6_data (l : Launch) (D : va_G) (dA : Nat → ClassId) (base : Nat) (a0 : Nat) (a1 : Int32) (a2 : Int32) (a3 : Int32) {σ τ : HS} {r : Int32} (hF : F_X6_data a0 a1 a2 a3 σ = some (r, τ)) : CT l yX6_data cX6_data 7 (some .int) 2 43 D dA base [vr a0, .int a1, .int a2, .int a3] (some (.int r)) σ τ := by
  refine CT.of (lv := [(0, vr a0), (1, .int a1), (2, .int a2), (3, .int a3)]) (by decide) (vR (vI (vI (vI vN)))) (Nat.le_of_ble_eq_true rfl) rfl ?_
  intro p e s m args below meth c ls cx hl h
  have cx : CX p s m args meth c cX6_data 7 (some .int) RX6 "data" D dA base := cx
  have g : LE σ σ := LE.rf
  obtain ⟨hx, hb, -⟩ := id cx
  unfold F_X6_data at hF
  refine x_aload_n hx hb dX6_data_0 rfl (lv_at hl 0 rfl) ?_
  refine lv_iconst (v := (0 : Int32)) hx hb dX6_data_1 (by decide) ?_
  obtain ⟨hq1, hF⟩ := ifs hF
  refine x_sti cx h fa_X6_75 (f := 240) rfl (Or.inl rfl) hq1 dX6_data_2 (fun H locs h => ?_)
  refine lv_iload_n hx hb dX6_data_5 rfl (lv_at hl 1 rfl) ?_
  refine lv_iload_n hx hb dX6_data_6 rfl (lv_at hl 2 rfl) ?_
  obtain ⟨r2, σ2, hc2, hF⟩ := bds hF
  refine x_calli (σ := (si σ 240 a0 (0 : Int32))) g (LEm hc2 (mo_F_X6_noCell a1 a2 _)) (x_runS (As := [.int a1, .int a2]) (rest := []) cx h (c_X6_noCell l D dA base a1 a2 hc2) ml_X6_145 mi_X6_noCell rfl ⟨Nat.le_of_ble_eq_true rfl, Nat.le_of_ble_eq_true rfl⟩ hl.1 rfl (s8 sN (by decide)) dX6_data_7 (le_room g (LEm hc2 (mo_F_X6_noCell a1 a2 _)) (LEm hF (mo_ite (mo_bd (mo_F_X6_in a3 (0 : Int32) (1 : Int32) _) (fun r4 σ4 => (mo_ite mo_ret (mo_L_X6_data_36  NF a0 a1 a2 a3 (0 : Int32) (0 : Int32) (0 : Int32) _)))) mo_ret)))) h (fun H locs h g => ?_)
  refine lv_if_eq (tgt := 15) hx hb dX6_data_10 (by decide) (fun c3 => ?_) (fun c3 => ?_)
  · replace hF := ifp c3 hF
    refine lv_iload_n hx hb dX6_data_15 rfl (lv_at hl 3 rfl) ?_
    refine lv_iconst (v := (0 : Int32)) hx hb dX6_data_16 (by decide) ?_
    refine lv_iconst (v := (1 : Int32)) hx hb dX6_data_17 (by decide) ?_
    obtain ⟨r4, σ4, hc4, hF⟩ := bds hF
    refine x_calli (σ := σ2) g (LEm hc4 (mo_F_X6_in a3 (0 : Int32) (1 : Int32) _)) (x_runS (As := [.int a3, .int (0 : Int32), .int (1 : Int32)]) (rest := []) cx h (c_X6_in l D dA base a3 (0 : Int32) (1 : Int32) hc4) ml_X6_134 mi_X6_in rfl ⟨Nat.le_of_ble_eq_true rfl, Nat.le_of_ble_eq_true rfl⟩ hl.1 rfl (s8 sN (by decide)) dX6_data_18 (le_room g (LEm hc4 (mo_F_X6_in a3 (0 : Int32) (1 : Int32) _)) (LEm hF (mo_ite mo_ret (mo_L_X6_data_36  NF a0 a1 a2 a3 (0 : Int32) (0 : Int32) (0 : Int32) _))))) h (fun H locs h g => ?_)
    refine lv_if_ne (tgt := 27) hx hb dX6_data_21 (by decide) (fun c5 => ?_) (fun c5 => ?_)
    · replace hF := ifn c5 hF
      refine lv_iconst (v := (0 : Int32)) hx hb dX6_data_27 (by decide) ?_
      refine x_istore (lv' := [(4, .int (0 : Int32)), (0, vr a0), (1, .int a1), (2, .int a2), (3, .int a3)]) hx hb dX6_data_28 hl (by decide) (cR (cI (cI (cI cN)))) rfl (fun ls hl => ?_)
      refine lv_iconst (v := (0 : Int32)) hx hb dX6_data_30 (by decide) ?_
      refine x_istore (lv' := [(5, .int (0 : Int32)), (4, .int (0 : Int32)), (0, vr a0), (1, .int a1), (2, .int a2), (3, .int a3)]) hx hb dX6_data_31 hl (by decide) (cI (cR (cI (cI (cI cN))))) rfl (fun ls hl => ?_)
      refine lv_iconst (v := (0 : Int32)) hx hb dX6_data_33 (by decide) ?_
      refine x_istore (lv' := [(6, .int (0 : Int32)), (5, .int (0 : Int32)), (4, .int (0 : Int32)), (0, vr a0), (1, .int a1), (2, .int a2), (3, .int a3)]) hx hb dX6_data_34 hl (by decide) (cI (cI (cR (cI (cI (cI cN)))))) rfl (fun ls hl => ?_)
      exact wl_X6_data_36 cx   NF a0 a1 a2 a3 (0 : Int32) (0 : Int32) (0 : Int32) σ4 _ _ _ h g (lv_sub hl [3, 4, 5, 6, 2, 1, 0] rfl) hF
    · replace hF := ifp c5 hF
      refine lv_bipush (v := (-2 : Int32)) hx hb dX6_data_24 (by decide) ?_
      obtain ⟨rfl, rfl⟩ := rts hF
      exact x_iret cx h dX6_data_26
  · replace hF := ifn c3 hF
    refine lv_iconst (v := (-1 : Int32)) hx hb dX6_data_13 (by decide) ?_
    obtain ⟨rfl, rfl⟩ := rts hF
    exact x_iret cx h dX6_data_14
def F_X6_told (a0 : Nat) (a1 : Int32) (σ : HS) : Option (Int32 × HS) :=
  if kd σ a0 = 7 then (if a1 = (0 : Int32) then (some ((gi (si σ 240 a0 (0 : Int32)) 244 a0), (si σ 240 a0 (0 : Int32)))) else (if a1 = (1 : Int32) then (some ((gi (si σ 240 a0 (0 : Int32)) 245 a0), (si σ 240 a0 (0 : Int32)))) else (if a1 = (2 : Int32) then (bd (F_X6_records a0 (si σ 240 a0 (0 : Int32))) (fun r5 σ5 => some (r5, σ5))) else (if a1 = (3 : Int32) then (some ((gi (si σ 240 a0 (0 : Int32)) 267 a0), (si σ 240 a0 (0 : Int32)))) else (if a1 = (4 : Int32) then (some ((gi (si σ 240 a0 (0 : Int32)) 268 a0), (si σ 240 a0 (0 : Int32)))) else (if a1 = (5 : Int32) then (some ((gi (si σ 240 a0 (0 : Int32)) 269 a0), (si σ 240 a0 (0 : Int32)))) else (if a1 = (6 : Int32) then (some ((gi (si σ 240 a0 (0 : Int32)) 241 a0), (si σ 240 a0 (0 : Int32)))) else (if a1 = (7 : Int32) then (some ((gi (si σ 240 a0 (0 : Int32)) 270 a0), (si σ 240 a0 (0 : Int32)))) else (if a1 = (8 : Int32) then (some ((gi (si σ 240 a0 (0 : Int32)) 271 a0), (si σ 240 a0 (0 : Int32)))) else (some ((-2 : Int32), (si σ 240 a0 (0 : Int32))))))))))))) else none
theorem mo_F_X6_told (a0 : Nat) (a1 : Int32) (σ : HS) : Mo σ (F_X6_told a0 a1 σ) := by
  unfold F_X6_told
  exact (mo_ite (mo_ite (mo_le (τ := (si σ 240 a0 (0 : Int32))) ⟨Nat.le_refl _, Nat.le_refl _⟩ mo_ret) (mo_ite (mo_le (τ := (si σ 240 a0 (0 : Int32))) ⟨Nat.le_refl _, Nat.le_refl _⟩ mo_ret) (mo_ite (mo_le (τ := (si σ 240 a0 (0 : Int32))) ⟨Nat.le_refl _, Nat.le_refl _⟩ (mo_bd (mo_F_X6_records a0 _) (fun r5 σ5 => mo_ret))) (mo_ite (mo_le (τ := (si σ 240 a0 (0 : Int32))) ⟨Nat.le_refl _, Nat.le_refl _⟩ mo_ret) (mo_ite (mo_le (τ := (si σ 240 a0 (0 : Int32))) ⟨Nat.le_refl _, Nat.le_refl _⟩ mo_ret) (mo_ite (mo_le (τ := (si σ 240 a0 (0 : Int32))) ⟨Nat.le_refl _, Nat.le_refl _⟩ mo_ret) (mo_ite (mo_le (τ := (si σ 240 a0 (0 : Int32))) ⟨Nat.le_refl _, Nat.le_refl _⟩ mo_ret) (mo_ite (mo_le (τ := (si σ 240 a0 (0 : Int32))) ⟨Nat.le_refl _, Nat.le_refl _⟩ mo_ret) (mo_ite (mo_le (τ := (si σ 240 a0 (0 : Int32))) ⟨Nat.le_refl _, Nat.le_refl _⟩ mo_ret) (mo_le (τ := (si σ 240 a0 (0 : Int32))) ⟨Nat.le_refl _, Nat.le_refl _⟩ mo_ret)))))))))) mo_none)
set_option maxHeartbeats 4000000 in
set_option maxRecDepth 100000 in
theorem c_X6_told (l : Launch) (D : va_G) (dA : Nat → ClassId) (base : Nat) (a0 : Nat) (a1 : Int32) {σ τ : HS} {r : Int32} (hF : F_X6_told a0 a1 σ = some (r, τ)) : CT l yX6_told cX6_told 2 (some .int) 1 20 D dA base [vr a0, .int a1] (some (.int r)) σ τ := by
  refine CT.of (lv := [(0, vr a0), (1, .int a1)]) (by decide) (vR (vI vN)) (Nat.le_of_ble_eq_true rfl) rfl ?_
  intro p e s m args below meth c ls cx hl h
  have cx : CX p s m args meth c cX6_told 2 (some .int) RX6 "told" D dA base := cx
  have g : LE σ σ := LE.rf
  obtain ⟨hx, hb, -⟩ := id cx
  unfold F_X6_told at hF
  refine x_aload_n hx hb dX6_told_0 rfl (lv_at hl 0 rfl) ?_
  refine lv_iconst (v := (0 : Int32)) hx hb dX6_told_1 (by decide) ?_
  obtain ⟨hq1, hF⟩ := ifs hF
  refine x_sti cx h fa_X6_75 (f := 240) rfl (Or.inl rfl) hq1 dX6_told_2 (fun H locs h => ?_)
  refine lv_iload_n hx hb dX6_told_5 rfl (lv_at hl 1 rfl) ?_
  by_cases c2 : a1 = (0 : Int32)
  · replace hF := ifp c2 hF
    refine lv_tableIn (off := 50) (tgt := 56) hx hb dX6_told_6 (by rw [c2]; decide) (by rw [c2]; decide) (by rw [c2]; rfl) (by decide) ?_
    refine x_aload_n hx hb dX6_told_56 rfl (lv_at hl 0 rfl) ?_
    refine x_geti cx h fa_X6_96 (f := 244) rfl hq1 dX6_told_57 ?_
    obtain ⟨rfl, rfl⟩ := rts hF
    exact x_iret cx h dX6_told_60
  · replace hF := ifn c2 hF
    by_cases c3 : a1 = (1 : Int32)
    · replace hF := ifp c3 hF
      refine lv_tableIn (off := 55) (tgt := 61) hx hb dX6_told_6 (by rw [c3]; decide) (by rw [c3]; decide) (by rw [c3]; rfl) (by decide) ?_
      refine x_aload_n hx hb dX6_told_61 rfl (lv_at hl 0 rfl) ?_
      refine x_geti cx h fa_X6_93 (f := 245) rfl hq1 dX6_told_62 ?_
      obtain ⟨rfl, rfl⟩ := rts hF
      exact x_iret cx h dX6_told_65
    · replace hF := ifn c3 hF
      by_cases c4 : a1 = (2 : Int32)
      · replace hF := ifp c4 hF
        refine lv_tableIn (off := 60) (tgt := 66) hx hb dX6_told_6 (by rw [c4]; decide) (by rw [c4]; decide) (by rw [c4]; rfl) (by decide) ?_
        refine x_aload_n hx hb dX6_told_66 rfl (lv_at hl 0 rfl) ?_
        obtain ⟨r5, σ5, hc5, hF⟩ := bds hF
        refine x_calli (σ := (si σ 240 a0 (0 : Int32))) g (LEm hc5 (mo_F_X6_records a0 _)) (x_runV (As := []) (rest := []) cx h (c_X6_records l D dA base a0 hc5) ml_X6_174 mi_X6_records hq1 rfl ⟨Nat.le_of_ble_eq_true rfl, Nat.le_of_ble_eq_true rfl⟩ hl.1 rfl (s8 sN (by decide)) dX6_told_67 (le_room g (LEm hc5 (mo_F_X6_records a0 _)) (LEm hF mo_ret))) h (fun H locs h g => ?_)
        obtain ⟨rfl, rfl⟩ := rts hF
        exact x_iret cx h dX6_told_70
      · replace hF := ifn c4 hF
        by_cases c6 : a1 = (3 : Int32)
        · replace hF := ifp c6 hF
          refine lv_tableIn (off := 65) (tgt := 71) hx hb dX6_told_6 (by rw [c6]; decide) (by rw [c6]; decide) (by rw [c6]; rfl) (by decide) ?_
          refine x_aload_n hx hb dX6_told_71 rfl (lv_at hl 0 rfl) ?_
          refine x_geti cx h fa_X6_72 (f := 267) rfl hq1 dX6_told_72 ?_
          obtain ⟨rfl, rfl⟩ := rts hF
          exact x_iret cx h dX6_told_75
        · replace hF := ifn c6 hF
          by_cases c7 : a1 = (4 : Int32)
          · replace hF := ifp c7 hF
            refine lv_tableIn (off := 70) (tgt := 76) hx hb dX6_told_6 (by rw [c7]; decide) (by rw [c7]; decide) (by rw [c7]; rfl) (by decide) ?_
            refine x_aload_n hx hb dX6_told_76 rfl (lv_at hl 0 rfl) ?_
            refine x_geti cx h fa_X6_87 (f := 268) rfl hq1 dX6_told_77 ?_
            obtain ⟨rfl, rfl⟩ := rts hF
            exact x_iret cx h dX6_told_80
          · replace hF := ifn c7 hF
            by_cases c8 : a1 = (5 : Int32)
            · replace hF := ifp c8 hF
              refine lv_tableIn (off := 75) (tgt := 81) hx hb dX6_told_6 (by rw [c8]; decide) (by rw [c8]; decide) (by rw [c8]; rfl) (by decide) ?_
              refine x_aload_n hx hb dX6_told_81 rfl (lv_at hl 0 rfl) ?_
              refine x_geti cx h fa_X6_90 (f := 269) rfl hq1 dX6_told_82 ?_
              obtain ⟨rfl, rfl⟩ := rts hF
              exact x_iret cx h dX6_told_85
            · replace hF := ifn c8 hF
              by_cases c9 : a1 = (6 : Int32)
              · replace hF := ifp c9 hF
                refine lv_tableIn (off := 80) (tgt := 86) hx hb dX6_told_6 (by rw [c9]; decide) (by rw [c9]; decide) (by rw [c9]; rfl) (by decide) ?_
                refine x_aload_n hx hb dX6_told_86 rfl (lv_at hl 0 rfl) ?_
                refine x_geti cx h fa_X6_103 (f := 241) rfl hq1 dX6_told_87 ?_
                obtain ⟨rfl, rfl⟩ := rts hF
                exact x_iret cx h dX6_told_90
              · replace hF := ifn c9 hF
                by_cases c10 : a1 = (7 : Int32)
                · replace hF := ifp c10 hF
                  refine lv_tableIn (off := 85) (tgt := 91) hx hb dX6_told_6 (by rw [c10]; decide) (by rw [c10]; decide) (by rw [c10]; rfl) (by decide) ?_
                  refine x_aload_n hx hb dX6_told_91 rfl (lv_at hl 0 rfl) ?_
                  refine x_geti cx h fa_X6_187 (f := 270) rfl hq1 dX6_told_92 ?_
                  obtain ⟨rfl, rfl⟩ := rts hF
                  exact x_iret cx h dX6_told_95
                · replace hF := ifn c10 hF
                  by_cases c11 : a1 = (8 : Int32)
                  · replace hF := ifp c11 hF
                    refine lv_tableIn (off := 90) (tgt := 96) hx hb dX6_told_6 (by rw [c11]; decide) (by rw [c11]; decide) (by rw [c11]; rfl) (by decide) ?_
                    refine x_aload_n hx hb dX6_told_96 rfl (lv_at hl 0 rfl) ?_
                    refine x_geti cx h fa_X6_106 (f := 271) rfl hq1 dX6_told_97 ?_
                    obtain ⟨rfl, rfl⟩ := rts hF
                    exact x_iret cx h dX6_told_100
                  · replace hF := ifn c11 hF
                    refine lv_tableOut (tgt := 101) hx hb dX6_told_6 (by have b0 := lv_neT c2 (a := 0) rfl; have b1 := lv_neT c3 (a := 1) rfl; have b2 := lv_neT c4 (a := 2) rfl; have b3 := lv_neT c6 (a := 3) rfl; have b4 := lv_neT c7 (a := 4) rfl; have b5 := lv_neT c8 (a := 5) rfl; have b6 := lv_neT c9 (a := 6) rfl; have b7 := lv_neT c10 (a := 7) rfl; have b8 := lv_neT c11 (a := 8) rfl; omega) (by decide) ?_
                    refine lv_bipush (v := (-2 : Int32)) hx hb dX6_told_101 (by decide) ?_
                    obtain ⟨rfl, rfl⟩ := rts hF
                    exact x_iret cx h dX6_told_103
