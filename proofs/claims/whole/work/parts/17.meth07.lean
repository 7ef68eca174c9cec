def B_X6_end_47  (x1 : Int32) (σ : HS) : Option (Int32 × HS) :=
  some (x1, σ)
theorem mo_B_X6_end_47  (x1 : Int32) (σ : HS) : Mo σ (B_X6_end_47  x1 σ) := by
  unfold B_X6_end_47
  exact mo_ret
set_option maxHeartbeats 4000000 in
set_option maxRecDepth 100000 in
theorem w_X6_end_47 {p : Program} {l : Launch} {e : Env} {s : State} {m : MethodId} {args : Array Value} {below : List Frame} {meth : Method} {c : Code} {D : va_G} {dA : Nat → ClassId} {base : Nat} {σ0 τ : HS} {r : Int32} (cx : CX p s m args meth c cX6_end 2 (some .int) RX6 "end" D dA base)  (x1 : Int32) {σ : HS} {H : Heap} {locs : List Loc} {ls : Array Slot} (h : Wd D dA base σ s H locs) (g : LE σ0 σ) (hl : lv_has ls 2 [(1, .int x1)]) (hF : B_X6_end_47  x1 σ = some (r, τ)) : WG p l e s m args below meth c D dA base 0 0 (some (.int r)) σ0 τ σ H locs 47 ls [] := by
  obtain ⟨hx, hb, -⟩ := id cx
  unfold B_X6_end_47 at hF
  refine lv_iload_n hx hb dX6_end_47 rfl (lv_at hl 0 rfl) ?_
  obtain ⟨rfl, rfl⟩ := rts hF
  exact x_iret cx h dX6_end_48
def F_X6_end (a0 : Nat) (a1 : Int32) (σ : HS) : Option (Int32 × HS) :=
  if kd σ a0 = 7 then (if (gi σ 267 a0) < (64 : Int32) then (B_X6_end_47  a1 σ) else (lt1 (si (si σ 267 a0 (0 : Int32)) 268 a0 ((gi (si σ 267 a0 (0 : Int32)) 268 a0) + (1 : Int32))) (fun σ3 => if (gi σ3 268 a0) = (4 : Int32) then (lt1 (si (si σ3 268 a0 (1 : Int32)) 269 a0 ((gi (si σ3 268 a0 (1 : Int32)) 269 a0) + (1 : Int32))) (fun σ5 => B_X6_end_47  a1 σ5)) else (B_X6_end_47  a1 σ3)))) else none
theorem mo_F_X6_end (a0 : Nat) (a1 : Int32) (σ : HS) : Mo σ (F_X6_end a0 a1 σ) := by
  unfold F_X6_end
  exact (mo_ite (mo_ite (mo_B_X6_end_47  a1 _) (mo_lt ⟨Nat.le_refl _, Nat.le_refl _⟩ (fun σ3 => (mo_ite (mo_lt ⟨Nat.le_refl _, Nat.le_refl _⟩ (fun σ5 => (mo_B_X6_end_47  a1 _))) (mo_B_X6_end_47  a1 _))))) mo_none)
set_option maxHeartbeats 4000000 in
set_option maxRecDepth 100000 in
theorem c_X6_end (l : Launch) (D : va_G) (dA : Nat → ClassId) (base : Nat) (a0 : Nat) (a1 : Int32) {σ τ : HS} {r : Int32} (hF : F_X6_end a0 a1 σ = some (r, τ)) : CT l yX6_end cX6_end 2 (some .int) 0 0 D dA base [vr a0, .int a1] (some (.int r)) σ τ := by
  refine CT.of (lv := [(0, vr a0), (1, .int a1)]) (by decide) (vR (vI vN)) (Nat.le_of_ble_eq_true rfl) rfl ?_
  intro p e s m args below meth c ls cx hl h
  have cx : CX p s m args meth c cX6_end 2 (some .int) RX6 "end" D dA base := cx
  have g : LE σ σ := LE.rf
  obtain ⟨hx, hb, -⟩ := id cx
  unfold F_X6_end at hF
  refine x_aload_n hx hb dX6_end_0 rfl (lv_at hl 0 rfl) ?_
  obtain ⟨hq1, hF⟩ := ifs hF
  refine x_geti cx h fa_X6_72 (f := 267) rfl hq1 dX6_end_1 ?_
  refine lv_bipush (v := (64 : Int32)) hx hb dX6_end_4 (by decide) ?_
  refine lv_icmp_lt (tgt := 47) hx hb dX6_end_6 (by decide) (fun c2 => ?_) (fun c2 => ?_)
  · replace hF := ifp c2 hF
    exact w_X6_end_47 (σ := σ) cx   a1 h g (lv_sub hl [1] rfl) hF
  · replace hF := ifn c2 hF
    refine x_aload_n hx hb dX6_end_9 rfl (lv_at hl 0 rfl) ?_
    refine lv_iconst (v := (0 : Int32)) hx hb dX6_end_10 (by decide) ?_
    refine x_sti cx h fa_X6_72 (f := 267) rfl (Or.inl rfl) hq1 dX6_end_11 (fun H locs h => ?_)
    refine x_aload_n hx hb dX6_end_14 rfl (lv_at hl 0 rfl) ?_
    refine lv_dup hx hb dX6_end_15 (vr_cat _) ?_
    refine x_geti cx h fa_X6_87 (f := 268) rfl hq1 dX6_end_16 ?_
    refine lv_iconst (v := (1 : Int32)) hx hb dX6_end_19 (by decide) ?_
    refine lv_iadd hx hb dX6_end_20 ?_
    refine x_sti cx h fa_X6_87 (f := 268) rfl (Or.inl rfl) hq1 dX6_end_21 (fun H locs h => ?_)
    obtain ⟨σ3, e3, hF⟩ := lts hF
    have h := Wd.nm e3 h
    have g := LE.nm e3 g
    refine W.cs (cells' := hs σ3 - hs σ) (slots' := ns σ3 - ns σ) (by rw [e3]; try rfl) (by rw [e3]; try rfl) ?_
    refine x_aload_n hx hb dX6_end_24 rfl (lv_at hl 0 rfl) ?_
    refine x_geti cx h fa_X6_87 (f := 268) rfl (by rw [e3]; exact hq1) dX6_end_25 ?_
    refine lv_iconst (v := (4 : Int32)) hx hb dX6_end_28 (by decide) ?_
    refine lv_icmp_ne (tgt := 47) hx hb dX6_end_29 (by decide) (fun c4 => ?_) (fun c4 => ?_)
    · replace hF := ifn c4 hF
      exact w_X6_end_47 (σ := σ3) cx   a1 h g (lv_sub hl [1] rfl) hF
    · replace hF := ifp c4 hF
      refine x_aload_n hx hb dX6_end_32 rfl (lv_at hl 0 rfl) ?_
      refine lv_iconst (v := (1 : Int32)) hx hb dX6_end_33 (by decide) ?_
      refine x_sti cx h fa_X6_87 (f := 268) rfl (Or.inl rfl) (by rw [e3]; exact hq1) dX6_end_34 (fun H locs h => ?_)
      refine x_aload_n hx hb dX6_end_37 rfl (lv_at hl 0 rfl) ?_
      refine lv_dup hx hb dX6_end_38 (vr_cat _) ?_
      refine x_geti cx h fa_X6_90 (f := 269) rfl (by rw [e3]; exact hq1) dX6_end_39 ?_
      refine lv_iconst (v := (1 : Int32)) hx hb dX6_end_42 (by decide) ?_
      refine lv_iadd hx hb dX6_end_43 ?_
      refine x_sti cx h fa_X6_90 (f := 269) rfl (Or.inl rfl) (by rw [e3]; exact hq1) dX6_end_44 (fun H locs h => ?_)
      obtain ⟨σ5, e5, hF⟩ := lts hF
      have h := Wd.nm e5 h
      have g := LE.nm e5 g
      refine W.cs (cells' := hs σ5 - hs σ) (slots' := ns σ5 - ns σ) (by rw [e5]; try rfl) (by rw [e5]; try rfl) ?_
      exact w_X6_end_47 (σ := σ5) cx   a1 h g (lv_sub hl [1] rfl) hF
def B_X6_give_24  (x0 : Nat) (x1 : Int32) (σ : HS) : Option (Int32 × HS) :=
  if kd σ x0 = 7 then (some (x1, (si (si σ 243 x0 ((gi σ 243 x0) + (1 : Int32))) 244 x0 x1))) else none
theorem mo_B_X6_give_24  (x0 : Nat) (x1 : Int32) (σ : HS) : Mo σ (B_X6_give_24  x0 x1 σ) := by
  unfold B_X6_give_24
  exact (mo_ite (mo_le (τ := (si (si σ 243 x0 ((gi σ 243 x0) + (1 : Int32))) 244 x0 x1)) ⟨Nat.le_refl _, Nat.le_refl _⟩ mo_ret) mo_none)
set_option maxHeartbeats 4000000 in
set_option maxRecDepth 100000 in
theorem w_X6_give_24 {p : Program} {l : Launch} {e : Env} {s : State} {m : MethodId} {args : Array Value} {below : List Frame} {meth : Method} {c : Code} {D : va_G} {dA : Nat → ClassId} {base : Nat} {σ0 τ : HS} {r : Int32} (cx : CX p s m args meth c cX6_give 2 (some .int) RX6 "give" D dA base)  (x0 : Nat) (x1 : Int32) {σ : HS} {H : Heap} {locs : List Loc} {ls : Array Slot} (h : Wd D dA base σ s H locs) (g : LE σ0 σ) (hl : lv_has ls 2 [(0, vr x0), (1, .int x1)]) (hF : B_X6_give_24  x0 x1 σ = some (r, τ)) : WG p l e s m args below meth c D dA base 0 0 (some (.int r)) σ0 τ σ H locs 24 ls [] := by
  obtain ⟨hx, hb, -⟩ := id cx
  unfold B_X6_give_24 at hF
  refine x_aload_n hx hb dX6_give_24 rfl (lv_at hl 0 rfl) ?_
  refine lv_dup hx hb dX6_give_25 (vr_cat _) ?_
  obtain ⟨hq1, hF⟩ := ifs hF
  refine x_geti cx h fa_X6_13 (f := 243) rfl hq1 dX6_give_26 ?_
  refine lv_iconst (v := (1 : Int32)) hx hb dX6_give_29 (by decide) ?_
  refine lv_iadd hx hb dX6_give_30 ?_
  refine x_sti cx h fa_X6_13 (f := 243) rfl (Or.inl rfl) hq1 dX6_give_31 (fun H locs h => ?_)
  refine x_aload_n hx hb dX6_give_34 rfl (lv_at hl 0 rfl) ?_
  refine lv_iload_n hx hb dX6_give_35 rfl (lv_at hl 1 rfl) ?_
  refine x_sti cx h fa_X6_96 (f := 244) rfl (Or.inl rfl) hq1 dX6_give_36 (fun H locs h => ?_)
  refine lv_iload_n hx hb dX6_give_39 rfl (lv_at hl 1 rfl) ?_
  obtain ⟨rfl, rfl⟩ := rts hF
  exact x_iret cx h dX6_give_40
def F_X6_give (a0 : Nat) (σ : HS) : Option (Int32 × HS) :=
  if kd σ a0 = 7 then (if (gi σ 243 a0) ≤ (gi σ 245 a0) then (B_X6_give_24  a0 (gi σ 243 a0) σ) else (B_X6_give_24  a0 (gi σ 243 a0) (si σ 245 a0 ((gi σ 245 a0) + (16 : Int32))))) else none
theorem mo_F_X6_give (a0 : Nat) (σ : HS) : Mo σ (F_X6_give a0 σ) := by
  unfold F_X6_give
  exact (mo_ite (mo_ite (mo_B_X6_give_24  a0 (gi σ 243 a0) _) (mo_le (τ := (si σ 245 a0 ((gi σ 245 a0) + (16 : Int32)))) ⟨Nat.le_refl _, Nat.le_refl _⟩ (mo_B_X6_give_24  a0 (gi σ 243 a0) _))) mo_none)
set_option maxHeartbeats 4000000 in
set_option maxRecDepth 100000 in
theorem c_X6_give (l : Launch) (D : va_G) (dA : Nat → ClassId) (base : Nat) (a0 : Nat) {σ τ : HS} {r : Int32} (hF : F_X6_give a0 σ = some (r, τ)) : CT l yX6_give cX6_give 2 (some .int) 0 0 D dA base [vr a0] (some (.int r)) σ τ := by
  refine CT.of (lv := [(0, vr a0)]) (by decide) (vR vN) (Nat.le_of_ble_eq_true rfl) rfl ?_
  intro p e s m args below meth c ls cx hl h
  have cx : CX p s m args meth c cX6_give 2 (some .int) RX6 "give" D dA base := cx
  have g : LE σ σ := LE.rf
  obtain ⟨hx, hb, -⟩ := id cx
  unfold F_X6_give at hF
  refine x_aload_n hx hb dX6_give_0 rfl (lv_at hl 0 rfl) ?_
  obtain ⟨hq1, hF⟩ := ifs hF
  refine x_geti cx h fa_X6_13 (f := 243) rfl hq1 dX6_give_1 ?_
  refine x_istore_n (lv' := [(1, .int (gi σ 243 a0)), (0, vr a0)]) hx hb dX6_give_4 rfl hl (by decide) (cR cN) rfl (fun ls hl => ?_)
  refine lv_iload_n hx hb dX6_give_5 rfl (lv_at hl 0 rfl) ?_
  refine x_aload_n hx hb dX6_give_6 rfl (lv_at hl 1 rfl) ?_
  refine x_geti cx h fa_X6_93 (f := 245) rfl hq1 dX6_give_7 ?_
  refine lv_icmp_le (tgt := 24) hx hb dX6_give_10 (by decide) (fun c2 => ?_) (fun c2 => ?_)
  · replace hF := ifp c2 hF
    exact w_X6_give_24 (σ := σ) cx   a0 (gi σ 243 a0) h g (lv_sub hl [1, 0] rfl) hF
  · replace hF := ifn c2 hF
    refine x_aload_n hx hb dX6_give_13 rfl (lv_at hl 1 rfl) ?_
    refine lv_dup hx hb dX6_give_14 (vr_cat _) ?_
    refine x_geti cx h fa_X6_93 (f := 245) rfl hq1 dX6_give_15 ?_
    refine lv_bipush (v := (16 : Int32)) hx hb dX6_give_18 (by decide) ?_
    refine lv_iadd hx hb dX6_give_20 ?_
    refine x_sti cx h fa_X6_93 (f := 245) rfl (Or.inl rfl) hq1 dX6_give_21 (fun H locs h => ?_)
    exact w_X6_give_24 (σ := (si σ 245 a0 ((gi σ 245 a0) + (16 : Int32)))) cx   a0 (gi σ 243 a0) h g (lv_sub hl [1, 0] rfl) hF
def B_X6_dataAt_32 (k2 : Nat → Int32 → Int32 → Int32 → HS → Option (Int32 × HS)) (x0 : Nat) (x1 : Int32) (x2 : Int32) (x3 : Int32) (σ : HS) : Option (Int32 × HS) :=
  k2 x0 x1 x2 (x3 + (1 : Int32)) σ
theorem mo_B_X6_dataAt_32 {k2 : Nat → Int32 → Int32 → Int32 → HS → Option (Int32 × HS)} (mk2 : ∀ x0 x1 x2 x3 σ, Mo σ (k2 x0 x1 x2 x3 σ)) (x0 : Nat) (x1 : Int32) (x2 : Int32) (x3 : Int32) (σ : HS) : Mo σ (B_X6_dataAt_32 k2 x0 x1 x2 x3 σ) := by
  unfold B_X6_dataAt_32
  exact (mk2 x0 x1 x2 (x3 + (1 : Int32)) _)
set_option maxHeartbeats 4000000 in
set_option maxRecDepth 100000 in
theorem w_X6_dataAt_32 {p : Program} {l : Launch} {e : Env} {s : State} {m : MethodId} {args : Array Value} {below : List Frame} {meth : Method} {c : Code} {D : va_G} {dA : Nat → ClassId} {base : Nat} {σ0 τ : HS} {r : Int32} (cx : CX p s m args meth c cX6_dataAt 4 (some .int) RX6 "dataAt" D dA base) {k2 : Nat → Int32 → Int32 → Int32 → HS → Option (Int32 × HS)} (mk2 : ∀ x0 x1 x2 x3 σ, Mo σ (k2 x0 x1 x2 x3 σ)) (hk2 : ∀ x0 x1 x2 x3 σ H locs ls, Wd D dA base σ s H locs → LE σ0 σ → lv_has ls 4 [(0, vr x0), (1, .int x1), (2, .int x2), (3, .int x3)] → k2 x0 x1 x2 x3 σ = some (r, τ) → WG p l e s m args below meth c D dA base 0 0 (some (.int r)) σ0 τ σ H locs 2 ls []) (x0 : Nat) (x1 : Int32) (x2 : Int32) (x3 : Int32) {σ : HS} {H : Heap} {locs : List Loc} {ls : Array Slot} (h : Wd D dA base σ s H locs) (g : LE σ0 σ) (hl : lv_has ls 4 [(0, vr x0), (1, .int x1), (2, .int x2), (3, .int x3)]) (hF : B_X6_dataAt_32 k2 x0 x1 x2 x3 σ = some (r, τ)) : WG p l e s m args below meth c D dA base 0 0 (some (.int r)) σ0 τ σ H locs 32 ls [] := by
  obtain ⟨hx, hb, -⟩ := id cx
  unfold B_X6_dataAt_32 at hF
  refine x_iinc (k := 3) (v := (1 : Int32)) (lv' := [(3, .int (x3 + (1 : Int32))), (0, vr x0), (1, .int x1), (2, .int x2)]) hx hb dX6_dataAt_32 hl rfl (by decide) (by decide) (cR (cI (cI (cI cN)))) rfl (fun ls hl => ?_)
  refine lv_goto (tgt := 2) hx hb dX6_dataAt_35 (by decide) ?_
  exact hk2 x0 x1 x2 (x3 + (1 : Int32)) σ _ _ _ h g (lv_sub hl [1, 2, 3, 0] rfl) hF
def B_X6_dataAt_2 (k2 : Nat → Int32 → Int32 → Int32 → HS → Option (Int32 × HS)) (x0 : Nat) (x1 : Int32) (x2 : Int32) (x3 : Int32) (σ : HS) : Option (Int32 × HS) :=
  if kd σ x0 = 7 then (if (gi σ 246 x0) ≤ x3 then (some ((-1 : Int32), σ)) else (if kd σ (gr σ 247 x0) = 100 ∧ inb x3 (ln σ (gr σ 247 x0)) then (if (ai σ (gr σ 247 x0) x3.toNatClampNeg) = x1 then (if kd σ (gr σ 248 x0) = 100 ∧ inb x3 (ln σ (gr σ 248 x0)) then (if (ai σ (gr σ 248 x0) x3.toNatClampNeg) = x2 then (some (x3, σ)) else (B_X6_dataAt_32 k2 x0 x1 x2 x3 σ)) else none) else (B_X6_dataAt_32 k2 x0 x1 x2 x3 σ)) else none)) else none
theorem mo_B_X6_dataAt_2 {k2 : Nat → Int32 → Int32 → Int32 → HS → Option (Int32 × HS)} (mk2 : ∀ x0 x1 x2 x3 σ, Mo σ (k2 x0 x1 x2 x3 σ)) (x0 : Nat) (x1 : Int32) (x2 : Int32) (x3 : Int32) (σ : HS) : Mo σ (B_X6_dataAt_2 k2 x0 x1 x2 x3 σ) := by
  unfold B_X6_dataAt_2
  exact (mo_ite (mo_ite mo_ret (mo_ite (mo_ite (mo_ite (mo_ite mo_ret (mo_B_X6_dataAt_32 mk2 x0 x1 x2 x3 _)) mo_none) (mo_B_X6_dataAt_32 mk2 x0 x1 x2 x3 _)) mo_none)) mo_none)
set_option maxHeartbeats 4000000 in
set_option maxRecDepth 100000 in
theorem w_X6_dataAt_2 {p : Program} {l : Launch} {e : Env} {s : State} {m : MethodId} {args : Array Value} {below : List Frame} {meth : Method} {c : Code} {D : va_G} {dA : Nat → ClassId} {base : Nat} {σ0 τ : HS} {r : Int32} (cx : CX p s m args meth c cX6_dataAt 4 (some .int) RX6 "dataAt" D dA base) {k2 : Nat → Int32 → Int32 → Int32 → HS → Option (Int32 × HS)} (mk2 : ∀ x0 x1 x2 x3 σ, Mo σ (k2 x0 x1 x2 x3 σ)) (hk2 : ∀ x0 x1 x2 x3 σ H locs ls, Wd D dA base σ s H locs → LE σ0 σ → lv_has ls 4 [(0, vr x0), (1, .int x1), (2, .int x2), (3, .int x3)] → k2 x0 x1 x2 x3 σ = some (r, τ) → WG p l e s m args below meth c D dA base 0 0 (some (.int r)) σ0 τ σ H locs 2 ls []) (x0 : Nat) (x1 : Int32) (x2 : Int32) (x3 : Int32) {σ : HS} {H : Heap} {locs : List Loc} {ls : Array Slot} (h : Wd D dA base σ s H locs) (g : LE σ0 σ) (hl : lv_has ls 4 [(0, vr x0), (1, .int x1), (2, .int x2), (3, .int x3)]) (hF : B_X6_dataAt_2 k2 x0 x1 x2 x3 σ = some (r, τ)) : WG p l e s m args below meth c D dA base 0 0 (some (.int r)) σ0 τ σ H locs 2 ls [] := by
  obtain ⟨hx, hb, -⟩ := id cx
  unfold B_X6_dataAt_2 at hF
  refine lv_iload_n hx hb dX6_dataAt_2 rfl (lv_at hl 3 rfl) ?_
  refine x_aload_n hx hb dX6_dataAt_3 rfl (lv_at hl 0 rfl) ?_
  obtain ⟨hq1, hF⟩ := ifs hF
  refine x_geti cx h fa_X6_78 (f := 246) rfl hq1 dX6_dataAt_4 ?_
  refine lv_icmp_ge (tgt := 38) hx hb dX6_dataAt_7 (by decide) (fun c2 => ?_) (fun c2 => ?_)
  · replace hF := ifp c2 hF
    refine lv_iconst (v := (-1 : Int32)) hx hb dX6_dataAt_38 (by decide) ?_
    obtain ⟨rfl, rfl⟩ := rts hF
    exact x_iret cx h dX6_dataAt_39
  · replace hF := ifn c2 hF
    refine x_aload_n hx hb dX6_dataAt_10 rfl (lv_at hl 0 rfl) ?_
    refine x_getr cx h fa_X6_16 (f := 247) rfl hq1 dX6_dataAt_11 ?_
    refine lv_iload_n hx hb dX6_dataAt_14 rfl (lv_at hl 3 rfl) ?_
    obtain ⟨hq3, hF⟩ := ifs hF
    refine x_iald cx h hq3.1 (inb.vp hq3.2) dX6_dataAt_15 ?_
    refine lv_iload_n hx hb dX6_dataAt_16 rfl (lv_at hl 1 rfl) ?_
    refine lv_icmp_ne (tgt := 32) hx hb dX6_dataAt_17 (by decide) (fun c4 => ?_) (fun c4 => ?_)
    · replace hF := ifn c4 hF
      exact w_X6_dataAt_32 (σ := σ) cx mk2 hk2 x0 x1 x2 x3 h g (lv_sub hl [0, 1, 2, 3] rfl) hF
    · replace hF := ifp c4 hF
      refine x_aload_n hx hb dX6_dataAt_20 rfl (lv_at hl 0 rfl) ?_
      refine x_getr cx h fa_X6_20 (f := 248) rfl hq1 dX6_dataAt_21 ?_
      refine lv_iload_n hx hb dX6_dataAt_24 rfl (lv_at hl 3 rfl) ?_
      obtain ⟨hq5, hF⟩ := ifs hF
      refine x_iald cx h hq5.1 (inb.vp hq5.2) dX6_dataAt_25 ?_
      refine lv_iload_n hx hb dX6_dataAt_26 rfl (lv_at hl 2 rfl) ?_
      refine lv_icmp_ne (tgt := 32) hx hb dX6_dataAt_27 (by decide) (fun c6 => ?_) (fun c6 => ?_)
      · replace hF := ifn c6 hF
        exact w_X6_dataAt_32 (σ := σ) cx mk2 hk2 x0 x1 x2 x3 h g (lv_sub hl [0, 1, 2, 3] rfl) hF
      · replace hF := ifp c6 hF
        refine lv_iload_n hx hb dX6_dataAt_30 rfl (lv_at hl 3 rfl) ?_
        obtain ⟨rfl, rfl⟩ := rts hF
        exact x_iret cx h dX6_dataAt_31
def L_X6_dataAt_2  : Nat → Nat → Int32 → Int32 → Int32 → HS → Option (Int32 × HS)
  | 0, _, _, _, _, _ => none
  | N + 1, x0, x1, x2, x3, σ => B_X6_dataAt_2 (L_X6_dataAt_2  N) x0 x1 x2 x3 σ
theorem mo_L_X6_dataAt_2  : ∀ (N : Nat) (x0 : Nat) (x1 : Int32) (x2 : Int32) (x3 : Int32) (σ : HS), Mo σ (L_X6_dataAt_2  N x0 x1 x2 x3 σ) := by
  intro N
  induction N with
  | zero => intro x0 x1 x2 x3 σ; exact mo_none
  | succ N ih => intro x0 x1 x2 x3 σ; exact mo_B_X6_dataAt_2 ih x0 x1 x2 x3 σ
theorem wl_X6_dataAt_2 {p : Program} {l : Launch} {e : Env} {s : State} {m : MethodId} {args : Array Value} {below : List Frame} {meth : Method} {c : Code} {D : va_G} {dA : Nat → ClassId} {base : Nat} {σ0 τ : HS} {r : Int32} (cx : CX p s m args meth c cX6_dataAt 4 (some .int) RX6 "dataAt" D dA base)  : ∀ (N : Nat) (x0 : Nat) (x1 : Int32) (x2 : Int32) (x3 : Int32) (σ : HS) (H : Heap) (locs : List Loc) (ls : Array Slot), Wd D dA base σ s H locs → LE σ0 σ → lv_has ls 4 [(0, vr x0), (1, .int x1), (2, .int x2), (3, .int x3)] → L_X6_dataAt_2  N x0 x1 x2 x3 σ = some (r, τ) → WG p l e s m args below meth c D dA base 0 0 (some (.int r)) σ0 τ σ H locs 2 ls [] := by
  intro N
  induction N with
  | zero => intro x0 x1 x2 x3 σ H locs ls h g hl hF; cases hF
  | succ N ih => intro x0 x1 x2 x3 σ H locs ls h g hl hF; exact w_X6_dataAt_2 cx (mo_L_X6_dataAt_2  N) ih x0 x1 x2 x3 h g hl hF
def F_X6_dataAt (a0 : Nat) (a1 : Int32) (a2 : Int32) (σ : HS) : Option (Int32 × HS) :=
  L_X6_dataAt_2  NF a0 a1 a2 (0 : Int32) σ
theorem mo_F_X6_dataAt (a0 : Nat) (a1 : Int32) (a2 : Int32) (σ : HS) : Mo σ (F_X6_dataAt a0 a1 a2 σ) := by
  unfold F_X6_dataAt
  exact (mo_L_X6_dataAt_2  NF a0 a1 a2 (0 : Int32) _)
set_option maxHeartbeats 4000000 in
set_option maxRecDepth 100000 in
theorem c_X6_dataAt (l : Launch) (D : va_G) (dA : Nat → ClassId) (base : Nat) (a0 : Nat) (a1 : Int32) (a2 : Int32) {σ τ : HS} {r : Int32} (hF : F_X6_dataAt a0 a1 a2 σ = some (r, τ)) : CT l yX6_dataAt cX6_dataAt 4 (some .int) 0 0 D dA base [vr a0, .int a1, .int a2] (some (.int r)) σ τ := by
  refine CT.of (lv := [(0, vr a0), (1, .int a1), (2, .int a2)]) (by decide) (vR (vI (vI vN))) (Nat.le_of_ble_eq_true rfl) rfl ?_
  intro p e s m args below meth c ls cx hl h
  have cx : CX p s m args meth c cX6_dataAt 4 (some .int) RX6 "dataAt" D dA base := cx
  have g : LE σ σ := LE.rf
  obtain ⟨hx, hb, -⟩ := id cx
  unfold F_X6_dataAt at hF
  refine lv_iconst (v := (0 : Int32)) hx hb dX6_dataAt_0 (by decide) ?_
  refine x_istore_n (lv' := [(3, .int (0 : Int32)), (0, vr a0), (1, .int a1), (2, .int a2)]) hx hb dX6_dataAt_1 rfl hl (by decide) (cR (cI (cI cN))) rfl (fun ls hl => ?_)
  exact wl_X6_dataAt_2 cx   NF a0 a1 a2 (0 : Int32) σ _ _ _ h g (lv_sub hl [1, 2, 3, 0] rfl) hF
def F_X6_addData (a0 : Nat) (a1 : Int32) (a2 : Int32) (a3 : Int32) (σ : HS) : Option (Unit × HS) :=
  if kd σ a0 = 7 then (if kd σ (gr σ 247 a0) = 100 ∧ inb (gi σ 246 a0) (ln σ (gr σ 247 a0)) then (if kd (sai σ (gr σ 247 a0) (gi σ 246 a0).toNatClampNeg a1) (gr (sai σ (gr σ 247 a0) (gi σ 246 a0).toNatClampNeg a1) 248 a0) = 100 ∧ inb (gi (sai σ (gr σ 247 a0) (gi σ 246 a0).toNatClampNeg a1) 246 a0) (ln (sai σ (gr σ 247 a0) (gi σ 246 a0).toNatClampNeg a1) (gr (sai σ (gr σ 247 a0) (gi σ 246 a0).toNatClampNeg a1) 248 a0)) then (lt1 (sai (sai σ (gr σ 247 a0) (gi σ 246 a0).toNatClampNeg a1) (gr (sai σ (gr σ 247 a0) (gi σ 246 a0).toNatClampNeg a1) 248 a0) (gi (sai σ (gr σ 247 a0) (gi σ 246 a0).toNatClampNeg a1) 246 a0).toNatClampNeg a2) (fun σ4 => if kd σ4 (gr σ4 249 a0) = 100 ∧ inb (gi σ4 246 a0) (ln σ4 (gr σ4 249 a0)) then (lt1 (si (sai σ4 (gr σ4 249 a0) (gi σ4 246 a0).toNatClampNeg a3) 246 a0 ((gi (sai σ4 (gr σ4 249 a0) (gi σ4 246 a0).toNatClampNeg a3) 246 a0) + (1 : Int32))) (fun σ6 => some ((), (si σ6 267 a0 ((gi σ6 267 a0) + (1 : Int32)))))) else none)) else none) else none) else none
theorem mo_F_X6_addData (a0 : Nat) (a1 : Int32) (a2 : Int32) (a3 : Int32) (σ : HS) : Mo σ (F_X6_addData a0 a1 a2 a3 σ) := by
  unfold F_X6_addData
  exact (mo_ite (mo_ite (mo_ite (mo_lt ⟨Nat.le_refl _, Nat.le_refl _⟩ (fun σ4 => (mo_ite (mo_lt ⟨Nat.le_refl _, Nat.le_refl _⟩ (fun σ6 => (mo_le (τ := (si σ6 267 a0 ((gi σ6 267 a0) + (1 : Int32)))) ⟨Nat.le_refl _, Nat.le_refl _⟩ mo_ret))) mo_none))) mo_none) mo_none) mo_none)
set_option maxHeartbeats 4000000 in
set_option maxRecDepth 100000 in
theorem c_X6_addData (l : Launch) (D : va_G) (dA : Nat → ClassId) (base : Nat) (a0 : Nat) (a1 : Int32) (a2 : Int32) (a3 : Int32) {σ τ : HS} {r : Unit} (hF : F_X6_addData a0 a1 a2 a3 σ = some (r, τ)) : CT l yX6_addData cX6_addData 4 none 0 0 D dA base [vr a0, .int a1, .int a2, .int a3] none σ τ := by
  refine CT.of (lv := [(0, vr a0), (1, .int a1), (2, .int a2), (3, .int a3)]) (by decide) (vR (vI (vI (vI vN)))) (Nat.le_of_ble_eq_true rfl) rfl ?_
  intro p e s m args below meth c ls cx hl h
  have cx : CX p s m args meth c cX6_addData 4 none RX6 "addData" D dA base := cx
  have g : LE σ σ := LE.rf
  obtain ⟨hx, hb, -⟩ := id cx
  unfold F_X6_addData at hF
  refine x_aload_n hx hb dX6_addData_0 rfl (lv_at hl 0 rfl) ?_
  obtain ⟨hq1, hF⟩ := ifs hF
  refine x_getr cx h fa_X6_16 (f := 247) rfl hq1 dX6_addData_1 ?_
  refine x_aload_n hx hb dX6_addData_4 rfl (lv_at hl 0 rfl) ?_
  refine x_geti cx h fa_X6_78 (f := 246) rfl hq1 dX6_addData_5 ?_
  refine lv_iload_n hx hb dX6_addData_8 rfl (lv_at hl 1 rfl) ?_
  obtain ⟨hq2, hF⟩ := ifs hF
  refine x_iast cx h hq2.1 (inb.vp hq2.2) dX6_addData_9 (fun H locs h => ?_)
  refine x_aload_n hx hb dX6_addData_10 rfl (lv_at hl 0 rfl) ?_
  refine x_getr cx h fa_X6_20 (f := 248) rfl hq1 dX6_addData_11 ?_
  refine x_aload_n hx hb dX6_addData_14 rfl (lv_at hl 0 rfl) ?_
  refine x_geti cx h fa_X6_78 (f := 246) rfl hq1 dX6_addData_15 ?_
  refine lv_iload_n hx hb dX6_addData_18 rfl (lv_at hl 2 rfl) ?_
  obtain ⟨hq3, hF⟩ := ifs hF
  refine x_iast cx h hq3.1 (inb.vp hq3.2) dX6_addData_19 (fun H locs h => ?_)
  obtain ⟨σ4, e4, hF⟩ := lts hF
  have h := Wd.nm e4 h
  have g := LE.nm e4 g
  refine W.cs (cells' := hs σ4 - hs σ) (slots' := ns σ4 - ns σ) (by rw [e4]; try rfl) (by rw [e4]; try rfl) ?_
  refine x_aload_n hx hb dX6_addData_20 rfl (lv_at hl 0 rfl) ?_
  refine x_getr cx h fa_X6_23 (f := 249) rfl (by rw [e4]; exact hq1) dX6_addData_21 ?_
  refine x_aload_n hx hb dX6_addData_24 rfl (lv_at hl 0 rfl) ?_
  refine x_geti cx h fa_X6_78 (f := 246) rfl (by rw [e4]; exact hq1) dX6_addData_25 ?_
  refine lv_iload_n hx hb dX6_addData_28 rfl (lv_at hl 3 rfl) ?_
  obtain ⟨hq5, hF⟩ := ifs hF
  refine x_iast cx h hq5.1 (inb.vp hq5.2) dX6_addData_29 (fun H locs h => ?_)
  refine x_aload_n hx hb dX6_addData_30 rfl (lv_at hl 0 rfl) ?_
  refine lv_dup hx hb dX6_addData_31 (vr_cat _) ?_
  refine x_geti cx h fa_X6_78 (f := 246) rfl (by rw [e4]; exact hq1) dX6_addData_32 ?_
  refine lv_iconst (v := (1 : Int32)) hx hb dX6_addData_35 (by decide) ?_
  refine lv_iadd hx hb dX6_addData_36 ?_
  refine x_sti cx h fa_X6_78 (f := 246) rfl (Or.inl rfl) (by rw [e4]; exact hq1) dX6_addData_37 (fun H locs h => ?_)
  obtain ⟨σ6, e6, hF⟩ := lts hF
  have h := Wd.nm e6 h
  have g := LE.nm e6 g
  refine W.cs (cells' := hs σ6 - hs σ) (slots' := ns σ6 - ns σ) (by rw [e6]; try rfl) (by rw [e6]; try rfl) ?_
  refine x_aload_n hx hb dX6_addData_40 rfl (lv_at hl 0 rfl) ?_
  refine lv_dup hx hb dX6_addData_41 (vr_cat _) ?_
  refine x_geti cx h fa_X6_72 (f := 267) rfl (by rw [e6]; exact (by rw [e4]; exact hq1)) dX6_addData_42 ?_
  refine lv_iconst (v := (1 : Int32)) hx hb dX6_addData_45 (by decide) ?_
  refine lv_iadd hx hb dX6_addData_46 ?_
  refine x_sti cx h fa_X6_72 (f := 267) rfl (Or.inl rfl) (by rw [e6]; exact (by rw [e4]; exact hq1)) dX6_addData_47 (fun H locs h => ?_)
  obtain ⟨rfl, rfl⟩ := rts hF
  exact x_vret cx h dX6_addData_50
def F_X6_dropData (a0 : Nat) (a1 : Int32) (a2 : Int32) (σ : HS) : Option (Unit × HS) :=
  if kd σ a0 = 7 then (bd (F_X6_dataAt a0 a1 a2 σ) (fun r2 σ2 => if 0 ≤ r2 then (if kd σ2 a0 = 7 then (if kd (si σ2 246 a0 ((gi σ2 246 a0) - (1 : Int32))) (gr (si σ2 246 a0 ((gi σ2 246 a0) - (1 : Int32))) 247 a0) = 100 ∧ inb (gi (si σ2 246 a0 ((gi σ2 246 a0) - (1 : Int32))) 246 a0) (ln (si σ2 246 a0 ((gi σ2 246 a0) - (1 : Int32))) (gr (si σ2 246 a0 ((gi σ2 246 a0) - (1 : Int32))) 247 a0)) then (if kd (si σ2 246 a0 ((gi σ2 246 a0) - (1 : Int32))) (gr (si σ2 246 a0 ((gi σ2 246 a0) - (1 : Int32))) 247 a0) = 100 ∧ inb r2 (ln (si σ2 246 a0 ((gi σ2 246 a0) - (1 : Int32))) (gr (si σ2 246 a0 ((gi σ2 246 a0) - (1 : Int32))) 247 a0)) then (lt1 (sai (si σ2 246 a0 ((gi σ2 246 a0) - (1 : Int32))) (gr (si σ2 246 a0 ((gi σ2 246 a0) - (1 : Int32))) 247 a0) r2.toNatClampNeg (ai (si σ2 246 a0 ((gi σ2 246 a0) - (1 : Int32))) (gr (si σ2 246 a0 ((gi σ2 246 a0) - (1 : Int32))) 247 a0) (gi (si σ2 246 a0 ((gi σ2 246 a0) - (1 : Int32))) 246 a0).toNatClampNeg)) (fun σ7 => if kd σ7 (gr σ7 248 a0) = 100 ∧ inb (gi σ7 246 a0) (ln σ7 (gr σ7 248 a0)) then (if kd σ7 (gr σ7 248 a0) = 100 ∧ inb r2 (ln σ7 (gr σ7 248 a0)) then (lt1 (sai σ7 (gr σ7 248 a0) r2.toNatClampNeg (ai σ7 (gr σ7 248 a0) (gi σ7 246 a0).toNatClampNeg)) (fun σ10 => if kd σ10 (gr σ10 249 a0) = 100 ∧ inb (gi σ10 246 a0) (ln σ10 (gr σ10 249 a0)) then (if kd σ10 (gr σ10 249 a0) = 100 ∧ inb r2 (ln σ10 (gr σ10 249 a0)) then (lt1 (sai σ10 (gr σ10 249 a0) r2.toNatClampNeg (ai σ10 (gr σ10 249 a0) (gi σ10 246 a0).toNatClampNeg)) (fun σ13 => some ((), (si σ13 267 a0 ((gi σ13 267 a0) + (1 : Int32)))))) else none) else none)) else none) else none)) else none) else none) else none) else (some ((), σ2)))) else none
theorem mo_F_X6_dropData (a0 : Nat) (a1 : Int32) (a2 : Int32) (σ : HS) : Mo σ (F_X6_dropData a0 a1 a2 σ) := by
  unfold F_X6_dropData
  exact (mo_ite (mo_bd (mo_F_X6_dataAt a0 a1 a2 _) (fun r2 σ2 => (mo_ite (mo_ite (mo_ite (mo_ite (mo_lt ⟨Nat.le_refl _, Nat.le_refl _⟩ (fun σ7 => (mo_ite (mo_ite (mo_lt ⟨Nat.le_refl _, Nat.le_refl _⟩ (fun σ10 => (mo_ite (mo_ite (mo_lt ⟨Nat.le_refl _, Nat.le_refl _⟩ (fun σ13 => (mo_le (τ := (si σ13 267 a0 ((gi σ13 267 a0) + (1 : Int32)))) ⟨Nat.le_refl _, Nat.le_refl _⟩ mo_ret))) mo_none) mo_none))) mo_none) mo_none))) mo_none) mo_none) mo_none) mo_ret))) mo_none)
set_option maxHeartbeats 4000000 in
set_option maxRecDepth 100000 in
theorem c_X6_dropData (l : Launch) (D : va_G) (dA : Nat → ClassId) (base : Nat) (a0 : Nat) (a1 : Int32) (a2 : Int32) {σ τ : HS} {r : Unit} (hF : F_X6_dropData a0 a1 a2 σ = some (r, τ)) : CT l yX6_dropData cX6_dropData 4 none 1 23 D dA base [vr a0, .int a1, .int a2] none σ τ := by
  refine CT.of (lv := [(0, vr a0), (1, .int a1), (2, .int a2)]) (by decide) (vR (vI (vI vN))) (Nat.le_of_ble_eq_true rfl) rfl ?_
  intro p e s m args below meth c ls cx hl h
  have cx : CX p s m args meth c cX6_dropData 4 none RX6 "dropData" D dA base := cx
  have g : LE σ σ := LE.rf
  obtain ⟨hx, hb, -⟩ := id cx
  unfold F_X6_dropData at hF
  refine x_aload_n hx hb dX6_dropData_0 rfl (lv_at hl 0 rfl) ?_
  refine lv_iload_n hx hb dX6_dropData_1 rfl (lv_at hl 1 rfl) ?_
  refine lv_iload_n hx hb dX6_dropData_2 rfl (lv_at hl 2 rfl) ?_
  obtain ⟨hq1, hF⟩ := ifs hF
  obtain ⟨r2, σ2, hc2, hF⟩ := bds hF
  refine x_calli (σ := σ) g (LEm hc2 (mo_F_X6_dataAt a0 a1 a2 _)) (x_runV (As := [.int a1, .int a2]) (rest := []) cx h (c_X6_dataAt l D dA base a0 a1 a2 hc2) ml_X6_99 mi_X6_dataAt hq1 rfl ⟨Nat.le_of_ble_eq_true rfl, Nat.le_of_ble_eq_true rfl⟩ hl.1 rfl (s8 sN (by decide)) dX6_dropData_3 (le_room g (LEm hc2 (mo_F_X6_dataAt a0 a1 a2 _)) (LEm hF (mo_ite (mo_ite (mo_ite (mo_ite (mo_lt ⟨Nat.le_refl _, Nat.le_refl _⟩ (fun σ7 => (mo_ite (mo_ite (mo_lt ⟨Nat.le_refl _, Nat.le_refl _⟩ (fun σ10 => (mo_ite (mo_ite (mo_lt ⟨Nat.le_refl _, Nat.le_refl _⟩ (fun σ13 => (mo_le (τ := (si σ13 267 a0 ((gi σ13 267 a0) + (1 : Int32)))) ⟨Nat.le_refl _, Nat.le_refl _⟩ mo_ret))) mo_none) mo_none))) mo_none) mo_none))) mo_none) mo_none) mo_none) mo_ret)))) h (fun H locs h g => ?_)
  refine x_istore_n (lv' := [(3, .int r2), (0, vr a0), (1, .int a1), (2, .int a2)]) hx hb dX6_dropData_6 rfl hl (by decide) (cR (cI (cI cN))) rfl (fun ls hl => ?_)
  refine lv_iload_n hx hb dX6_dropData_7 rfl (lv_at hl 0 rfl) ?_
  refine lv_if_ge (tgt := 12) hx hb dX6_dropData_8 (by decide) (fun c3 => ?_) (fun c3 => ?_)
  · replace hF := ifp c3 hF
    refine x_aload_n hx hb dX6_dropData_12 rfl (lv_at hl 1 rfl) ?_
    refine lv_dup hx hb dX6_dropData_13 (vr_cat _) ?_
    obtain ⟨hq4, hF⟩ := ifs hF
    refine x_geti cx h fa_X6_78 (f := 246) rfl hq4 dX6_dropData_14 ?_
    refine lv_iconst (v := (1 : Int32)) hx hb dX6_dropData_17 (by decide) ?_
    refine lv_isub hx hb dX6_dropData_18 ?_
    refine x_sti cx h fa_X6_78 (f := 246) rfl (Or.inl rfl) hq4 dX6_dropData_19 (fun H locs h => ?_)
    refine x_aload_n hx hb dX6_dropData_22 rfl (lv_at hl 1 rfl) ?_
    refine x_getr cx h fa_X6_16 (f := 247) rfl hq4 dX6_dropData_23 ?_
    refine lv_iload_n hx hb dX6_dropData_26 rfl (lv_at hl 0 rfl) ?_
    refine x_aload_n hx hb dX6_dropData_27 rfl (lv_at hl 1 rfl) ?_
    refine x_getr cx h fa_X6_16 (f := 247) rfl hq4 dX6_dropData_28 ?_
    refine x_aload_n hx hb dX6_dropData_31 rfl (lv_at hl 1 rfl) ?_
    refine x_geti cx h fa_X6_78 (f := 246) rfl hq4 dX6_dropData_32 ?_
    obtain ⟨hq5, hF⟩ := ifs hF
    refine x_iald cx h hq5.1 (inb.vp hq5.2) dX6_dropData_35 ?_
    obtain ⟨hq6, hF⟩ := ifs hF
    refine x_iast cx h hq6.1 (inb.vp hq6.2) dX6_dropData_36 (fun H locs h => ?_)
    obtain ⟨σ7, e7, hF⟩ := lts hF
    have h := Wd.nm e7 h
    have g := LE.nm e7 g
    refine W.cs (cells' := hs σ7 - hs σ) (slots' := ns σ7 - ns σ) (by rw [e7]; try rfl) (by rw [e7]; try rfl) ?_
    refine x_aload_n hx hb dX6_dropData_37 rfl (lv_at hl 1 rfl) ?_
    refine x_getr cx h fa_X6_20 (f := 248) rfl (by rw [e7]; exact hq4) dX6_dropData_38 ?_
    refine lv_iload_n hx hb dX6_dropData_41 rfl (lv_at hl 0 rfl) ?_
    refine x_aload_n hx hb dX6_dropData_42 rfl (lv_at hl 1 rfl) ?_
    refine x_getr cx h fa_X6_20 (f := 248) rfl (by rw [e7]; exact hq4) dX6_dropData_43 ?_
    refine x_aload_n hx hb dX6_dropData_46 rfl (lv_at hl 1 rfl) ?_
    refine x_geti cx h fa_X6_78 (f := 246) rfl (by rw [e7]; exact hq4) dX6_dropData_47 ?_
    obtain ⟨hq8, hF⟩ := ifs hF
    refine x_iald cx h hq8.1 (inb.vp hq8.2) dX6_dropData_50 ?_
    obtain ⟨hq9, hF⟩ := ifs hF
    refine x_iast cx h hq9.1 (inb.vp hq9.2) dX6_dropData_51 (fun H locs h => ?_)
    obtain ⟨σ10, e10, hF⟩ := lts hF
    have h := Wd.nm e10 h
    have g := LE.nm e10 g
    refine W.cs (cells' := hs σ10 - hs σ) (slots' := ns σ10 - ns σ) (by rw [e10]; try rfl) (by rw [e10]; try rfl) ?_
    refine x_aload_n hx hb dX6_dropData_52 rfl (lv_at hl 1 rfl) ?_
    refine x_getr cx h fa_X6_23 (f := 249) rfl (by rw [e10]; exact (by rw [e7]; exact hq4)) dX6_dropData_53 ?_
    refine lv_iload_n hx hb dX6_dropData_56 rfl (lv_at hl 0 rfl) ?_
    refine x_aload_n hx hb dX6_dropData_57 rfl (lv_at hl 1 rfl) ?_
    refine x_getr cx h fa_X6_23 (f := 249) rfl (by rw [e10]; exact (by rw [e7]; exact hq4)) dX6_dropData_58 ?_
    refine x_aload_n hx hb dX6_dropData_61 rfl (lv_at hl 1 rfl) ?_
    refine x_geti cx h fa_X6_78 (f := 246) rfl (by rw [e10]; exact (by rw [e7]; exact hq4)) dX6_dropData_62 ?_
    obtain ⟨hq11, hF⟩ := ifs hF
    refine x_iald cx h hq11.1 (inb.vp hq11.2) dX6_dropData_65 ?_
    obtain ⟨hq12, hF⟩ := ifs hF
    refine x_iast cx h hq12.1 (inb.vp hq12.2) dX6_dropData_66 (fun H locs h => ?_)
    obtain ⟨σ13, e13, hF⟩ := lts hF
    have h := Wd.nm e13 h
    have g := LE.nm e13 g
    refine W.cs (cells' := hs σ13 - hs σ) (slots' := ns σ13 - ns σ) (by rw [e13]; try rfl) (by rw [e13]; try rfl) ?_
    refine x_aload_n hx hb dX6_dropData_67 rfl (lv_at hl 1 rfl) ?_
    refine lv_dup hx hb dX6_dropData_68 (vr_cat _) ?_
    refine x_geti cx h fa_X6_72 (f := 267) rfl (by rw [e13]; exact (by rw [e10]; exact (by rw [e7]; exact hq4))) dX6_dropData_69 ?_
    refine lv_iconst (v := (1 : Int32)) hx hb dX6_dropData_72 (by decide) ?_
    refine lv_iadd hx hb dX6_dropData_73 ?_
    refine x_sti cx h fa_X6_72 (f := 267) rfl (Or.inl rfl) (by rw [e13]; exact (by rw [e10]; exact (by rw [e7]; exact hq4))) dX6_dropData_74 (fun H locs h => ?_)
    obtain ⟨rfl, rfl⟩ := rts hF
    exact x_vret cx h dX6_dropData_77
  · replace hF := ifn c3 hF
    obtain ⟨rfl, rfl⟩ := rts hF
    exact x_vret cx h dX6_dropData_11
def F_X6_addWrite (a0 : Nat) (a1 : Int32) (a2 : Int32) (a3 : Int32) (a4 : Int32) (σ : HS) : Option (Unit × HS) :=
  if kd σ a0 = 7 then (if kd σ (gr σ 251 a0) = 100 ∧ inb (gi σ 250 a0) (ln σ (gr σ 251 a0)) then (if kd (sai σ (gr σ 251 a0) (gi σ 250 a0).toNatClampNeg a1) (gr (sai σ (gr σ 251 a0) (gi σ 250 a0).toNatClampNeg a1) 252 a0) = 100 ∧ inb (gi (sai σ (gr σ 251 a0) (gi σ 250 a0).toNatClampNeg a1) 250 a0) (ln (sai σ (gr σ 251 a0) (gi σ 250 a0).toNatClampNeg a1) (gr (sai σ (gr σ 251 a0) (gi σ 250 a0).toNatClampNeg a1) 252 a0)) then (lt1 (sai (sai σ (gr σ 251 a0) (gi σ 250 a0).toNatClampNeg a1) (gr (sai σ (gr σ 251 a0) (gi σ 250 a0).toNatClampNeg a1) 252 a0) (gi (sai σ (gr σ 251 a0) (gi σ 250 a0).toNatClampNeg a1) 250 a0).toNatClampNeg a2) (fun σ4 => if kd σ4 (gr σ4 253 a0) = 100 ∧ inb (gi σ4 250 a0) (ln σ4 (gr σ4 253 a0)) then (if kd (sai σ4 (gr σ4 253 a0) (gi σ4 250 a0).toNatClampNeg a3) (gr (sai σ4 (gr σ4 253 a0) (gi σ4 250 a0).toNatClampNeg a3) 254 a0) = 101 ∧ inb (gi (sai σ4 (gr σ4 253 a0) (gi σ4 250 a0).toNatClampNeg a3) 250 a0) (ln (sai σ4 (gr σ4 253 a0) (gi σ4 250 a0).toNatClampNeg a3) (gr (sai σ4 (gr σ4 253 a0) (gi σ4 250 a0).toNatClampNeg a3) 254 a0)) then (if a4 = 0 ∨ a4 = 1 then (lt1 (sai (sai σ4 (gr σ4 253 a0) (gi σ4 250 a0).toNatClampNeg a3) (gr (sai σ4 (gr σ4 253 a0) (gi σ4 250 a0).toNatClampNeg a3) 254 a0) (gi (sai σ4 (gr σ4 253 a0) (gi σ4 250 a0).toNatClampNeg a3) 250 a0).toNatClampNeg a4) (fun σ8 => lt1 (si (si σ8 250 a0 ((gi σ8 250 a0) + (1 : Int32))) 267 a0 ((gi (si σ8 250 a0 ((gi σ8 250 a0) + (1 : Int32))) 267 a0) + (1 : Int32))) (fun σ9 => some ((), σ9)))) else none) else none) else none)) else none) else none) else none
theorem mo_F_X6_addWrite (a0 : Nat) (a1 : Int32) (a2 : Int32) (a3 : Int32) (a4 : Int32) (σ : HS) : Mo σ (F_X6_addWrite a0 a1 a2 a3 a4 σ) := by
  unfold F_X6_addWrite
  exact (mo_ite (mo_ite (mo_ite (mo_lt ⟨Nat.le_refl _, Nat.le_refl _⟩ (fun σ4 => (mo_ite (mo_ite (mo_ite (mo_lt ⟨Nat.le_refl _, Nat.le_refl _⟩ (fun σ8 => (mo_lt ⟨Nat.le_refl _, Nat.le_refl _⟩ (fun σ9 => mo_ret)))) mo_none) mo_none) mo_none))) mo_none) mo_none) mo_none)
set_option maxHeartbeats 4000000 in
set_option maxRecDepth 100000 in
theorem c_X6_addWrite (l : Launch) (D : va_G) (dA : Nat → ClassId) (base : Nat) (a0 : Nat) (a1 : Int32) (a2 : Int32) (a3 : Int32) (a4 : Int32) {σ τ : HS} {r : Unit} (hF : F_X6_addWrite a0 a1 a2 a3 a4 σ = some (r, τ)) : CT l yX6_addWrite cX6_addWrite 5 none 0 0 D dA base [vr a0, .int a1, .int a2, .int a3, .int a4] none σ τ := by
  refine CT.of (lv := [(0, vr a0), (1, .int a1), (2, .int a2), (3, .int a3), (4, .int a4)]) (by decide) (vR (vI (vI (vI (vI vN))))) (Nat.le_of_ble_eq_true rfl) rfl ?_
  intro p e s m args below meth c ls cx hl h
  have cx : CX p s m args meth c cX6_addWrite 5 none RX6 "addWrite" D dA base := cx
  have g : LE σ σ := LE.rf
  obtain ⟨hx, hb, -⟩ := id cx
  unfold F_X6_addWrite at hF
  refine x_aload_n hx hb dX6_addWrite_0 rfl (lv_at hl 0 rfl) ?_
  obtain ⟨hq1, hF⟩ := ifs hF
  refine x_getr cx h fa_X6_26 (f := 251) rfl hq1 dX6_addWrite_1 ?_
  refine x_aload_n hx hb dX6_addWrite_4 rfl (lv_at hl 0 rfl) ?_
  refine x_geti cx h fa_X6_81 (f := 250) rfl hq1 dX6_addWrite_5 ?_
  refine lv_iload_n hx hb dX6_addWrite_8 rfl (lv_at hl 1 rfl) ?_
  obtain ⟨hq2, hF⟩ := ifs hF
  refine x_iast cx h hq2.1 (inb.vp hq2.2) dX6_addWrite_9 (fun H locs h => ?_)
  refine x_aload_n hx hb dX6_addWrite_10 rfl (lv_at hl 0 rfl) ?_
  refine x_getr cx h fa_X6_29 (f := 252) rfl hq1 dX6_addWrite_11 ?_
  refine x_aload_n hx hb dX6_addWrite_14 rfl (lv_at hl 0 rfl) ?_
  refine x_geti cx h fa_X6_81 (f := 250) rfl hq1 dX6_addWrite_15 ?_
  refine lv_iload_n hx hb dX6_addWrite_18 rfl (lv_at hl 2 rfl) ?_
  obtain ⟨hq3, hF⟩ := ifs hF
  refine x_iast cx h hq3.1 (inb.vp hq3.2) dX6_addWrite_19 (fun H locs h => ?_)
  obtain ⟨σ4, e4, hF⟩ := lts hF
  have h := Wd.nm e4 h
  have g := LE.nm e4 g
  refine W.cs (cells' := hs σ4 - hs σ) (slots' := ns σ4 - ns σ) (by rw [e4]; try rfl) (by rw [e4]; try rfl) ?_
  refine x_aload_n hx hb dX6_addWrite_20 rfl (lv_at hl 0 rfl) ?_
  refine x_getr cx h fa_X6_32 (f := 253) rfl (by rw [e4]; exact hq1) dX6_addWrite_21 ?_
  refine x_aload_n hx hb dX6_addWrite_24 rfl (lv_at hl 0 rfl) ?_
  refine x_geti cx h fa_X6_81 (f := 250) rfl (by rw [e4]; exact hq1) dX6_addWrite_25 ?_
  refine lv_iload_n hx hb dX6_addWrite_28 rfl (lv_at hl 3 rfl) ?_
  obtain ⟨hq5, hF⟩ := ifs hF
  refine x_iast cx h hq5.1 (inb.vp hq5.2) dX6_addWrite_29 (fun H locs h => ?_)
  refine x_aload_n hx hb dX6_addWrite_30 rfl (lv_at hl 0 rfl) ?_
  refine x_getr cx h fa_X6_35 (f := 254) rfl (by rw [e4]; exact hq1) dX6_addWrite_31 ?_
  refine x_aload_n hx hb dX6_addWrite_34 rfl (lv_at hl 0 rfl) ?_
  refine x_geti cx h fa_X6_81 (f := 250) rfl (by rw [e4]; exact hq1) dX6_addWrite_35 ?_
  refine lv_iload hx hb dX6_addWrite_38 (lv_at hl 4 rfl) ?_
  obtain ⟨hq6, hF⟩ := ifs hF
  obtain ⟨hz7, hF⟩ := ifs hF
  refine x_zast cx h hq6.1 (inb.vp hq6.2) hz7 dX6_addWrite_40 (fun H locs h => ?_)
  obtain ⟨σ8, e8, hF⟩ := lts hF
  have h := Wd.nm e8 h
  have g := LE.nm e8 g
  refine W.cs (cells' := hs σ8 - hs σ) (slots' := ns σ8 - ns σ) (by rw [e8]; try rfl) (by rw [e8]; try rfl) ?_
  refine x_aload_n hx hb dX6_addWrite_41 rfl (lv_at hl 0 rfl) ?_
  refine lv_dup hx hb dX6_addWrite_42 (vr_cat _) ?_
  refine x_geti cx h fa_X6_81 (f := 250) rfl (by rw [e8]; exact (by rw [e4]; exact hq1)) dX6_addWrite_43 ?_
  refine lv_iconst (v := (1 : Int32)) hx hb dX6_addWrite_46 (by decide) ?_
  refine lv_iadd hx hb dX6_addWrite_47 ?_
  refine x_sti cx h fa_X6_81 (f := 250) rfl (Or.inl rfl) (by rw [e8]; exact (by rw [e4]; exact hq1)) dX6_addWrite_48 (fun H locs h => ?_)
  refine x_aload_n hx hb dX6_addWrite_51 rfl (lv_at hl 0 rfl) ?_
  refine lv_dup hx hb dX6_addWrite_52 (vr_cat _) ?_
  refine x_geti cx h fa_X6_72 (f := 267) rfl (by rw [e8]; exact (by rw [e4]; exact hq1)) dX6_addWrite_53 ?_
  refine lv_iconst (v := (1 : Int32)) hx hb dX6_addWrite_56 (by decide) ?_
  refine lv_iadd hx hb dX6_addWrite_57 ?_
  refine x_sti cx h fa_X6_72 (f := 267) rfl (Or.inl rfl) (by rw [e8]; exact (by rw [e4]; exact hq1)) dX6_addWrite_58 (fun H locs h => ?_)
  obtain ⟨σ9, e9, hF⟩ := lts hF
  have h := Wd.nm e9 h
  have g := LE.nm e9 g
  refine W.cs (cells' := hs σ9 - hs σ) (slots' := ns σ9 - ns σ) (by rw [e9]; try rfl) (by rw [e9]; try rfl) ?_
  obtain ⟨rfl, rfl⟩ := rts hF
  exact x_vret cx h dX6_addWrite_61
def F_X6_dropWrite (a0 : Nat) (a1 : Int32) (σ : HS) : Option (Unit × HS) :=
  if kd σ a0 = 7 then (if kd (si σ 250 a0 ((gi σ 250 a0) - (1 : Int32))) (gr (si σ 250 a0 ((gi σ 250 a0) - (1 : Int32))) 251 a0) = 100 ∧ inb (gi (si σ 250 a0 ((gi σ 250 a0) - (1 : Int32))) 250 a0) (ln (si σ 250 a0 ((gi σ 250 a0) - (1 : Int32))) (gr (si σ 250 a0 ((gi σ 250 a0) - (1 : Int32))) 251 a0)) then (if kd (si σ 250 a0 ((gi σ 250 a0) - (1 : Int32))) (gr (si σ 250 a0 ((gi σ 250 a0) - (1 : Int32))) 251 a0) = 100 ∧ inb a1 (ln (si σ 250 a0 ((gi σ 250 a0) - (1 : Int32))) (gr (si σ 250 a0 ((gi σ 250 a0) - (1 : Int32))) 251 a0)) then (lt1 (sai (si σ 250 a0 ((gi σ 250 a0) - (1 : Int32))) (gr (si σ 250 a0 ((gi σ 250 a0) - (1 : Int32))) 251 a0) a1.toNatClampNeg (ai (si σ 250 a0 ((gi σ 250 a0) - (1 : Int32))) (gr (si σ 250 a0 ((gi σ 250 a0) - (1 : Int32))) 251 a0) (gi (si σ 250 a0 ((gi σ 250 a0) - (1 : Int32))) 250 a0).toNatClampNeg)) (fun σ4 => if kd σ4 (gr σ4 252 a0) = 100 ∧ inb (gi σ4 250 a0) (ln σ4 (gr σ4 252 a0)) then (if kd σ4 (gr σ4 252 a0) = 100 ∧ inb a1 (ln σ4 (gr σ4 252 a0)) then (lt1 (sai σ4 (gr σ4 252 a0) a1.toNatClampNeg (ai σ4 (gr σ4 252 a0) (gi σ4 250 a0).toNatClampNeg)) (fun σ7 => if kd σ7 (gr σ7 253 a0) = 100 ∧ inb (gi σ7 250 a0) (ln σ7 (gr σ7 253 a0)) then (if kd σ7 (gr σ7 253 a0) = 100 ∧ inb a1 (ln σ7 (gr σ7 253 a0)) then (lt1 (sai σ7 (gr σ7 253 a0) a1.toNatClampNeg (ai σ7 (gr σ7 253 a0) (gi σ7 250 a0).toNatClampNeg)) (fun σ10 => if kd σ10 (gr σ10 254 a0) = 101 ∧ inb (gi σ10 250 a0) (ln σ10 (gr σ10 254 a0)) then (if kd σ10 (gr σ10 254 a0) = 101 ∧ inb a1 (ln σ10 (gr σ10 254 a0)) then (if (ai σ10 (gr σ10 254 a0) (gi σ10 250 a0).toNatClampNeg) = 0 ∨ (ai σ10 (gr σ10 254 a0) (gi σ10 250 a0).toNatClampNeg) = 1 then (lt1 (sai σ10 (gr σ10 254 a0) a1.toNatClampNeg (ai σ10 (gr σ10 254 a0) (gi σ10 250 a0).toNatClampNeg)) (fun σ14 => some ((), (si σ14 267 a0 ((gi σ14 267 a0) + (1 : Int32)))))) else none) else none) else none)) else none) else none)) else none) else none)) else none) else none) else none
theorem mo_F_X6_dropWrite (a0 : Nat) (a1 : Int32) (σ : HS) : Mo σ (F_X6_dropWrite a0 a1 σ) := by
  unfold F_X6_dropWrite
  exact (mo_ite (mo_ite (mo_ite (mo_lt ⟨Nat.le_refl _, Nat.le_refl _⟩ (fun σ4 => (mo_ite (mo_ite (mo_lt ⟨Nat.le_refl _, Nat.le_refl _⟩ (fun σ7 => (mo_ite (mo_ite (mo_lt ⟨Nat.le_refl _, Nat.le_refl _⟩ (fun σ10 => (mo_ite (mo_ite (mo_ite (mo_lt ⟨Nat.le_refl _, Nat.le_refl _⟩ (fun σ14 => (mo_le (τ := (si σ14 267 a0 ((gi σ14 267 a0) + (1 : Int32)))) ⟨Nat.le_refl _, Nat.le_refl _⟩ mo_ret))) mo_none) mo_none) mo_none))) mo_none) mo_none))) mo_none) mo_none))) mo_none) mo_none) mo_none)
set_option maxHeartbeats 4000000 in
set_option maxRecDepth 100000 in
theorem c_X6_dropWrite (l : Launch) (D : va_G) (dA : Nat → ClassId) (base : Nat) (a0 : Nat) (a1 : Int32) {σ τ : HS} {r : Unit} (hF : F_X6_dropWrite a0 a1 σ = some (r, τ)) : CT l yX6_dropWrite cX6_dropWrite 2 none 0 0 D dA base [vr a0, .int a1] none σ τ := by
  refine CT.of (lv := [(0, vr a0), (1, .int a1)]) (by decide) (vR (vI vN)) (Nat.le_of_ble_eq_true rfl) rfl ?_
  intro p e s m args below meth c ls cx hl h
  have cx : CX p s m args meth c cX6_dropWrite 2 none RX6 "dropWrite" D dA base := cx
  have g : LE σ σ := LE.rf
  obtain ⟨hx, hb, -⟩ := id cx
  unfold F_X6_dropWrite at hF
  refine x_aload_n hx hb dX6_dropWrite_0 rfl (lv_at hl 0 rfl) ?_
  refine lv_dup hx hb dX6_dropWrite_1 (vr_cat _) ?_
  obtain ⟨hq1, hF⟩ := ifs hF
  refine x_geti cx h fa_X6_81 (f := 250) rfl hq1 dX6_dropWrite_2 ?_
  refine lv_iconst (v := (1 : Int32)) hx hb dX6_dropWrite_5 (by decide) ?_
  refine lv_isub hx hb dX6_dropWrite_6 ?_
  refine x_sti cx h fa_X6_81 (f := 250) rfl (Or.inl rfl) hq1 dX6_dropWrite_7 (fun H locs h => ?_)
  refine x_aload_n hx hb dX6_dropWrite_10 rfl (lv_at hl 0 rfl) ?_
  refine x_getr cx h fa_X6_26 (f := 251) rfl hq1 dX6_dropWrite_11 ?_
  refine lv_iload_n hx hb dX6_dropWrite_14 rfl (lv_at hl 1 rfl) ?_
  refine x_aload_n hx hb dX6_dropWrite_15 rfl (lv_at hl 0 rfl) ?_
  refine x_getr cx h fa_X6_26 (f := 251) rfl hq1 dX6_dropWrite_16 ?_
  refine x_aload_n hx hb dX6_dropWrite_19 rfl (lv_at hl 0 rfl) ?_
  refine x_geti cx h fa_X6_81 (f := 250) rfl hq1 dX6_dropWrite_20 ?_
  obtain ⟨hq2, hF⟩ := ifs hF
  refine x_iald cx h hq2.1 (inb.vp hq2.2) dX6_dropWrite_23 ?_
  obtain ⟨hq3, hF⟩ := ifs hF
  refine x_iast cx h hq3.1 (inb.vp hq3.2) dX6_dropWrite_24 (fun H locs h => ?_)
  obtain ⟨σ4, e4, hF⟩ := lts hF
  have h := Wd.nm e4 h
  have g := LE.nm e4 g
  refine W.cs (cells' := hs σ4 - hs σ) (slots' := ns σ4 - ns σ) (by rw [e4]; try rfl) (by rw [e4]; try rfl) ?_
  refine x_aload_n hx hb dX6_dropWrite_25 rfl (lv_at hl 0 rfl) ?_
  refine x_getr cx h fa_X6_29 (f := 252) rfl (by rw [e4]; exact hq1) dX6_dropWrite_26 ?_
  refine lv_iload_n hx hb dX6_dropWrite_29 rfl (lv_at hl 1 rfl) ?_
  refine x_aload_n hx hb dX6_dropWrite_30 rfl (lv_at hl 0 rfl) ?_
  refine x_getr cx h fa_X6_29 (f := 252) rfl (by rw [e4]; exact hq1) dX6_dropWrite_31 ?_
  refine x_aload_n hx hb dX6_dropWrite_34 rfl (lv_at hl 0 rfl) ?_
  refine x_geti cx h fa_X6_81 (f := 250) rfl (by rw [e4]; exact hq1) dX6_dropWrite_35 ?_
  obtain ⟨hq5, hF⟩ := ifs hF
  refine x_iald cx h hq5.1 (inb.vp hq5.2) dX6_dropWrite_38 ?_
  obtain ⟨hq6, hF⟩ := ifs hF
  refine x_iast cx h hq6.1 (inb.vp hq6.2) dX6_dropWrite_39 (fun H locs h => ?_)
  obtain ⟨σ7, e7, hF⟩ := lts hF
  have h := Wd.nm e7 h
  have g := LE.nm e7 g
  refine W.cs (cells' := hs σ7 - hs σ) (slots' := ns σ7 - ns σ) (by rw [e7]; try rfl) (by rw [e7]; try rfl) ?_
  refine x_aload_n hx hb dX6_dropWrite_40 rfl (lv_at hl 0 rfl) ?_
  refine x_getr cx h fa_X6_32 (f := 253) rfl (by rw [e7]; exact (by rw [e4]; exact hq1)) dX6_dropWrite_41 ?_
  refine lv_iload_n hx hb dX6_dropWrite_44 rfl (lv_at hl 1 rfl) ?_
  refine x_aload_n hx hb dX6_dropWrite_45 rfl (lv_at hl 0 rfl) ?_
  refine x_getr cx h fa_X6_32 (f := 253) rfl (by rw [e7]; exact (by rw [e4]; exact hq1)) dX6_dropWrite_46 ?_
  refine x_aload_n hx hb dX6_dropWrite_49 rfl (lv_at hl 0 rfl) ?_
  refine x_geti cx h fa_X6_81 (f := 250) rfl (by rw [e7]; exact (by rw [e4]; exact hq1)) dX6_dropWrite_50 ?_
  obtain ⟨hq8, hF⟩ := ifs hF
  refine x_iald cx h hq8.1 (inb.vp hq8.2) dX6_dropWrite_53 ?_
  obtain ⟨hq9, hF⟩ := ifs hF
  refine x_iast cx h hq9.1 (inb.vp hq9.2) dX6_dropWrite_54 (fun H locs h => ?_)
  obtain ⟨σ10, e10, hF⟩ := lts hF
  have h := Wd.nm e10 h
  have g := LE.nm e10 g
  refine W.cs (cells' := hs σ10 - hs σ) (slots' := ns σ10 - ns σ) (by rw [e10]; try rfl) (by rw [e10]; try rfl) ?_
  refine x_aload_n hx hb dX6_dropWrite_55 rfl (lv_at hl 0 rfl) ?_
  refine x_getr cx h fa_X6_35 (f := 254) rfl (by rw [e10]; exact (by rw [e7]; exact (by rw [e4]; exact hq1))) dX6_dropWrite_56 ?_
  refine lv_iload_n hx hb dX6_dropWrite_59 rfl (lv_at hl 1 rfl) ?_
  refine x_aload_n hx hb dX6_dropWrite_60 rfl (lv_at hl 0 rfl) ?_
  refine x_getr cx h fa_X6_35 (f := 254) rfl (by rw [e10]; exact (by rw [e7]; exact (by rw [e4]; exact hq1))) dX6_dropWrite_61 ?_
  refine x_aload_n hx hb dX6_dropWrite_64 rfl (lv_at hl 0 rfl) ?_
  refine x_geti cx h fa_X6_81 (f := 250) rfl (by rw [e10]; exact (by rw [e7]; exact (by rw [e4]; exact hq1))) dX6_dropWrite_65 ?_
  obtain ⟨hq11, hF⟩ := ifs hF
  refine x_zald cx h hq11.1 (inb.vp hq11.2) dX6_dropWrite_68 ?_
  obtain ⟨hq12, hF⟩ := ifs hF
  obtain ⟨hz13, hF⟩ := ifs hF
  refine x_zast cx h hq12.1 (inb.vp hq12.2) hz13 dX6_dropWrite_69 (fun H locs h => ?_)
  obtain ⟨σ14, e14, hF⟩ := lts hF
  have h := Wd.nm e14 h
  have g := LE.nm e14 g
  refine W.cs (cells' := hs σ14 - hs σ) (slots' := ns σ14 - ns σ) (by rw [e14]; try rfl) (by rw [e14]; try rfl) ?_
  refine x_aload_n hx hb dX6_dropWrite_70 rfl (lv_at hl 0 rfl) ?_
  refine lv_dup hx hb dX6_dropWrite_71 (vr_cat _) ?_
  refine x_geti cx h fa_X6_72 (f := 267) rfl (by rw [e14]; exact (by rw [e10]; exact (by rw [e7]; exact (by rw [e4]; exact hq1)))) dX6_dropWrite_72 ?_
  refine lv_iconst (v := (1 : Int32)) hx hb dX6_dropWrite_75 (by decide) ?_
  refine lv_iadd hx hb dX6_dropWrite_76 ?_
  refine x_sti cx h fa_X6_72 (f := 267) rfl (Or.inl rfl) (by rw [e14]; exact (by rw [e10]; exact (by rw [e7]; exact (by rw [e4]; exact hq1)))) dX6_dropWrite_77 (fun H locs h => ?_)
  obtain ⟨rfl, rfl⟩ := rts hF
  exact x_vret cx h dX6_dropWrite_80
def F_X6_addLock (a0 : Nat) (a1 : Int32) (a2 : Int32) (a3 : Int32) (σ : HS) : Option (Unit × HS) :=
  if kd σ a0 = 7 then (if kd σ (gr σ 256 a0) = 100 ∧ inb a1 (ln σ (gr σ 256 a0)) then (if kd (sai σ (gr σ 256 a0) a1.toNatClampNeg a2) (gr (sai σ (gr σ 256 a0) a1.toNatClampNeg a2) 257 a0) = 100 ∧ inb a1 (ln (sai σ (gr σ 256 a0) a1.toNatClampNeg a2) (gr (sai σ (gr σ 256 a0) a1.toNatClampNeg a2) 257 a0)) then (lt1 (sai (sai σ (gr σ 256 a0) a1.toNatClampNeg a2) (gr (sai σ (gr σ 256 a0) a1.toNatClampNeg a2) 257 a0) a1.toNatClampNeg a3) (fun σ4 => if kd σ4 (gr σ4 258 a0) = 100 ∧ inb a1 (ln σ4 (gr σ4 258 a0)) then (lt1 (si (sai σ4 (gr σ4 258 a0) a1.toNatClampNeg (gi σ4 241 a0)) 255 a0 ((gi (sai σ4 (gr σ4 258 a0) a1.toNatClampNeg (gi σ4 241 a0)) 255 a0) + (1 : Int32))) (fun σ6 => some ((), (si σ6 267 a0 ((gi σ6 267 a0) + (1 : Int32)))))) else none)) else none) else none) else none
theorem mo_F_X6_addLock (a0 : Nat) (a1 : Int32) (a2 : Int32) (a3 : Int32) (σ : HS) : Mo σ (F_X6_addLock a0 a1 a2 a3 σ) := by
  unfold F_X6_addLock
  exact (mo_ite (mo_ite (mo_ite (mo_lt ⟨Nat.le_refl _, Nat.le_refl _⟩ (fun σ4 => (mo_ite (mo_lt ⟨Nat.le_refl _, Nat.le_refl _⟩ (fun σ6 => (mo_le (τ := (si σ6 267 a0 ((gi σ6 267 a0) + (1 : Int32)))) ⟨Nat.le_refl _, Nat.le_refl _⟩ mo_ret))) mo_none))) mo_none) mo_none) mo_none)
set_option maxHeartbeats 4000000 in
set_option maxRecDepth 100000 in
theorem c_X6_addLock (l : Launch) (D : va_G) (dA : Nat → ClassId) (base : Nat) (a0 : Nat) (a1 : Int32) (a2 : Int32) (a3 : Int32) {σ τ : HS} {r : Unit} (hF : F_X6_addLock a0 a1 a2 a3 σ = some (r, τ)) : CT l yX6_addLock cX6_addLock 4 none 0 0 D dA base [vr a0, .int a1, .int a2, .int a3] none σ τ := by
  refine CT.of (lv := [(0, vr a0), (1, .int a1), (2, .int a2), (3, .int a3)]) (by decide) (vR (vI (vI (vI vN)))) (Nat.le_of_ble_eq_true rfl) rfl ?_
  intro p e s m args below meth c ls cx hl h
  have cx : CX p s m args meth c cX6_addLock 4 none RX6 "addLock" D dA base := cx
  have g : LE σ σ := LE.rf
  obtain ⟨hx, hb, -⟩ := id cx
  unfold F_X6_addLock at hF
  refine x_aload_n hx hb dX6_addLock_0 rfl (lv_at hl 0 rfl) ?_
  obtain ⟨hq1, hF⟩ := ifs hF
  refine x_getr cx h fa_X6_39 (f := 256) rfl hq1 dX6_addLock_1 ?_
  refine lv_iload_n hx hb dX6_addLock_4 rfl (lv_at hl 1 rfl) ?_
  refine lv_iload_n hx hb dX6_addLock_5 rfl (lv_at hl 2 rfl) ?_
  obtain ⟨hq2, hF⟩ := ifs hF
  refine x_iast cx h hq2.1 (inb.vp hq2.2) dX6_addLock_6 (fun H locs h => ?_)
  refine x_aload_n hx hb dX6_addLock_7 rfl (lv_at hl 0 rfl) ?_
  refine x_getr cx h fa_X6_42 (f := 257) rfl hq1 dX6_addLock_8 ?_
  refine lv_iload_n hx hb dX6_addLock_11 rfl (lv_at hl 1 rfl) ?_
  refine lv_iload_n hx hb dX6_addLock_12 rfl (lv_at hl 3 rfl) ?_
  obtain ⟨hq3, hF⟩ := ifs hF
  refine x_iast cx h hq3.1 (inb.vp hq3.2) dX6_addLock_13 (fun H locs h => ?_)
  obtain ⟨σ4, e4, hF⟩ := lts hF
  have h := Wd.nm e4 h
  have g := LE.nm e4 g
  refine W.cs (cells' := hs σ4 - hs σ) (slots' := ns σ4 - ns σ) (by rw [e4]; try rfl) (by rw [e4]; try rfl) ?_
  refine x_aload_n hx hb dX6_addLock_14 rfl (lv_at hl 0 rfl) ?_
  refine x_getr cx h fa_X6_45 (f := 258) rfl (by rw [e4]; exact hq1) dX6_addLock_15 ?_
  refine lv_iload_n hx hb dX6_addLock_18 rfl (lv_at hl 1 rfl) ?_
  refine x_aload_n hx hb dX6_addLock_19 rfl (lv_at hl 0 rfl) ?_
  refine x_geti cx h fa_X6_103 (f := 241) rfl (by rw [e4]; exact hq1) dX6_addLock_20 ?_
  obtain ⟨hq5, hF⟩ := ifs hF
  refine x_iast cx h hq5.1 (inb.vp hq5.2) dX6_addLock_23 (fun H locs h => ?_)
  refine x_aload_n hx hb dX6_addLock_24 rfl (lv_at hl 0 rfl) ?_
  refine lv_dup hx hb dX6_addLock_25 (vr_cat _) ?_
  refine x_geti cx h fa_X6_84 (f := 255) rfl (by rw [e4]; exact hq1) dX6_addLock_26 ?_
  refine lv_iconst (v := (1 : Int32)) hx hb dX6_addLock_29 (by decide) ?_
  refine lv_iadd hx hb dX6_addLock_30 ?_
  refine x_sti cx h fa_X6_84 (f := 255) rfl (Or.inl rfl) (by rw [e4]; exact hq1) dX6_addLock_31 (fun H locs h => ?_)
  obtain ⟨σ6, e6, hF⟩ := lts hF
  have h := Wd.nm e6 h
  have g := LE.nm e6 g
  refine W.cs (cells' := hs σ6 - hs σ) (slots' := ns σ6 - ns σ) (by rw [e6]; try rfl) (by rw [e6]; try rfl) ?_
  refine x_aload_n hx hb dX6_addLock_34 rfl (lv_at hl 0 rfl) ?_
  refine lv_dup hx hb dX6_addLock_35 (vr_cat _) ?_
  refine x_geti cx h fa_X6_72 (f := 267) rfl (by rw [e6]; exact (by rw [e4]; exact hq1)) dX6_addLock_36 ?_
  refine lv_iconst (v := (1 : Int32)) hx hb dX6_addLock_39 (by decide) ?_
  refine lv_iadd hx hb dX6_addLock_40 ?_
  refine x_sti cx h fa_X6_72 (f := 267) rfl (Or.inl rfl) (by rw [e6]; exact (by rw [e4]; exact hq1)) dX6_addLock_41 (fun H locs h => ?_)
  obtain ⟨rfl, rfl⟩ := rts hF
  exact x_vret cx h dX6_addLock_44
def F_X6_dropLock (a0 : Nat) (a1 : Int32) (σ : HS) : Option (Unit × HS) :=
  if kd σ a0 = 7 then (if kd σ (gr σ 256 a0) = 100 ∧ inb a1 (ln σ (gr σ 256 a0)) then (lt1 (si (sai σ (gr σ 256 a0) a1.toNatClampNeg (0 : Int32)) 255 a0 ((gi (sai σ (gr σ 256 a0) a1.toNatClampNeg (0 : Int32)) 255 a0) - (1 : Int32))) (fun σ3 => some ((), (si σ3 267 a0 ((gi σ3 267 a0) + (1 : Int32)))))) else none) else none
theorem mo_F_X6_dropLock (a0 : Nat) (a1 : Int32) (σ : HS) : Mo σ (F_X6_dropLock a0 a1 σ) := by
  unfold F_X6_dropLock
  exact (mo_ite (mo_ite (mo_lt ⟨Nat.le_refl _, Nat.le_refl _⟩ (fun σ3 => (mo_le (τ := (si σ3 267 a0 ((gi σ3 267 a0) + (1 : Int32)))) ⟨Nat.le_refl _, Nat.le_refl _⟩ mo_ret))) mo_none) mo_none)
set_option maxHeartbeats 4000000 in
set_option maxRecDepth 100000 in
theorem c_X6_dropLock (l : Launch) (D : va_G) (dA : Nat → ClassId) (base : Nat) (a0 : Nat) (a1 : Int32) {σ τ : HS} {r : Unit} (hF : F_X6_dropLock a0 a1 σ = some (r, τ)) : CT l yX6_dropLock cX6_dropLock 2 none 0 0 D dA base [vr a0, .int a1] none σ τ := by
  refine CT.of (lv := [(0, vr a0), (1, .int a1)]) (by decide) (vR (vI vN)) (Nat.le_of_ble_eq_true rfl) rfl ?_
  intro p e s m args below meth c ls cx hl h
  have cx : CX p s m args meth c cX6_dropLock 2 none RX6 "dropLock" D dA base := cx
  have g : LE σ σ := LE.rf
  obtain ⟨hx, hb, -⟩ := id cx
  unfold F_X6_dropLock at hF
  refine x_aload_n hx hb dX6_dropLock_0 rfl (lv_at hl 0 rfl) ?_
  obtain ⟨hq1, hF⟩ := ifs hF
  refine x_getr cx h fa_X6_39 (f := 256) rfl hq1 dX6_dropLock_1 ?_
  refine lv_iload_n hx hb dX6_dropLock_4 rfl (lv_at hl 1 rfl) ?_
  refine lv_iconst (v := (0 : Int32)) hx hb dX6_dropLock_5 (by decide) ?_
  obtain ⟨hq2, hF⟩ := ifs hF
  refine x_iast cx h hq2.1 (inb.vp hq2.2) dX6_dropLock_6 (fun H locs h => ?_)
  refine x_aload_n hx hb dX6_dropLock_7 rfl (lv_at hl 0 rfl) ?_
  refine lv_dup hx hb dX6_dropLock_8 (vr_cat _) ?_
  refine x_geti cx h fa_X6_84 (f := 255) rfl hq1 dX6_dropLock_9 ?_
  refine lv_iconst (v := (1 : Int32)) hx hb dX6_dropLock_12 (by decide) ?_
  refine lv_isub hx hb dX6_dropLock_13 ?_
  refine x_sti cx h fa_X6_84 (f := 255) rfl (Or.inl rfl) hq1 dX6_dropLock_14 (fun H locs h => ?_)
  obtain ⟨σ3, e3, hF⟩ := lts hF
  have h := Wd.nm e3 h
  have g := LE.nm e3 g
  refine W.cs (cells' := hs σ3 - hs σ) (slots' := ns σ3 - ns σ) (by rw [e3]; try rfl) (by rw [e3]; try rfl) ?_
  refine x_aload_n hx hb dX6_dropLock_17 rfl (lv_at hl 0 rfl) ?_
  refine lv_dup hx hb dX6_dropLock_18 (vr_cat _) ?_
  refine x_geti cx h fa_X6_72 (f := 267) rfl (by rw [e3]; exact hq1) dX6_dropLock_19 ?_
  refine lv_iconst (v := (1 : Int32)) hx hb dX6_dropLock_22 (by decide) ?_
  refine lv_iadd hx hb dX6_dropLock_23 ?_
  refine x_sti cx h fa_X6_72 (f := 267) rfl (Or.inl rfl) (by rw [e3]; exact hq1) dX6_dropLock_24 (fun H locs h => ?_)
  obtain ⟨rfl, rfl⟩ := rts hF
  exact x_vret cx h dX6_dropLock_27
