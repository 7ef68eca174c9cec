def B_X6_lockRow_246 (k177 : Nat → Int32 → Int32 → Int32 → HS → Option (Int32 × HS)) (x0 : Nat) (x1 : Int32) (x2 : Int32) (x4 : Int32) (σ : HS) : Option (Int32 × HS) :=
  k177 x0 x1 x2 (x4 + (1 : Int32)) σ
theorem mo_B_X6_lockRow_246 {k177 : Nat → Int32 → Int32 → Int32 → HS → Option (Int32 × HS)} (mk177 : ∀ x0 x1 x2 x4 σ, Mo σ (k177 x0 x1 x2 x4 σ)) (x0 : Nat) (x1 : Int32) (x2 : Int32) (x4 : Int32) (σ : HS) : Mo σ (B_X6_lockRow_246 k177 x0 x1 x2 x4 σ) := by
  unfold B_X6_lockRow_246
  exact (mk177 x0 x1 x2 (x4 + (1 : Int32)) _)
set_option maxHeartbeats 4000000 in
set_option maxRecDepth 100000 in
theorem w_X6_lockRow_246 {p : Program} {l : Launch} {e : Env} {s : State} {m : MethodId} {args : Array Value} {below : List Frame} {meth : Method} {c : Code} {D : va_G} {dA : Nat → ClassId} {base : Nat} {σ0 τ : HS} {r : Int32} (cx : CX p s m args meth c cX6_lockRow 6 (some .int) RX6 "lockRow" D dA base) {k177 : Nat → Int32 → Int32 → Int32 → HS → Option (Int32 × HS)} (mk177 : ∀ x0 x1 x2 x4 σ, Mo σ (k177 x0 x1 x2 x4 σ)) (hk177 : ∀ x0 x1 x2 x4 σ H locs ls, Wd D dA base σ s H locs → LE σ0 σ → lv_has ls 6 [(0, vr x0), (1, .int x1), (2, .int x2), (4, .int x4)] → k177 x0 x1 x2 x4 σ = some (r, τ) → WG p l e s m args below meth c D dA base 3 71 (some (.int r)) σ0 τ σ H locs 177 ls []) (x0 : Nat) (x1 : Int32) (x2 : Int32) (x4 : Int32) {σ : HS} {H : Heap} {locs : List Loc} {ls : Array Slot} (h : Wd D dA base σ s H locs) (g : LE σ0 σ) (hl : lv_has ls 6 [(0, vr x0), (1, .int x1), (2, .int x2), (4, .int x4)]) (hF : B_X6_lockRow_246 k177 x0 x1 x2 x4 σ = some (r, τ)) : WG p l e s m args below meth c D dA base 3 71 (some (.int r)) σ0 τ σ H locs 246 ls [] := by
  obtain ⟨hx, hb, -⟩ := id cx
  unfold B_X6_lockRow_246 at hF
  refine x_iinc (k := 3) (v := (1 : Int32)) (lv' := [(4, .int (x4 + (1 : Int32))), (0, vr x0), (1, .int x1), (2, .int x2)]) hx hb dX6_lockRow_246 hl rfl (by decide) (by decide) (cR (cI (cI (cI cN)))) rfl (fun ls hl => ?_)
  refine lv_goto (tgt := 177) hx hb dX6_lockRow_249 (by decide) ?_
  exact hk177 x0 x1 x2 (x4 + (1 : Int32)) σ _ _ _ h g (lv_sub hl [1, 2, 3, 0] rfl) hF
def B_X6_lockRow_177 (k177 : Nat → Int32 → Int32 → Int32 → HS → Option (Int32 × HS)) (x0 : Nat) (x1 : Int32) (x2 : Int32) (x4 : Int32) (σ : HS) : Option (Int32 × HS) :=
  if (((4 : Int32) * x2) + (4 : Int32)) ≤ x4 then (if kd σ x0 = 7 then (if kd σ (gr σ 265 x0) = 100 ∧ inb x1 (ln σ (gr σ 265 x0)) then (lt1 (sai σ (gr σ 265 x0) x1.toNatClampNeg ((ai σ (gr σ 265 x0) x1.toNatClampNeg) + (1 : Int32))) (fun σ4 => some ((1 : Int32), σ4))) else none) else none) else (if kd σ x0 = 7 then (bd (F_X6_ownAt x0 x1 x4 σ) (fun r6 σ6 => if r6 < 0 then (B_X6_lockRow_246 k177 x0 x1 x2 x4 σ6) else (if kd σ6 x0 = 7 then (if kd σ6 (gr σ6 260 x0) = 100 ∧ inb x1 (ln σ6 (gr σ6 260 x0)) then (if kd σ6 (gr σ6 264 x0) = 100 ∧ inb (((16 : Int32) * x1) + r6) (ln σ6 (gr σ6 264 x0)) then (bd (F_X6_addData x0 x4 (ai σ6 (gr σ6 260 x0) x1.toNatClampNeg) (ai σ6 (gr σ6 264 x0) (((16 : Int32) * x1) + r6).toNatClampNeg) σ6) (fun r11 σ11 => if kd σ11 x0 = 7 then (if kd σ11 (gr σ11 260 x0) = 100 ∧ inb x1 (ln σ11 (gr σ11 260 x0)) then (if kd σ11 (gr σ11 263 x0) = 100 ∧ inb ((16 : Int32) * x1) (ln σ11 (gr σ11 263 x0)) then (bd (F_X6_addLock x0 x4 (ai σ11 (gr σ11 260 x0) x1.toNatClampNeg) (ai σ11 (gr σ11 263 x0) ((16 : Int32) * x1).toNatClampNeg) σ11) (fun r15 σ15 => B_X6_lockRow_246 k177 x0 x1 x2 x4 σ15)) else none) else none) else none)) else none) else none) else none))) else none)
theorem mo_B_X6_lockRow_177 {k177 : Nat → Int32 → Int32 → Int32 → HS → Option (Int32 × HS)} (mk177 : ∀ x0 x1 x2 x4 σ, Mo σ (k177 x0 x1 x2 x4 σ)) (x0 : Nat) (x1 : Int32) (x2 : Int32) (x4 : Int32) (σ : HS) : Mo σ (B_X6_lockRow_177 k177 x0 x1 x2 x4 σ) := by
  unfold B_X6_lockRow_177
  exact (mo_ite (mo_ite (mo_ite (mo_lt ⟨Nat.le_refl _, Nat.le_refl _⟩ (fun σ4 => mo_ret)) mo_none) mo_none) (mo_ite (mo_bd (mo_F_X6_ownAt x0 x1 x4 _) (fun r6 σ6 => (mo_ite (mo_B_X6_lockRow_246 mk177 x0 x1 x2 x4 _) (mo_ite (mo_ite (mo_ite (mo_bd (mo_F_X6_addData x0 x4 (ai σ6 (gr σ6 260 x0) x1.toNatClampNeg) (ai σ6 (gr σ6 264 x0) (((16 : Int32) * x1) + r6).toNatClampNeg) _) (fun r11 σ11 => (mo_ite (mo_ite (mo_ite (mo_bd (mo_F_X6_addLock x0 x4 (ai σ11 (gr σ11 260 x0) x1.toNatClampNeg) (ai σ11 (gr σ11 263 x0) ((16 : Int32) * x1).toNatClampNeg) _) (fun r15 σ15 => (mo_B_X6_lockRow_246 mk177 x0 x1 x2 x4 _))) mo_none) mo_none) mo_none))) mo_none) mo_none) mo_none)))) mo_none))
set_option maxHeartbeats 4000000 in
set_option maxRecDepth 100000 in
theorem w_X6_lockRow_177 {p : Program} {l : Launch} {e : Env} {s : State} {m : MethodId} {args : Array Value} {below : List Frame} {meth : Method} {c : Code} {D : va_G} {dA : Nat → ClassId} {base : Nat} {σ0 τ : HS} {r : Int32} (cx : CX p s m args meth c cX6_lockRow 6 (some .int) RX6 "lockRow" D dA base) {k177 : Nat → Int32 → Int32 → Int32 → HS → Option (Int32 × HS)} (mk177 : ∀ x0 x1 x2 x4 σ, Mo σ (k177 x0 x1 x2 x4 σ)) (hk177 : ∀ x0 x1 x2 x4 σ H locs ls, Wd D dA base σ s H locs → LE σ0 σ → lv_has ls 6 [(0, vr x0), (1, .int x1), (2, .int x2), (4, .int x4)] → k177 x0 x1 x2 x4 σ = some (r, τ) → WG p l e s m args below meth c D dA base 3 71 (some (.int r)) σ0 τ σ H locs 177 ls []) (x0 : Nat) (x1 : Int32) (x2 : Int32) (x4 : Int32) {σ : HS} {H : Heap} {locs : List Loc} {ls : Array Slot} (h : Wd D dA base σ s H locs) (g : LE σ0 σ) (hl : lv_has ls 6 [(0, vr x0), (1, .int x1), (2, .int x2), (4, .int x4)]) (hF : B_X6_lockRow_177 k177 x0 x1 x2 x4 σ = some (r, τ)) : WG p l e s m args below meth c D dA base 3 71 (some (.int r)) σ0 τ σ H locs 177 ls [] := by
  obtain ⟨hx, hb, -⟩ := id cx
  unfold B_X6_lockRow_177 at hF
  refine lv_iload hx hb dX6_lockRow_177 (lv_at hl 3 rfl) ?_
  refine lv_iconst (v := (4 : Int32)) hx hb dX6_lockRow_179 (by decide) ?_
  refine lv_iload_n hx hb dX6_lockRow_180 rfl (lv_at hl 2 rfl) ?_
  refine lv_imul hx hb dX6_lockRow_181 ?_
  refine lv_iconst (v := (4 : Int32)) hx hb dX6_lockRow_182 (by decide) ?_
  refine lv_iadd hx hb dX6_lockRow_183 ?_
  refine lv_icmp_ge (tgt := 252) hx hb dX6_lockRow_184 (by decide) (fun c1 => ?_) (fun c1 => ?_)
  · replace hF := ifp c1 hF
    refine x_aload_n hx hb dX6_lockRow_252 rfl (lv_at hl 0 rfl) ?_
    obtain ⟨hq2, hF⟩ := ifs hF
    refine x_getr cx h fa_X6_66 (f := 265) rfl hq2 dX6_lockRow_253 ?_
    refine lv_iload_n hx hb dX6_lockRow_256 rfl (lv_at hl 1 rfl) ?_
    refine lv_dup2_11 hx hb dX6_lockRow_257 rfl (vr_cat _) ?_
    obtain ⟨hq3, hF⟩ := ifs hF
    refine x_iald cx h hq3.1 (inb.vp hq3.2) dX6_lockRow_258 ?_
    refine lv_iconst (v := (1 : Int32)) hx hb dX6_lockRow_259 (by decide) ?_
    refine lv_iadd hx hb dX6_lockRow_260 ?_
    refine x_iast cx h hq3.1 (inb.vp hq3.2) dX6_lockRow_261 (fun H locs h => ?_)
    obtain ⟨σ4, e4, hF⟩ := lts hF
    have h := Wd.nm e4 h
    have g := LE.nm e4 g
    refine W.cs (cells' := hs σ4 - hs σ0) (slots' := ns σ4 - ns σ0) (by rw [e4]; try rfl) (by rw [e4]; try rfl) ?_
    refine lv_iconst (v := (1 : Int32)) hx hb dX6_lockRow_262 (by decide) ?_
    obtain ⟨rfl, rfl⟩ := rts hF
    exact x_iret cx h dX6_lockRow_263
  · replace hF := ifn c1 hF
    refine x_aload_n hx hb dX6_lockRow_187 rfl (lv_at hl 0 rfl) ?_
    refine lv_iload_n hx hb dX6_lockRow_188 rfl (lv_at hl 1 rfl) ?_
    refine lv_iload hx hb dX6_lockRow_189 (lv_at hl 3 rfl) ?_
    obtain ⟨hq5, hF⟩ := ifs hF
    obtain ⟨r6, σ6, hc6, hF⟩ := bds hF
    refine x_calli (σ := σ) g (LEm hc6 (mo_F_X6_ownAt x0 x1 x4 _)) (x_runV (As := [.int x1, .int x4]) (rest := []) cx h (c_X6_ownAt l D dA base x0 x1 x4 hc6) ml_X6_121 mi_X6_ownAt hq5 rfl ⟨Nat.le_of_ble_eq_true rfl, Nat.le_of_ble_eq_true rfl⟩ hl.1 rfl (s8 sN (by decide)) dX6_lockRow_191 (le_room g (LEm hc6 (mo_F_X6_ownAt x0 x1 x4 _)) (LEm hF (mo_ite (mo_B_X6_lockRow_246 mk177 x0 x1 x2 x4 _) (mo_ite (mo_ite (mo_ite (mo_bd (mo_F_X6_addData x0 x4 (ai σ6 (gr σ6 260 x0) x1.toNatClampNeg) (ai σ6 (gr σ6 264 x0) (((16 : Int32) * x1) + r6).toNatClampNeg) _) (fun r11 σ11 => (mo_ite (mo_ite (mo_ite (mo_bd (mo_F_X6_addLock x0 x4 (ai σ11 (gr σ11 260 x0) x1.toNatClampNeg) (ai σ11 (gr σ11 263 x0) ((16 : Int32) * x1).toNatClampNeg) _) (fun r15 σ15 => (mo_B_X6_lockRow_246 mk177 x0 x1 x2 x4 _))) mo_none) mo_none) mo_none))) mo_none) mo_none) mo_none))))) h (fun H locs h g => ?_)
    refine x_istore (lv' := [(5, .int r6), (0, vr x0), (1, .int x1), (2, .int x2), (4, .int x4)]) hx hb dX6_lockRow_194 hl (by decide) (cR (cI (cI (cI cN)))) rfl (fun ls hl => ?_)
    refine lv_iload hx hb dX6_lockRow_196 (lv_at hl 0 rfl) ?_
    refine lv_if_lt (tgt := 246) hx hb dX6_lockRow_198 (by decide) (fun c7 => ?_) (fun c7 => ?_)
    · replace hF := ifp c7 hF
      exact w_X6_lockRow_246 (σ := σ6) cx mk177 hk177 x0 x1 x2 x4 h g (lv_sub hl [1, 2, 3, 4] rfl) hF
    · replace hF := ifn c7 hF
      refine x_aload_n hx hb dX6_lockRow_201 rfl (lv_at hl 1 rfl) ?_
      refine lv_iload hx hb dX6_lockRow_202 (lv_at hl 4 rfl) ?_
      refine x_aload_n hx hb dX6_lockRow_204 rfl (lv_at hl 1 rfl) ?_
      obtain ⟨hq8, hF⟩ := ifs hF
      refine x_getr cx h fa_X6_51 (f := 260) rfl hq8 dX6_lockRow_205 ?_
      refine lv_iload_n hx hb dX6_lockRow_208 rfl (lv_at hl 2 rfl) ?_
      obtain ⟨hq9, hF⟩ := ifs hF
      refine x_iald cx h hq9.1 (inb.vp hq9.2) dX6_lockRow_209 ?_
      refine x_aload_n hx hb dX6_lockRow_210 rfl (lv_at hl 1 rfl) ?_
      refine x_getr cx h fa_X6_63 (f := 264) rfl hq8 dX6_lockRow_211 ?_
      refine lv_bipush (v := (16 : Int32)) hx hb dX6_lockRow_214 (by decide) ?_
      refine lv_iload_n hx hb dX6_lockRow_216 rfl (lv_at hl 2 rfl) ?_
      refine lv_imul hx hb dX6_lockRow_217 ?_
      refine lv_iload hx hb dX6_lockRow_218 (lv_at hl 0 rfl) ?_
      refine lv_iadd hx hb dX6_lockRow_220 ?_
      obtain ⟨hq10, hF⟩ := ifs hF
      refine x_iald cx h hq10.1 (inb.vp hq10.2) dX6_lockRow_221 ?_
      obtain ⟨r11, σ11, hc11, hF⟩ := bds hF
      refine x_callv (σ := σ6) g (LEm hc11 (mo_F_X6_addData x0 x4 (ai σ6 (gr σ6 260 x0) x1.toNatClampNeg) (ai σ6 (gr σ6 264 x0) (((16 : Int32) * x1) + r6).toNatClampNeg) _)) (x_runV (As := [.int x4, .int (ai σ6 (gr σ6 260 x0) x1.toNatClampNeg), .int (ai σ6 (gr σ6 264 x0) (((16 : Int32) * x1) + r6).toNatClampNeg)]) (rest := []) cx h (c_X6_addData l D dA base x0 x4 (ai σ6 (gr σ6 260 x0) x1.toNatClampNeg) (ai σ6 (gr σ6 264 x0) (((16 : Int32) * x1) + r6).toNatClampNeg) hc11) ml_X6_177 mi_X6_addData hq8 rfl ⟨Nat.le_of_ble_eq_true rfl, Nat.le_of_ble_eq_true rfl⟩ hl.1 rfl (s8 sN (by decide)) dX6_lockRow_222 (le_room g (LEm hc11 (mo_F_X6_addData x0 x4 (ai σ6 (gr σ6 260 x0) x1.toNatClampNeg) (ai σ6 (gr σ6 264 x0) (((16 : Int32) * x1) + r6).toNatClampNeg) _)) (LEm hF (mo_ite (mo_ite (mo_ite (mo_bd (mo_F_X6_addLock x0 x4 (ai σ11 (gr σ11 260 x0) x1.toNatClampNeg) (ai σ11 (gr σ11 263 x0) ((16 : Int32) * x1).toNatClampNeg) _) (fun r15 σ15 => (mo_B_X6_lockRow_246 mk177 x0 x1 x2 x4 _))) mo_none) mo_none) mo_none)))) h (fun H locs h g => ?_)
      refine x_aload_n hx hb dX6_lockRow_225 rfl (lv_at hl 1 rfl) ?_
      refine lv_iload hx hb dX6_lockRow_226 (lv_at hl 4 rfl) ?_
      refine x_aload_n hx hb dX6_lockRow_228 rfl (lv_at hl 1 rfl) ?_
      obtain ⟨hq12, hF⟩ := ifs hF
      refine x_getr cx h fa_X6_51 (f := 260) rfl hq12 dX6_lockRow_229 ?_
      refine lv_iload_n hx hb dX6_lockRow_232 rfl (lv_at hl 2 rfl) ?_
      obtain ⟨hq13, hF⟩ := ifs hF
      refine x_iald cx h hq13.1 (inb.vp hq13.2) dX6_lockRow_233 ?_
      refine x_aload_n hx hb dX6_lockRow_234 rfl (lv_at hl 1 rfl) ?_
      refine x_getr cx h fa_X6_60 (f := 263) rfl hq12 dX6_lockRow_235 ?_
      refine lv_bipush (v := (16 : Int32)) hx hb dX6_lockRow_238 (by decide) ?_
      refine lv_iload_n hx hb dX6_lockRow_240 rfl (lv_at hl 2 rfl) ?_
      refine lv_imul hx hb dX6_lockRow_241 ?_
      obtain ⟨hq14, hF⟩ := ifs hF
      refine x_iald cx h hq14.1 (inb.vp hq14.2) dX6_lockRow_242 ?_
      obtain ⟨r15, σ15, hc15, hF⟩ := bds hF
      refine x_callv (σ := σ11) g (LEm hc15 (mo_F_X6_addLock x0 x4 (ai σ11 (gr σ11 260 x0) x1.toNatClampNeg) (ai σ11 (gr σ11 263 x0) ((16 : Int32) * x1).toNatClampNeg) _)) (x_runV (As := [.int x4, .int (ai σ11 (gr σ11 260 x0) x1.toNatClampNeg), .int (ai σ11 (gr σ11 263 x0) ((16 : Int32) * x1).toNatClampNeg)]) (rest := []) cx h (c_X6_addLock l D dA base x0 x4 (ai σ11 (gr σ11 260 x0) x1.toNatClampNeg) (ai σ11 (gr σ11 263 x0) ((16 : Int32) * x1).toNatClampNeg) hc15) ml_X6_181 mi_X6_addLock hq12 rfl ⟨Nat.le_of_ble_eq_true rfl, Nat.le_of_ble_eq_true rfl⟩ hl.1 rfl (s8 sN (by decide)) dX6_lockRow_243 (le_room g (LEm hc15 (mo_F_X6_addLock x0 x4 (ai σ11 (gr σ11 260 x0) x1.toNatClampNeg) (ai σ11 (gr σ11 263 x0) ((16 : Int32) * x1).toNatClampNeg) _)) (LEm hF (mo_B_X6_lockRow_246 mk177 x0 x1 x2 x4 _)))) h (fun H locs h g => ?_)
      exact w_X6_lockRow_246 (σ := σ15) cx mk177 hk177 x0 x1 x2 x4 h g (lv_sub hl [1, 2, 3, 4] rfl) hF
def L_X6_lockRow_177  : Nat → Nat → Int32 → Int32 → Int32 → HS → Option (Int32 × HS)
  | 0, _, _, _, _, _ => none
  | N + 1, x0, x1, x2, x4, σ => B_X6_lockRow_177 (L_X6_lockRow_177  N) x0 x1 x2 x4 σ
theorem mo_L_X6_lockRow_177  : ∀ (N : Nat) (x0 : Nat) (x1 : Int32) (x2 : Int32) (x4 : Int32) (σ : HS), Mo σ (L_X6_lockRow_177  N x0 x1 x2 x4 σ) := by
  intro N
  induction N with
  | zero => intro x0 x1 x2 x4 σ; exact mo_none
  | succ N ih => intro x0 x1 x2 x4 σ; exact mo_B_X6_lockRow_177 ih x0 x1 x2 x4 σ
theorem wl_X6_lockRow_177 {p : Program} {l : Launch} {e : Env} {s : State} {m : MethodId} {args : Array Value} {below : List Frame} {meth : Method} {c : Code} {D : va_G} {dA : Nat → ClassId} {base : Nat} {σ0 τ : HS} {r : Int32} (cx : CX p s m args meth c cX6_lockRow 6 (some .int) RX6 "lockRow" D dA base)  : ∀ (N : Nat) (x0 : Nat) (x1 : Int32) (x2 : Int32) (x4 : Int32) (σ : HS) (H : Heap) (locs : List Loc) (ls : Array Slot), Wd D dA base σ s H locs → LE σ0 σ → lv_has ls 6 [(0, vr x0), (1, .int x1), (2, .int x2), (4, .int x4)] → L_X6_lockRow_177  N x0 x1 x2 x4 σ = some (r, τ) → WG p l e s m args below meth c D dA base 3 71 (some (.int r)) σ0 τ σ H locs 177 ls [] := by
  intro N
  induction N with
  | zero => intro x0 x1 x2 x4 σ H locs ls h g hl hF; cases hF
  | succ N ih => intro x0 x1 x2 x4 σ H locs ls h g hl hF; exact w_X6_lockRow_177 cx (mo_L_X6_lockRow_177  N) ih x0 x1 x2 x4 h g hl hF
def B_X6_lockRow_149 (k29 : Nat → Int32 → Int32 → Int32 → Int32 → HS → Option (Int32 × HS)) (x0 : Nat) (x1 : Int32) (x2 : Int32) (x3 : Int32) (x4 : Int32) (σ : HS) : Option (Int32 × HS) :=
  k29 x0 x1 x2 x3 (x4 + (1 : Int32)) σ
theorem mo_B_X6_lockRow_149 {k29 : Nat → Int32 → Int32 → Int32 → Int32 → HS → Option (Int32 × HS)} (mk29 : ∀ x0 x1 x2 x3 x4 σ, Mo σ (k29 x0 x1 x2 x3 x4 σ)) (x0 : Nat) (x1 : Int32) (x2 : Int32) (x3 : Int32) (x4 : Int32) (σ : HS) : Mo σ (B_X6_lockRow_149 k29 x0 x1 x2 x3 x4 σ) := by
  unfold B_X6_lockRow_149
  exact (mk29 x0 x1 x2 x3 (x4 + (1 : Int32)) _)
set_option maxHeartbeats 4000000 in
set_option maxRecDepth 100000 in
theorem w_X6_lockRow_149 {p : Program} {l : Launch} {e : Env} {s : State} {m : MethodId} {args : Array Value} {below : List Frame} {meth : Method} {c : Code} {D : va_G} {dA : Nat → ClassId} {base : Nat} {σ0 τ : HS} {r : Int32} (cx : CX p s m args meth c cX6_lockRow 6 (some .int) RX6 "lockRow" D dA base) {k29 : Nat → Int32 → Int32 → Int32 → Int32 → HS → Option (Int32 × HS)} (mk29 : ∀ x0 x1 x2 x3 x4 σ, Mo σ (k29 x0 x1 x2 x3 x4 σ)) (hk29 : ∀ x0 x1 x2 x3 x4 σ H locs ls, Wd D dA base σ s H locs → LE σ0 σ → lv_has ls 6 [(0, vr x0), (1, .int x1), (2, .int x2), (3, .int x3), (4, .int x4)] → k29 x0 x1 x2 x3 x4 σ = some (r, τ) → WG p l e s m args below meth c D dA base 3 71 (some (.int r)) σ0 τ σ H locs 29 ls []) (x0 : Nat) (x1 : Int32) (x2 : Int32) (x3 : Int32) (x4 : Int32) {σ : HS} {H : Heap} {locs : List Loc} {ls : Array Slot} (h : Wd D dA base σ s H locs) (g : LE σ0 σ) (hl : lv_has ls 6 [(0, vr x0), (1, .int x1), (2, .int x2), (3, .int x3), (4, .int x4)]) (hF : B_X6_lockRow_149 k29 x0 x1 x2 x3 x4 σ = some (r, τ)) : WG p l e s m args below meth c D dA base 3 71 (some (.int r)) σ0 τ σ H locs 149 ls [] := by
  obtain ⟨hx, hb, -⟩ := id cx
  unfold B_X6_lockRow_149 at hF
  refine x_iinc (k := 4) (v := (1 : Int32)) (lv' := [(4, .int (x4 + (1 : Int32))), (0, vr x0), (1, .int x1), (2, .int x2), (3, .int x3)]) hx hb dX6_lockRow_149 hl rfl (by decide) (by decide) (cR (cI (cI (cI (cI cN))))) rfl (fun ls hl => ?_)
  refine lv_goto (tgt := 29) hx hb dX6_lockRow_152 (by decide) ?_
  exact hk29 x0 x1 x2 x3 (x4 + (1 : Int32)) σ _ _ _ h g (lv_sub hl [1, 2, 3, 4, 0] rfl) hF
def B_X6_lockRow_141  (x0 : Nat) (x4 : Int32) (σ : HS) : Option (Int32 × HS) :=
  if kd σ x0 = 7 then (bd (F_X6_clean x0 x4 σ) (fun r2 σ2 => some ((5 : Int32), σ2))) else none
theorem mo_B_X6_lockRow_141  (x0 : Nat) (x4 : Int32) (σ : HS) : Mo σ (B_X6_lockRow_141  x0 x4 σ) := by
  unfold B_X6_lockRow_141
  exact (mo_ite (mo_bd (mo_F_X6_clean x0 x4 _) (fun r2 σ2 => mo_ret)) mo_none)
set_option maxHeartbeats 4000000 in
set_option maxRecDepth 100000 in
theorem w_X6_lockRow_141 {p : Program} {l : Launch} {e : Env} {s : State} {m : MethodId} {args : Array Value} {below : List Frame} {meth : Method} {c : Code} {D : va_G} {dA : Nat → ClassId} {base : Nat} {σ0 τ : HS} {r : Int32} (cx : CX p s m args meth c cX6_lockRow 6 (some .int) RX6 "lockRow" D dA base)  (x0 : Nat) (x4 : Int32) {σ : HS} {H : Heap} {locs : List Loc} {ls : Array Slot} (h : Wd D dA base σ s H locs) (g : LE σ0 σ) (hl : lv_has ls 6 [(0, vr x0), (4, .int x4)]) (hF : B_X6_lockRow_141  x0 x4 σ = some (r, τ)) : WG p l e s m args below meth c D dA base 3 71 (some (.int r)) σ0 τ σ H locs 141 ls [] := by
  obtain ⟨hx, hb, -⟩ := id cx
  unfold B_X6_lockRow_141 at hF
  refine x_aload_n hx hb dX6_lockRow_141 rfl (lv_at hl 0 rfl) ?_
  refine lv_iload hx hb dX6_lockRow_142 (lv_at hl 1 rfl) ?_
  obtain ⟨hq1, hF⟩ := ifs hF
  obtain ⟨r2, σ2, hc2, hF⟩ := bds hF
  refine x_callv (σ := σ) g (LEm hc2 (mo_F_X6_clean x0 x4 _)) (x_runV (As := [.int x4]) (rest := []) cx h (c_X6_clean l D dA base x0 x4 hc2) ml_X6_131 mi_X6_clean hq1 rfl ⟨Nat.le_of_ble_eq_true rfl, Nat.le_of_ble_eq_true rfl⟩ hl.1 rfl (s8 sN (by decide)) dX6_lockRow_144 (le_room g (LEm hc2 (mo_F_X6_clean x0 x4 _)) (LEm hF mo_ret))) h (fun H locs h g => ?_)
  refine lv_iconst (v := (5 : Int32)) hx hb dX6_lockRow_147 (by decide) ?_
  obtain ⟨rfl, rfl⟩ := rts hF
  exact x_iret cx h dX6_lockRow_148
def B_X6_lockRow_101 (k29 : Nat → Int32 → Int32 → Int32 → Int32 → HS → Option (Int32 × HS)) (k58 : Nat → Int32 → Int32 → Int32 → Int32 → Int32 → HS → Option (Int32 × HS)) (x0 : Nat) (x1 : Int32) (x2 : Int32) (x3 : Int32) (x4 : Int32) (x5 : Int32) (σ : HS) : Option (Int32 × HS) :=
  k58 x0 x1 x2 x3 x4 (x5 + (1 : Int32)) σ
theorem mo_B_X6_lockRow_101 {k29 : Nat → Int32 → Int32 → Int32 → Int32 → HS → Option (Int32 × HS)} {k58 : Nat → Int32 → Int32 → Int32 → Int32 → Int32 → HS → Option (Int32 × HS)} (mk29 : ∀ x0 x1 x2 x3 x4 σ, Mo σ (k29 x0 x1 x2 x3 x4 σ)) (mk58 : ∀ x0 x1 x2 x3 x4 x5 σ, Mo σ (k58 x0 x1 x2 x3 x4 x5 σ)) (x0 : Nat) (x1 : Int32) (x2 : Int32) (x3 : Int32) (x4 : Int32) (x5 : Int32) (σ : HS) : Mo σ (B_X6_lockRow_101 k29 k58 x0 x1 x2 x3 x4 x5 σ) := by
  unfold B_X6_lockRow_101
  exact (mk58 x0 x1 x2 x3 x4 (x5 + (1 : Int32)) _)
set_option maxHeartbeats 4000000 in
set_option maxRecDepth 100000 in
theorem w_X6_lockRow_101 {p : Program} {l : Launch} {e : Env} {s : State} {m : MethodId} {args : Array Value} {below : List Frame} {meth : Method} {c : Code} {D : va_G} {dA : Nat → ClassId} {base : Nat} {σ0 τ : HS} {r : Int32} (cx : CX p s m args meth c cX6_lockRow 6 (some .int) RX6 "lockRow" D dA base) {k29 : Nat → Int32 → Int32 → Int32 → Int32 → HS → Option (Int32 × HS)} {k58 : Nat → Int32 → Int32 → Int32 → Int32 → Int32 → HS → Option (Int32 × HS)} (mk29 : ∀ x0 x1 x2 x3 x4 σ, Mo σ (k29 x0 x1 x2 x3 x4 σ)) (mk58 : ∀ x0 x1 x2 x3 x4 x5 σ, Mo σ (k58 x0 x1 x2 x3 x4 x5 σ)) (hk29 : ∀ x0 x1 x2 x3 x4 σ H locs ls, Wd D dA base σ s H locs → LE σ0 σ → lv_has ls 6 [(0, vr x0), (1, .int x1), (2, .int x2), (3, .int x3), (4, .int x4)] → k29 x0 x1 x2 x3 x4 σ = some (r, τ) → WG p l e s m args below meth c D dA base 3 71 (some (.int r)) σ0 τ σ H locs 29 ls []) (hk58 : ∀ x0 x1 x2 x3 x4 x5 σ H locs ls, Wd D dA base σ s H locs → LE σ0 σ → lv_has ls 6 [(0, vr x0), (1, .int x1), (2, .int x2), (3, .int x3), (4, .int x4), (5, .int x5)] → k58 x0 x1 x2 x3 x4 x5 σ = some (r, τ) → WG p l e s m args below meth c D dA base 3 71 (some (.int r)) σ0 τ σ H locs 58 ls []) (x0 : Nat) (x1 : Int32) (x2 : Int32) (x3 : Int32) (x4 : Int32) (x5 : Int32) {σ : HS} {H : Heap} {locs : List Loc} {ls : Array Slot} (h : Wd D dA base σ s H locs) (g : LE σ0 σ) (hl : lv_has ls 6 [(0, vr x0), (1, .int x1), (2, .int x2), (3, .int x3), (4, .int x4), (5, .int x5)]) (hF : B_X6_lockRow_101 k29 k58 x0 x1 x2 x3 x4 x5 σ = some (r, τ)) : WG p l e s m args below meth c D dA base 3 71 (some (.int r)) σ0 τ σ H locs 101 ls [] := by
  obtain ⟨hx, hb, -⟩ := id cx
  unfold B_X6_lockRow_101 at hF
  refine x_iinc (k := 5) (v := (1 : Int32)) (lv' := [(5, .int (x5 + (1 : Int32))), (0, vr x0), (1, .int x1), (2, .int x2), (3, .int x3), (4, .int x4)]) hx hb dX6_lockRow_101 hl rfl (by decide) (by decide) (cR (cI (cI (cI (cI (cI cN)))))) rfl (fun ls hl => ?_)
  refine lv_goto (tgt := 58) hx hb dX6_lockRow_104 (by decide) ?_
  exact hk58 x0 x1 x2 x3 x4 (x5 + (1 : Int32)) σ _ _ _ h g (lv_sub hl [1, 2, 3, 4, 5, 0] rfl) hF
def B_X6_lockRow_58 (k29 : Nat → Int32 → Int32 → Int32 → Int32 → HS → Option (Int32 × HS)) (k58 : Nat → Int32 → Int32 → Int32 → Int32 → Int32 → HS → Option (Int32 × HS)) (x0 : Nat) (x1 : Int32) (x2 : Int32) (x3 : Int32) (x4 : Int32) (x5 : Int32) (σ : HS) : Option (Int32 × HS) :=
  if kd σ x0 = 7 then (if (gi σ 250 x0) ≤ x5 then (if kd σ (gr σ 256 x0) = 100 ∧ inb x4 (ln σ (gr σ 256 x0)) then (if (ai σ (gr σ 256 x0) x4.toNatClampNeg) ≤ 0 then (B_X6_lockRow_149 k29 x0 x1 x2 x3 x4 σ) else (bd (F_X6_isDecided x0 x4 σ) (fun r5 σ5 => if r5 = 0 then (if kd σ5 x0 = 7 then (bd (F_X6_isLate x0 x4 σ5) (fun r8 σ8 => if r8 = 0 then (if kd σ8 x0 = 7 then (bd (F_X6_undoing x0 x1 σ8) (fun r11 σ11 => some (r11, σ11))) else none) else (B_X6_lockRow_141  x0 x4 σ8))) else none) else (B_X6_lockRow_141  x0 x4 σ5)))) else none) else (if kd σ (gr σ 251 x0) = 100 ∧ inb x5 (ln σ (gr σ 251 x0)) then (if (ai σ (gr σ 251 x0) x5.toNatClampNeg) = x4 then (if kd σ (gr σ 252 x0) = 100 ∧ inb x5 (ln σ (gr σ 252 x0)) then (if kd σ (gr σ 260 x0) = 100 ∧ inb x1 (ln σ (gr σ 260 x0)) then (if (ai σ (gr σ 252 x0) x5.toNatClampNeg) < (ai σ (gr σ 260 x0) x1.toNatClampNeg) then (B_X6_lockRow_101 k29 k58 x0 x1 x2 x3 x4 x5 σ) else (bd (F_X6_undoing x0 x1 σ) (fun r17 σ17 => some (r17, σ17)))) else none) else none) else (B_X6_lockRow_101 k29 k58 x0 x1 x2 x3 x4 x5 σ)) else none)) else none
theorem mo_B_X6_lockRow_58 {k29 : Nat → Int32 → Int32 → Int32 → Int32 → HS → Option (Int32 × HS)} {k58 : Nat → Int32 → Int32 → Int32 → Int32 → Int32 → HS → Option (Int32 × HS)} (mk29 : ∀ x0 x1 x2 x3 x4 σ, Mo σ (k29 x0 x1 x2 x3 x4 σ)) (mk58 : ∀ x0 x1 x2 x3 x4 x5 σ, Mo σ (k58 x0 x1 x2 x3 x4 x5 σ)) (x0 : Nat) (x1 : Int32) (x2 : Int32) (x3 : Int32) (x4 : Int32) (x5 : Int32) (σ : HS) : Mo σ (B_X6_lockRow_58 k29 k58 x0 x1 x2 x3 x4 x5 σ) := by
  unfold B_X6_lockRow_58
  exact (mo_ite (mo_ite (mo_ite (mo_ite (mo_B_X6_lockRow_149 mk29 x0 x1 x2 x3 x4 _) (mo_bd (mo_F_X6_isDecided x0 x4 _) (fun r5 σ5 => (mo_ite (mo_ite (mo_bd (mo_F_X6_isLate x0 x4 _) (fun r8 σ8 => (mo_ite (mo_ite (mo_bd (mo_F_X6_undoing x0 x1 _) (fun r11 σ11 => mo_ret)) mo_none) (mo_B_X6_lockRow_141  x0 x4 _)))) mo_none) (mo_B_X6_lockRow_141  x0 x4 _))))) mo_none) (mo_ite (mo_ite (mo_ite (mo_ite (mo_ite (mo_B_X6_lockRow_101 mk29 mk58 x0 x1 x2 x3 x4 x5 _) (mo_bd (mo_F_X6_undoing x0 x1 _) (fun r17 σ17 => mo_ret))) mo_none) mo_none) (mo_B_X6_lockRow_101 mk29 mk58 x0 x1 x2 x3 x4 x5 _)) mo_none)) mo_none)
set_option maxHeartbeats 4000000 in
set_option maxRecDepth 100000 in
theorem w_X6_lockRow_58 {p : Program} {l : Launch} {e : Env} {s : State} {m : MethodId} {args : Array Value} {below : List Frame} {meth : Method} {c : Code} {D : va_G} {dA : Nat → ClassId} {base : Nat} {σ0 τ : HS} {r : Int32} (cx : CX p s m args meth c cX6_lockRow 6 (some .int) RX6 "lockRow" D dA base) {k29 : Nat → Int32 → Int32 → Int32 → Int32 → HS → Option (Int32 × HS)} {k58 : Nat → Int32 → Int32 → Int32 → Int32 → Int32 → HS → Option (Int32 × HS)} (mk29 : ∀ x0 x1 x2 x3 x4 σ, Mo σ (k29 x0 x1 x2 x3 x4 σ)) (mk58 : ∀ x0 x1 x2 x3 x4 x5 σ, Mo σ (k58 x0 x1 x2 x3 x4 x5 σ)) (hk29 : ∀ x0 x1 x2 x3 x4 σ H locs ls, Wd D dA base σ s H locs → LE σ0 σ → lv_has ls 6 [(0, vr x0), (1, .int x1), (2, .int x2), (3, .int x3), (4, .int x4)] → k29 x0 x1 x2 x3 x4 σ = some (r, τ) → WG p l e s m args below meth c D dA base 3 71 (some (.int r)) σ0 τ σ H locs 29 ls []) (hk58 : ∀ x0 x1 x2 x3 x4 x5 σ H locs ls, Wd D dA base σ s H locs → LE σ0 σ → lv_has ls 6 [(0, vr x0), (1, .int x1), (2, .int x2), (3, .int x3), (4, .int x4), (5, .int x5)] → k58 x0 x1 x2 x3 x4 x5 σ = some (r, τ) → WG p l e s m args below meth c D dA base 3 71 (some (.int r)) σ0 τ σ H locs 58 ls []) (x0 : Nat) (x1 : Int32) (x2 : Int32) (x3 : Int32) (x4 : Int32) (x5 : Int32) {σ : HS} {H : Heap} {locs : List Loc} {ls : Array Slot} (h : Wd D dA base σ s H locs) (g : LE σ0 σ) (hl : lv_has ls 6 [(0, vr x0), (1, .int x1), (2, .int x2), (3, .int x3), (4, .int x4), (5, .int x5)]) (hF : B_X6_lockRow_58 k29 k58 x0 x1 x2 x3 x4 x5 σ = some (r, τ)) : WG p l e s m args below meth c D dA base 3 71 (some (.int r)) σ0 τ σ H locs 58 ls [] := by
  obtain ⟨hx, hb, -⟩ := id cx
  unfold B_X6_lockRow_58 at hF
  refine lv_iload hx hb dX6_lockRow_58 (lv_at hl 5 rfl) ?_
  refine x_aload_n hx hb dX6_lockRow_60 rfl (lv_at hl 0 rfl) ?_
  obtain ⟨hq1, hF⟩ := ifs hF
  refine x_geti cx h fa_X6_81 (f := 250) rfl hq1 dX6_lockRow_61 ?_
  refine lv_icmp_ge (tgt := 107) hx hb dX6_lockRow_64 (by decide) (fun c2 => ?_) (fun c2 => ?_)
  · replace hF := ifp c2 hF
    refine x_aload_n hx hb dX6_lockRow_107 rfl (lv_at hl 0 rfl) ?_
    refine x_getr cx h fa_X6_39 (f := 256) rfl hq1 dX6_lockRow_108 ?_
    refine lv_iload hx hb dX6_lockRow_111 (lv_at hl 4 rfl) ?_
    obtain ⟨hq3, hF⟩ := ifs hF
    refine x_iald cx h hq3.1 (inb.vp hq3.2) dX6_lockRow_113 ?_
    refine lv_if_le (tgt := 149) hx hb dX6_lockRow_114 (by decide) (fun c4 => ?_) (fun c4 => ?_)
    · replace hF := ifp c4 hF
      exact w_X6_lockRow_149 (σ := σ) cx mk29 hk29 x0 x1 x2 x3 x4 h g (lv_sub hl [0, 1, 2, 3, 4] rfl) hF
    · replace hF := ifn c4 hF
      refine x_aload_n hx hb dX6_lockRow_117 rfl (lv_at hl 0 rfl) ?_
      refine lv_iload hx hb dX6_lockRow_118 (lv_at hl 4 rfl) ?_
      obtain ⟨r5, σ5, hc5, hF⟩ := bds hF
      refine x_calli (σ := σ) g (LEm hc5 (mo_F_X6_isDecided x0 x4 _)) (x_runV (As := [.int x4]) (rest := []) cx h (c_X6_isDecided l D dA base x0 x4 hc5) ml_X6_124 mi_X6_isDecided hq1 rfl ⟨Nat.le_of_ble_eq_true rfl, Nat.le_of_ble_eq_true rfl⟩ hl.1 rfl (s8 sN (by decide)) dX6_lockRow_120 (le_room g (LEm hc5 (mo_F_X6_isDecided x0 x4 _)) (LEm hF (mo_ite (mo_ite (mo_bd (mo_F_X6_isLate x0 x4 _) (fun r8 σ8 => (mo_ite (mo_ite (mo_bd (mo_F_X6_undoing x0 x1 _) (fun r11 σ11 => mo_ret)) mo_none) (mo_B_X6_lockRow_141  x0 x4 _)))) mo_none) (mo_B_X6_lockRow_141  x0 x4 _))))) h (fun H locs h g => ?_)
      refine lv_if_ne (tgt := 141) hx hb dX6_lockRow_123 (by decide) (fun c6 => ?_) (fun c6 => ?_)
      · replace hF := ifn c6 hF
        exact w_X6_lockRow_141 (σ := σ5) cx   x0 x4 h g (lv_sub hl [0, 4] rfl) hF
      · replace hF := ifp c6 hF
        refine x_aload_n hx hb dX6_lockRow_126 rfl (lv_at hl 0 rfl) ?_
        refine lv_iload hx hb dX6_lockRow_127 (lv_at hl 4 rfl) ?_
        obtain ⟨hq7, hF⟩ := ifs hF
        obtain ⟨r8, σ8, hc8, hF⟩ := bds hF
        refine x_calli (σ := σ5) g (LEm hc8 (mo_F_X6_isLate x0 x4 _)) (x_runV (As := [.int x4]) (rest := []) cx h (c_X6_isLate l D dA base x0 x4 hc8) ml_X6_128 mi_X6_isLate hq7 rfl ⟨Nat.le_of_ble_eq_true rfl, Nat.le_of_ble_eq_true rfl⟩ hl.1 rfl (s8 sN (by decide)) dX6_lockRow_129 (le_room g (LEm hc8 (mo_F_X6_isLate x0 x4 _)) (LEm hF (mo_ite (mo_ite (mo_bd (mo_F_X6_undoing x0 x1 _) (fun r11 σ11 => mo_ret)) mo_none) (mo_B_X6_lockRow_141  x0 x4 _))))) h (fun H locs h g => ?_)
        refine lv_if_ne (tgt := 141) hx hb dX6_lockRow_132 (by decide) (fun c9 => ?_) (fun c9 => ?_)
        · replace hF := ifn c9 hF
          exact w_X6_lockRow_141 (σ := σ8) cx   x0 x4 h g (lv_sub hl [0, 4] rfl) hF
        · replace hF := ifp c9 hF
          refine x_aload_n hx hb dX6_lockRow_135 rfl (lv_at hl 0 rfl) ?_
          refine lv_iload_n hx hb dX6_lockRow_136 rfl (lv_at hl 1 rfl) ?_
          obtain ⟨hq10, hF⟩ := ifs hF
          obtain ⟨r11, σ11, hc11, hF⟩ := bds hF
          refine x_calli (σ := σ8) g (LEm hc11 (mo_F_X6_undoing x0 x1 _)) (x_runV (As := [.int x1]) (rest := []) cx h (c_X6_undoing l D dA base x0 x1 hc11) ml_X6_171 mi_X6_undoing hq10 rfl ⟨Nat.le_of_ble_eq_true rfl, Nat.le_of_ble_eq_true rfl⟩ hl.1 rfl (s8 sN (by decide)) dX6_lockRow_137 (le_room g (LEm hc11 (mo_F_X6_undoing x0 x1 _)) (LEm hF mo_ret))) h (fun H locs h g => ?_)
          obtain ⟨rfl, rfl⟩ := rts hF
          exact x_iret cx h dX6_lockRow_140
  · replace hF := ifn c2 hF
    refine x_aload_n hx hb dX6_lockRow_67 rfl (lv_at hl 0 rfl) ?_
    refine x_getr cx h fa_X6_26 (f := 251) rfl hq1 dX6_lockRow_68 ?_
    refine lv_iload hx hb dX6_lockRow_71 (lv_at hl 5 rfl) ?_
    obtain ⟨hq12, hF⟩ := ifs hF
    refine x_iald cx h hq12.1 (inb.vp hq12.2) dX6_lockRow_73 ?_
    refine lv_iload hx hb dX6_lockRow_74 (lv_at hl 4 rfl) ?_
    refine lv_icmp_ne (tgt := 101) hx hb dX6_lockRow_76 (by decide) (fun c13 => ?_) (fun c13 => ?_)
    · replace hF := ifn c13 hF
      exact w_X6_lockRow_101 (σ := σ) cx mk29 mk58 hk29 hk58 x0 x1 x2 x3 x4 x5 h g (lv_sub hl [0, 1, 2, 3, 4, 5] rfl) hF
    · replace hF := ifp c13 hF
      refine x_aload_n hx hb dX6_lockRow_79 rfl (lv_at hl 0 rfl) ?_
      refine x_getr cx h fa_X6_29 (f := 252) rfl hq1 dX6_lockRow_80 ?_
      refine lv_iload hx hb dX6_lockRow_83 (lv_at hl 5 rfl) ?_
      obtain ⟨hq14, hF⟩ := ifs hF
      refine x_iald cx h hq14.1 (inb.vp hq14.2) dX6_lockRow_85 ?_
      refine x_aload_n hx hb dX6_lockRow_86 rfl (lv_at hl 0 rfl) ?_
      refine x_getr cx h fa_X6_51 (f := 260) rfl hq1 dX6_lockRow_87 ?_
      refine lv_iload_n hx hb dX6_lockRow_90 rfl (lv_at hl 1 rfl) ?_
      obtain ⟨hq15, hF⟩ := ifs hF
      refine x_iald cx h hq15.1 (inb.vp hq15.2) dX6_lockRow_91 ?_
      refine lv_icmp_lt (tgt := 101) hx hb dX6_lockRow_92 (by decide) (fun c16 => ?_) (fun c16 => ?_)
      · replace hF := ifp c16 hF
        exact w_X6_lockRow_101 (σ := σ) cx mk29 mk58 hk29 hk58 x0 x1 x2 x3 x4 x5 h g (lv_sub hl [0, 1, 2, 3, 4, 5] rfl) hF
      · replace hF := ifn c16 hF
        refine x_aload_n hx hb dX6_lockRow_95 rfl (lv_at hl 0 rfl) ?_
        refine lv_iload_n hx hb dX6_lockRow_96 rfl (lv_at hl 1 rfl) ?_
        obtain ⟨r17, σ17, hc17, hF⟩ := bds hF
        refine x_calli (σ := σ) g (LEm hc17 (mo_F_X6_undoing x0 x1 _)) (x_runV (As := [.int x1]) (rest := []) cx h (c_X6_undoing l D dA base x0 x1 hc17) ml_X6_171 mi_X6_undoing hq1 rfl ⟨Nat.le_of_ble_eq_true rfl, Nat.le_of_ble_eq_true rfl⟩ hl.1 rfl (s8 sN (by decide)) dX6_lockRow_97 (le_room g (LEm hc17 (mo_F_X6_undoing x0 x1 _)) (LEm hF mo_ret))) h (fun H locs h g => ?_)
        obtain ⟨rfl, rfl⟩ := rts hF
        exact x_iret cx h dX6_lockRow_100
def L_X6_lockRow_58 (k29 : Nat → Int32 → Int32 → Int32 → Int32 → HS → Option (Int32 × HS)) : Nat → Nat → Int32 → Int32 → Int32 → Int32 → Int32 → HS → Option (Int32 × HS)
  | 0, _, _, _, _, _, _, _ => none
  | N + 1, x0, x1, x2, x3, x4, x5, σ => B_X6_lockRow_58 k29 (L_X6_lockRow_58 k29 N) x0 x1 x2 x3 x4 x5 σ
theorem mo_L_X6_lockRow_58 {k29 : Nat → Int32 → Int32 → Int32 → Int32 → HS → Option (Int32 × HS)} (mk29 : ∀ x0 x1 x2 x3 x4 σ, Mo σ (k29 x0 x1 x2 x3 x4 σ)) : ∀ (N : Nat) (x0 : Nat) (x1 : Int32) (x2 : Int32) (x3 : Int32) (x4 : Int32) (x5 : Int32) (σ : HS), Mo σ (L_X6_lockRow_58 k29 N x0 x1 x2 x3 x4 x5 σ) := by
  intro N
  induction N with
  | zero => intro x0 x1 x2 x3 x4 x5 σ; exact mo_none
  | succ N ih => intro x0 x1 x2 x3 x4 x5 σ; exact mo_B_X6_lockRow_58 mk29 ih x0 x1 x2 x3 x4 x5 σ
theorem wl_X6_lockRow_58 {p : Program} {l : Launch} {e : Env} {s : State} {m : MethodId} {args : Array Value} {below : List Frame} {meth : Method} {c : Code} {D : va_G} {dA : Nat → ClassId} {base : Nat} {σ0 τ : HS} {r : Int32} (cx : CX p s m args meth c cX6_lockRow 6 (some .int) RX6 "lockRow" D dA base) {k29 : Nat → Int32 → Int32 → Int32 → Int32 → HS → Option (Int32 × HS)} (mk29 : ∀ x0 x1 x2 x3 x4 σ, Mo σ (k29 x0 x1 x2 x3 x4 σ)) (hk29 : ∀ x0 x1 x2 x3 x4 σ H locs ls, Wd D dA base σ s H locs → LE σ0 σ → lv_has ls 6 [(0, vr x0), (1, .int x1), (2, .int x2), (3, .int x3), (4, .int x4)] → k29 x0 x1 x2 x3 x4 σ = some (r, τ) → WG p l e s m args below meth c D dA base 3 71 (some (.int r)) σ0 τ σ H locs 29 ls []) : ∀ (N : Nat) (x0 : Nat) (x1 : Int32) (x2 : Int32) (x3 : Int32) (x4 : Int32) (x5 : Int32) (σ : HS) (H : Heap) (locs : List Loc) (ls : Array Slot), Wd D dA base σ s H locs → LE σ0 σ → lv_has ls 6 [(0, vr x0), (1, .int x1), (2, .int x2), (3, .int x3), (4, .int x4), (5, .int x5)] → L_X6_lockRow_58 k29 N x0 x1 x2 x3 x4 x5 σ = some (r, τ) → WG p l e s m args below meth c D dA base 3 71 (some (.int r)) σ0 τ σ H locs 58 ls [] := by
  intro N
  induction N with
  | zero => intro x0 x1 x2 x3 x4 x5 σ H locs ls h g hl hF; cases hF
  | succ N ih => intro x0 x1 x2 x3 x4 x5 σ H locs ls h g hl hF; exact w_X6_lockRow_58 cx mk29 (mo_L_X6_lockRow_58 mk29 N) hk29 ih x0 x1 x2 x3 x4 x5 h g hl hF
def B_X6_lockRow_29 (k29 : Nat → Int32 → Int32 → Int32 → Int32 → HS → Option (Int32 × HS)) (x0 : Nat) (x1 : Int32) (x2 : Int32) (x3 : Int32) (x4 : Int32) (σ : HS) : Option (Int32 × HS) :=
  if (((4 : Int32) * x2) + (4 : Int32)) ≤ x4 then (if kd σ x0 = 7 then (bd (F_X6_records x0 σ) (fun r3 σ3 => if (r3 + ((3 : Int32) * x3)) ≤ (3000 : Int32) then (L_X6_lockRow_177  NF x0 x1 x2 ((4 : Int32) * x2) σ3) else (some ((-4 : Int32), σ3)))) else none) else (if kd σ x0 = 7 then (bd (F_X6_ownAt x0 x1 x4 σ) (fun r6 σ6 => if 0 ≤ r6 then (L_X6_lockRow_58 k29 NF x0 x1 x2 (x3 + (1 : Int32)) x4 (0 : Int32) σ6) else (B_X6_lockRow_149 k29 x0 x1 x2 x3 x4 σ6))) else none)
theorem mo_B_X6_lockRow_29 {k29 : Nat → Int32 → Int32 → Int32 → Int32 → HS → Option (Int32 × HS)} (mk29 : ∀ x0 x1 x2 x3 x4 σ, Mo σ (k29 x0 x1 x2 x3 x4 σ)) (x0 : Nat) (x1 : Int32) (x2 : Int32) (x3 : Int32) (x4 : Int32) (σ : HS) : Mo σ (B_X6_lockRow_29 k29 x0 x1 x2 x3 x4 σ) := by
  unfold B_X6_lockRow_29
  exact (mo_ite (mo_ite (mo_bd (mo_F_X6_records x0 _) (fun r3 σ3 => (mo_ite (mo_L_X6_lockRow_177  NF x0 x1 x2 ((4 : Int32) * x2) _) mo_ret))) mo_none) (mo_ite (mo_bd (mo_F_X6_ownAt x0 x1 x4 _) (fun r6 σ6 => (mo_ite (mo_L_X6_lockRow_58 mk29 NF x0 x1 x2 (x3 + (1 : Int32)) x4 (0 : Int32) _) (mo_B_X6_lockRow_149 mk29 x0 x1 x2 x3 x4 _)))) mo_none))
set_option maxHeartbeats 4000000 in
set_option maxRecDepth 100000 in
theorem w_X6_lockRow_29 {p : Program} {l : Launch} {e : Env} {s : State} {m : MethodId} {args : Array Value} {below : List Frame} {meth : Method} {c : Code} {D : va_G} {dA : Nat → ClassId} {base : Nat} {σ0 τ : HS} {r : Int32} (cx : CX p s m args meth c cX6_lockRow 6 (some .int) RX6 "lockRow" D dA base) {k29 : Nat → Int32 → Int32 → Int32 → Int32 → HS → Option (Int32 × HS)} (mk29 : ∀ x0 x1 x2 x3 x4 σ, Mo σ (k29 x0 x1 x2 x3 x4 σ)) (hk29 : ∀ x0 x1 x2 x3 x4 σ H locs ls, Wd D dA base σ s H locs → LE σ0 σ → lv_has ls 6 [(0, vr x0), (1, .int x1), (2, .int x2), (3, .int x3), (4, .int x4)] → k29 x0 x1 x2 x3 x4 σ = some (r, τ) → WG p l e s m args below meth c D dA base 3 71 (some (.int r)) σ0 τ σ H locs 29 ls []) (x0 : Nat) (x1 : Int32) (x2 : Int32) (x3 : Int32) (x4 : Int32) {σ : HS} {H : Heap} {locs : List Loc} {ls : Array Slot} (h : Wd D dA base σ s H locs) (g : LE σ0 σ) (hl : lv_has ls 6 [(0, vr x0), (1, .int x1), (2, .int x2), (3, .int x3), (4, .int x4)]) (hF : B_X6_lockRow_29 k29 x0 x1 x2 x3 x4 σ = some (r, τ)) : WG p l e s m args below meth c D dA base 3 71 (some (.int r)) σ0 τ σ H locs 29 ls [] := by
  obtain ⟨hx, hb, -⟩ := id cx
  unfold B_X6_lockRow_29 at hF
  refine lv_iload hx hb dX6_lockRow_29 (lv_at hl 4 rfl) ?_
  refine lv_iconst (v := (4 : Int32)) hx hb dX6_lockRow_31 (by decide) ?_
  refine lv_iload_n hx hb dX6_lockRow_32 rfl (lv_at hl 2 rfl) ?_
  refine lv_imul hx hb dX6_lockRow_33 ?_
  refine lv_iconst (v := (4 : Int32)) hx hb dX6_lockRow_34 (by decide) ?_
  refine lv_iadd hx hb dX6_lockRow_35 ?_
  refine lv_icmp_ge (tgt := 155) hx hb dX6_lockRow_36 (by decide) (fun c1 => ?_) (fun c1 => ?_)
  · replace hF := ifp c1 hF
    refine x_aload_n hx hb dX6_lockRow_155 rfl (lv_at hl 0 rfl) ?_
    obtain ⟨hq2, hF⟩ := ifs hF
    obtain ⟨r3, σ3, hc3, hF⟩ := bds hF
    refine x_calli (σ := σ) g (LEm hc3 (mo_F_X6_records x0 _)) (x_runV (As := []) (rest := []) cx h (c_X6_records l D dA base x0 hc3) ml_X6_174 mi_X6_records hq2 rfl ⟨Nat.le_of_ble_eq_true rfl, Nat.le_of_ble_eq_true rfl⟩ hl.1 rfl (s8 sN (by decide)) dX6_lockRow_156 (le_room g (LEm hc3 (mo_F_X6_records x0 _)) (LEm hF (mo_ite (mo_L_X6_lockRow_177  NF x0 x1 x2 ((4 : Int32) * x2) _) mo_ret)))) h (fun H locs h g => ?_)
    refine lv_iconst (v := (3 : Int32)) hx hb dX6_lockRow_159 (by decide) ?_
    refine lv_iload_n hx hb dX6_lockRow_160 rfl (lv_at hl 3 rfl) ?_
    refine lv_imul hx hb dX6_lockRow_161 ?_
    refine lv_iadd hx hb dX6_lockRow_162 ?_
    refine lv_sipush (v := (3000 : Int32)) hx hb dX6_lockRow_163 (by decide) ?_
    refine lv_icmp_le (tgt := 172) hx hb dX6_lockRow_166 (by decide) (fun c4 => ?_) (fun c4 => ?_)
    · replace hF := ifp c4 hF
      refine lv_iconst (v := (4 : Int32)) hx hb dX6_lockRow_172 (by decide) ?_
      refine lv_iload_n hx hb dX6_lockRow_173 rfl (lv_at hl 2 rfl) ?_
      refine lv_imul hx hb dX6_lockRow_174 ?_
      refine x_istore (lv' := [(4, .int ((4 : Int32) * x2)), (0, vr x0), (1, .int x1), (2, .int x2), (3, .int x3)]) hx hb dX6_lockRow_175 hl (by decide) (cR (cI (cI (cI (cI cN))))) rfl (fun ls hl => ?_)
      exact wl_X6_lockRow_177 cx   NF x0 x1 x2 ((4 : Int32) * x2) σ3 _ _ _ h g (lv_sub hl [1, 2, 3, 0] rfl) hF
    · replace hF := ifn c4 hF
      refine lv_bipush (v := (-4 : Int32)) hx hb dX6_lockRow_169 (by decide) ?_
      obtain ⟨rfl, rfl⟩ := rts hF
      exact x_iret cx h dX6_lockRow_171
  · replace hF := ifn c1 hF
    refine x_aload_n hx hb dX6_lockRow_39 rfl (lv_at hl 0 rfl) ?_
    refine lv_iload_n hx hb dX6_lockRow_40 rfl (lv_at hl 1 rfl) ?_
    refine lv_iload hx hb dX6_lockRow_41 (lv_at hl 4 rfl) ?_
    obtain ⟨hq5, hF⟩ := ifs hF
    obtain ⟨r6, σ6, hc6, hF⟩ := bds hF
    refine x_calli (σ := σ) g (LEm hc6 (mo_F_X6_ownAt x0 x1 x4 _)) (x_runV (As := [.int x1, .int x4]) (rest := []) cx h (c_X6_ownAt l D dA base x0 x1 x4 hc6) ml_X6_121 mi_X6_ownAt hq5 rfl ⟨Nat.le_of_ble_eq_true rfl, Nat.le_of_ble_eq_true rfl⟩ hl.1 rfl (s8 sN (by decide)) dX6_lockRow_43 (le_room g (LEm hc6 (mo_F_X6_ownAt x0 x1 x4 _)) (LEm hF (mo_ite (mo_L_X6_lockRow_58 mk29 NF x0 x1 x2 (x3 + (1 : Int32)) x4 (0 : Int32) _) (mo_B_X6_lockRow_149 mk29 x0 x1 x2 x3 x4 _))))) h (fun H locs h g => ?_)
    refine lv_if_ge (tgt := 52) hx hb dX6_lockRow_46 (by decide) (fun c7 => ?_) (fun c7 => ?_)
    · replace hF := ifp c7 hF
      refine x_iinc (k := 3) (v := (1 : Int32)) (lv' := [(3, .int (x3 + (1 : Int32))), (0, vr x0), (1, .int x1), (2, .int x2), (4, .int x4)]) hx hb dX6_lockRow_52 hl rfl (by decide) (by decide) (cR (cI (cI (cI (cI cN))))) rfl (fun ls hl => ?_)
      refine lv_iconst (v := (0 : Int32)) hx hb dX6_lockRow_55 (by decide) ?_
      refine x_istore (lv' := [(5, .int (0 : Int32)), (3, .int (x3 + (1 : Int32))), (0, vr x0), (1, .int x1), (2, .int x2), (4, .int x4)]) hx hb dX6_lockRow_56 hl (by decide) (cI (cR (cI (cI (cI cN))))) rfl (fun ls hl => ?_)
      exact wl_X6_lockRow_58 cx mk29 hk29 NF x0 x1 x2 (x3 + (1 : Int32)) x4 (0 : Int32) σ6 _ _ _ h g (lv_sub hl [2, 3, 4, 1, 5, 0] rfl) hF
    · replace hF := ifn c7 hF
      refine lv_goto (tgt := 149) hx hb dX6_lockRow_49 (by decide) ?_
      exact w_X6_lockRow_149 (σ := σ6) cx mk29 hk29 x0 x1 x2 x3 x4 h g (lv_sub hl [0, 1, 2, 3, 4] rfl) hF
def L_X6_lockRow_29  : Nat → Nat → Int32 → Int32 → Int32 → Int32 → HS → Option (Int32 × HS)
  | 0, _, _, _, _, _, _ => none
  | N + 1, x0, x1, x2, x3, x4, σ => B_X6_lockRow_29 (L_X6_lockRow_29  N) x0 x1 x2 x3 x4 σ
theorem mo_L_X6_lockRow_29  : ∀ (N : Nat) (x0 : Nat) (x1 : Int32) (x2 : Int32) (x3 : Int32) (x4 : Int32) (σ : HS), Mo σ (L_X6_lockRow_29  N x0 x1 x2 x3 x4 σ) := by
  intro N
  induction N with
  | zero => intro x0 x1 x2 x3 x4 σ; exact mo_none
  | succ N ih => intro x0 x1 x2 x3 x4 σ; exact mo_B_X6_lockRow_29 ih x0 x1 x2 x3 x4 σ
theorem wl_X6_lockRow_29 {p : Program} {l : Launch} {e : Env} {s : State} {m : MethodId} {args : Array Value} {below : List Frame} {meth : Method} {c : Code} {D : va_G} {dA : Nat → ClassId} {base : Nat} {σ0 τ : HS} {r : Int32} (cx : CX p s m args meth c cX6_lockRow 6 (some .int) RX6 "lockRow" D dA base)  : ∀ (N : Nat) (x0 : Nat) (x1 : Int32) (x2 : Int32) (x3 : Int32) (x4 : Int32) (σ : HS) (H : Heap) (locs : List Loc) (ls : Array Slot), Wd D dA base σ s H locs → LE σ0 σ → lv_has ls 6 [(0, vr x0), (1, .int x1), (2, .int x2), (3, .int x3), (4, .int x4)] → L_X6_lockRow_29  N x0 x1 x2 x3 x4 σ = some (r, τ) → WG p l e s m args below meth c D dA base 3 71 (some (.int r)) σ0 τ σ H locs 29 ls [] := by
  intro N
  induction N with
  | zero => intro x0 x1 x2 x3 x4 σ H locs ls h g hl hF; cases hF
  | succ N ih => intro x0 x1 x2 x3 x4 σ H locs ls h g hl hF; exact w_X6_lockRow_29 cx (mo_L_X6_lockRow_29  N) ih x0 x1 x2 x3 x4 h g hl hF
def F_X6_lockRow (a0 : Nat) (a1 : Int32) (σ : HS) : Option (Int32 × HS) :=
  if kd σ a0 = 7 then (if kd σ (gr σ 265 a0) = 100 ∧ inb a1 (ln σ (gr σ 265 a0)) then (bd (F_X6_rowOf a0 a1 (ai σ (gr σ 265 a0) a1.toNatClampNeg) σ) (fun r3 σ3 => if 0 ≤ r3 then (L_X6_lockRow_29  NF a0 a1 r3 (0 : Int32) ((4 : Int32) * r3) σ3) else (if kd σ3 a0 = 7 then (bd (F_X6_decide a0 a1 σ3) (fun r6 σ6 => some (r6, σ6))) else none))) else none) else none
theorem mo_F_X6_lockRow (a0 : Nat) (a1 : Int32) (σ : HS) : Mo σ (F_X6_lockRow a0 a1 σ) := by
  unfold F_X6_lockRow
  exact (mo_ite (mo_ite (mo_bd (mo_F_X6_rowOf a0 a1 (ai σ (gr σ 265 a0) a1.toNatClampNeg) _) (fun r3 σ3 => (mo_ite (mo_L_X6_lockRow_29  NF a0 a1 r3 (0 : Int32) ((4 : Int32) * r3) _) (mo_ite (mo_bd (mo_F_X6_decide a0 a1 _) (fun r6 σ6 => mo_ret)) mo_none)))) mo_none) mo_none)
set_option maxHeartbeats 4000000 in
set_option maxRecDepth 100000 in
theorem c_X6_lockRow (l : Launch) (D : va_G) (dA : Nat → ClassId) (base : Nat) (a0 : Nat) (a1 : Int32) {σ τ : HS} {r : Int32} (hF : F_X6_lockRow a0 a1 σ = some (r, τ)) : CT l yX6_lockRow cX6_lockRow 6 (some .int) 3 71 D dA base [vr a0, .int a1] (some (.int r)) σ τ := by
  refine CT.of (lv := [(0, vr a0), (1, .int a1)]) (by decide) (vR (vI vN)) (Nat.le_of_ble_eq_true rfl) rfl ?_
  intro p e s m args below meth c ls cx hl h
  have cx : CX p s m args meth c cX6_lockRow 6 (some .int) RX6 "lockRow" D dA base := cx
  have g : LE σ σ := LE.rf
  obtain ⟨hx, hb, -⟩ := id cx
  unfold F_X6_lockRow at hF
  refine x_aload_n hx hb dX6_lockRow_0 rfl (lv_at hl 0 rfl) ?_
  refine lv_iload_n hx hb dX6_lockRow_1 rfl (lv_at hl 1 rfl) ?_
  refine x_aload_n hx hb dX6_lockRow_2 rfl (lv_at hl 0 rfl) ?_
  obtain ⟨hq1, hF⟩ := ifs hF
  refine x_getr cx h fa_X6_66 (f := 265) rfl hq1 dX6_lockRow_3 ?_
  refine lv_iload_n hx hb dX6_lockRow_6 rfl (lv_at hl 1 rfl) ?_
  obtain ⟨hq2, hF⟩ := ifs hF
  refine x_iald cx h hq2.1 (inb.vp hq2.2) dX6_lockRow_7 ?_
  obtain ⟨r3, σ3, hc3, hF⟩ := bds hF
  refine x_calli (σ := σ) g (LEm hc3 (mo_F_X6_rowOf a0 a1 (ai σ (gr σ 265 a0) a1.toNatClampNeg) _)) (x_runV (As := [.int a1, .int (ai σ (gr σ 265 a0) a1.toNatClampNeg)]) (rest := []) cx h (c_X6_rowOf l D dA base a0 a1 (ai σ (gr σ 265 a0) a1.toNatClampNeg) hc3) ml_X6_165 mi_X6_rowOf hq1 rfl ⟨Nat.le_of_ble_eq_true rfl, Nat.le_of_ble_eq_true rfl⟩ hl.1 rfl (s8 sN (by decide)) dX6_lockRow_8 (le_room g (LEm hc3 (mo_F_X6_rowOf a0 a1 (ai σ (gr σ 265 a0) a1.toNatClampNeg) _)) (LEm hF (mo_ite (mo_L_X6_lockRow_29  NF a0 a1 r3 (0 : Int32) ((4 : Int32) * r3) _) (mo_ite (mo_bd (mo_F_X6_decide a0 a1 _) (fun r6 σ6 => mo_ret)) mo_none))))) h (fun H locs h g => ?_)
  refine x_istore_n (lv' := [(2, .int r3), (0, vr a0), (1, .int a1)]) hx hb dX6_lockRow_11 rfl hl (by decide) (cR (cI cN)) rfl (fun ls hl => ?_)
  refine lv_iload_n hx hb dX6_lockRow_12 rfl (lv_at hl 0 rfl) ?_
  refine lv_if_ge (tgt := 22) hx hb dX6_lockRow_13 (by decide) (fun c4 => ?_) (fun c4 => ?_)
  · replace hF := ifp c4 hF
    refine lv_iconst (v := (0 : Int32)) hx hb dX6_lockRow_22 (by decide) ?_
    refine x_istore_n (lv' := [(3, .int (0 : Int32)), (2, .int r3), (0, vr a0), (1, .int a1)]) hx hb dX6_lockRow_23 rfl hl (by decide) (cI (cR (cI cN))) rfl (fun ls hl => ?_)
    refine lv_iconst (v := (4 : Int32)) hx hb dX6_lockRow_24 (by decide) ?_
    refine lv_iload_n hx hb dX6_lockRow_25 rfl (lv_at hl 1 rfl) ?_
    refine lv_imul hx hb dX6_lockRow_26 ?_
    refine x_istore (lv' := [(4, .int ((4 : Int32) * r3)), (3, .int (0 : Int32)), (2, .int r3), (0, vr a0), (1, .int a1)]) hx hb dX6_lockRow_27 hl (by decide) (cI (cI (cR (cI cN)))) rfl (fun ls hl => ?_)
    exact wl_X6_lockRow_29 cx   NF a0 a1 r3 (0 : Int32) ((4 : Int32) * r3) σ3 _ _ _ h g (lv_sub hl [3, 4, 2, 1, 0] rfl) hF
  · replace hF := ifn c4 hF
    refine x_aload_n hx hb dX6_lockRow_16 rfl (lv_at hl 1 rfl) ?_
    refine lv_iload_n hx hb dX6_lockRow_17 rfl (lv_at hl 2 rfl) ?_
    obtain ⟨hq5, hF⟩ := ifs hF
    obtain ⟨r6, σ6, hc6, hF⟩ := bds hF
    refine x_calli (σ := σ3) g (LEm hc6 (mo_F_X6_decide a0 a1 _)) (x_runV (As := [.int a1]) (rest := []) cx h (c_X6_decide l D dA base a0 a1 hc6) ml_X6_168 mi_X6_decide hq5 rfl ⟨Nat.le_of_ble_eq_true rfl, Nat.le_of_ble_eq_true rfl⟩ hl.1 rfl (s8 sN (by decide)) dX6_lockRow_18 (le_room g (LEm hc6 (mo_F_X6_decide a0 a1 _)) (LEm hF mo_ret))) h (fun H locs h g => ?_)
    obtain ⟨rfl, rfl⟩ := rts hF
    exact x_iret cx h dX6_lockRow_21
def F_X6_settle (a0 : Nat) (a1 : Int32) (σ : HS) : Option (Int32 × HS) :=
  if kd σ a0 = 7 then (if kd σ (gr σ 265 a0) = 100 ∧ inb a1 (ln σ (gr σ 265 a0)) then (bd (F_X6_rowOf a0 a1 (ai σ (gr σ 265 a0) a1.toNatClampNeg) σ) (fun r3 σ3 => if kd σ3 a0 = 7 then (if kd σ3 (gr σ3 266 a0) = 100 ∧ inb a1 (ln σ3 (gr σ3 266 a0)) then (bd (F_X6_settleRow a0 a1 r3 (ai σ3 (gr σ3 266 a0) a1.toNatClampNeg) σ3) (fun r6 σ6 => if kd σ6 a0 = 7 then (if kd σ6 (gr σ6 265 a0) = 100 ∧ inb a1 (ln σ6 (gr σ6 265 a0)) then (lt1 (sai σ6 (gr σ6 265 a0) a1.toNatClampNeg ((ai σ6 (gr σ6 265 a0) a1.toNatClampNeg) + (1 : Int32))) (fun σ9 => if kd σ9 (gr σ9 265 a0) = 100 ∧ inb a1 (ln σ9 (gr σ9 265 a0)) then (bd (F_X6_rowOf a0 a1 (ai σ9 (gr σ9 265 a0) a1.toNatClampNeg) σ9) (fun r11 σ11 => if r11 < 0 then (if kd σ11 a0 = 7 then (if kd σ11 (gr σ11 259 a0) = 100 ∧ inb a1 (ln σ11 (gr σ11 259 a0)) then (some ((3 : Int32), (sai σ11 (gr σ11 259 a0) a1.toNatClampNeg (0 : Int32)))) else none) else none) else (some ((1 : Int32), σ11)))) else none)) else none) else none)) else none) else none)) else none) else none
theorem mo_F_X6_settle (a0 : Nat) (a1 : Int32) (σ : HS) : Mo σ (F_X6_settle a0 a1 σ) := by
  unfold F_X6_settle
  exact (mo_ite (mo_ite (mo_bd (mo_F_X6_rowOf a0 a1 (ai σ (gr σ 265 a0) a1.toNatClampNeg) _) (fun r3 σ3 => (mo_ite (mo_ite (mo_bd (mo_F_X6_settleRow a0 a1 r3 (ai σ3 (gr σ3 266 a0) a1.toNatClampNeg) _) (fun r6 σ6 => (mo_ite (mo_ite (mo_lt ⟨Nat.le_refl _, Nat.le_refl _⟩ (fun σ9 => (mo_ite (mo_bd (mo_F_X6_rowOf a0 a1 (ai σ9 (gr σ9 265 a0) a1.toNatClampNeg) _) (fun r11 σ11 => (mo_ite (mo_ite (mo_ite (mo_le (τ := (sai σ11 (gr σ11 259 a0) a1.toNatClampNeg (0 : Int32))) ⟨Nat.le_refl _, Nat.le_refl _⟩ mo_ret) mo_none) mo_none) mo_ret))) mo_none))) mo_none) mo_none))) mo_none) mo_none))) mo_none) mo_none)
set_option maxHeartbeats 4000000 in
set_option maxRecDepth 100000 in
theorem c_X6_settle (l : Launch) (D : va_G) (dA : Nat → ClassId) (base : Nat) (a0 : Nat) (a1 : Int32) {σ τ : HS} {r : Int32} (hF : F_X6_settle a0 a1 σ = some (r, τ)) : CT l yX6_settle cX6_settle 2 (some .int) 2 48 D dA base [vr a0, .int a1] (some (.int r)) σ τ := by
  refine CT.of (lv := [(0, vr a0), (1, .int a1)]) (by decide) (vR (vI vN)) (Nat.le_of_ble_eq_true rfl) rfl ?_
  intro p e s m args below meth c ls cx hl h
  have cx : CX p s m args meth c cX6_settle 2 (some .int) RX6 "settle" D dA base := cx
  have g : LE σ σ := LE.rf
  obtain ⟨hx, hb, -⟩ := id cx
  unfold F_X6_settle at hF
  refine x_aload_n hx hb dX6_settle_0 rfl (lv_at hl 0 rfl) ?_
  refine lv_iload_n hx hb dX6_settle_1 rfl (lv_at hl 1 rfl) ?_
  refine x_aload_n hx hb dX6_settle_2 rfl (lv_at hl 0 rfl) ?_
  refine lv_iload_n hx hb dX6_settle_3 rfl (lv_at hl 1 rfl) ?_
  refine x_aload_n hx hb dX6_settle_4 rfl (lv_at hl 0 rfl) ?_
  obtain ⟨hq1, hF⟩ := ifs hF
  refine x_getr cx h fa_X6_66 (f := 265) rfl hq1 dX6_settle_5 ?_
  refine lv_iload_n hx hb dX6_settle_8 rfl (lv_at hl 1 rfl) ?_
  obtain ⟨hq2, hF⟩ := ifs hF
  refine x_iald cx h hq2.1 (inb.vp hq2.2) dX6_settle_9 ?_
  obtain ⟨r3, σ3, hc3, hF⟩ := bds hF
  refine x_calli (σ := σ) g (LEm hc3 (mo_F_X6_rowOf a0 a1 (ai σ (gr σ 265 a0) a1.toNatClampNeg) _)) (x_runV (As := [.int a1, .int (ai σ (gr σ 265 a0) a1.toNatClampNeg)]) (rest := [.int a1, vr a0]) cx h (c_X6_rowOf l D dA base a0 a1 (ai σ (gr σ 265 a0) a1.toNatClampNeg) hc3) ml_X6_165 mi_X6_rowOf hq1 rfl ⟨Nat.le_of_ble_eq_true rfl, Nat.le_of_ble_eq_true rfl⟩ hl.1 rfl (s8 (sI (sR sN)) (by decide)) dX6_settle_10 (le_room g (LEm hc3 (mo_F_X6_rowOf a0 a1 (ai σ (gr σ 265 a0) a1.toNatClampNeg) _)) (LEm hF (mo_ite (mo_ite (mo_bd (mo_F_X6_settleRow a0 a1 r3 (ai σ3 (gr σ3 266 a0) a1.toNatClampNeg) _) (fun r6 σ6 => (mo_ite (mo_ite (mo_lt ⟨Nat.le_refl _, Nat.le_refl _⟩ (fun σ9 => (mo_ite (mo_bd (mo_F_X6_rowOf a0 a1 (ai σ9 (gr σ9 265 a0) a1.toNatClampNeg) _) (fun r11 σ11 => (mo_ite (mo_ite (mo_ite (mo_le (τ := (sai σ11 (gr σ11 259 a0) a1.toNatClampNeg (0 : Int32))) ⟨Nat.le_refl _, Nat.le_refl _⟩ mo_ret) mo_none) mo_none) mo_ret))) mo_none))) mo_none) mo_none))) mo_none) mo_none)))) h (fun H locs h g => ?_)
  refine x_aload_n hx hb dX6_settle_13 rfl (lv_at hl 0 rfl) ?_
  obtain ⟨hq4, hF⟩ := ifs hF
  refine x_getr cx h fa_X6_69 (f := 266) rfl hq4 dX6_settle_14 ?_
  refine lv_iload_n hx hb dX6_settle_17 rfl (lv_at hl 1 rfl) ?_
  obtain ⟨hq5, hF⟩ := ifs hF
  refine x_iald cx h hq5.1 (inb.vp hq5.2) dX6_settle_18 ?_
  obtain ⟨r6, σ6, hc6, hF⟩ := bds hF
  refine x_callv (σ := σ3) g (LEm hc6 (mo_F_X6_settleRow a0 a1 r3 (ai σ3 (gr σ3 266 a0) a1.toNatClampNeg) _)) (x_runV (As := [.int a1, .int r3, .int (ai σ3 (gr σ3 266 a0) a1.toNatClampNeg)]) (rest := []) cx h (c_X6_settleRow l D dA base a0 a1 r3 (ai σ3 (gr σ3 266 a0) a1.toNatClampNeg) hc6) ml_X6_184 mi_X6_settleRow hq4 rfl ⟨Nat.le_of_ble_eq_true rfl, Nat.le_of_ble_eq_true rfl⟩ hl.1 rfl (s8 sN (by decide)) dX6_settle_19 (le_room g (LEm hc6 (mo_F_X6_settleRow a0 a1 r3 (ai σ3 (gr σ3 266 a0) a1.toNatClampNeg) _)) (LEm hF (mo_ite (mo_ite (mo_lt ⟨Nat.le_refl _, Nat.le_refl _⟩ (fun σ9 => (mo_ite (mo_bd (mo_F_X6_rowOf a0 a1 (ai σ9 (gr σ9 265 a0) a1.toNatClampNeg) _) (fun r11 σ11 => (mo_ite (mo_ite (mo_ite (mo_le (τ := (sai σ11 (gr σ11 259 a0) a1.toNatClampNeg (0 : Int32))) ⟨Nat.le_refl _, Nat.le_refl _⟩ mo_ret) mo_none) mo_none) mo_ret))) mo_none))) mo_none) mo_none)))) h (fun H locs h g => ?_)
  refine x_aload_n hx hb dX6_settle_22 rfl (lv_at hl 0 rfl) ?_
  obtain ⟨hq7, hF⟩ := ifs hF
  refine x_getr cx h fa_X6_66 (f := 265) rfl hq7 dX6_settle_23 ?_
  refine lv_iload_n hx hb dX6_settle_26 rfl (lv_at hl 1 rfl) ?_
  refine lv_dup2_11 hx hb dX6_settle_27 rfl (vr_cat _) ?_
  obtain ⟨hq8, hF⟩ := ifs hF
  refine x_iald cx h hq8.1 (inb.vp hq8.2) dX6_settle_28 ?_
  refine lv_iconst (v := (1 : Int32)) hx hb dX6_settle_29 (by decide) ?_
  refine lv_iadd hx hb dX6_settle_30 ?_
  refine x_iast cx h hq8.1 (inb.vp hq8.2) dX6_settle_31 (fun H locs h => ?_)
  obtain ⟨σ9, e9, hF⟩ := lts hF
  have h := Wd.nm e9 h
  have g := LE.nm e9 g
  refine W.cs (cells' := hs σ9 - hs σ) (slots' := ns σ9 - ns σ) (by rw [e9]; try rfl) (by rw [e9]; try rfl) ?_
  refine x_aload_n hx hb dX6_settle_32 rfl (lv_at hl 0 rfl) ?_
  refine lv_iload_n hx hb dX6_settle_33 rfl (lv_at hl 1 rfl) ?_
  refine x_aload_n hx hb dX6_settle_34 rfl (lv_at hl 0 rfl) ?_
  refine x_getr cx h fa_X6_66 (f := 265) rfl (by rw [e9]; exact hq7) dX6_settle_35 ?_
  refine lv_iload_n hx hb dX6_settle_38 rfl (lv_at hl 1 rfl) ?_
  obtain ⟨hq10, hF⟩ := ifs hF
  refine x_iald cx h hq10.1 (inb.vp hq10.2) dX6_settle_39 ?_
  obtain ⟨r11, σ11, hc11, hF⟩ := bds hF
  refine x_calli (σ := σ9) g (LEm hc11 (mo_F_X6_rowOf a0 a1 (ai σ9 (gr σ9 265 a0) a1.toNatClampNeg) _)) (x_runV (As := [.int a1, .int (ai σ9 (gr σ9 265 a0) a1.toNatClampNeg)]) (rest := []) cx h (c_X6_rowOf l D dA base a0 a1 (ai σ9 (gr σ9 265 a0) a1.toNatClampNeg) hc11) ml_X6_165 mi_X6_rowOf (by rw [e9]; exact hq7) rfl ⟨Nat.le_of_ble_eq_true rfl, Nat.le_of_ble_eq_true rfl⟩ hl.1 rfl (s8 sN (by decide)) dX6_settle_40 (le_room g (LEm hc11 (mo_F_X6_rowOf a0 a1 (ai σ9 (gr σ9 265 a0) a1.toNatClampNeg) _)) (LEm hF (mo_ite (mo_ite (mo_ite (mo_le (τ := (sai σ11 (gr σ11 259 a0) a1.toNatClampNeg (0 : Int32))) ⟨Nat.le_refl _, Nat.le_refl _⟩ mo_ret) mo_none) mo_none) mo_ret)))) h (fun H locs h g => ?_)
  refine lv_if_lt (tgt := 48) hx hb dX6_settle_43 (by decide) (fun c12 => ?_) (fun c12 => ?_)
  · replace hF := ifp c12 hF
    refine x_aload_n hx hb dX6_settle_48 rfl (lv_at hl 0 rfl) ?_
    obtain ⟨hq13, hF⟩ := ifs hF
    refine x_getr cx h fa_X6_48 (f := 259) rfl hq13 dX6_settle_49 ?_
    refine lv_iload_n hx hb dX6_settle_52 rfl (lv_at hl 1 rfl) ?_
    refine lv_iconst (v := (0 : Int32)) hx hb dX6_settle_53 (by decide) ?_
    obtain ⟨hq14, hF⟩ := ifs hF
    refine x_iast cx h hq14.1 (inb.vp hq14.2) dX6_settle_54 (fun H locs h => ?_)
    refine lv_iconst (v := (3 : Int32)) hx hb dX6_settle_55 (by decide) ?_
    obtain ⟨rfl, rfl⟩ := rts hF
    exact x_iret cx h dX6_settle_56
  · replace hF := ifn c12 hF
    refine lv_iconst (v := (1 : Int32)) hx hb dX6_settle_46 (by decide) ?_
    obtain ⟨rfl, rfl⟩ := rts hF
    exact x_iret cx h dX6_settle_47
def B_X6_undo_183 (k93 : Nat → Int32 → Int32 → Int32 → HS → Option (Int32 × HS)) (x0 : Nat) (x1 : Int32) (x3 : Int32) (x5 : Int32) (σ : HS) : Option (Int32 × HS) :=
  k93 x0 x1 x3 (x5 + (1 : Int32)) σ
theorem mo_B_X6_undo_183 {k93 : Nat → Int32 → Int32 → Int32 → HS → Option (Int32 × HS)} (mk93 : ∀ x0 x1 x3 x5 σ, Mo σ (k93 x0 x1 x3 x5 σ)) (x0 : Nat) (x1 : Int32) (x3 : Int32) (x5 : Int32) (σ : HS) : Mo σ (B_X6_undo_183 k93 x0 x1 x3 x5 σ) := by
  unfold B_X6_undo_183
  exact (mk93 x0 x1 x3 (x5 + (1 : Int32)) _)
set_option maxHeartbeats 4000000 in
set_option maxRecDepth 100000 in
theorem w_X6_undo_183 {p : Program} {l : Launch} {e : Env} {s : State} {m : MethodId} {args : Array Value} {below : List Frame} {meth : Method} {c : Code} {D : va_G} {dA : Nat → ClassId} {base : Nat} {σ0 τ : HS} {r : Int32} (cx : CX p s m args meth c cX6_undo 6 (some .int) RX6 "undo" D dA base) {k93 : Nat → Int32 → Int32 → Int32 → HS → Option (Int32 × HS)} (mk93 : ∀ x0 x1 x3 x5 σ, Mo σ (k93 x0 x1 x3 x5 σ)) (hk93 : ∀ x0 x1 x3 x5 σ H locs ls, Wd D dA base σ s H locs → LE σ0 σ → lv_has ls 6 [(0, vr x0), (1, .int x1), (3, .int x3), (5, .int x5)] → k93 x0 x1 x3 x5 σ = some (r, τ) → WG p l e s m args below meth c D dA base 2 46 (some (.int r)) σ0 τ σ H locs 93 ls []) (x0 : Nat) (x1 : Int32) (x3 : Int32) (x5 : Int32) {σ : HS} {H : Heap} {locs : List Loc} {ls : Array Slot} (h : Wd D dA base σ s H locs) (g : LE σ0 σ) (hl : lv_has ls 6 [(0, vr x0), (1, .int x1), (3, .int x3), (5, .int x5)]) (hF : B_X6_undo_183 k93 x0 x1 x3 x5 σ = some (r, τ)) : WG p l e s m args below meth c D dA base 2 46 (some (.int r)) σ0 τ σ H locs 183 ls [] := by
  obtain ⟨hx, hb, -⟩ := id cx
  unfold B_X6_undo_183 at hF
  refine x_iinc (k := 3) (v := (1 : Int32)) (lv' := [(5, .int (x5 + (1 : Int32))), (0, vr x0), (1, .int x1), (3, .int x3)]) hx hb dX6_undo_183 hl rfl (by decide) (by decide) (cR (cI (cI (cI cN)))) rfl (fun ls hl => ?_)
  refine lv_goto (tgt := 93) hx hb dX6_undo_186 (by decide) ?_
  exact hk93 x0 x1 x3 (x5 + (1 : Int32)) σ _ _ _ h g (lv_sub hl [1, 2, 3, 0] rfl) hF
def B_X6_undo_93 (k93 : Nat → Int32 → Int32 → Int32 → HS → Option (Int32 × HS)) (x0 : Nat) (x1 : Int32) (x3 : Int32) (x5 : Int32) (σ : HS) : Option (Int32 × HS) :=
  if (((4 : Int32) * x3) + (4 : Int32)) ≤ x5 then (some ((1 : Int32), σ)) else (if kd σ x0 = 7 then (bd (F_X6_ownAt x0 x1 x5 σ) (fun r3 σ3 => if r3 < 0 then (B_X6_undo_183 k93 x0 x1 x3 x5 σ3) else (if kd σ3 x0 = 7 then (if kd σ3 (gr σ3 256 x0) = 100 ∧ inb x5 (ln σ3 (gr σ3 256 x0)) then (if kd σ3 (gr σ3 260 x0) = 100 ∧ inb x1 (ln σ3 (gr σ3 260 x0)) then (if (ai σ3 (gr σ3 256 x0) x5.toNatClampNeg) = (ai σ3 (gr σ3 260 x0) x1.toNatClampNeg) then (bd (F_X6_dropLock x0 x5 σ3) (fun r9 σ9 => if kd σ9 x0 = 7 then (if kd σ9 (gr σ9 260 x0) = 100 ∧ inb x1 (ln σ9 (gr σ9 260 x0)) then (bd (F_X6_dropData x0 x5 (ai σ9 (gr σ9 260 x0) x1.toNatClampNeg) σ9) (fun r12 σ12 => if kd σ12 x0 = 7 then (if kd σ12 (gr σ12 263 x0) = 100 ∧ inb ((16 : Int32) * x1) (ln σ12 (gr σ12 263 x0)) then (if x5 = (ai σ12 (gr σ12 263 x0) ((16 : Int32) * x1).toNatClampNeg) then (if kd σ12 (gr σ12 260 x0) = 100 ∧ inb x1 (ln σ12 (gr σ12 260 x0)) then (bd (F_X6_addWrite x0 x5 (ai σ12 (gr σ12 260 x0) x1.toNatClampNeg) (ai σ12 (gr σ12 260 x0) x1.toNatClampNeg) (1 : Int32) σ12) (fun r17 σ17 => B_X6_undo_183 k93 x0 x1 x3 x5 σ17)) else none) else (B_X6_undo_183 k93 x0 x1 x3 x5 σ12)) else none) else none)) else none) else none)) else (B_X6_undo_183 k93 x0 x1 x3 x5 σ3)) else none) else none) else none))) else none)
theorem mo_B_X6_undo_93 {k93 : Nat → Int32 → Int32 → Int32 → HS → Option (Int32 × HS)} (mk93 : ∀ x0 x1 x3 x5 σ, Mo σ (k93 x0 x1 x3 x5 σ)) (x0 : Nat) (x1 : Int32) (x3 : Int32) (x5 : Int32) (σ : HS) : Mo σ (B_X6_undo_93 k93 x0 x1 x3 x5 σ) := by
  unfold B_X6_undo_93
  exact (mo_ite mo_ret (mo_ite (mo_bd (mo_F_X6_ownAt x0 x1 x5 _) (fun r3 σ3 => (mo_ite (mo_B_X6_undo_183 mk93 x0 x1 x3 x5 _) (mo_ite (mo_ite (mo_ite (mo_ite (mo_bd (mo_F_X6_dropLock x0 x5 _) (fun r9 σ9 => (mo_ite (mo_ite (mo_bd (mo_F_X6_dropData x0 x5 (ai σ9 (gr σ9 260 x0) x1.toNatClampNeg) _) (fun r12 σ12 => (mo_ite (mo_ite (mo_ite (mo_ite (mo_bd (mo_F_X6_addWrite x0 x5 (ai σ12 (gr σ12 260 x0) x1.toNatClampNeg) (ai σ12 (gr σ12 260 x0) x1.toNatClampNeg) (1 : Int32) _) (fun r17 σ17 => (mo_B_X6_undo_183 mk93 x0 x1 x3 x5 _))) mo_none) (mo_B_X6_undo_183 mk93 x0 x1 x3 x5 _)) mo_none) mo_none))) mo_none) mo_none))) (mo_B_X6_undo_183 mk93 x0 x1 x3 x5 _)) mo_none) mo_none) mo_none)))) mo_none))
set_option maxHeartbeats 4000000 in
set_option maxRecDepth 100000 in
theorem w_X6_undo_93 {p : Program} {l : Launch} {e : Env} {s : State} {m : MethodId} {args : Array Value} {below : List Frame} {meth : Method} {c : Code} {D : va_G} {dA : Nat → ClassId} {base : Nat} {σ0 τ : HS} {r : Int32} (cx : CX p s m args meth c cX6_undo 6 (some .int) RX6 "undo" D dA base) {k93 : Nat → Int32 → Int32 → Int32 → HS → Option (Int32 × HS)} (mk93 : ∀ x0 x1 x3 x5 σ, Mo σ (k93 x0 x1 x3 x5 σ)) (hk93 : ∀ x0 x1 x3 x5 σ H locs ls, Wd D dA base σ s H locs → LE σ0 σ → lv_has ls 6 [(0, vr x0), (1, .int x1), (3, .int x3), (5, .int x5)] → k93 x0 x1 x3 x5 σ = some (r, τ) → WG p l e s m args below meth c D dA base 2 46 (some (.int r)) σ0 τ σ H locs 93 ls []) (x0 : Nat) (x1 : Int32) (x3 : Int32) (x5 : Int32) {σ : HS} {H : Heap} {locs : List Loc} {ls : Array Slot} (h : Wd D dA base σ s H locs) (g : LE σ0 σ) (hl : lv_has ls 6 [(0, vr x0), (1, .int x1), (3, .int x3), (5, .int x5)]) (hF : B_X6_undo_93 k93 x0 x1 x3 x5 σ = some (r, τ)) : WG p l e s m args below meth c D dA base 2 46 (some (.int r)) σ0 τ σ H locs 93 ls [] := by
  obtain ⟨hx, hb, -⟩ := id cx
  unfold B_X6_undo_93 at hF
  refine lv_iload hx hb dX6_undo_93 (lv_at hl 3 rfl) ?_
  refine lv_iconst (v := (4 : Int32)) hx hb dX6_undo_95 (by decide) ?_
  refine lv_iload_n hx hb dX6_undo_96 rfl (lv_at hl 2 rfl) ?_
  refine lv_imul hx hb dX6_undo_97 ?_
  refine lv_iconst (v := (4 : Int32)) hx hb dX6_undo_98 (by decide) ?_
  refine lv_iadd hx hb dX6_undo_99 ?_
  refine lv_icmp_ge (tgt := 189) hx hb dX6_undo_100 (by decide) (fun c1 => ?_) (fun c1 => ?_)
  · replace hF := ifp c1 hF
    refine lv_iconst (v := (1 : Int32)) hx hb dX6_undo_189 (by decide) ?_
    obtain ⟨rfl, rfl⟩ := rts hF
    exact x_iret cx h dX6_undo_190
  · replace hF := ifn c1 hF
    refine x_aload_n hx hb dX6_undo_103 rfl (lv_at hl 0 rfl) ?_
    refine lv_iload_n hx hb dX6_undo_104 rfl (lv_at hl 1 rfl) ?_
    refine lv_iload hx hb dX6_undo_105 (lv_at hl 3 rfl) ?_
    obtain ⟨hq2, hF⟩ := ifs hF
    obtain ⟨r3, σ3, hc3, hF⟩ := bds hF
    refine x_calli (σ := σ) g (LEm hc3 (mo_F_X6_ownAt x0 x1 x5 _)) (x_runV (As := [.int x1, .int x5]) (rest := []) cx h (c_X6_ownAt l D dA base x0 x1 x5 hc3) ml_X6_121 mi_X6_ownAt hq2 rfl ⟨Nat.le_of_ble_eq_true rfl, Nat.le_of_ble_eq_true rfl⟩ hl.1 rfl (s8 sN (by decide)) dX6_undo_107 (le_room g (LEm hc3 (mo_F_X6_ownAt x0 x1 x5 _)) (LEm hF (mo_ite (mo_B_X6_undo_183 mk93 x0 x1 x3 x5 _) (mo_ite (mo_ite (mo_ite (mo_ite (mo_bd (mo_F_X6_dropLock x0 x5 _) (fun r9 σ9 => (mo_ite (mo_ite (mo_bd (mo_F_X6_dropData x0 x5 (ai σ9 (gr σ9 260 x0) x1.toNatClampNeg) _) (fun r12 σ12 => (mo_ite (mo_ite (mo_ite (mo_ite (mo_bd (mo_F_X6_addWrite x0 x5 (ai σ12 (gr σ12 260 x0) x1.toNatClampNeg) (ai σ12 (gr σ12 260 x0) x1.toNatClampNeg) (1 : Int32) _) (fun r17 σ17 => (mo_B_X6_undo_183 mk93 x0 x1 x3 x5 _))) mo_none) (mo_B_X6_undo_183 mk93 x0 x1 x3 x5 _)) mo_none) mo_none))) mo_none) mo_none))) (mo_B_X6_undo_183 mk93 x0 x1 x3 x5 _)) mo_none) mo_none) mo_none))))) h (fun H locs h g => ?_)
    refine lv_if_lt (tgt := 183) hx hb dX6_undo_110 (by decide) (fun c4 => ?_) (fun c4 => ?_)
    · replace hF := ifp c4 hF
      exact w_X6_undo_183 (σ := σ3) cx mk93 hk93 x0 x1 x3 x5 h g (lv_sub hl [0, 1, 2, 3] rfl) hF
    · replace hF := ifn c4 hF
      refine x_aload_n hx hb dX6_undo_113 rfl (lv_at hl 0 rfl) ?_
      obtain ⟨hq5, hF⟩ := ifs hF
      refine x_getr cx h fa_X6_39 (f := 256) rfl hq5 dX6_undo_114 ?_
      refine lv_iload hx hb dX6_undo_117 (lv_at hl 3 rfl) ?_
      obtain ⟨hq6, hF⟩ := ifs hF
      refine x_iald cx h hq6.1 (inb.vp hq6.2) dX6_undo_119 ?_
      refine x_aload_n hx hb dX6_undo_120 rfl (lv_at hl 0 rfl) ?_
      refine x_getr cx h fa_X6_51 (f := 260) rfl hq5 dX6_undo_121 ?_
      refine lv_iload_n hx hb dX6_undo_124 rfl (lv_at hl 1 rfl) ?_
      obtain ⟨hq7, hF⟩ := ifs hF
      refine x_iald cx h hq7.1 (inb.vp hq7.2) dX6_undo_125 ?_
      refine lv_icmp_eq (tgt := 132) hx hb dX6_undo_126 (by decide) (fun c8 => ?_) (fun c8 => ?_)
      · replace hF := ifp c8 hF
        refine x_aload_n hx hb dX6_undo_132 rfl (lv_at hl 0 rfl) ?_
        refine lv_iload hx hb dX6_undo_133 (lv_at hl 3 rfl) ?_
        obtain ⟨r9, σ9, hc9, hF⟩ := bds hF
        refine x_callv (σ := σ3) g (LEm hc9 (mo_F_X6_dropLock x0 x5 _)) (x_runV (As := [.int x5]) (rest := []) cx h (c_X6_dropLock l D dA base x0 x5 hc9) ml_X6_109 mi_X6_dropLock hq5 rfl ⟨Nat.le_of_ble_eq_true rfl, Nat.le_of_ble_eq_true rfl⟩ hl.1 rfl (s8 sN (by decide)) dX6_undo_135 (le_room g (LEm hc9 (mo_F_X6_dropLock x0 x5 _)) (LEm hF (mo_ite (mo_ite (mo_bd (mo_F_X6_dropData x0 x5 (ai σ9 (gr σ9 260 x0) x1.toNatClampNeg) _) (fun r12 σ12 => (mo_ite (mo_ite (mo_ite (mo_ite (mo_bd (mo_F_X6_addWrite x0 x5 (ai σ12 (gr σ12 260 x0) x1.toNatClampNeg) (ai σ12 (gr σ12 260 x0) x1.toNatClampNeg) (1 : Int32) _) (fun r17 σ17 => (mo_B_X6_undo_183 mk93 x0 x1 x3 x5 _))) mo_none) (mo_B_X6_undo_183 mk93 x0 x1 x3 x5 _)) mo_none) mo_none))) mo_none) mo_none)))) h (fun H locs h g => ?_)
        refine x_aload_n hx hb dX6_undo_138 rfl (lv_at hl 0 rfl) ?_
        refine lv_iload hx hb dX6_undo_139 (lv_at hl 3 rfl) ?_
        refine x_aload_n hx hb dX6_undo_141 rfl (lv_at hl 0 rfl) ?_
        obtain ⟨hq10, hF⟩ := ifs hF
        refine x_getr cx h fa_X6_51 (f := 260) rfl hq10 dX6_undo_142 ?_
        refine lv_iload_n hx hb dX6_undo_145 rfl (lv_at hl 1 rfl) ?_
        obtain ⟨hq11, hF⟩ := ifs hF
        refine x_iald cx h hq11.1 (inb.vp hq11.2) dX6_undo_146 ?_
        obtain ⟨r12, σ12, hc12, hF⟩ := bds hF
        refine x_callv (σ := σ9) g (LEm hc12 (mo_F_X6_dropData x0 x5 (ai σ9 (gr σ9 260 x0) x1.toNatClampNeg) _)) (x_runV (As := [.int x5, .int (ai σ9 (gr σ9 260 x0) x1.toNatClampNeg)]) (rest := []) cx h (c_X6_dropData l D dA base x0 x5 (ai σ9 (gr σ9 260 x0) x1.toNatClampNeg) hc12) ml_X6_113 mi_X6_dropData hq10 rfl ⟨Nat.le_of_ble_eq_true rfl, Nat.le_of_ble_eq_true rfl⟩ hl.1 rfl (s8 sN (by decide)) dX6_undo_147 (le_room g (LEm hc12 (mo_F_X6_dropData x0 x5 (ai σ9 (gr σ9 260 x0) x1.toNatClampNeg) _)) (LEm hF (mo_ite (mo_ite (mo_ite (mo_ite (mo_bd (mo_F_X6_addWrite x0 x5 (ai σ12 (gr σ12 260 x0) x1.toNatClampNeg) (ai σ12 (gr σ12 260 x0) x1.toNatClampNeg) (1 : Int32) _) (fun r17 σ17 => (mo_B_X6_undo_183 mk93 x0 x1 x3 x5 _))) mo_none) (mo_B_X6_undo_183 mk93 x0 x1 x3 x5 _)) mo_none) mo_none)))) h (fun H locs h g => ?_)
        refine lv_iload hx hb dX6_undo_150 (lv_at hl 3 rfl) ?_
        refine x_aload_n hx hb dX6_undo_152 rfl (lv_at hl 0 rfl) ?_
        obtain ⟨hq13, hF⟩ := ifs hF
        refine x_getr cx h fa_X6_60 (f := 263) rfl hq13 dX6_undo_153 ?_
        refine lv_bipush (v := (16 : Int32)) hx hb dX6_undo_156 (by decide) ?_
        refine lv_iload_n hx hb dX6_undo_158 rfl (lv_at hl 1 rfl) ?_
        refine lv_imul hx hb dX6_undo_159 ?_
        obtain ⟨hq14, hF⟩ := ifs hF
        refine x_iald cx h hq14.1 (inb.vp hq14.2) dX6_undo_160 ?_
        refine lv_icmp_ne (tgt := 183) hx hb dX6_undo_161 (by decide) (fun c15 => ?_) (fun c15 => ?_)
        · replace hF := ifn c15 hF
          exact w_X6_undo_183 (σ := σ12) cx mk93 hk93 x0 x1 x3 x5 h g (lv_sub hl [0, 1, 2, 3] rfl) hF
        · replace hF := ifp c15 hF
          refine x_aload_n hx hb dX6_undo_164 rfl (lv_at hl 0 rfl) ?_
          refine lv_iload hx hb dX6_undo_165 (lv_at hl 3 rfl) ?_
          refine x_aload_n hx hb dX6_undo_167 rfl (lv_at hl 0 rfl) ?_
          refine x_getr cx h fa_X6_51 (f := 260) rfl hq13 dX6_undo_168 ?_
          refine lv_iload_n hx hb dX6_undo_171 rfl (lv_at hl 1 rfl) ?_
          obtain ⟨hq16, hF⟩ := ifs hF
          refine x_iald cx h hq16.1 (inb.vp hq16.2) dX6_undo_172 ?_
          refine x_aload_n hx hb dX6_undo_173 rfl (lv_at hl 0 rfl) ?_
          refine x_getr cx h fa_X6_51 (f := 260) rfl hq13 dX6_undo_174 ?_
          refine lv_iload_n hx hb dX6_undo_177 rfl (lv_at hl 1 rfl) ?_
          refine x_iald cx h hq16.1 (inb.vp hq16.2) dX6_undo_178 ?_
          refine lv_iconst (v := (1 : Int32)) hx hb dX6_undo_179 (by decide) ?_
          obtain ⟨r17, σ17, hc17, hF⟩ := bds hF
          refine x_callv (σ := σ12) g (LEm hc17 (mo_F_X6_addWrite x0 x5 (ai σ12 (gr σ12 260 x0) x1.toNatClampNeg) (ai σ12 (gr σ12 260 x0) x1.toNatClampNeg) (1 : Int32) _)) (x_runV (As := [.int x5, .int (ai σ12 (gr σ12 260 x0) x1.toNatClampNeg), .int (ai σ12 (gr σ12 260 x0) x1.toNatClampNeg), .int (1 : Int32)]) (rest := []) cx h (c_X6_addWrite l D dA base x0 x5 (ai σ12 (gr σ12 260 x0) x1.toNatClampNeg) (ai σ12 (gr σ12 260 x0) x1.toNatClampNeg) (1 : Int32) hc17) ml_X6_117 mi_X6_addWrite hq13 rfl ⟨Nat.le_of_ble_eq_true rfl, Nat.le_of_ble_eq_true rfl⟩ hl.1 rfl (s8 sN (by decide)) dX6_undo_180 (le_room g (LEm hc17 (mo_F_X6_addWrite x0 x5 (ai σ12 (gr σ12 260 x0) x1.toNatClampNeg) (ai σ12 (gr σ12 260 x0) x1.toNatClampNeg) (1 : Int32) _)) (LEm hF (mo_B_X6_undo_183 mk93 x0 x1 x3 x5 _)))) h (fun H locs h g => ?_)
          exact w_X6_undo_183 (σ := σ17) cx mk93 hk93 x0 x1 x3 x5 h g (lv_sub hl [0, 1, 2, 3] rfl) hF
      · replace hF := ifn c8 hF
        refine lv_goto (tgt := 183) hx hb dX6_undo_129 (by decide) ?_
        exact w_X6_undo_183 (σ := σ3) cx mk93 hk93 x0 x1 x3 x5 h g (lv_sub hl [0, 1, 2, 3] rfl) hF
def L_X6_undo_93  : Nat → Nat → Int32 → Int32 → Int32 → HS → Option (Int32 × HS)
  | 0, _, _, _, _, _ => none
  | N + 1, x0, x1, x3, x5, σ => B_X6_undo_93 (L_X6_undo_93  N) x0 x1 x3 x5 σ
theorem mo_L_X6_undo_93  : ∀ (N : Nat) (x0 : Nat) (x1 : Int32) (x3 : Int32) (x5 : Int32) (σ : HS), Mo σ (L_X6_undo_93  N x0 x1 x3 x5 σ) := by
  intro N
  induction N with
  | zero => intro x0 x1 x3 x5 σ; exact mo_none
  | succ N ih => intro x0 x1 x3 x5 σ; exact mo_B_X6_undo_93 ih x0 x1 x3 x5 σ
theorem wl_X6_undo_93 {p : Program} {l : Launch} {e : Env} {s : State} {m : MethodId} {args : Array Value} {below : List Frame} {meth : Method} {c : Code} {D : va_G} {dA : Nat → ClassId} {base : Nat} {σ0 τ : HS} {r : Int32} (cx : CX p s m args meth c cX6_undo 6 (some .int) RX6 "undo" D dA base)  : ∀ (N : Nat) (x0 : Nat) (x1 : Int32) (x3 : Int32) (x5 : Int32) (σ : HS) (H : Heap) (locs : List Loc) (ls : Array Slot), Wd D dA base σ s H locs → LE σ0 σ → lv_has ls 6 [(0, vr x0), (1, .int x1), (3, .int x3), (5, .int x5)] → L_X6_undo_93  N x0 x1 x3 x5 σ = some (r, τ) → WG p l e s m args below meth c D dA base 2 46 (some (.int r)) σ0 τ σ H locs 93 ls [] := by
  intro N
  induction N with
  | zero => intro x0 x1 x3 x5 σ H locs ls h g hl hF; cases hF
  | succ N ih => intro x0 x1 x3 x5 σ H locs ls h g hl hF; exact w_X6_undo_93 cx (mo_L_X6_undo_93  N) ih x0 x1 x3 x5 h g hl hF
def B_X6_undo_72 (k2 : Nat → Int32 → Int32 → HS → Option (Int32 × HS)) (k26 : Nat → Int32 → Int32 → Int32 → Int32 → Int32 → HS → Option (Int32 × HS)) (x0 : Nat) (x1 : Int32) (x2 : Int32) (x3 : Int32) (x5 : Int32) (y0 : Int32) (σ : HS) : Option (Int32 × HS) :=
  k26 x0 x1 x2 x3 y0 (x5 + (1 : Int32)) σ
theorem mo_B_X6_undo_72 {k2 : Nat → Int32 → Int32 → HS → Option (Int32 × HS)} {k26 : Nat → Int32 → Int32 → Int32 → Int32 → Int32 → HS → Option (Int32 × HS)} (mk2 : ∀ x0 x1 x2 σ, Mo σ (k2 x0 x1 x2 σ)) (mk26 : ∀ x0 x1 x2 x3 x4 x5 σ, Mo σ (k26 x0 x1 x2 x3 x4 x5 σ)) (x0 : Nat) (x1 : Int32) (x2 : Int32) (x3 : Int32) (x5 : Int32) (y0 : Int32) (σ : HS) : Mo σ (B_X6_undo_72 k2 k26 x0 x1 x2 x3 x5 y0 σ) := by
  unfold B_X6_undo_72
  exact (mk26 x0 x1 x2 x3 y0 (x5 + (1 : Int32)) _)
set_option maxHeartbeats 4000000 in
set_option maxRecDepth 100000 in
theorem w_X6_undo_72 {p : Program} {l : Launch} {e : Env} {s : State} {m : MethodId} {args : Array Value} {below : List Frame} {meth : Method} {c : Code} {D : va_G} {dA : Nat → ClassId} {base : Nat} {σ0 τ : HS} {r : Int32} (cx : CX p s m args meth c cX6_undo 6 (some .int) RX6 "undo" D dA base) {k2 : Nat → Int32 → Int32 → HS → Option (Int32 × HS)} {k26 : Nat → Int32 → Int32 → Int32 → Int32 → Int32 → HS → Option (Int32 × HS)} (mk2 : ∀ x0 x1 x2 σ, Mo σ (k2 x0 x1 x2 σ)) (mk26 : ∀ x0 x1 x2 x3 x4 x5 σ, Mo σ (k26 x0 x1 x2 x3 x4 x5 σ)) (hk2 : ∀ x0 x1 x2 σ H locs ls, Wd D dA base σ s H locs → LE σ0 σ → lv_has ls 6 [(0, vr x0), (1, .int x1), (2, .int x2)] → k2 x0 x1 x2 σ = some (r, τ) → WG p l e s m args below meth c D dA base 2 46 (some (.int r)) σ0 τ σ H locs 2 ls []) (hk26 : ∀ x0 x1 x2 x3 x4 x5 σ H locs ls, Wd D dA base σ s H locs → LE σ0 σ → lv_has ls 6 [(0, vr x0), (1, .int x1), (2, .int x2), (3, .int x3), (4, .int x4), (5, .int x5)] → k26 x0 x1 x2 x3 x4 x5 σ = some (r, τ) → WG p l e s m args below meth c D dA base 2 46 (some (.int r)) σ0 τ σ H locs 26 ls []) (x0 : Nat) (x1 : Int32) (x2 : Int32) (x3 : Int32) (x5 : Int32) (y0 : Int32) {σ : HS} {H : Heap} {locs : List Loc} {ls : Array Slot} (h : Wd D dA base σ s H locs) (g : LE σ0 σ) (hl : lv_has ls 6 [(0, vr x0), (1, .int x1), (2, .int x2), (3, .int x3), (5, .int x5)]) (hF : B_X6_undo_72 k2 k26 x0 x1 x2 x3 x5 y0 σ = some (r, τ)) : WG p l e s m args below meth c D dA base 2 46 (some (.int r)) σ0 τ σ H locs 72 ls [.int y0] := by
  obtain ⟨hx, hb, -⟩ := id cx
  unfold B_X6_undo_72 at hF
  refine x_istore (lv' := [(4, .int y0), (0, vr x0), (1, .int x1), (2, .int x2), (3, .int x3), (5, .int x5)]) hx hb dX6_undo_72 hl (by decide) (cR (cI (cI (cI (cI cN))))) rfl (fun ls hl => ?_)
  refine x_iinc (k := 5) (v := (1 : Int32)) (lv' := [(5, .int (x5 + (1 : Int32))), (4, .int y0), (0, vr x0), (1, .int x1), (2, .int x2), (3, .int x3)]) hx hb dX6_undo_74 hl rfl (by decide) (by decide) (cI (cR (cI (cI (cI (cI cN)))))) rfl (fun ls hl => ?_)
  refine lv_goto (tgt := 26) hx hb dX6_undo_77 (by decide) ?_
  exact hk26 x0 x1 x2 x3 y0 (x5 + (1 : Int32)) σ _ _ _ h g (lv_sub hl [2, 3, 4, 5, 1, 0] rfl) hF
def B_X6_undo_67 (k2 : Nat → Int32 → Int32 → HS → Option (Int32 × HS)) (k26 : Nat → Int32 → Int32 → Int32 → Int32 → Int32 → HS → Option (Int32 × HS)) (x0 : Nat) (x1 : Int32) (x2 : Int32) (x3 : Int32) (x5 : Int32) (σ : HS) : Option (Int32 × HS) :=
  B_X6_undo_72 k2 k26 x0 x1 x2 x3 x5 (1 : Int32) σ
theorem mo_B_X6_undo_67 {k2 : Nat → Int32 → Int32 → HS → Option (Int32 × HS)} {k26 : Nat → Int32 → Int32 → Int32 → Int32 → Int32 → HS → Option (Int32 × HS)} (mk2 : ∀ x0 x1 x2 σ, Mo σ (k2 x0 x1 x2 σ)) (mk26 : ∀ x0 x1 x2 x3 x4 x5 σ, Mo σ (k26 x0 x1 x2 x3 x4 x5 σ)) (x0 : Nat) (x1 : Int32) (x2 : Int32) (x3 : Int32) (x5 : Int32) (σ : HS) : Mo σ (B_X6_undo_67 k2 k26 x0 x1 x2 x3 x5 σ) := by
  unfold B_X6_undo_67
  exact (mo_B_X6_undo_72 mk2 mk26 x0 x1 x2 x3 x5 (1 : Int32) _)
set_option maxHeartbeats 4000000 in
set_option maxRecDepth 100000 in
theorem w_X6_undo_67 {p : Program} {l : Launch} {e : Env} {s : State} {m : MethodId} {args : Array Value} {below : List Frame} {meth : Method} {c : Code} {D : va_G} {dA : Nat → ClassId} {base : Nat} {σ0 τ : HS} {r : Int32} (cx : CX p s m args meth c cX6_undo 6 (some .int) RX6 "undo" D dA base) {k2 : Nat → Int32 → Int32 → HS → Option (Int32 × HS)} {k26 : Nat → Int32 → Int32 → Int32 → Int32 → Int32 → HS → Option (Int32 × HS)} (mk2 : ∀ x0 x1 x2 σ, Mo σ (k2 x0 x1 x2 σ)) (mk26 : ∀ x0 x1 x2 x3 x4 x5 σ, Mo σ (k26 x0 x1 x2 x3 x4 x5 σ)) (hk2 : ∀ x0 x1 x2 σ H locs ls, Wd D dA base σ s H locs → LE σ0 σ → lv_has ls 6 [(0, vr x0), (1, .int x1), (2, .int x2)] → k2 x0 x1 x2 σ = some (r, τ) → WG p l e s m args below meth c D dA base 2 46 (some (.int r)) σ0 τ σ H locs 2 ls []) (hk26 : ∀ x0 x1 x2 x3 x4 x5 σ H locs ls, Wd D dA base σ s H locs → LE σ0 σ → lv_has ls 6 [(0, vr x0), (1, .int x1), (2, .int x2), (3, .int x3), (4, .int x4), (5, .int x5)] → k26 x0 x1 x2 x3 x4 x5 σ = some (r, τ) → WG p l e s m args below meth c D dA base 2 46 (some (.int r)) σ0 τ σ H locs 26 ls []) (x0 : Nat) (x1 : Int32) (x2 : Int32) (x3 : Int32) (x5 : Int32) {σ : HS} {H : Heap} {locs : List Loc} {ls : Array Slot} (h : Wd D dA base σ s H locs) (g : LE σ0 σ) (hl : lv_has ls 6 [(0, vr x0), (1, .int x1), (2, .int x2), (3, .int x3), (5, .int x5)]) (hF : B_X6_undo_67 k2 k26 x0 x1 x2 x3 x5 σ = some (r, τ)) : WG p l e s m args below meth c D dA base 2 46 (some (.int r)) σ0 τ σ H locs 67 ls [] := by
  obtain ⟨hx, hb, -⟩ := id cx
  unfold B_X6_undo_67 at hF
  refine lv_iconst (v := (1 : Int32)) hx hb dX6_undo_67 (by decide) ?_
  refine lv_goto (tgt := 72) hx hb dX6_undo_68 (by decide) ?_
  exact w_X6_undo_72 (σ := σ) cx mk2 mk26 hk2 hk26 x0 x1 x2 x3 x5 (1 : Int32) h g (lv_sub hl [0, 1, 2, 3, 4] rfl) hF
def B_X6_undo_71 (k2 : Nat → Int32 → Int32 → HS → Option (Int32 × HS)) (k26 : Nat → Int32 → Int32 → Int32 → Int32 → Int32 → HS → Option (Int32 × HS)) (x0 : Nat) (x1 : Int32) (x2 : Int32) (x3 : Int32) (x5 : Int32) (σ : HS) : Option (Int32 × HS) :=
  B_X6_undo_72 k2 k26 x0 x1 x2 x3 x5 (0 : Int32) σ
theorem mo_B_X6_undo_71 {k2 : Nat → Int32 → Int32 → HS → Option (Int32 × HS)} {k26 : Nat → Int32 → Int32 → Int32 → Int32 → Int32 → HS → Option (Int32 × HS)} (mk2 : ∀ x0 x1 x2 σ, Mo σ (k2 x0 x1 x2 σ)) (mk26 : ∀ x0 x1 x2 x3 x4 x5 σ, Mo σ (k26 x0 x1 x2 x3 x4 x5 σ)) (x0 : Nat) (x1 : Int32) (x2 : Int32) (x3 : Int32) (x5 : Int32) (σ : HS) : Mo σ (B_X6_undo_71 k2 k26 x0 x1 x2 x3 x5 σ) := by
  unfold B_X6_undo_71
  exact (mo_B_X6_undo_72 mk2 mk26 x0 x1 x2 x3 x5 (0 : Int32) _)
set_option maxHeartbeats 4000000 in
set_option maxRecDepth 100000 in
theorem w_X6_undo_71 {p : Program} {l : Launch} {e : Env} {s : State} {m : MethodId} {args : Array Value} {below : List Frame} {meth : Method} {c : Code} {D : va_G} {dA : Nat → ClassId} {base : Nat} {σ0 τ : HS} {r : Int32} (cx : CX p s m args meth c cX6_undo 6 (some .int) RX6 "undo" D dA base) {k2 : Nat → Int32 → Int32 → HS → Option (Int32 × HS)} {k26 : Nat → Int32 → Int32 → Int32 → Int32 → Int32 → HS → Option (Int32 × HS)} (mk2 : ∀ x0 x1 x2 σ, Mo σ (k2 x0 x1 x2 σ)) (mk26 : ∀ x0 x1 x2 x3 x4 x5 σ, Mo σ (k26 x0 x1 x2 x3 x4 x5 σ)) (hk2 : ∀ x0 x1 x2 σ H locs ls, Wd D dA base σ s H locs → LE σ0 σ → lv_has ls 6 [(0, vr x0), (1, .int x1), (2, .int x2)] → k2 x0 x1 x2 σ = some (r, τ) → WG p l e s m args below meth c D dA base 2 46 (some (.int r)) σ0 τ σ H locs 2 ls []) (hk26 : ∀ x0 x1 x2 x3 x4 x5 σ H locs ls, Wd D dA base σ s H locs → LE σ0 σ → lv_has ls 6 [(0, vr x0), (1, .int x1), (2, .int x2), (3, .int x3), (4, .int x4), (5, .int x5)] → k26 x0 x1 x2 x3 x4 x5 σ = some (r, τ) → WG p l e s m args below meth c D dA base 2 46 (some (.int r)) σ0 τ σ H locs 26 ls []) (x0 : Nat) (x1 : Int32) (x2 : Int32) (x3 : Int32) (x5 : Int32) {σ : HS} {H : Heap} {locs : List Loc} {ls : Array Slot} (h : Wd D dA base σ s H locs) (g : LE σ0 σ) (hl : lv_has ls 6 [(0, vr x0), (1, .int x1), (2, .int x2), (3, .int x3), (5, .int x5)]) (hF : B_X6_undo_71 k2 k26 x0 x1 x2 x3 x5 σ = some (r, τ)) : WG p l e s m args below meth c D dA base 2 46 (some (.int r)) σ0 τ σ H locs 71 ls [] := by
  obtain ⟨hx, hb, -⟩ := id cx
  unfold B_X6_undo_71 at hF
  refine lv_iconst (v := (0 : Int32)) hx hb dX6_undo_71 (by decide) ?_
  exact w_X6_undo_72 (σ := σ) cx mk2 mk26 hk2 hk26 x0 x1 x2 x3 x5 (0 : Int32) h g (lv_sub hl [0, 1, 2, 3, 4] rfl) hF
def B_X6_undo_26 (k2 : Nat → Int32 → Int32 → HS → Option (Int32 × HS)) (k26 : Nat → Int32 → Int32 → Int32 → Int32 → Int32 → HS → Option (Int32 × HS)) (x0 : Nat) (x1 : Int32) (x2 : Int32) (x3 : Int32) (x4 : Int32) (x5 : Int32) (σ : HS) : Option (Int32 × HS) :=
  if (((4 : Int32) * x3) + (4 : Int32)) ≤ x5 then (if x4 = 0 then (k2 x0 x1 (x2 + (1 : Int32)) σ) else (L_X6_undo_93  NF x0 x1 x3 ((4 : Int32) * x3) σ)) else (if x4 = 0 then (if kd σ x0 = 7 then (bd (F_X6_ownAt x0 x1 x5 σ) (fun r5 σ5 => if r5 < 0 then (B_X6_undo_71 k2 k26 x0 x1 x2 x3 x5 σ5) else (if kd σ5 x0 = 7 then (if kd σ5 (gr σ5 256 x0) = 100 ∧ inb x5 (ln σ5 (gr σ5 256 x0)) then (if kd σ5 (gr σ5 260 x0) = 100 ∧ inb x1 (ln σ5 (gr σ5 260 x0)) then (if (ai σ5 (gr σ5 256 x0) x5.toNatClampNeg) = (ai σ5 (gr σ5 260 x0) x1.toNatClampNeg) then (B_X6_undo_67 k2 k26 x0 x1 x2 x3 x5 σ5) else (B_X6_undo_71 k2 k26 x0 x1 x2 x3 x5 σ5)) else none) else none) else none))) else none) else (B_X6_undo_67 k2 k26 x0 x1 x2 x3 x5 σ))
theorem mo_B_X6_undo_26 {k2 : Nat → Int32 → Int32 → HS → Option (Int32 × HS)} {k26 : Nat → Int32 → Int32 → Int32 → Int32 → Int32 → HS → Option (Int32 × HS)} (mk2 : ∀ x0 x1 x2 σ, Mo σ (k2 x0 x1 x2 σ)) (mk26 : ∀ x0 x1 x2 x3 x4 x5 σ, Mo σ (k26 x0 x1 x2 x3 x4 x5 σ)) (x0 : Nat) (x1 : Int32) (x2 : Int32) (x3 : Int32) (x4 : Int32) (x5 : Int32) (σ : HS) : Mo σ (B_X6_undo_26 k2 k26 x0 x1 x2 x3 x4 x5 σ) := by
  unfold B_X6_undo_26
  exact (mo_ite (mo_ite (mk2 x0 x1 (x2 + (1 : Int32)) _) (mo_L_X6_undo_93  NF x0 x1 x3 ((4 : Int32) * x3) _)) (mo_ite (mo_ite (mo_bd (mo_F_X6_ownAt x0 x1 x5 _) (fun r5 σ5 => (mo_ite (mo_B_X6_undo_71 mk2 mk26 x0 x1 x2 x3 x5 _) (mo_ite (mo_ite (mo_ite (mo_ite (mo_B_X6_undo_67 mk2 mk26 x0 x1 x2 x3 x5 _) (mo_B_X6_undo_71 mk2 mk26 x0 x1 x2 x3 x5 _)) mo_none) mo_none) mo_none)))) mo_none) (mo_B_X6_undo_67 mk2 mk26 x0 x1 x2 x3 x5 _)))
set_option maxHeartbeats 4000000 in
set_option maxRecDepth 100000 in
theorem w_X6_undo_26 {p : Program} {l : Launch} {e : Env} {s : State} {m : MethodId} {args : Array Value} {below : List Frame} {meth : Method} {c : Code} {D : va_G} {dA : Nat → ClassId} {base : Nat} {σ0 τ : HS} {r : Int32} (cx : CX p s m args meth c cX6_undo 6 (some .int) RX6 "undo" D dA base) {k2 : Nat → Int32 → Int32 → HS → Option (Int32 × HS)} {k26 : Nat → Int32 → Int32 → Int32 → Int32 → Int32 → HS → Option (Int32 × HS)} (mk2 : ∀ x0 x1 x2 σ, Mo σ (k2 x0 x1 x2 σ)) (mk26 : ∀ x0 x1 x2 x3 x4 x5 σ, Mo σ (k26 x0 x1 x2 x3 x4 x5 σ)) (hk2 : ∀ x0 x1 x2 σ H locs ls, Wd D dA base σ s H locs → LE σ0 σ → lv_has ls 6 [(0, vr x0), (1, .int x1), (2, .int x2)] → k2 x0 x1 x2 σ = some (r, τ) → WG p l e s m args below meth c D dA base 2 46 (some (.int r)) σ0 τ σ H locs 2 ls []) (hk26 : ∀ x0 x1 x2 x3 x4 x5 σ H locs ls, Wd D dA base σ s H locs → LE σ0 σ → lv_has ls 6 [(0, vr x0), (1, .int x1), (2, .int x2), (3, .int x3), (4, .int x4), (5, .int x5)] → k26 x0 x1 x2 x3 x4 x5 σ = some (r, τ) → WG p l e s m args below meth c D dA base 2 46 (some (.int r)) σ0 τ σ H locs 26 ls []) (x0 : Nat) (x1 : Int32) (x2 : Int32) (x3 : Int32) (x4 : Int32) (x5 : Int32) {σ : HS} {H : Heap} {locs : List Loc} {ls : Array Slot} (h : Wd D dA base σ s H locs) (g : LE σ0 σ) (hl : lv_has ls 6 [(0, vr x0), (1, .int x1), (2, .int x2), (3, .int x3), (4, .int x4), (5, .int x5)]) (hF : B_X6_undo_26 k2 k26 x0 x1 x2 x3 x4 x5 σ = some (r, τ)) : WG p l e s m args below meth c D dA base 2 46 (some (.int r)) σ0 τ σ H locs 26 ls [] := by
  obtain ⟨hx, hb, -⟩ := id cx
  unfold B_X6_undo_26 at hF
  refine lv_iload hx hb dX6_undo_26 (lv_at hl 5 rfl) ?_
  refine lv_iconst (v := (4 : Int32)) hx hb dX6_undo_28 (by decide) ?_
  refine lv_iload_n hx hb dX6_undo_29 rfl (lv_at hl 3 rfl) ?_
  refine lv_imul hx hb dX6_undo_30 ?_
  refine lv_iconst (v := (4 : Int32)) hx hb dX6_undo_31 (by decide) ?_
  refine lv_iadd hx hb dX6_undo_32 ?_
  refine lv_icmp_ge (tgt := 80) hx hb dX6_undo_33 (by decide) (fun c1 => ?_) (fun c1 => ?_)
  · replace hF := ifp c1 hF
    refine lv_iload hx hb dX6_undo_80 (lv_at hl 4 rfl) ?_
    refine lv_if_ne (tgt := 88) hx hb dX6_undo_82 (by decide) (fun c2 => ?_) (fun c2 => ?_)
    · replace hF := ifn c2 hF
      refine lv_iconst (v := (4 : Int32)) hx hb dX6_undo_88 (by decide) ?_
      refine lv_iload_n hx hb dX6_undo_89 rfl (lv_at hl 3 rfl) ?_
      refine lv_imul hx hb dX6_undo_90 ?_
      refine x_istore (lv' := [(5, .int ((4 : Int32) * x3)), (0, vr x0), (1, .int x1), (2, .int x2), (3, .int x3), (4, .int x4)]) hx hb dX6_undo_91 hl (by decide) (cR (cI (cI (cI (cI (cI cN)))))) rfl (fun ls hl => ?_)
      exact wl_X6_undo_93 cx   NF x0 x1 x3 ((4 : Int32) * x3) σ _ _ _ h g (lv_sub hl [1, 2, 4, 0] rfl) hF
    · replace hF := ifp c2 hF
      refine lv_goto (tgt := 191) hx hb dX6_undo_85 (by decide) ?_
      refine x_iinc (k := 2) (v := (1 : Int32)) (lv' := [(2, .int (x2 + (1 : Int32))), (0, vr x0), (1, .int x1), (3, .int x3), (4, .int x4), (5, .int x5)]) hx hb dX6_undo_191 hl rfl (by decide) (by decide) (cR (cI (cI (cI (cI (cI cN)))))) rfl (fun ls hl => ?_)
      refine lv_goto (tgt := 2) hx hb dX6_undo_194 (by decide) ?_
      exact hk2 x0 x1 (x2 + (1 : Int32)) σ _ _ _ h g (lv_sub hl [1, 2, 0] rfl) hF
  · replace hF := ifn c1 hF
    refine lv_iload hx hb dX6_undo_36 (lv_at hl 4 rfl) ?_
    refine lv_if_ne (tgt := 67) hx hb dX6_undo_38 (by decide) (fun c3 => ?_) (fun c3 => ?_)
    · replace hF := ifn c3 hF
      exact w_X6_undo_67 (σ := σ) cx mk2 mk26 hk2 hk26 x0 x1 x2 x3 x5 h g (lv_sub hl [0, 1, 2, 3, 5] rfl) hF
    · replace hF := ifp c3 hF
      refine x_aload_n hx hb dX6_undo_41 rfl (lv_at hl 0 rfl) ?_
      refine lv_iload_n hx hb dX6_undo_42 rfl (lv_at hl 1 rfl) ?_
      refine lv_iload hx hb dX6_undo_43 (lv_at hl 5 rfl) ?_
      obtain ⟨hq4, hF⟩ := ifs hF
      obtain ⟨r5, σ5, hc5, hF⟩ := bds hF
      refine x_calli (σ := σ) g (LEm hc5 (mo_F_X6_ownAt x0 x1 x5 _)) (x_runV (As := [.int x1, .int x5]) (rest := []) cx h (c_X6_ownAt l D dA base x0 x1 x5 hc5) ml_X6_121 mi_X6_ownAt hq4 rfl ⟨Nat.le_of_ble_eq_true rfl, Nat.le_of_ble_eq_true rfl⟩ hl.1 rfl (s8 sN (by decide)) dX6_undo_45 (le_room g (LEm hc5 (mo_F_X6_ownAt x0 x1 x5 _)) (LEm hF (mo_ite (mo_B_X6_undo_71 mk2 mk26 x0 x1 x2 x3 x5 _) (mo_ite (mo_ite (mo_ite (mo_ite (mo_B_X6_undo_67 mk2 mk26 x0 x1 x2 x3 x5 _) (mo_B_X6_undo_71 mk2 mk26 x0 x1 x2 x3 x5 _)) mo_none) mo_none) mo_none))))) h (fun H locs h g => ?_)
      refine lv_if_lt (tgt := 71) hx hb dX6_undo_48 (by decide) (fun c6 => ?_) (fun c6 => ?_)
      · replace hF := ifp c6 hF
        exact w_X6_undo_71 (σ := σ5) cx mk2 mk26 hk2 hk26 x0 x1 x2 x3 x5 h g (lv_sub hl [0, 1, 2, 3, 5] rfl) hF
      · replace hF := ifn c6 hF
        refine x_aload_n hx hb dX6_undo_51 rfl (lv_at hl 0 rfl) ?_
        obtain ⟨hq7, hF⟩ := ifs hF
        refine x_getr cx h fa_X6_39 (f := 256) rfl hq7 dX6_undo_52 ?_
        refine lv_iload hx hb dX6_undo_55 (lv_at hl 5 rfl) ?_
        obtain ⟨hq8, hF⟩ := ifs hF
        refine x_iald cx h hq8.1 (inb.vp hq8.2) dX6_undo_57 ?_
        refine x_aload_n hx hb dX6_undo_58 rfl (lv_at hl 0 rfl) ?_
        refine x_getr cx h fa_X6_51 (f := 260) rfl hq7 dX6_undo_59 ?_
        refine lv_iload_n hx hb dX6_undo_62 rfl (lv_at hl 1 rfl) ?_
        obtain ⟨hq9, hF⟩ := ifs hF
        refine x_iald cx h hq9.1 (inb.vp hq9.2) dX6_undo_63 ?_
        refine lv_icmp_ne (tgt := 71) hx hb dX6_undo_64 (by decide) (fun c10 => ?_) (fun c10 => ?_)
        · replace hF := ifn c10 hF
          exact w_X6_undo_71 (σ := σ5) cx mk2 mk26 hk2 hk26 x0 x1 x2 x3 x5 h g (lv_sub hl [0, 1, 2, 3, 5] rfl) hF
        · replace hF := ifp c10 hF
          exact w_X6_undo_67 (σ := σ5) cx mk2 mk26 hk2 hk26 x0 x1 x2 x3 x5 h g (lv_sub hl [0, 1, 2, 3, 5] rfl) hF
def L_X6_undo_26 (k2 : Nat → Int32 → Int32 → HS → Option (Int32 × HS)) : Nat → Nat → Int32 → Int32 → Int32 → Int32 → Int32 → HS → Option (Int32 × HS)
  | 0, _, _, _, _, _, _, _ => none
  | N + 1, x0, x1, x2, x3, x4, x5, σ => B_X6_undo_26 k2 (L_X6_undo_26 k2 N) x0 x1 x2 x3 x4 x5 σ
theorem mo_L_X6_undo_26 {k2 : Nat → Int32 → Int32 → HS → Option (Int32 × HS)} (mk2 : ∀ x0 x1 x2 σ, Mo σ (k2 x0 x1 x2 σ)) : ∀ (N : Nat) (x0 : Nat) (x1 : Int32) (x2 : Int32) (x3 : Int32) (x4 : Int32) (x5 : Int32) (σ : HS), Mo σ (L_X6_undo_26 k2 N x0 x1 x2 x3 x4 x5 σ) := by
  intro N
  induction N with
  | zero => intro x0 x1 x2 x3 x4 x5 σ; exact mo_none
  | succ N ih => intro x0 x1 x2 x3 x4 x5 σ; exact mo_B_X6_undo_26 mk2 ih x0 x1 x2 x3 x4 x5 σ
theorem wl_X6_undo_26 {p : Program} {l : Launch} {e : Env} {s : State} {m : MethodId} {args : Array Value} {below : List Frame} {meth : Method} {c : Code} {D : va_G} {dA : Nat → ClassId} {base : Nat} {σ0 τ : HS} {r : Int32} (cx : CX p s m args meth c cX6_undo 6 (some .int) RX6 "undo" D dA base) {k2 : Nat → Int32 → Int32 → HS → Option (Int32 × HS)} (mk2 : ∀ x0 x1 x2 σ, Mo σ (k2 x0 x1 x2 σ)) (hk2 : ∀ x0 x1 x2 σ H locs ls, Wd D dA base σ s H locs → LE σ0 σ → lv_has ls 6 [(0, vr x0), (1, .int x1), (2, .int x2)] → k2 x0 x1 x2 σ = some (r, τ) → WG p l e s m args below meth c D dA base 2 46 (some (.int r)) σ0 τ σ H locs 2 ls []) : ∀ (N : Nat) (x0 : Nat) (x1 : Int32) (x2 : Int32) (x3 : Int32) (x4 : Int32) (x5 : Int32) (σ : HS) (H : Heap) (locs : List Loc) (ls : Array Slot), Wd D dA base σ s H locs → LE σ0 σ → lv_has ls 6 [(0, vr x0), (1, .int x1), (2, .int x2), (3, .int x3), (4, .int x4), (5, .int x5)] → L_X6_undo_26 k2 N x0 x1 x2 x3 x4 x5 σ = some (r, τ) → WG p l e s m args below meth c D dA base 2 46 (some (.int r)) σ0 τ σ H locs 26 ls [] := by
  intro N
  induction N with
  | zero => intro x0 x1 x2 x3 x4 x5 σ H locs ls h g hl hF; cases hF
  | succ N ih => intro x0 x1 x2 x3 x4 x5 σ H locs ls h g hl hF; exact w_X6_undo_26 cx mk2 (mo_L_X6_undo_26 mk2 N) hk2 ih x0 x1 x2 x3 x4 x5 h g hl hF
def B_X6_undo_2 (k2 : Nat → Int32 → Int32 → HS → Option (Int32 × HS)) (x0 : Nat) (x1 : Int32) (x2 : Int32) (σ : HS) : Option (Int32 × HS) :=
  if kd σ x0 = 7 then (bd (F_X6_rowOf x0 x1 x2 σ) (fun r2 σ2 => if r2 < 0 then (if kd σ2 x0 = 7 then (if kd σ2 (gr σ2 259 x0) = 100 ∧ inb x1 (ln σ2 (gr σ2 259 x0)) then (some ((0 : Int32), (sai σ2 (gr σ2 259 x0) x1.toNatClampNeg (0 : Int32)))) else none) else none) else (if kd σ2 x0 = 7 then (bd (F_X6_rowOf x0 x1 x2 σ2) (fun r7 σ7 => L_X6_undo_26 k2 NF x0 x1 x2 r7 (0 : Int32) ((4 : Int32) * r7) σ7)) else none))) else none
theorem mo_B_X6_undo_2 {k2 : Nat → Int32 → Int32 → HS → Option (Int32 × HS)} (mk2 : ∀ x0 x1 x2 σ, Mo σ (k2 x0 x1 x2 σ)) (x0 : Nat) (x1 : Int32) (x2 : Int32) (σ : HS) : Mo σ (B_X6_undo_2 k2 x0 x1 x2 σ) := by
  unfold B_X6_undo_2
  exact (mo_ite (mo_bd (mo_F_X6_rowOf x0 x1 x2 _) (fun r2 σ2 => (mo_ite (mo_ite (mo_ite (mo_le (τ := (sai σ2 (gr σ2 259 x0) x1.toNatClampNeg (0 : Int32))) ⟨Nat.le_refl _, Nat.le_refl _⟩ mo_ret) mo_none) mo_none) (mo_ite (mo_bd (mo_F_X6_rowOf x0 x1 x2 _) (fun r7 σ7 => (mo_L_X6_undo_26 mk2 NF x0 x1 x2 r7 (0 : Int32) ((4 : Int32) * r7) _))) mo_none)))) mo_none)
set_option maxHeartbeats 4000000 in
set_option maxRecDepth 100000 in
theorem w_X6_undo_2 {p : Program} {l : Launch} {e : Env} {s : State} {m : MethodId} {args : Array Value} {below : List Frame} {meth : Method} {c : Code} {D : va_G} {dA : Nat → ClassId} {base : Nat} {σ0 τ : HS} {r : Int32} (cx : CX p s m args meth c cX6_undo 6 (some .int) RX6 "undo" D dA base) {k2 : Nat → Int32 → Int32 → HS → Option (Int32 × HS)} (mk2 : ∀ x0 x1 x2 σ, Mo σ (k2 x0 x1 x2 σ)) (hk2 : ∀ x0 x1 x2 σ H locs ls, Wd D dA base σ s H locs → LE σ0 σ → lv_has ls 6 [(0, vr x0), (1, .int x1), (2, .int x2)] → k2 x0 x1 x2 σ = some (r, τ) → WG p l e s m args below meth c D dA base 2 46 (some (.int r)) σ0 τ σ H locs 2 ls []) (x0 : Nat) (x1 : Int32) (x2 : Int32) {σ : HS} {H : Heap} {locs : List Loc} {ls : Array Slot} (h : Wd D dA base σ s H locs) (g : LE σ0 σ) (hl : lv_has ls 6 [(0, vr x0), (1, .int x1), (2, .int x2)]) (hF : B_X6_undo_2 k2 x0 x1 x2 σ = some (r, τ)) : WG p l e s m args below meth c D dA base 2 46 (some (.int r)) σ0 τ σ H locs 2 ls [] := by
  obtain ⟨hx, hb, -⟩ := id cx
  unfold B_X6_undo_2 at hF
  refine x_aload_n hx hb dX6_undo_2 rfl (lv_at hl 0 rfl) ?_
  refine lv_iload_n hx hb dX6_undo_3 rfl (lv_at hl 1 rfl) ?_
  refine lv_iload_n hx hb dX6_undo_4 rfl (lv_at hl 2 rfl) ?_
  obtain ⟨hq1, hF⟩ := ifs hF
  obtain ⟨r2, σ2, hc2, hF⟩ := bds hF
  refine x_calli (σ := σ) g (LEm hc2 (mo_F_X6_rowOf x0 x1 x2 _)) (x_runV (As := [.int x1, .int x2]) (rest := []) cx h (c_X6_rowOf l D dA base x0 x1 x2 hc2) ml_X6_165 mi_X6_rowOf hq1 rfl ⟨Nat.le_of_ble_eq_true rfl, Nat.le_of_ble_eq_true rfl⟩ hl.1 rfl (s8 sN (by decide)) dX6_undo_5 (le_room g (LEm hc2 (mo_F_X6_rowOf x0 x1 x2 _)) (LEm hF (mo_ite (mo_ite (mo_ite (mo_le (τ := (sai σ2 (gr σ2 259 x0) x1.toNatClampNeg (0 : Int32))) ⟨Nat.le_refl _, Nat.le_refl _⟩ mo_ret) mo_none) mo_none) (mo_ite (mo_bd (mo_F_X6_rowOf x0 x1 x2 _) (fun r7 σ7 => (mo_L_X6_undo_26 mk2 NF x0 x1 x2 r7 (0 : Int32) ((4 : Int32) * r7) _))) mo_none))))) h (fun H locs h g => ?_)
  refine lv_if_lt (tgt := 197) hx hb dX6_undo_8 (by decide) (fun c3 => ?_) (fun c3 => ?_)
  · replace hF := ifp c3 hF
    refine x_aload_n hx hb dX6_undo_197 rfl (lv_at hl 0 rfl) ?_
    obtain ⟨hq4, hF⟩ := ifs hF
    refine x_getr cx h fa_X6_48 (f := 259) rfl hq4 dX6_undo_198 ?_
    refine lv_iload_n hx hb dX6_undo_201 rfl (lv_at hl 1 rfl) ?_
    refine lv_iconst (v := (0 : Int32)) hx hb dX6_undo_202 (by decide) ?_
    obtain ⟨hq5, hF⟩ := ifs hF
    refine x_iast cx h hq5.1 (inb.vp hq5.2) dX6_undo_203 (fun H locs h => ?_)
    refine lv_iconst (v := (0 : Int32)) hx hb dX6_undo_204 (by decide) ?_
    obtain ⟨rfl, rfl⟩ := rts hF
    exact x_iret cx h dX6_undo_205
  · replace hF := ifn c3 hF
    refine x_aload_n hx hb dX6_undo_11 rfl (lv_at hl 0 rfl) ?_
    refine lv_iload_n hx hb dX6_undo_12 rfl (lv_at hl 1 rfl) ?_
    refine lv_iload_n hx hb dX6_undo_13 rfl (lv_at hl 2 rfl) ?_
    obtain ⟨hq6, hF⟩ := ifs hF
    obtain ⟨r7, σ7, hc7, hF⟩ := bds hF
    refine x_calli (σ := σ2) g (LEm hc7 (mo_F_X6_rowOf x0 x1 x2 _)) (x_runV (As := [.int x1, .int x2]) (rest := []) cx h (c_X6_rowOf l D dA base x0 x1 x2 hc7) ml_X6_165 mi_X6_rowOf hq6 rfl ⟨Nat.le_of_ble_eq_true rfl, Nat.le_of_ble_eq_true rfl⟩ hl.1 rfl (s8 sN (by decide)) dX6_undo_14 (le_room g (LEm hc7 (mo_F_X6_rowOf x0 x1 x2 _)) (LEm hF (mo_L_X6_undo_26 mk2 NF x0 x1 x2 r7 (0 : Int32) ((4 : Int32) * r7) _)))) h (fun H locs h g => ?_)
    refine x_istore_n (lv' := [(3, .int r7), (0, vr x0), (1, .int x1), (2, .int x2)]) hx hb dX6_undo_17 rfl hl (by decide) (cR (cI (cI cN))) rfl (fun ls hl => ?_)
    refine lv_iconst (v := (0 : Int32)) hx hb dX6_undo_18 (by decide) ?_
    refine x_istore (lv' := [(4, .int (0 : Int32)), (3, .int r7), (0, vr x0), (1, .int x1), (2, .int x2)]) hx hb dX6_undo_19 hl (by decide) (cI (cR (cI (cI cN)))) rfl (fun ls hl => ?_)
    refine lv_iconst (v := (4 : Int32)) hx hb dX6_undo_21 (by decide) ?_
    refine lv_iload_n hx hb dX6_undo_22 rfl (lv_at hl 1 rfl) ?_
    refine lv_imul hx hb dX6_undo_23 ?_
    refine x_istore (lv' := [(5, .int ((4 : Int32) * r7)), (4, .int (0 : Int32)), (3, .int r7), (0, vr x0), (1, .int x1), (2, .int x2)]) hx hb dX6_undo_24 hl (by decide) (cI (cI (cR (cI (cI cN))))) rfl (fun ls hl => ?_)
    exact wl_X6_undo_26 cx mk2 hk2 NF x0 x1 x2 r7 (0 : Int32) ((4 : Int32) * r7) σ7 _ _ _ h g (lv_sub hl [3, 4, 5, 2, 1, 0] rfl) hF
def L_X6_undo_2  : Nat → Nat → Int32 → Int32 → HS → Option (Int32 × HS)
  | 0, _, _, _, _ => none
  | N + 1, x0, x1, x2, σ => B_X6_undo_2 (L_X6_undo_2  N) x0 x1 x2 σ
theorem mo_L_X6_undo_2  : ∀ (N : Nat) (x0 : Nat) (x1 : Int32) (x2 : Int32) (σ : HS), Mo σ (L_X6_undo_2  N x0 x1 x2 σ) := by
  intro N
  induction N with
  | zero => intro x0 x1 x2 σ; exact mo_none
  | succ N ih => intro x0 x1 x2 σ; exact mo_B_X6_undo_2 ih x0 x1 x2 σ
theorem wl_X6_undo_2 {p : Program} {l : Launch} {e : Env} {s : State} {m : MethodId} {args : Array Value} {below : List Frame} {meth : Method} {c : Code} {D : va_G} {dA : Nat → ClassId} {base : Nat} {σ0 τ : HS} {r : Int32} (cx : CX p s m args meth c cX6_undo 6 (some .int) RX6 "undo" D dA base)  : ∀ (N : Nat) (x0 : Nat) (x1 : Int32) (x2 : Int32) (σ : HS) (H : Heap) (locs : List Loc) (ls : Array Slot), Wd D dA base σ s H locs → LE σ0 σ → lv_has ls 6 [(0, vr x0), (1, .int x1), (2, .int x2)] → L_X6_undo_2  N x0 x1 x2 σ = some (r, τ) → WG p l e s m args below meth c D dA base 2 46 (some (.int r)) σ0 τ σ H locs 2 ls [] := by
  intro N
  induction N with
  | zero => intro x0 x1 x2 σ H locs ls h g hl hF; cases hF
  | succ N ih => intro x0 x1 x2 σ H locs ls h g hl hF; exact w_X6_undo_2 cx (mo_L_X6_undo_2  N) ih x0 x1 x2 h g hl hF
def F_X6_undo (a0 : Nat) (a1 : Int32) (σ : HS) : Option (Int32 × HS) :=
  L_X6_undo_2  NF a0 a1 (0 : Int32) σ
theorem mo_F_X6_undo (a0 : Nat) (a1 : Int32) (σ : HS) : Mo σ (F_X6_undo a0 a1 σ) := by
  unfold F_X6_undo
  exact (mo_L_X6_undo_2  NF a0 a1 (0 : Int32) _)
set_option maxHeartbeats 4000000 in
set_option maxRecDepth 100000 in
theorem c_X6_undo (l : Launch) (D : va_G) (dA : Nat → ClassId) (base : Nat) (a0 : Nat) (a1 : Int32) {σ τ : HS} {r : Int32} (hF : F_X6_undo a0 a1 σ = some (r, τ)) : CT l yX6_undo cX6_undo 6 (some .int) 2 46 D dA base [vr a0, .int a1] (some (.int r)) σ τ := by
  refine CT.of (lv := [(0, vr a0), (1, .int a1)]) (by decide) (vR (vI vN)) (Nat.le_of_ble_eq_true rfl) rfl ?_
  intro p e s m args below meth c ls cx hl h
  have cx : CX p s m args meth c cX6_undo 6 (some .int) RX6 "undo" D dA base := cx
  have g : LE σ σ := LE.rf
  obtain ⟨hx, hb, -⟩ := id cx
  unfold F_X6_undo at hF
  refine lv_iconst (v := (0 : Int32)) hx hb dX6_undo_0 (by decide) ?_
  refine x_istore_n (lv' := [(2, .int (0 : Int32)), (0, vr a0), (1, .int a1)]) hx hb dX6_undo_1 rfl hl (by decide) (cR (cI cN)) rfl (fun ls hl => ?_)
  exact wl_X6_undo_2 cx   NF a0 a1 (0 : Int32) σ _ _ _ h g (lv_sub hl [1, 2, 0] rfl) hF
