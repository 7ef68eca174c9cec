def B_X6_rowOf_105 (k5 : Nat → Int32 → Int32 → Int32 → HS → Option (Int32 × HS)) (x0 : Nat) (x1 : Int32) (x4 : Int32) (y0 : Int32) (y1 : Int32) (σ : HS) : Option (Int32 × HS) :=
  k5 x0 x1 (y0 - y1) (x4 + (1 : Int32)) σ
theorem mo_B_X6_rowOf_105 {k5 : Nat → Int32 → Int32 → Int32 → HS → Option (Int32 × HS)} (mk5 : ∀ x0 x1 x3 x4 σ, Mo σ (k5 x0 x1 x3 x4 σ)) (x0 : Nat) (x1 : Int32) (x4 : Int32) (y0 : Int32) (y1 : Int32) (σ : HS) : Mo σ (B_X6_rowOf_105 k5 x0 x1 x4 y0 y1 σ) := by
  unfold B_X6_rowOf_105
  exact (mk5 x0 x1 (y0 - y1) (x4 + (1 : Int32)) _)
set_option maxHeartbeats 4000000 in
set_option maxRecDepth 100000 in
theorem w_X6_rowOf_105 {p : Program} {l : Launch} {e : Env} {s : State} {m : MethodId} {args : Array Value} {below : List Frame} {meth : Method} {c : Code} {D : va_G} {dA : Nat → ClassId} {base : Nat} {σ0 τ : HS} {r : Int32} (cx : CX p s m args meth c cX6_rowOf 8 (some .int) RX6 "rowOf" D dA base) {k5 : Nat → Int32 → Int32 → Int32 → HS → Option (Int32 × HS)} (mk5 : ∀ x0 x1 x3 x4 σ, Mo σ (k5 x0 x1 x3 x4 σ)) (hk5 : ∀ x0 x1 x3 x4 σ H locs ls, Wd D dA base σ s H locs → LE σ0 σ → lv_has ls 8 [(0, vr x0), (1, .int x1), (3, .int x3), (4, .int x4)] → k5 x0 x1 x3 x4 σ = some (r, τ) → WG p l e s m args below meth c D dA base 0 0 (some (.int r)) σ0 τ σ H locs 5 ls []) (x0 : Nat) (x1 : Int32) (x4 : Int32) (y0 : Int32) (y1 : Int32) {σ : HS} {H : Heap} {locs : List Loc} {ls : Array Slot} (h : Wd D dA base σ s H locs) (g : LE σ0 σ) (hl : lv_has ls 8 [(0, vr x0), (1, .int x1), (4, .int x4)]) (hF : B_X6_rowOf_105 k5 x0 x1 x4 y0 y1 σ = some (r, τ)) : WG p l e s m args below meth c D dA base 0 0 (some (.int r)) σ0 τ σ H locs 105 ls [.int y1, .int y0] := by
  obtain ⟨hx, hb, -⟩ := id cx
  unfold B_X6_rowOf_105 at hF
  refine lv_isub hx hb dX6_rowOf_105 ?_
  refine x_istore_n (lv' := [(3, .int (y0 - y1)), (0, vr x0), (1, .int x1), (4, .int x4)]) hx hb dX6_rowOf_106 rfl hl (by decide) (cR (cI (cI cN))) rfl (fun ls hl => ?_)
  refine x_iinc (k := 3) (v := (1 : Int32)) (lv' := [(4, .int (x4 + (1 : Int32))), (3, .int (y0 - y1)), (0, vr x0), (1, .int x1)]) hx hb dX6_rowOf_107 hl rfl (by decide) (by decide) (cI (cR (cI (cI cN)))) rfl (fun ls hl => ?_)
  refine lv_goto (tgt := 5) hx hb dX6_rowOf_110 (by decide) ?_
  exact hk5 x0 x1 (y0 - y1) (x4 + (1 : Int32)) σ _ _ _ h g (lv_sub hl [2, 3, 1, 0] rfl) hF
def B_X6_rowOf_94 (k5 : Nat → Int32 → Int32 → Int32 → HS → Option (Int32 × HS)) (x0 : Nat) (x1 : Int32) (x3 : Int32) (x4 : Int32) (x6 : Int32) (σ : HS) : Option (Int32 × HS) :=
  if x6 = 0 then (B_X6_rowOf_105 k5 x0 x1 x4 x3 (0 : Int32) σ) else (B_X6_rowOf_105 k5 x0 x1 x4 x3 (1 : Int32) σ)
theorem mo_B_X6_rowOf_94 {k5 : Nat → Int32 → Int32 → Int32 → HS → Option (Int32 × HS)} (mk5 : ∀ x0 x1 x3 x4 σ, Mo σ (k5 x0 x1 x3 x4 σ)) (x0 : Nat) (x1 : Int32) (x3 : Int32) (x4 : Int32) (x6 : Int32) (σ : HS) : Mo σ (B_X6_rowOf_94 k5 x0 x1 x3 x4 x6 σ) := by
  unfold B_X6_rowOf_94
  exact (mo_ite (mo_B_X6_rowOf_105 mk5 x0 x1 x4 x3 (0 : Int32) _) (mo_B_X6_rowOf_105 mk5 x0 x1 x4 x3 (1 : Int32) _))
set_option maxHeartbeats 4000000 in
set_option maxRecDepth 100000 in
theorem w_X6_rowOf_94 {p : Program} {l : Launch} {e : Env} {s : State} {m : MethodId} {args : Array Value} {below : List Frame} {meth : Method} {c : Code} {D : va_G} {dA : Nat → ClassId} {base : Nat} {σ0 τ : HS} {r : Int32} (cx : CX p s m args meth c cX6_rowOf 8 (some .int) RX6 "rowOf" D dA base) {k5 : Nat → Int32 → Int32 → Int32 → HS → Option (Int32 × HS)} (mk5 : ∀ x0 x1 x3 x4 σ, Mo σ (k5 x0 x1 x3 x4 σ)) (hk5 : ∀ x0 x1 x3 x4 σ H locs ls, Wd D dA base σ s H locs → LE σ0 σ → lv_has ls 8 [(0, vr x0), (1, .int x1), (3, .int x3), (4, .int x4)] → k5 x0 x1 x3 x4 σ = some (r, τ) → WG p l e s m args below meth c D dA base 0 0 (some (.int r)) σ0 τ σ H locs 5 ls []) (x0 : Nat) (x1 : Int32) (x3 : Int32) (x4 : Int32) (x6 : Int32) {σ : HS} {H : Heap} {locs : List Loc} {ls : Array Slot} (h : Wd D dA base σ s H locs) (g : LE σ0 σ) (hl : lv_has ls 8 [(0, vr x0), (1, .int x1), (3, .int x3), (4, .int x4), (6, .int x6)]) (hF : B_X6_rowOf_94 k5 x0 x1 x3 x4 x6 σ = some (r, τ)) : WG p l e s m args below meth c D dA base 0 0 (some (.int r)) σ0 τ σ H locs 94 ls [] := by
  obtain ⟨hx, hb, -⟩ := id cx
  unfold B_X6_rowOf_94 at hF
  refine lv_iload_n hx hb dX6_rowOf_94 rfl (lv_at hl 2 rfl) ?_
  refine lv_iload hx hb dX6_rowOf_95 (lv_at hl 4 rfl) ?_
  refine lv_if_eq (tgt := 104) hx hb dX6_rowOf_97 (by decide) (fun c1 => ?_) (fun c1 => ?_)
  · replace hF := ifp c1 hF
    refine lv_iconst (v := (0 : Int32)) hx hb dX6_rowOf_104 (by decide) ?_
    exact w_X6_rowOf_105 (σ := σ) cx mk5 hk5 x0 x1 x4 x3 (0 : Int32) h g (lv_sub hl [0, 1, 3] rfl) hF
  · replace hF := ifn c1 hF
    refine lv_iconst (v := (1 : Int32)) hx hb dX6_rowOf_100 (by decide) ?_
    refine lv_goto (tgt := 105) hx hb dX6_rowOf_101 (by decide) ?_
    exact w_X6_rowOf_105 (σ := σ) cx mk5 hk5 x0 x1 x4 x3 (1 : Int32) h g (lv_sub hl [0, 1, 3] rfl) hF
def B_X6_rowOf_74 (k5 : Nat → Int32 → Int32 → Int32 → HS → Option (Int32 × HS)) (k38 : Nat → Int32 → Int32 → Int32 → Int32 → Int32 → Int32 → HS → Option (Int32 × HS)) (x0 : Nat) (x1 : Int32) (x3 : Int32) (x4 : Int32) (x5 : Int32) (x7 : Int32) (y0 : Int32) (σ : HS) : Option (Int32 × HS) :=
  k38 x0 x1 x3 x4 x5 y0 (x7 + (1 : Int32)) σ
theorem mo_B_X6_rowOf_74 {k5 : Nat → Int32 → Int32 → Int32 → HS → Option (Int32 × HS)} {k38 : Nat → Int32 → Int32 → Int32 → Int32 → Int32 → Int32 → HS → Option (Int32 × HS)} (mk5 : ∀ x0 x1 x3 x4 σ, Mo σ (k5 x0 x1 x3 x4 σ)) (mk38 : ∀ x0 x1 x3 x4 x5 x6 x7 σ, Mo σ (k38 x0 x1 x3 x4 x5 x6 x7 σ)) (x0 : Nat) (x1 : Int32) (x3 : Int32) (x4 : Int32) (x5 : Int32) (x7 : Int32) (y0 : Int32) (σ : HS) : Mo σ (B_X6_rowOf_74 k5 k38 x0 x1 x3 x4 x5 x7 y0 σ) := by
  unfold B_X6_rowOf_74
  exact (mk38 x0 x1 x3 x4 x5 y0 (x7 + (1 : Int32)) _)
set_option maxHeartbeats 4000000 in
set_option maxRecDepth 100000 in
theorem w_X6_rowOf_74 {p : Program} {l : Launch} {e : Env} {s : State} {m : MethodId} {args : Array Value} {below : List Frame} {meth : Method} {c : Code} {D : va_G} {dA : Nat → ClassId} {base : Nat} {σ0 τ : HS} {r : Int32} (cx : CX p s m args meth c cX6_rowOf 8 (some .int) RX6 "rowOf" D dA base) {k5 : Nat → Int32 → Int32 → Int32 → HS → Option (Int32 × HS)} {k38 : Nat → Int32 → Int32 → Int32 → Int32 → Int32 → Int32 → HS → Option (Int32 × HS)} (mk5 : ∀ x0 x1 x3 x4 σ, Mo σ (k5 x0 x1 x3 x4 σ)) (mk38 : ∀ x0 x1 x3 x4 x5 x6 x7 σ, Mo σ (k38 x0 x1 x3 x4 x5 x6 x7 σ)) (hk5 : ∀ x0 x1 x3 x4 σ H locs ls, Wd D dA base σ s H locs → LE σ0 σ → lv_has ls 8 [(0, vr x0), (1, .int x1), (3, .int x3), (4, .int x4)] → k5 x0 x1 x3 x4 σ = some (r, τ) → WG p l e s m args below meth c D dA base 0 0 (some (.int r)) σ0 τ σ H locs 5 ls []) (hk38 : ∀ x0 x1 x3 x4 x5 x6 x7 σ H locs ls, Wd D dA base σ s H locs → LE σ0 σ → lv_has ls 8 [(0, vr x0), (1, .int x1), (3, .int x3), (4, .int x4), (5, .int x5), (6, .int x6), (7, .int x7)] → k38 x0 x1 x3 x4 x5 x6 x7 σ = some (r, τ) → WG p l e s m args below meth c D dA base 0 0 (some (.int r)) σ0 τ σ H locs 38 ls []) (x0 : Nat) (x1 : Int32) (x3 : Int32) (x4 : Int32) (x5 : Int32) (x7 : Int32) (y0 : Int32) {σ : HS} {H : Heap} {locs : List Loc} {ls : Array Slot} (h : Wd D dA base σ s H locs) (g : LE σ0 σ) (hl : lv_has ls 8 [(0, vr x0), (1, .int x1), (3, .int x3), (4, .int x4), (5, .int x5), (7, .int x7)]) (hF : B_X6_rowOf_74 k5 k38 x0 x1 x3 x4 x5 x7 y0 σ = some (r, τ)) : WG p l e s m args below meth c D dA base 0 0 (some (.int r)) σ0 τ σ H locs 74 ls [.int y0] := by
  obtain ⟨hx, hb, -⟩ := id cx
  unfold B_X6_rowOf_74 at hF
  refine x_istore (lv' := [(6, .int y0), (0, vr x0), (1, .int x1), (3, .int x3), (4, .int x4), (5, .int x5), (7, .int x7)]) hx hb dX6_rowOf_74 hl (by decide) (cR (cI (cI (cI (cI (cI cN)))))) rfl (fun ls hl => ?_)
  refine x_iinc (k := 6) (v := (1 : Int32)) (lv' := [(7, .int (x7 + (1 : Int32))), (6, .int y0), (0, vr x0), (1, .int x1), (3, .int x3), (4, .int x4), (5, .int x5)]) hx hb dX6_rowOf_76 hl rfl (by decide) (by decide) (cI (cR (cI (cI (cI (cI (cI cN))))))) rfl (fun ls hl => ?_)
  refine lv_goto (tgt := 38) hx hb dX6_rowOf_79 (by decide) ?_
  exact hk38 x0 x1 x3 x4 x5 y0 (x7 + (1 : Int32)) σ _ _ _ h g (lv_sub hl [2, 3, 4, 5, 6, 1, 0] rfl) hF
def B_X6_rowOf_73 (k5 : Nat → Int32 → Int32 → Int32 → HS → Option (Int32 × HS)) (k38 : Nat → Int32 → Int32 → Int32 → Int32 → Int32 → Int32 → HS → Option (Int32 × HS)) (x0 : Nat) (x1 : Int32) (x3 : Int32) (x4 : Int32) (x5 : Int32) (x7 : Int32) (σ : HS) : Option (Int32 × HS) :=
  B_X6_rowOf_74 k5 k38 x0 x1 x3 x4 x5 x7 (0 : Int32) σ
theorem mo_B_X6_rowOf_73 {k5 : Nat → Int32 → Int32 → Int32 → HS → Option (Int32 × HS)} {k38 : Nat → Int32 → Int32 → Int32 → Int32 → Int32 → Int32 → HS → Option (Int32 × HS)} (mk5 : ∀ x0 x1 x3 x4 σ, Mo σ (k5 x0 x1 x3 x4 σ)) (mk38 : ∀ x0 x1 x3 x4 x5 x6 x7 σ, Mo σ (k38 x0 x1 x3 x4 x5 x6 x7 σ)) (x0 : Nat) (x1 : Int32) (x3 : Int32) (x4 : Int32) (x5 : Int32) (x7 : Int32) (σ : HS) : Mo σ (B_X6_rowOf_73 k5 k38 x0 x1 x3 x4 x5 x7 σ) := by
  unfold B_X6_rowOf_73
  exact (mo_B_X6_rowOf_74 mk5 mk38 x0 x1 x3 x4 x5 x7 (0 : Int32) _)
set_option maxHeartbeats 4000000 in
set_option maxRecDepth 100000 in
theorem w_X6_rowOf_73 {p : Program} {l : Launch} {e : Env} {s : State} {m : MethodId} {args : Array Value} {below : List Frame} {meth : Method} {c : Code} {D : va_G} {dA : Nat → ClassId} {base : Nat} {σ0 τ : HS} {r : Int32} (cx : CX p s m args meth c cX6_rowOf 8 (some .int) RX6 "rowOf" D dA base) {k5 : Nat → Int32 → Int32 → Int32 → HS → Option (Int32 × HS)} {k38 : Nat → Int32 → Int32 → Int32 → Int32 → Int32 → Int32 → HS → Option (Int32 × HS)} (mk5 : ∀ x0 x1 x3 x4 σ, Mo σ (k5 x0 x1 x3 x4 σ)) (mk38 : ∀ x0 x1 x3 x4 x5 x6 x7 σ, Mo σ (k38 x0 x1 x3 x4 x5 x6 x7 σ)) (hk5 : ∀ x0 x1 x3 x4 σ H locs ls, Wd D dA base σ s H locs → LE σ0 σ → lv_has ls 8 [(0, vr x0), (1, .int x1), (3, .int x3), (4, .int x4)] → k5 x0 x1 x3 x4 σ = some (r, τ) → WG p l e s m args below meth c D dA base 0 0 (some (.int r)) σ0 τ σ H locs 5 ls []) (hk38 : ∀ x0 x1 x3 x4 x5 x6 x7 σ H locs ls, Wd D dA base σ s H locs → LE σ0 σ → lv_has ls 8 [(0, vr x0), (1, .int x1), (3, .int x3), (4, .int x4), (5, .int x5), (6, .int x6), (7, .int x7)] → k38 x0 x1 x3 x4 x5 x6 x7 σ = some (r, τ) → WG p l e s m args below meth c D dA base 0 0 (some (.int r)) σ0 τ σ H locs 38 ls []) (x0 : Nat) (x1 : Int32) (x3 : Int32) (x4 : Int32) (x5 : Int32) (x7 : Int32) {σ : HS} {H : Heap} {locs : List Loc} {ls : Array Slot} (h : Wd D dA base σ s H locs) (g : LE σ0 σ) (hl : lv_has ls 8 [(0, vr x0), (1, .int x1), (3, .int x3), (4, .int x4), (5, .int x5), (7, .int x7)]) (hF : B_X6_rowOf_73 k5 k38 x0 x1 x3 x4 x5 x7 σ = some (r, τ)) : WG p l e s m args below meth c D dA base 0 0 (some (.int r)) σ0 τ σ H locs 73 ls [] := by
  obtain ⟨hx, hb, -⟩ := id cx
  unfold B_X6_rowOf_73 at hF
  refine lv_iconst (v := (0 : Int32)) hx hb dX6_rowOf_73 (by decide) ?_
  exact w_X6_rowOf_74 (σ := σ) cx mk5 mk38 hk5 hk38 x0 x1 x3 x4 x5 x7 (0 : Int32) h g (lv_sub hl [0, 1, 2, 3, 4, 5] rfl) hF
def B_X6_rowOf_38 (k5 : Nat → Int32 → Int32 → Int32 → HS → Option (Int32 × HS)) (k38 : Nat → Int32 → Int32 → Int32 → Int32 → Int32 → Int32 → HS → Option (Int32 × HS)) (x0 : Nat) (x1 : Int32) (x3 : Int32) (x4 : Int32) (x5 : Int32) (x6 : Int32) (x7 : Int32) (σ : HS) : Option (Int32 × HS) :=
  if x4 ≤ x7 then (if x6 = 0 then (B_X6_rowOf_94 k5 x0 x1 x3 x4 x6 σ) else (if x3 = 0 then (some (x5, σ)) else (B_X6_rowOf_94 k5 x0 x1 x3 x4 x6 σ))) else (if x6 = 0 then (B_X6_rowOf_73 k5 k38 x0 x1 x3 x4 x5 x7 σ) else (if kd σ x0 = 7 then (if kd σ (gr σ 263 x0) = 100 ∧ inb (((16 : Int32) * x1) + x7) (ln σ (gr σ 263 x0)) then (if ((ai σ (gr σ 263 x0) (((16 : Int32) * x1) + x7).toNatClampNeg) / (4 : Int32)) = x5 then (B_X6_rowOf_73 k5 k38 x0 x1 x3 x4 x5 x7 σ) else (B_X6_rowOf_74 k5 k38 x0 x1 x3 x4 x5 x7 (1 : Int32) σ)) else none) else none))
theorem mo_B_X6_rowOf_38 {k5 : Nat → Int32 → Int32 → Int32 → HS → Option (Int32 × HS)} {k38 : Nat → Int32 → Int32 → Int32 → Int32 → Int32 → Int32 → HS → Option (Int32 × HS)} (mk5 : ∀ x0 x1 x3 x4 σ, Mo σ (k5 x0 x1 x3 x4 σ)) (mk38 : ∀ x0 x1 x3 x4 x5 x6 x7 σ, Mo σ (k38 x0 x1 x3 x4 x5 x6 x7 σ)) (x0 : Nat) (x1 : Int32) (x3 : Int32) (x4 : Int32) (x5 : Int32) (x6 : Int32) (x7 : Int32) (σ : HS) : Mo σ (B_X6_rowOf_38 k5 k38 x0 x1 x3 x4 x5 x6 x7 σ) := by
  unfold B_X6_rowOf_38
  exact (mo_ite (mo_ite (mo_B_X6_rowOf_94 mk5 x0 x1 x3 x4 x6 _) (mo_ite mo_ret (mo_B_X6_rowOf_94 mk5 x0 x1 x3 x4 x6 _))) (mo_ite (mo_B_X6_rowOf_73 mk5 mk38 x0 x1 x3 x4 x5 x7 _) (mo_ite (mo_ite (mo_ite (mo_B_X6_rowOf_73 mk5 mk38 x0 x1 x3 x4 x5 x7 _) (mo_B_X6_rowOf_74 mk5 mk38 x0 x1 x3 x4 x5 x7 (1 : Int32) _)) mo_none) mo_none)))
set_option maxHeartbeats 4000000 in
set_option maxRecDepth 100000 in
theorem w_X6_rowOf_38 {p : Program} {l : Launch} {e : Env} {s : State} {m : MethodId} {args : Array Value} {below : List Frame} {meth : Method} {c : Code} {D : va_G} {dA : Nat → ClassId} {base : Nat} {σ0 τ : HS} {r : Int32} (cx : CX p s m args meth c cX6_rowOf 8 (some .int) RX6 "rowOf" D dA base) {k5 : Nat → Int32 → Int32 → Int32 → HS → Option (Int32 × HS)} {k38 : Nat → Int32 → Int32 → Int32 → Int32 → Int32 → Int32 → HS → Option (Int32 × HS)} (mk5 : ∀ x0 x1 x3 x4 σ, Mo σ (k5 x0 x1 x3 x4 σ)) (mk38 : ∀ x0 x1 x3 x4 x5 x6 x7 σ, Mo σ (k38 x0 x1 x3 x4 x5 x6 x7 σ)) (hk5 : ∀ x0 x1 x3 x4 σ H locs ls, Wd D dA base σ s H locs → LE σ0 σ → lv_has ls 8 [(0, vr x0), (1, .int x1), (3, .int x3), (4, .int x4)] → k5 x0 x1 x3 x4 σ = some (r, τ) → WG p l e s m args below meth c D dA base 0 0 (some (.int r)) σ0 τ σ H locs 5 ls []) (hk38 : ∀ x0 x1 x3 x4 x5 x6 x7 σ H locs ls, Wd D dA base σ s H locs → LE σ0 σ → lv_has ls 8 [(0, vr x0), (1, .int x1), (3, .int x3), (4, .int x4), (5, .int x5), (6, .int x6), (7, .int x7)] → k38 x0 x1 x3 x4 x5 x6 x7 σ = some (r, τ) → WG p l e s m args below meth c D dA base 0 0 (some (.int r)) σ0 τ σ H locs 38 ls []) (x0 : Nat) (x1 : Int32) (x3 : Int32) (x4 : Int32) (x5 : Int32) (x6 : Int32) (x7 : Int32) {σ : HS} {H : Heap} {locs : List Loc} {ls : Array Slot} (h : Wd D dA base σ s H locs) (g : LE σ0 σ) (hl : lv_has ls 8 [(0, vr x0), (1, .int x1), (3, .int x3), (4, .int x4), (5, .int x5), (6, .int x6), (7, .int x7)]) (hF : B_X6_rowOf_38 k5 k38 x0 x1 x3 x4 x5 x6 x7 σ = some (r, τ)) : WG p l e s m args below meth c D dA base 0 0 (some (.int r)) σ0 τ σ H locs 38 ls [] := by
  obtain ⟨hx, hb, -⟩ := id cx
  unfold B_X6_rowOf_38 at hF
  refine lv_iload hx hb dX6_rowOf_38 (lv_at hl 6 rfl) ?_
  refine lv_iload hx hb dX6_rowOf_40 (lv_at hl 3 rfl) ?_
  refine lv_icmp_ge (tgt := 82) hx hb dX6_rowOf_42 (by decide) (fun c1 => ?_) (fun c1 => ?_)
  · replace hF := ifp c1 hF
    refine lv_iload hx hb dX6_rowOf_82 (lv_at hl 5 rfl) ?_
    refine lv_if_eq (tgt := 94) hx hb dX6_rowOf_84 (by decide) (fun c2 => ?_) (fun c2 => ?_)
    · replace hF := ifp c2 hF
      exact w_X6_rowOf_94 (σ := σ) cx mk5 hk5 x0 x1 x3 x4 x6 h g (lv_sub hl [0, 1, 2, 3, 5] rfl) hF
    · replace hF := ifn c2 hF
      refine lv_iload_n hx hb dX6_rowOf_87 rfl (lv_at hl 2 rfl) ?_
      refine lv_if_ne (tgt := 94) hx hb dX6_rowOf_88 (by decide) (fun c3 => ?_) (fun c3 => ?_)
      · replace hF := ifn c3 hF
        exact w_X6_rowOf_94 (σ := σ) cx mk5 hk5 x0 x1 x3 x4 x6 h g (lv_sub hl [0, 1, 2, 3, 5] rfl) hF
      · replace hF := ifp c3 hF
        refine lv_iload hx hb dX6_rowOf_91 (lv_at hl 4 rfl) ?_
        obtain ⟨rfl, rfl⟩ := rts hF
        exact x_iret cx h dX6_rowOf_93
  · replace hF := ifn c1 hF
    refine lv_iload hx hb dX6_rowOf_45 (lv_at hl 5 rfl) ?_
    refine lv_if_eq (tgt := 73) hx hb dX6_rowOf_47 (by decide) (fun c4 => ?_) (fun c4 => ?_)
    · replace hF := ifp c4 hF
      exact w_X6_rowOf_73 (σ := σ) cx mk5 mk38 hk5 hk38 x0 x1 x3 x4 x5 x7 h g (lv_sub hl [0, 1, 2, 3, 4, 6] rfl) hF
    · replace hF := ifn c4 hF
      refine x_aload_n hx hb dX6_rowOf_50 rfl (lv_at hl 0 rfl) ?_
      obtain ⟨hq5, hF⟩ := ifs hF
      refine x_getr cx h fa_X6_60 (f := 263) rfl hq5 dX6_rowOf_51 ?_
      refine lv_bipush (v := (16 : Int32)) hx hb dX6_rowOf_54 (by decide) ?_
      refine lv_iload_n hx hb dX6_rowOf_56 rfl (lv_at hl 1 rfl) ?_
      refine lv_imul hx hb dX6_rowOf_57 ?_
      refine lv_iload hx hb dX6_rowOf_58 (lv_at hl 6 rfl) ?_
      refine lv_iadd hx hb dX6_rowOf_60 ?_
      obtain ⟨hq6, hF⟩ := ifs hF
      refine x_iald cx h hq6.1 (inb.vp hq6.2) dX6_rowOf_61 ?_
      refine lv_iconst (v := (4 : Int32)) hx hb dX6_rowOf_62 (by decide) ?_
      refine lv_idiv hx hb dX6_rowOf_63 (by decide) ?_
      refine lv_iload hx hb dX6_rowOf_64 (lv_at hl 4 rfl) ?_
      refine lv_icmp_eq (tgt := 73) hx hb dX6_rowOf_66 (by decide) (fun c7 => ?_) (fun c7 => ?_)
      · replace hF := ifp c7 hF
        exact w_X6_rowOf_73 (σ := σ) cx mk5 mk38 hk5 hk38 x0 x1 x3 x4 x5 x7 h g (lv_sub hl [0, 1, 2, 3, 4, 6] rfl) hF
      · replace hF := ifn c7 hF
        refine lv_iconst (v := (1 : Int32)) hx hb dX6_rowOf_69 (by decide) ?_
        refine lv_goto (tgt := 74) hx hb dX6_rowOf_70 (by decide) ?_
        exact w_X6_rowOf_74 (σ := σ) cx mk5 mk38 hk5 hk38 x0 x1 x3 x4 x5 x7 (1 : Int32) h g (lv_sub hl [0, 1, 2, 3, 4, 6] rfl) hF
def L_X6_rowOf_38 (k5 : Nat → Int32 → Int32 → Int32 → HS → Option (Int32 × HS)) : Nat → Nat → Int32 → Int32 → Int32 → Int32 → Int32 → Int32 → HS → Option (Int32 × HS)
  | 0, _, _, _, _, _, _, _, _ => none
  | N + 1, x0, x1, x3, x4, x5, x6, x7, σ => B_X6_rowOf_38 k5 (L_X6_rowOf_38 k5 N) x0 x1 x3 x4 x5 x6 x7 σ
theorem mo_L_X6_rowOf_38 {k5 : Nat → Int32 → Int32 → Int32 → HS → Option (Int32 × HS)} (mk5 : ∀ x0 x1 x3 x4 σ, Mo σ (k5 x0 x1 x3 x4 σ)) : ∀ (N : Nat) (x0 : Nat) (x1 : Int32) (x3 : Int32) (x4 : Int32) (x5 : Int32) (x6 : Int32) (x7 : Int32) (σ : HS), Mo σ (L_X6_rowOf_38 k5 N x0 x1 x3 x4 x5 x6 x7 σ) := by
  intro N
  induction N with
  | zero => intro x0 x1 x3 x4 x5 x6 x7 σ; exact mo_none
  | succ N ih => intro x0 x1 x3 x4 x5 x6 x7 σ; exact mo_B_X6_rowOf_38 mk5 ih x0 x1 x3 x4 x5 x6 x7 σ
theorem wl_X6_rowOf_38 {p : Program} {l : Launch} {e : Env} {s : State} {m : MethodId} {args : Array Value} {below : List Frame} {meth : Method} {c : Code} {D : va_G} {dA : Nat → ClassId} {base : Nat} {σ0 τ : HS} {r : Int32} (cx : CX p s m args meth c cX6_rowOf 8 (some .int) RX6 "rowOf" D dA base) {k5 : Nat → Int32 → Int32 → Int32 → HS → Option (Int32 × HS)} (mk5 : ∀ x0 x1 x3 x4 σ, Mo σ (k5 x0 x1 x3 x4 σ)) (hk5 : ∀ x0 x1 x3 x4 σ H locs ls, Wd D dA base σ s H locs → LE σ0 σ → lv_has ls 8 [(0, vr x0), (1, .int x1), (3, .int x3), (4, .int x4)] → k5 x0 x1 x3 x4 σ = some (r, τ) → WG p l e s m args below meth c D dA base 0 0 (some (.int r)) σ0 τ σ H locs 5 ls []) : ∀ (N : Nat) (x0 : Nat) (x1 : Int32) (x3 : Int32) (x4 : Int32) (x5 : Int32) (x6 : Int32) (x7 : Int32) (σ : HS) (H : Heap) (locs : List Loc) (ls : Array Slot), Wd D dA base σ s H locs → LE σ0 σ → lv_has ls 8 [(0, vr x0), (1, .int x1), (3, .int x3), (4, .int x4), (5, .int x5), (6, .int x6), (7, .int x7)] → L_X6_rowOf_38 k5 N x0 x1 x3 x4 x5 x6 x7 σ = some (r, τ) → WG p l e s m args below meth c D dA base 0 0 (some (.int r)) σ0 τ σ H locs 38 ls [] := by
  intro N
  induction N with
  | zero => intro x0 x1 x3 x4 x5 x6 x7 σ H locs ls h g hl hF; cases hF
  | succ N ih => intro x0 x1 x3 x4 x5 x6 x7 σ H locs ls h g hl hF; exact w_X6_rowOf_38 cx mk5 (mo_L_X6_rowOf_38 mk5 N) hk5 ih x0 x1 x3 x4 x5 x6 x7 h g hl hF
def B_X6_rowOf_5 (k5 : Nat → Int32 → Int32 → Int32 → HS → Option (Int32 × HS)) (x0 : Nat) (x1 : Int32) (x3 : Int32) (x4 : Int32) (σ : HS) : Option (Int32 × HS) :=
  if kd σ x0 = 7 then (if kd σ (gr σ 262 x0) = 100 ∧ inb x1 (ln σ (gr σ 262 x0)) then (if (ai σ (gr σ 262 x0) x1.toNatClampNeg) ≤ x4 then (some ((-1 : Int32), σ)) else (if kd σ (gr σ 263 x0) = 100 ∧ inb (((16 : Int32) * x1) + x4) (ln σ (gr σ 263 x0)) then (L_X6_rowOf_38 k5 NF x0 x1 x3 x4 ((ai σ (gr σ 263 x0) (((16 : Int32) * x1) + x4).toNatClampNeg) / (4 : Int32)) (1 : Int32) (0 : Int32) σ) else none)) else none) else none
theorem mo_B_X6_rowOf_5 {k5 : Nat → Int32 → Int32 → Int32 → HS → Option (Int32 × HS)} (mk5 : ∀ x0 x1 x3 x4 σ, Mo σ (k5 x0 x1 x3 x4 σ)) (x0 : Nat) (x1 : Int32) (x3 : Int32) (x4 : Int32) (σ : HS) : Mo σ (B_X6_rowOf_5 k5 x0 x1 x3 x4 σ) := by
  unfold B_X6_rowOf_5
  exact (mo_ite (mo_ite (mo_ite mo_ret (mo_ite (mo_L_X6_rowOf_38 mk5 NF x0 x1 x3 x4 ((ai σ (gr σ 263 x0) (((16 : Int32) * x1) + x4).toNatClampNeg) / (4 : Int32)) (1 : Int32) (0 : Int32) _) mo_none)) mo_none) mo_none)
set_option maxHeartbeats 4000000 in
set_option maxRecDepth 100000 in
theorem w_X6_rowOf_5 {p : Program} {l : Launch} {e : Env} {s : State} {m : MethodId} {args : Array Value} {below : List Frame} {meth : Method} {c : Code} {D : va_G} {dA : Nat → ClassId} {base : Nat} {σ0 τ : HS} {r : Int32} (cx : CX p s m args meth c cX6_rowOf 8 (some .int) RX6 "rowOf" D dA base) {k5 : Nat → Int32 → Int32 → Int32 → HS → Option (Int32 × HS)} (mk5 : ∀ x0 x1 x3 x4 σ, Mo σ (k5 x0 x1 x3 x4 σ)) (hk5 : ∀ x0 x1 x3 x4 σ H locs ls, Wd D dA base σ s H locs → LE σ0 σ → lv_has ls 8 [(0, vr x0), (1, .int x1), (3, .int x3), (4, .int x4)] → k5 x0 x1 x3 x4 σ = some (r, τ) → WG p l e s m args below meth c D dA base 0 0 (some (.int r)) σ0 τ σ H locs 5 ls []) (x0 : Nat) (x1 : Int32) (x3 : Int32) (x4 : Int32) {σ : HS} {H : Heap} {locs : List Loc} {ls : Array Slot} (h : Wd D dA base σ s H locs) (g : LE σ0 σ) (hl : lv_has ls 8 [(0, vr x0), (1, .int x1), (3, .int x3), (4, .int x4)]) (hF : B_X6_rowOf_5 k5 x0 x1 x3 x4 σ = some (r, τ)) : WG p l e s m args below meth c D dA base 0 0 (some (.int r)) σ0 τ σ H locs 5 ls [] := by
  obtain ⟨hx, hb, -⟩ := id cx
  unfold B_X6_rowOf_5 at hF
  refine lv_iload hx hb dX6_rowOf_5 (lv_at hl 3 rfl) ?_
  refine x_aload_n hx hb dX6_rowOf_7 rfl (lv_at hl 0 rfl) ?_
  obtain ⟨hq1, hF⟩ := ifs hF
  refine x_getr cx h fa_X6_57 (f := 262) rfl hq1 dX6_rowOf_8 ?_
  refine lv_iload_n hx hb dX6_rowOf_11 rfl (lv_at hl 1 rfl) ?_
  obtain ⟨hq2, hF⟩ := ifs hF
  refine x_iald cx h hq2.1 (inb.vp hq2.2) dX6_rowOf_12 ?_
  refine lv_icmp_ge (tgt := 113) hx hb dX6_rowOf_13 (by decide) (fun c3 => ?_) (fun c3 => ?_)
  · replace hF := ifp c3 hF
    refine lv_iconst (v := (-1 : Int32)) hx hb dX6_rowOf_113 (by decide) ?_
    obtain ⟨rfl, rfl⟩ := rts hF
    exact x_iret cx h dX6_rowOf_114
  · replace hF := ifn c3 hF
    refine x_aload_n hx hb dX6_rowOf_16 rfl (lv_at hl 0 rfl) ?_
    refine x_getr cx h fa_X6_60 (f := 263) rfl hq1 dX6_rowOf_17 ?_
    refine lv_bipush (v := (16 : Int32)) hx hb dX6_rowOf_20 (by decide) ?_
    refine lv_iload_n hx hb dX6_rowOf_22 rfl (lv_at hl 1 rfl) ?_
    refine lv_imul hx hb dX6_rowOf_23 ?_
    refine lv_iload hx hb dX6_rowOf_24 (lv_at hl 3 rfl) ?_
    refine lv_iadd hx hb dX6_rowOf_26 ?_
    obtain ⟨hq4, hF⟩ := ifs hF
    refine x_iald cx h hq4.1 (inb.vp hq4.2) dX6_rowOf_27 ?_
    refine lv_iconst (v := (4 : Int32)) hx hb dX6_rowOf_28 (by decide) ?_
    refine lv_idiv hx hb dX6_rowOf_29 (by decide) ?_
    refine x_istore (lv' := [(5, .int ((ai σ (gr σ 263 x0) (((16 : Int32) * x1) + x4).toNatClampNeg) / (4 : Int32))), (0, vr x0), (1, .int x1), (3, .int x3), (4, .int x4)]) hx hb dX6_rowOf_30 hl (by decide) (cR (cI (cI (cI cN)))) rfl (fun ls hl => ?_)
    refine lv_iconst (v := (1 : Int32)) hx hb dX6_rowOf_32 (by decide) ?_
    refine x_istore (lv' := [(6, .int (1 : Int32)), (5, .int ((ai σ (gr σ 263 x0) (((16 : Int32) * x1) + x4).toNatClampNeg) / (4 : Int32))), (0, vr x0), (1, .int x1), (3, .int x3), (4, .int x4)]) hx hb dX6_rowOf_33 hl (by decide) (cI (cR (cI (cI (cI cN))))) rfl (fun ls hl => ?_)
    refine lv_iconst (v := (0 : Int32)) hx hb dX6_rowOf_35 (by decide) ?_
    refine x_istore (lv' := [(7, .int (0 : Int32)), (6, .int (1 : Int32)), (5, .int ((ai σ (gr σ 263 x0) (((16 : Int32) * x1) + x4).toNatClampNeg) / (4 : Int32))), (0, vr x0), (1, .int x1), (3, .int x3), (4, .int x4)]) hx hb dX6_rowOf_36 hl (by decide) (cI (cI (cR (cI (cI (cI cN)))))) rfl (fun ls hl => ?_)
    exact wl_X6_rowOf_38 cx mk5 hk5 NF x0 x1 x3 x4 ((ai σ (gr σ 263 x0) (((16 : Int32) * x1) + x4).toNatClampNeg) / (4 : Int32)) (1 : Int32) (0 : Int32) σ _ _ _ h g (lv_sub hl [3, 4, 5, 6, 2, 1, 0] rfl) hF
def L_X6_rowOf_5  : Nat → Nat → Int32 → Int32 → Int32 → HS → Option (Int32 × HS)
  | 0, _, _, _, _, _ => none
  | N + 1, x0, x1, x3, x4, σ => B_X6_rowOf_5 (L_X6_rowOf_5  N) x0 x1 x3 x4 σ
theorem mo_L_X6_rowOf_5  : ∀ (N : Nat) (x0 : Nat) (x1 : Int32) (x3 : Int32) (x4 : Int32) (σ : HS), Mo σ (L_X6_rowOf_5  N x0 x1 x3 x4 σ) := by
  intro N
  induction N with
  | zero => intro x0 x1 x3 x4 σ; exact mo_none
  | succ N ih => intro x0 x1 x3 x4 σ; exact mo_B_X6_rowOf_5 ih x0 x1 x3 x4 σ
theorem wl_X6_rowOf_5 {p : Program} {l : Launch} {e : Env} {s : State} {m : MethodId} {args : Array Value} {below : List Frame} {meth : Method} {c : Code} {D : va_G} {dA : Nat → ClassId} {base : Nat} {σ0 τ : HS} {r : Int32} (cx : CX p s m args meth c cX6_rowOf 8 (some .int) RX6 "rowOf" D dA base)  : ∀ (N : Nat) (x0 : Nat) (x1 : Int32) (x3 : Int32) (x4 : Int32) (σ : HS) (H : Heap) (locs : List Loc) (ls : Array Slot), Wd D dA base σ s H locs → LE σ0 σ → lv_has ls 8 [(0, vr x0), (1, .int x1), (3, .int x3), (4, .int x4)] → L_X6_rowOf_5  N x0 x1 x3 x4 σ = some (r, τ) → WG p l e s m args below meth c D dA base 0 0 (some (.int r)) σ0 τ σ H locs 5 ls [] := by
  intro N
  induction N with
  | zero => intro x0 x1 x3 x4 σ H locs ls h g hl hF; cases hF
  | succ N ih => intro x0 x1 x3 x4 σ H locs ls h g hl hF; exact w_X6_rowOf_5 cx (mo_L_X6_rowOf_5  N) ih x0 x1 x3 x4 h g hl hF
def F_X6_rowOf (a0 : Nat) (a1 : Int32) (a2 : Int32) (σ : HS) : Option (Int32 × HS) :=
  L_X6_rowOf_5  NF a0 a1 a2 (0 : Int32) σ
theorem mo_F_X6_rowOf (a0 : Nat) (a1 : Int32) (a2 : Int32) (σ : HS) : Mo σ (F_X6_rowOf a0 a1 a2 σ) := by
  unfold F_X6_rowOf
  exact (mo_L_X6_rowOf_5  NF a0 a1 a2 (0 : Int32) _)
set_option maxHeartbeats 4000000 in
set_option maxRecDepth 100000 in
theorem c_X6_rowOf (l : Launch) (D : va_G) (dA : Nat → ClassId) (base : Nat) (a0 : Nat) (a1 : Int32) (a2 : Int32) {σ τ : HS} {r : Int32} (hF : F_X6_rowOf a0 a1 a2 σ = some (r, τ)) : CT l yX6_rowOf cX6_rowOf 8 (some .int) 0 0 D dA base [vr a0, .int a1, .int a2] (some (.int r)) σ τ := by
  refine CT.of (lv := [(0, vr a0), (1, .int a1), (2, .int a2)]) (by decide) (vR (vI (vI vN))) (Nat.le_of_ble_eq_true rfl) rfl ?_
  intro p e s m args below meth c ls cx hl h
  have cx : CX p s m args meth c cX6_rowOf 8 (some .int) RX6 "rowOf" D dA base := cx
  have g : LE σ σ := LE.rf
  obtain ⟨hx, hb, -⟩ := id cx
  unfold F_X6_rowOf at hF
  refine lv_iload_n hx hb dX6_rowOf_0 rfl (lv_at hl 2 rfl) ?_
  refine x_istore_n (lv' := [(3, .int a2), (0, vr a0), (1, .int a1), (2, .int a2)]) hx hb dX6_rowOf_1 rfl hl (by decide) (cR (cI (cI cN))) rfl (fun ls hl => ?_)
  refine lv_iconst (v := (0 : Int32)) hx hb dX6_rowOf_2 (by decide) ?_
  refine x_istore (lv' := [(4, .int (0 : Int32)), (3, .int a2), (0, vr a0), (1, .int a1), (2, .int a2)]) hx hb dX6_rowOf_3 hl (by decide) (cI (cR (cI (cI cN)))) rfl (fun ls hl => ?_)
  exact wl_X6_rowOf_5 cx   NF a0 a1 a2 (0 : Int32) σ _ _ _ h g (lv_sub hl [2, 3, 1, 0] rfl) hF
def F_X6_undoing (a0 : Nat) (a1 : Int32) (σ : HS) : Option (Int32 × HS) :=
  if kd σ a0 = 7 then (if kd σ (gr σ 259 a0) = 100 ∧ inb a1 (ln σ (gr σ 259 a0)) then (some ((4 : Int32), (sai σ (gr σ 259 a0) a1.toNatClampNeg (4 : Int32)))) else none) else none
theorem mo_F_X6_undoing (a0 : Nat) (a1 : Int32) (σ : HS) : Mo σ (F_X6_undoing a0 a1 σ) := by
  unfold F_X6_undoing
  exact (mo_ite (mo_ite (mo_le (τ := (sai σ (gr σ 259 a0) a1.toNatClampNeg (4 : Int32))) ⟨Nat.le_refl _, Nat.le_refl _⟩ mo_ret) mo_none) mo_none)
set_option maxHeartbeats 4000000 in
set_option maxRecDepth 100000 in
theorem c_X6_undoing (l : Launch) (D : va_G) (dA : Nat → ClassId) (base : Nat) (a0 : Nat) (a1 : Int32) {σ τ : HS} {r : Int32} (hF : F_X6_undoing a0 a1 σ = some (r, τ)) : CT l yX6_undoing cX6_undoing 2 (some .int) 0 0 D dA base [vr a0, .int a1] (some (.int r)) σ τ := by
  refine CT.of (lv := [(0, vr a0), (1, .int a1)]) (by decide) (vR (vI vN)) (Nat.le_of_ble_eq_true rfl) rfl ?_
  intro p e s m args below meth c ls cx hl h
  have cx : CX p s m args meth c cX6_undoing 2 (some .int) RX6 "undoing" D dA base := cx
  have g : LE σ σ := LE.rf
  obtain ⟨hx, hb, -⟩ := id cx
  unfold F_X6_undoing at hF
  refine x_aload_n hx hb dX6_undoing_0 rfl (lv_at hl 0 rfl) ?_
  obtain ⟨hq1, hF⟩ := ifs hF
  refine x_getr cx h fa_X6_48 (f := 259) rfl hq1 dX6_undoing_1 ?_
  refine lv_iload_n hx hb dX6_undoing_4 rfl (lv_at hl 1 rfl) ?_
  refine lv_iconst (v := (4 : Int32)) hx hb dX6_undoing_5 (by decide) ?_
  obtain ⟨hq2, hF⟩ := ifs hF
  refine x_iast cx h hq2.1 (inb.vp hq2.2) dX6_undoing_6 (fun H locs h => ?_)
  refine lv_iconst (v := (4 : Int32)) hx hb dX6_undoing_7 (by decide) ?_
  obtain ⟨rfl, rfl⟩ := rts hF
  exact x_iret cx h dX6_undoing_8
def B_X6_settleRow_61 (k5 : Nat → Int32 → Int32 → Int32 → Int32 → HS → Option (Unit × HS)) (x0 : Nat) (x1 : Int32) (x2 : Int32) (x3 : Int32) (x4 : Int32) (σ : HS) : Option (Unit × HS) :=
  k5 x0 x1 x2 x3 (x4 + (1 : Int32)) σ
theorem mo_B_X6_settleRow_61 {k5 : Nat → Int32 → Int32 → Int32 → Int32 → HS → Option (Unit × HS)} (mk5 : ∀ x0 x1 x2 x3 x4 σ, Mo σ (k5 x0 x1 x2 x3 x4 σ)) (x0 : Nat) (x1 : Int32) (x2 : Int32) (x3 : Int32) (x4 : Int32) (σ : HS) : Mo σ (B_X6_settleRow_61 k5 x0 x1 x2 x3 x4 σ) := by
  unfold B_X6_settleRow_61
  exact (mk5 x0 x1 x2 x3 (x4 + (1 : Int32)) _)
set_option maxHeartbeats 4000000 in
set_option maxRecDepth 100000 in
theorem w_X6_settleRow_61 {p : Program} {l : Launch} {e : Env} {s : State} {m : MethodId} {args : Array Value} {below : List Frame} {meth : Method} {c : Code} {D : va_G} {dA : Nat → ClassId} {base : Nat} {σ0 τ : HS} {r : Unit} (cx : CX p s m args meth c cX6_settleRow 5 none RX6 "settleRow" D dA base) {k5 : Nat → Int32 → Int32 → Int32 → Int32 → HS → Option (Unit × HS)} (mk5 : ∀ x0 x1 x2 x3 x4 σ, Mo σ (k5 x0 x1 x2 x3 x4 σ)) (hk5 : ∀ x0 x1 x2 x3 x4 σ H locs ls, Wd D dA base σ s H locs → LE σ0 σ → lv_has ls 5 [(0, vr x0), (1, .int x1), (2, .int x2), (3, .int x3), (4, .int x4)] → k5 x0 x1 x2 x3 x4 σ = some (r, τ) → WG p l e s m args below meth c D dA base 1 24 none σ0 τ σ H locs 5 ls []) (x0 : Nat) (x1 : Int32) (x2 : Int32) (x3 : Int32) (x4 : Int32) {σ : HS} {H : Heap} {locs : List Loc} {ls : Array Slot} (h : Wd D dA base σ s H locs) (g : LE σ0 σ) (hl : lv_has ls 5 [(0, vr x0), (1, .int x1), (2, .int x2), (3, .int x3), (4, .int x4)]) (hF : B_X6_settleRow_61 k5 x0 x1 x2 x3 x4 σ = some (r, τ)) : WG p l e s m args below meth c D dA base 1 24 none σ0 τ σ H locs 61 ls [] := by
  obtain ⟨hx, hb, -⟩ := id cx
  unfold B_X6_settleRow_61 at hF
  refine x_iinc (k := 4) (v := (1 : Int32)) (lv' := [(4, .int (x4 + (1 : Int32))), (0, vr x0), (1, .int x1), (2, .int x2), (3, .int x3)]) hx hb dX6_settleRow_61 hl rfl (by decide) (by decide) (cR (cI (cI (cI (cI cN))))) rfl (fun ls hl => ?_)
  refine lv_goto (tgt := 5) hx hb dX6_settleRow_64 (by decide) ?_
  exact hk5 x0 x1 x2 x3 (x4 + (1 : Int32)) σ _ _ _ h g (lv_sub hl [1, 2, 3, 4, 0] rfl) hF
def B_X6_settleRow_5 (k5 : Nat → Int32 → Int32 → Int32 → Int32 → HS → Option (Unit × HS)) (x0 : Nat) (x1 : Int32) (x2 : Int32) (x3 : Int32) (x4 : Int32) (σ : HS) : Option (Unit × HS) :=
  if (((4 : Int32) * x2) + (4 : Int32)) ≤ x4 then (some ((), σ)) else (if kd σ x0 = 7 then (bd (F_X6_ownAt x0 x1 x4 σ) (fun r3 σ3 => if r3 < 0 then (B_X6_settleRow_61 k5 x0 x1 x2 x3 x4 σ3) else (if kd σ3 x0 = 7 then (if kd σ3 (gr σ3 256 x0) = 100 ∧ inb x4 (ln σ3 (gr σ3 256 x0)) then (if kd σ3 (gr σ3 260 x0) = 100 ∧ inb x1 (ln σ3 (gr σ3 260 x0)) then (if (ai σ3 (gr σ3 256 x0) x4.toNatClampNeg) = (ai σ3 (gr σ3 260 x0) x1.toNatClampNeg) then (bd (F_X6_addWrite x0 x4 x3 (ai σ3 (gr σ3 260 x0) x1.toNatClampNeg) (0 : Int32) σ3) (fun r9 σ9 => if kd σ9 x0 = 7 then (bd (F_X6_dropLock x0 x4 σ9) (fun r11 σ11 => B_X6_settleRow_61 k5 x0 x1 x2 x3 x4 σ11)) else none)) else (B_X6_settleRow_61 k5 x0 x1 x2 x3 x4 σ3)) else none) else none) else none))) else none)
theorem mo_B_X6_settleRow_5 {k5 : Nat → Int32 → Int32 → Int32 → Int32 → HS → Option (Unit × HS)} (mk5 : ∀ x0 x1 x2 x3 x4 σ, Mo σ (k5 x0 x1 x2 x3 x4 σ)) (x0 : Nat) (x1 : Int32) (x2 : Int32) (x3 : Int32) (x4 : Int32) (σ : HS) : Mo σ (B_X6_settleRow_5 k5 x0 x1 x2 x3 x4 σ) := by
  unfold B_X6_settleRow_5
  exact (mo_ite mo_ret (mo_ite (mo_bd (mo_F_X6_ownAt x0 x1 x4 _) (fun r3 σ3 => (mo_ite (mo_B_X6_settleRow_61 mk5 x0 x1 x2 x3 x4 _) (mo_ite (mo_ite (mo_ite (mo_ite (mo_bd (mo_F_X6_addWrite x0 x4 x3 (ai σ3 (gr σ3 260 x0) x1.toNatClampNeg) (0 : Int32) _) (fun r9 σ9 => (mo_ite (mo_bd (mo_F_X6_dropLock x0 x4 _) (fun r11 σ11 => (mo_B_X6_settleRow_61 mk5 x0 x1 x2 x3 x4 _))) mo_none))) (mo_B_X6_settleRow_61 mk5 x0 x1 x2 x3 x4 _)) mo_none) mo_none) mo_none)))) mo_none))
set_option maxHeartbeats 4000000 in
set_option maxRecDepth 100000 in
theorem w_X6_settleRow_5 {p : Program} {l : Launch} {e : Env} {s : State} {m : MethodId} {args : Array Value} {below : List Frame} {meth : Method} {c : Code} {D : va_G} {dA : Nat → ClassId} {base : Nat} {σ0 τ : HS} {r : Unit} (cx : CX p s m args meth c cX6_settleRow 5 none RX6 "settleRow" D dA base) {k5 : Nat → Int32 → Int32 → Int32 → Int32 → HS → Option (Unit × HS)} (mk5 : ∀ x0 x1 x2 x3 x4 σ, Mo σ (k5 x0 x1 x2 x3 x4 σ)) (hk5 : ∀ x0 x1 x2 x3 x4 σ H locs ls, Wd D dA base σ s H locs → LE σ0 σ → lv_has ls 5 [(0, vr x0), (1, .int x1), (2, .int x2), (3, .int x3), (4, .int x4)] → k5 x0 x1 x2 x3 x4 σ = some (r, τ) → WG p l e s m args below meth c D dA base 1 24 none σ0 τ σ H locs 5 ls []) (x0 : Nat) (x1 : Int32) (x2 : Int32) (x3 : Int32) (x4 : Int32) {σ : HS} {H : Heap} {locs : List Loc} {ls : Array Slot} (h : Wd D dA base σ s H locs) (g : LE σ0 σ) (hl : lv_has ls 5 [(0, vr x0), (1, .int x1), (2, .int x2), (3, .int x3), (4, .int x4)]) (hF : B_X6_settleRow_5 k5 x0 x1 x2 x3 x4 σ = some (r, τ)) : WG p l e s m args below meth c D dA base 1 24 none σ0 τ σ H locs 5 ls [] := by
  obtain ⟨hx, hb, -⟩ := id cx
  unfold B_X6_settleRow_5 at hF
  refine lv_iload hx hb dX6_settleRow_5 (lv_at hl 4 rfl) ?_
  refine lv_iconst (v := (4 : Int32)) hx hb dX6_settleRow_7 (by decide) ?_
  refine lv_iload_n hx hb dX6_settleRow_8 rfl (lv_at hl 2 rfl) ?_
  refine lv_imul hx hb dX6_settleRow_9 ?_
  refine lv_iconst (v := (4 : Int32)) hx hb dX6_settleRow_10 (by decide) ?_
  refine lv_iadd hx hb dX6_settleRow_11 ?_
  refine lv_icmp_ge (tgt := 67) hx hb dX6_settleRow_12 (by decide) (fun c1 => ?_) (fun c1 => ?_)
  · replace hF := ifp c1 hF
    obtain ⟨rfl, rfl⟩ := rts hF
    exact x_vret cx h dX6_settleRow_67
  · replace hF := ifn c1 hF
    refine x_aload_n hx hb dX6_settleRow_15 rfl (lv_at hl 0 rfl) ?_
    refine lv_iload_n hx hb dX6_settleRow_16 rfl (lv_at hl 1 rfl) ?_
    refine lv_iload hx hb dX6_settleRow_17 (lv_at hl 4 rfl) ?_
    obtain ⟨hq2, hF⟩ := ifs hF
    obtain ⟨r3, σ3, hc3, hF⟩ := bds hF
    refine x_calli (σ := σ) g (LEm hc3 (mo_F_X6_ownAt x0 x1 x4 _)) (x_runV (As := [.int x1, .int x4]) (rest := []) cx h (c_X6_ownAt l D dA base x0 x1 x4 hc3) ml_X6_121 mi_X6_ownAt hq2 rfl ⟨Nat.le_of_ble_eq_true rfl, Nat.le_of_ble_eq_true rfl⟩ hl.1 rfl (s8 sN (by decide)) dX6_settleRow_19 (le_room g (LEm hc3 (mo_F_X6_ownAt x0 x1 x4 _)) (LEm hF (mo_ite (mo_B_X6_settleRow_61 mk5 x0 x1 x2 x3 x4 _) (mo_ite (mo_ite (mo_ite (mo_ite (mo_bd (mo_F_X6_addWrite x0 x4 x3 (ai σ3 (gr σ3 260 x0) x1.toNatClampNeg) (0 : Int32) _) (fun r9 σ9 => (mo_ite (mo_bd (mo_F_X6_dropLock x0 x4 _) (fun r11 σ11 => (mo_B_X6_settleRow_61 mk5 x0 x1 x2 x3 x4 _))) mo_none))) (mo_B_X6_settleRow_61 mk5 x0 x1 x2 x3 x4 _)) mo_none) mo_none) mo_none))))) h (fun H locs h g => ?_)
    refine lv_if_lt (tgt := 61) hx hb dX6_settleRow_22 (by decide) (fun c4 => ?_) (fun c4 => ?_)
    · replace hF := ifp c4 hF
      exact w_X6_settleRow_61 (σ := σ3) cx mk5 hk5 x0 x1 x2 x3 x4 h g (lv_sub hl [0, 1, 2, 3, 4] rfl) hF
    · replace hF := ifn c4 hF
      refine x_aload_n hx hb dX6_settleRow_25 rfl (lv_at hl 0 rfl) ?_
      obtain ⟨hq5, hF⟩ := ifs hF
      refine x_getr cx h fa_X6_39 (f := 256) rfl hq5 dX6_settleRow_26 ?_
      refine lv_iload hx hb dX6_settleRow_29 (lv_at hl 4 rfl) ?_
      obtain ⟨hq6, hF⟩ := ifs hF
      refine x_iald cx h hq6.1 (inb.vp hq6.2) dX6_settleRow_31 ?_
      refine x_aload_n hx hb dX6_settleRow_32 rfl (lv_at hl 0 rfl) ?_
      refine x_getr cx h fa_X6_51 (f := 260) rfl hq5 dX6_settleRow_33 ?_
      refine lv_iload_n hx hb dX6_settleRow_36 rfl (lv_at hl 1 rfl) ?_
      obtain ⟨hq7, hF⟩ := ifs hF
      refine x_iald cx h hq7.1 (inb.vp hq7.2) dX6_settleRow_37 ?_
      refine lv_icmp_ne (tgt := 61) hx hb dX6_settleRow_38 (by decide) (fun c8 => ?_) (fun c8 => ?_)
      · replace hF := ifn c8 hF
        exact w_X6_settleRow_61 (σ := σ3) cx mk5 hk5 x0 x1 x2 x3 x4 h g (lv_sub hl [0, 1, 2, 3, 4] rfl) hF
      · replace hF := ifp c8 hF
        refine x_aload_n hx hb dX6_settleRow_41 rfl (lv_at hl 0 rfl) ?_
        refine lv_iload hx hb dX6_settleRow_42 (lv_at hl 4 rfl) ?_
        refine lv_iload_n hx hb dX6_settleRow_44 rfl (lv_at hl 3 rfl) ?_
        refine x_aload_n hx hb dX6_settleRow_45 rfl (lv_at hl 0 rfl) ?_
        refine x_getr cx h fa_X6_51 (f := 260) rfl hq5 dX6_settleRow_46 ?_
        refine lv_iload_n hx hb dX6_settleRow_49 rfl (lv_at hl 1 rfl) ?_
        refine x_iald cx h hq7.1 (inb.vp hq7.2) dX6_settleRow_50 ?_
        refine lv_iconst (v := (0 : Int32)) hx hb dX6_settleRow_51 (by decide) ?_
        obtain ⟨r9, σ9, hc9, hF⟩ := bds hF
        refine x_callv (σ := σ3) g (LEm hc9 (mo_F_X6_addWrite x0 x4 x3 (ai σ3 (gr σ3 260 x0) x1.toNatClampNeg) (0 : Int32) _)) (x_runV (As := [.int x4, .int x3, .int (ai σ3 (gr σ3 260 x0) x1.toNatClampNeg), .int (0 : Int32)]) (rest := []) cx h (c_X6_addWrite l D dA base x0 x4 x3 (ai σ3 (gr σ3 260 x0) x1.toNatClampNeg) (0 : Int32) hc9) ml_X6_117 mi_X6_addWrite hq5 rfl ⟨Nat.le_of_ble_eq_true rfl, Nat.le_of_ble_eq_true rfl⟩ hl.1 rfl (s8 sN (by decide)) dX6_settleRow_52 (le_room g (LEm hc9 (mo_F_X6_addWrite x0 x4 x3 (ai σ3 (gr σ3 260 x0) x1.toNatClampNeg) (0 : Int32) _)) (LEm hF (mo_ite (mo_bd (mo_F_X6_dropLock x0 x4 _) (fun r11 σ11 => (mo_B_X6_settleRow_61 mk5 x0 x1 x2 x3 x4 _))) mo_none)))) h (fun H locs h g => ?_)
        refine x_aload_n hx hb dX6_settleRow_55 rfl (lv_at hl 0 rfl) ?_
        refine lv_iload hx hb dX6_settleRow_56 (lv_at hl 4 rfl) ?_
        obtain ⟨hq10, hF⟩ := ifs hF
        obtain ⟨r11, σ11, hc11, hF⟩ := bds hF
        refine x_callv (σ := σ9) g (LEm hc11 (mo_F_X6_dropLock x0 x4 _)) (x_runV (As := [.int x4]) (rest := []) cx h (c_X6_dropLock l D dA base x0 x4 hc11) ml_X6_109 mi_X6_dropLock hq10 rfl ⟨Nat.le_of_ble_eq_true rfl, Nat.le_of_ble_eq_true rfl⟩ hl.1 rfl (s8 sN (by decide)) dX6_settleRow_58 (le_room g (LEm hc11 (mo_F_X6_dropLock x0 x4 _)) (LEm hF (mo_B_X6_settleRow_61 mk5 x0 x1 x2 x3 x4 _)))) h (fun H locs h g => ?_)
        exact w_X6_settleRow_61 (σ := σ11) cx mk5 hk5 x0 x1 x2 x3 x4 h g (lv_sub hl [0, 1, 2, 3, 4] rfl) hF
def L_X6_settleRow_5  : Nat → Nat → Int32 → Int32 → Int32 → Int32 → HS → Option (Unit × HS)
  | 0, _, _, _, _, _, _ => none
  | N + 1, x0, x1, x2, x3, x4, σ => B_X6_settleRow_5 (L_X6_settleRow_5  N) x0 x1 x2 x3 x4 σ
theorem mo_L_X6_settleRow_5  : ∀ (N : Nat) (x0 : Nat) (x1 : Int32) (x2 : Int32) (x3 : Int32) (x4 : Int32) (σ : HS), Mo σ (L_X6_settleRow_5  N x0 x1 x2 x3 x4 σ) := by
  intro N
  induction N with
  | zero => intro x0 x1 x2 x3 x4 σ; exact mo_none
  | succ N ih => intro x0 x1 x2 x3 x4 σ; exact mo_B_X6_settleRow_5 ih x0 x1 x2 x3 x4 σ
theorem wl_X6_settleRow_5 {p : Program} {l : Launch} {e : Env} {s : State} {m : MethodId} {args : Array Value} {below : List Frame} {meth : Method} {c : Code} {D : va_G} {dA : Nat → ClassId} {base : Nat} {σ0 τ : HS} {r : Unit} (cx : CX p s m args meth c cX6_settleRow 5 none RX6 "settleRow" D dA base)  : ∀ (N : Nat) (x0 : Nat) (x1 : Int32) (x2 : Int32) (x3 : Int32) (x4 : Int32) (σ : HS) (H : Heap) (locs : List Loc) (ls : Array Slot), Wd D dA base σ s H locs → LE σ0 σ → lv_has ls 5 [(0, vr x0), (1, .int x1), (2, .int x2), (3, .int x3), (4, .int x4)] → L_X6_settleRow_5  N x0 x1 x2 x3 x4 σ = some (r, τ) → WG p l e s m args below meth c D dA base 1 24 none σ0 τ σ H locs 5 ls [] := by
  intro N
  induction N with
  | zero => intro x0 x1 x2 x3 x4 σ H locs ls h g hl hF; cases hF
  | succ N ih => intro x0 x1 x2 x3 x4 σ H locs ls h g hl hF; exact w_X6_settleRow_5 cx (mo_L_X6_settleRow_5  N) ih x0 x1 x2 x3 x4 h g hl hF
def F_X6_settleRow (a0 : Nat) (a1 : Int32) (a2 : Int32) (a3 : Int32) (σ : HS) : Option (Unit × HS) :=
  L_X6_settleRow_5  NF a0 a1 a2 a3 ((4 : Int32) * a2) σ
theorem mo_F_X6_settleRow (a0 : Nat) (a1 : Int32) (a2 : Int32) (a3 : Int32) (σ : HS) : Mo σ (F_X6_settleRow a0 a1 a2 a3 σ) := by
  unfold F_X6_settleRow
  exact (mo_L_X6_settleRow_5  NF a0 a1 a2 a3 ((4 : Int32) * a2) _)
set_option maxHeartbeats 4000000 in
set_option maxRecDepth 100000 in
theorem c_X6_settleRow (l : Launch) (D : va_G) (dA : Nat → ClassId) (base : Nat) (a0 : Nat) (a1 : Int32) (a2 : Int32) (a3 : Int32) {σ τ : HS} {r : Unit} (hF : F_X6_settleRow a0 a1 a2 a3 σ = some (r, τ)) : CT l yX6_settleRow cX6_settleRow 5 none 1 24 D dA base [vr a0, .int a1, .int a2, .int a3] none σ τ := by
  refine CT.of (lv := [(0, vr a0), (1, .int a1), (2, .int a2), (3, .int a3)]) (by decide) (vR (vI (vI (vI vN)))) (Nat.le_of_ble_eq_true rfl) rfl ?_
  intro p e s m args below meth c ls cx hl h
  have cx : CX p s m args meth c cX6_settleRow 5 none RX6 "settleRow" D dA base := cx
  have g : LE σ σ := LE.rf
  obtain ⟨hx, hb, -⟩ := id cx
  unfold F_X6_settleRow at hF
  refine lv_iconst (v := (4 : Int32)) hx hb dX6_settleRow_0 (by decide) ?_
  refine lv_iload_n hx hb dX6_settleRow_1 rfl (lv_at hl 2 rfl) ?_
  refine lv_imul hx hb dX6_settleRow_2 ?_
  refine x_istore (lv' := [(4, .int ((4 : Int32) * a2)), (0, vr a0), (1, .int a1), (2, .int a2), (3, .int a3)]) hx hb dX6_settleRow_3 hl (by decide) (cR (cI (cI (cI cN)))) rfl (fun ls hl => ?_)
  exact wl_X6_settleRow_5 cx   NF a0 a1 a2 a3 ((4 : Int32) * a2) σ _ _ _ h g (lv_sub hl [1, 2, 3, 4, 0] rfl) hF
def B_X6_decide_88  (y0 : Nat) (y1 : Int32) (y2 : Int32) (σ : HS) : Option (Int32 × HS) :=
  if kd σ y0 = 100 ∧ inb y1 (ln σ y0) then (some ((2 : Int32), (sai σ y0 y1.toNatClampNeg y2))) else none
theorem mo_B_X6_decide_88  (y0 : Nat) (y1 : Int32) (y2 : Int32) (σ : HS) : Mo σ (B_X6_decide_88  y0 y1 y2 σ) := by
  unfold B_X6_decide_88
  exact (mo_ite (mo_le (τ := (sai σ y0 y1.toNatClampNeg y2)) ⟨Nat.le_refl _, Nat.le_refl _⟩ mo_ret) mo_none)
set_option maxHeartbeats 4000000 in
set_option maxRecDepth 100000 in
theorem w_X6_decide_88 {p : Program} {l : Launch} {e : Env} {s : State} {m : MethodId} {args : Array Value} {below : List Frame} {meth : Method} {c : Code} {D : va_G} {dA : Nat → ClassId} {base : Nat} {σ0 τ : HS} {r : Int32} (cx : CX p s m args meth c cX6_decide 4 (some .int) RX6 "decide" D dA base)  (y0 : Nat) (y1 : Int32) (y2 : Int32) {σ : HS} {H : Heap} {locs : List Loc} {ls : Array Slot} (h : Wd D dA base σ s H locs) (g : LE σ0 σ) (hl : lv_has ls 4 []) (hF : B_X6_decide_88  y0 y1 y2 σ = some (r, τ)) : WG p l e s m args below meth c D dA base 2 48 (some (.int r)) σ0 τ σ H locs 88 ls [.int y2, .int y1, vr y0] := by
  obtain ⟨hx, hb, -⟩ := id cx
  unfold B_X6_decide_88 at hF
  obtain ⟨hq1, hF⟩ := ifs hF
  refine x_iast cx h hq1.1 (inb.vp hq1.2) dX6_decide_88 (fun H locs h => ?_)
  refine lv_iconst (v := (2 : Int32)) hx hb dX6_decide_89 (by decide) ?_
  obtain ⟨rfl, rfl⟩ := rts hF
  exact x_iret cx h dX6_decide_90
def F_X6_decide (a0 : Nat) (a1 : Int32) (σ : HS) : Option (Int32 × HS) :=
  if kd σ a0 = 7 then (bd (F_X6_give a0 σ) (fun r2 σ2 => if kd σ2 a0 = 7 then (if kd σ2 (gr σ2 263 a0) = 100 ∧ inb ((16 : Int32) * a1) (ln σ2 (gr σ2 263 a0)) then (if kd σ2 (gr σ2 256 a0) = 100 ∧ inb (ai σ2 (gr σ2 263 a0) ((16 : Int32) * a1).toNatClampNeg) (ln σ2 (gr σ2 256 a0)) then (if kd σ2 (gr σ2 260 a0) = 100 ∧ inb a1 (ln σ2 (gr σ2 260 a0)) then (if (ai σ2 (gr σ2 256 a0) (ai σ2 (gr σ2 263 a0) ((16 : Int32) * a1).toNatClampNeg).toNatClampNeg) = (ai σ2 (gr σ2 260 a0) a1.toNatClampNeg) then (bd (F_X6_settleRow a0 a1 ((ai σ2 (gr σ2 263 a0) ((16 : Int32) * a1).toNatClampNeg) / (4 : Int32)) r2 σ2) (fun r8 σ8 => if kd σ8 a0 = 7 then (if kd σ8 (gr σ8 266 a0) = 100 ∧ inb a1 (ln σ8 (gr σ8 266 a0)) then (lt1 (si (sai σ8 (gr σ8 266 a0) a1.toNatClampNeg r2) 270 a0 ((gi (sai σ8 (gr σ8 266 a0) a1.toNatClampNeg r2) 270 a0) + (1 : Int32))) (fun σ11 => if kd σ11 (gr σ11 265 a0) = 100 ∧ inb a1 (ln σ11 (gr σ11 265 a0)) then (bd (F_X6_rowOf a0 a1 (1 : Int32) (sai σ11 (gr σ11 265 a0) a1.toNatClampNeg (1 : Int32))) (fun r13 σ13 => if 0 ≤ r13 then (B_X6_decide_88  (gr (sai σ11 (gr σ11 265 a0) a1.toNatClampNeg (1 : Int32)) 259 a0) a1 (3 : Int32) σ13) else (B_X6_decide_88  (gr (sai σ11 (gr σ11 265 a0) a1.toNatClampNeg (1 : Int32)) 259 a0) a1 (0 : Int32) σ13))) else none)) else none) else none)) else (bd (F_X6_undoing a0 a1 σ2) (fun r15 σ15 => some (r15, σ15)))) else none) else none) else none) else none)) else none
theorem mo_F_X6_decide (a0 : Nat) (a1 : Int32) (σ : HS) : Mo σ (F_X6_decide a0 a1 σ) := by
  unfold F_X6_decide
  exact (mo_ite (mo_bd (mo_F_X6_give a0 _) (fun r2 σ2 => (mo_ite (mo_ite (mo_ite (mo_ite (mo_ite (mo_bd (mo_F_X6_settleRow a0 a1 ((ai σ2 (gr σ2 263 a0) ((16 : Int32) * a1).toNatClampNeg) / (4 : Int32)) r2 _) (fun r8 σ8 => (mo_ite (mo_ite (mo_lt ⟨Nat.le_refl _, Nat.le_refl _⟩ (fun σ11 => (mo_ite (mo_le (τ := (sai σ11 (gr σ11 265 a0) a1.toNatClampNeg (1 : Int32))) ⟨Nat.le_refl _, Nat.le_refl _⟩ (mo_bd (mo_F_X6_rowOf a0 a1 (1 : Int32) _) (fun r13 σ13 => (mo_ite (mo_B_X6_decide_88  (gr (sai σ11 (gr σ11 265 a0) a1.toNatClampNeg (1 : Int32)) 259 a0) a1 (3 : Int32) _) (mo_B_X6_decide_88  (gr (sai σ11 (gr σ11 265 a0) a1.toNatClampNeg (1 : Int32)) 259 a0) a1 (0 : Int32) _))))) mo_none))) mo_none) mo_none))) (mo_bd (mo_F_X6_undoing a0 a1 _) (fun r15 σ15 => mo_ret))) mo_none) mo_none) mo_none) mo_none))) mo_none)
set_option maxHeartbeats 4000000 in
set_option maxRecDepth 100000 in
theorem c_X6_decide (l : Launch) (D : va_G) (dA : Nat → ClassId) (base : Nat) (a0 : Nat) (a1 : Int32) {σ τ : HS} {r : Int32} (hF : F_X6_decide a0 a1 σ = some (r, τ)) : CT l yX6_decide cX6_decide 4 (some .int) 2 48 D dA base [vr a0, .int a1] (some (.int r)) σ τ := by
  refine CT.of (lv := [(0, vr a0), (1, .int a1)]) (by decide) (vR (vI vN)) (Nat.le_of_ble_eq_true rfl) rfl ?_
  intro p e s m args below meth c ls cx hl h
  have cx : CX p s m args meth c cX6_decide 4 (some .int) RX6 "decide" D dA base := cx
  have g : LE σ σ := LE.rf
  obtain ⟨hx, hb, -⟩ := id cx
  unfold F_X6_decide at hF
  refine x_aload_n hx hb dX6_decide_0 rfl (lv_at hl 0 rfl) ?_
  obtain ⟨hq1, hF⟩ := ifs hF
  obtain ⟨r2, σ2, hc2, hF⟩ := bds hF
  refine x_calli (σ := σ) g (LEm hc2 (mo_F_X6_give a0 _)) (x_runV (As := []) (rest := []) cx h (c_X6_give l D dA base a0 hc2) ml_X6_141 mi_X6_give hq1 rfl ⟨Nat.le_of_ble_eq_true rfl, Nat.le_of_ble_eq_true rfl⟩ hl.1 rfl (s8 sN (by decide)) dX6_decide_1 (le_room g (LEm hc2 (mo_F_X6_give a0 _)) (LEm hF (mo_ite (mo_ite (mo_ite (mo_ite (mo_ite (mo_bd (mo_F_X6_settleRow a0 a1 ((ai σ2 (gr σ2 263 a0) ((16 : Int32) * a1).toNatClampNeg) / (4 : Int32)) r2 _) (fun r8 σ8 => (mo_ite (mo_ite (mo_lt ⟨Nat.le_refl _, Nat.le_refl _⟩ (fun σ11 => (mo_ite (mo_le (τ := (sai σ11 (gr σ11 265 a0) a1.toNatClampNeg (1 : Int32))) ⟨Nat.le_refl _, Nat.le_refl _⟩ (mo_bd (mo_F_X6_rowOf a0 a1 (1 : Int32) _) (fun r13 σ13 => (mo_ite (mo_B_X6_decide_88  (gr (sai σ11 (gr σ11 265 a0) a1.toNatClampNeg (1 : Int32)) 259 a0) a1 (3 : Int32) _) (mo_B_X6_decide_88  (gr (sai σ11 (gr σ11 265 a0) a1.toNatClampNeg (1 : Int32)) 259 a0) a1 (0 : Int32) _))))) mo_none))) mo_none) mo_none))) (mo_bd (mo_F_X6_undoing a0 a1 _) (fun r15 σ15 => mo_ret))) mo_none) mo_none) mo_none) mo_none)))) h (fun H locs h g => ?_)
  refine x_istore_n (lv' := [(2, .int r2), (0, vr a0), (1, .int a1)]) hx hb dX6_decide_4 rfl hl (by decide) (cR (cI cN)) rfl (fun ls hl => ?_)
  refine x_aload_n hx hb dX6_decide_5 rfl (lv_at hl 1 rfl) ?_
  obtain ⟨hq3, hF⟩ := ifs hF
  refine x_getr cx h fa_X6_60 (f := 263) rfl hq3 dX6_decide_6 ?_
  refine lv_bipush (v := (16 : Int32)) hx hb dX6_decide_9 (by decide) ?_
  refine lv_iload_n hx hb dX6_decide_11 rfl (lv_at hl 2 rfl) ?_
  refine lv_imul hx hb dX6_decide_12 ?_
  obtain ⟨hq4, hF⟩ := ifs hF
  refine x_iald cx h hq4.1 (inb.vp hq4.2) dX6_decide_13 ?_
  refine x_istore_n (lv' := [(3, .int (ai σ2 (gr σ2 263 a0) ((16 : Int32) * a1).toNatClampNeg)), (2, .int r2), (0, vr a0), (1, .int a1)]) hx hb dX6_decide_14 rfl hl (by decide) (cI (cR (cI cN))) rfl (fun ls hl => ?_)
  refine x_aload_n hx hb dX6_decide_15 rfl (lv_at hl 2 rfl) ?_
  refine x_getr cx h fa_X6_39 (f := 256) rfl hq3 dX6_decide_16 ?_
  refine lv_iload_n hx hb dX6_decide_19 rfl (lv_at hl 0 rfl) ?_
  obtain ⟨hq5, hF⟩ := ifs hF
  refine x_iald cx h hq5.1 (inb.vp hq5.2) dX6_decide_20 ?_
  refine x_aload_n hx hb dX6_decide_21 rfl (lv_at hl 2 rfl) ?_
  refine x_getr cx h fa_X6_51 (f := 260) rfl hq3 dX6_decide_22 ?_
  refine lv_iload_n hx hb dX6_decide_25 rfl (lv_at hl 3 rfl) ?_
  obtain ⟨hq6, hF⟩ := ifs hF
  refine x_iald cx h hq6.1 (inb.vp hq6.2) dX6_decide_26 ?_
  refine lv_icmp_eq (tgt := 36) hx hb dX6_decide_27 (by decide) (fun c7 => ?_) (fun c7 => ?_)
  · replace hF := ifp c7 hF
    refine x_aload_n hx hb dX6_decide_36 rfl (lv_at hl 2 rfl) ?_
    refine lv_iload_n hx hb dX6_decide_37 rfl (lv_at hl 3 rfl) ?_
    refine lv_iload_n hx hb dX6_decide_38 rfl (lv_at hl 0 rfl) ?_
    refine lv_iconst (v := (4 : Int32)) hx hb dX6_decide_39 (by decide) ?_
    refine lv_idiv hx hb dX6_decide_40 (by decide) ?_
    refine lv_iload_n hx hb dX6_decide_41 rfl (lv_at hl 1 rfl) ?_
    obtain ⟨r8, σ8, hc8, hF⟩ := bds hF
    refine x_callv (σ := σ2) g (LEm hc8 (mo_F_X6_settleRow a0 a1 ((ai σ2 (gr σ2 263 a0) ((16 : Int32) * a1).toNatClampNeg) / (4 : Int32)) r2 _)) (x_runV (As := [.int a1, .int ((ai σ2 (gr σ2 263 a0) ((16 : Int32) * a1).toNatClampNeg) / (4 : Int32)), .int r2]) (rest := []) cx h (c_X6_settleRow l D dA base a0 a1 ((ai σ2 (gr σ2 263 a0) ((16 : Int32) * a1).toNatClampNeg) / (4 : Int32)) r2 hc8) ml_X6_184 mi_X6_settleRow hq3 rfl ⟨Nat.le_of_ble_eq_true rfl, Nat.le_of_ble_eq_true rfl⟩ hl.1 rfl (s8 sN (by decide)) dX6_decide_42 (le_room g (LEm hc8 (mo_F_X6_settleRow a0 a1 ((ai σ2 (gr σ2 263 a0) ((16 : Int32) * a1).toNatClampNeg) / (4 : Int32)) r2 _)) (LEm hF (mo_ite (mo_ite (mo_lt ⟨Nat.le_refl _, Nat.le_refl _⟩ (fun σ11 => (mo_ite (mo_le (τ := (sai σ11 (gr σ11 265 a0) a1.toNatClampNeg (1 : Int32))) ⟨Nat.le_refl _, Nat.le_refl _⟩ (mo_bd (mo_F_X6_rowOf a0 a1 (1 : Int32) _) (fun r13 σ13 => (mo_ite (mo_B_X6_decide_88  (gr (sai σ11 (gr σ11 265 a0) a1.toNatClampNeg (1 : Int32)) 259 a0) a1 (3 : Int32) _) (mo_B_X6_decide_88  (gr (sai σ11 (gr σ11 265 a0) a1.toNatClampNeg (1 : Int32)) 259 a0) a1 (0 : Int32) _))))) mo_none))) mo_none) mo_none)))) h (fun H locs h g => ?_)
    refine x_aload_n hx hb dX6_decide_45 rfl (lv_at hl 2 rfl) ?_
    obtain ⟨hq9, hF⟩ := ifs hF
    refine x_getr cx h fa_X6_69 (f := 266) rfl hq9 dX6_decide_46 ?_
    refine lv_iload_n hx hb dX6_decide_49 rfl (lv_at hl 3 rfl) ?_
    refine lv_iload_n hx hb dX6_decide_50 rfl (lv_at hl 1 rfl) ?_
    obtain ⟨hq10, hF⟩ := ifs hF
    refine x_iast cx h hq10.1 (inb.vp hq10.2) dX6_decide_51 (fun H locs h => ?_)
    refine x_aload_n hx hb dX6_decide_52 rfl (lv_at hl 2 rfl) ?_
    refine lv_dup hx hb dX6_decide_53 (vr_cat _) ?_
    refine x_geti cx h fa_X6_187 (f := 270) rfl hq9 dX6_decide_54 ?_
    refine lv_iconst (v := (1 : Int32)) hx hb dX6_decide_57 (by decide) ?_
    refine lv_iadd hx hb dX6_decide_58 ?_
    refine x_sti cx h fa_X6_187 (f := 270) rfl (Or.inl rfl) hq9 dX6_decide_59 (fun H locs h => ?_)
    obtain ⟨σ11, e11, hF⟩ := lts hF
    have h := Wd.nm e11 h
    have g := LE.nm e11 g
    refine W.cs (cells' := hs σ11 - hs σ) (slots' := ns σ11 - ns σ) (by rw [e11]; try rfl) (by rw [e11]; try rfl) ?_
    refine x_aload_n hx hb dX6_decide_62 rfl (lv_at hl 2 rfl) ?_
    refine x_getr cx h fa_X6_66 (f := 265) rfl (by rw [e11]; exact hq9) dX6_decide_63 ?_
    refine lv_iload_n hx hb dX6_decide_66 rfl (lv_at hl 3 rfl) ?_
    refine lv_iconst (v := (1 : Int32)) hx hb dX6_decide_67 (by decide) ?_
    obtain ⟨hq12, hF⟩ := ifs hF
    refine x_iast cx h hq12.1 (inb.vp hq12.2) dX6_decide_68 (fun H locs h => ?_)
    refine x_aload_n hx hb dX6_decide_69 rfl (lv_at hl 2 rfl) ?_
    refine x_getr cx h fa_X6_48 (f := 259) rfl (by rw [e11]; exact hq9) dX6_decide_70 ?_
    refine lv_iload_n hx hb dX6_decide_73 rfl (lv_at hl 3 rfl) ?_
    refine x_aload_n hx hb dX6_decide_74 rfl (lv_at hl 2 rfl) ?_
    refine lv_iload_n hx hb dX6_decide_75 rfl (lv_at hl 3 rfl) ?_
    refine lv_iconst (v := (1 : Int32)) hx hb dX6_decide_76 (by decide) ?_
    obtain ⟨r13, σ13, hc13, hF⟩ := bds hF
    refine x_calli (σ := (sai σ11 (gr σ11 265 a0) a1.toNatClampNeg (1 : Int32))) g (LEm hc13 (mo_F_X6_rowOf a0 a1 (1 : Int32) _)) (x_runV (As := [.int a1, .int (1 : Int32)]) (rest := [.int a1, vr (gr (sai σ11 (gr σ11 265 a0) a1.toNatClampNeg (1 : Int32)) 259 a0)]) cx h (c_X6_rowOf l D dA base a0 a1 (1 : Int32) hc13) ml_X6_165 mi_X6_rowOf (by rw [e11]; exact hq9) rfl ⟨Nat.le_of_ble_eq_true rfl, Nat.le_of_ble_eq_true rfl⟩ hl.1 rfl (s8 (sI (sR sN)) (by decide)) dX6_decide_77 (le_room g (LEm hc13 (mo_F_X6_rowOf a0 a1 (1 : Int32) _)) (LEm hF (mo_ite (mo_B_X6_decide_88  (gr (sai σ11 (gr σ11 265 a0) a1.toNatClampNeg (1 : Int32)) 259 a0) a1 (3 : Int32) _) (mo_B_X6_decide_88  (gr (sai σ11 (gr σ11 265 a0) a1.toNatClampNeg (1 : Int32)) 259 a0) a1 (0 : Int32) _))))) h (fun H locs h g => ?_)
    refine lv_if_ge (tgt := 87) hx hb dX6_decide_80 (by decide) (fun c14 => ?_) (fun c14 => ?_)
    · replace hF := ifp c14 hF
      refine lv_iconst (v := (3 : Int32)) hx hb dX6_decide_87 (by decide) ?_
      exact w_X6_decide_88 (σ := σ13) cx   (gr (sai σ11 (gr σ11 265 a0) a1.toNatClampNeg (1 : Int32)) 259 a0) a1 (3 : Int32) h g (lv_sub hl [] rfl) hF
    · replace hF := ifn c14 hF
      refine lv_iconst (v := (0 : Int32)) hx hb dX6_decide_83 (by decide) ?_
      refine lv_goto (tgt := 88) hx hb dX6_decide_84 (by decide) ?_
      exact w_X6_decide_88 (σ := σ13) cx   (gr (sai σ11 (gr σ11 265 a0) a1.toNatClampNeg (1 : Int32)) 259 a0) a1 (0 : Int32) h g (lv_sub hl [] rfl) hF
  · replace hF := ifn c7 hF
    refine x_aload_n hx hb dX6_decide_30 rfl (lv_at hl 2 rfl) ?_
    refine lv_iload_n hx hb dX6_decide_31 rfl (lv_at hl 3 rfl) ?_
    obtain ⟨r15, σ15, hc15, hF⟩ := bds hF
    refine x_calli (σ := σ2) g (LEm hc15 (mo_F_X6_undoing a0 a1 _)) (x_runV (As := [.int a1]) (rest := []) cx h (c_X6_undoing l D dA base a0 a1 hc15) ml_X6_171 mi_X6_undoing hq3 rfl ⟨Nat.le_of_ble_eq_true rfl, Nat.le_of_ble_eq_true rfl⟩ hl.1 rfl (s8 sN (by decide)) dX6_decide_32 (le_room g (LEm hc15 (mo_F_X6_undoing a0 a1 _)) (LEm hF mo_ret))) h (fun H locs h g => ?_)
    obtain ⟨rfl, rfl⟩ := rts hF
    exact x_iret cx h dX6_decide_35
