section XG
variable {p : Program} {l : Launch} {e : Env} {R : Room} {s : State} {m : MethodId} {args : Array Value} {below : List Frame} {meth : Method} {c : Code} {H : Heap} {locs : List Loc} {cells slots : Nat} {Q : State → Prop}
variable {cc : ByteArray} {nL : Nat} {rt : Option FieldType} {own nm : String} {D : va_G} {dA : Nat → ClassId} {base : Nat} {pc : Nat} {ls : Array Slot} {rest st0 : List Value} {σ σ0 σ1 τ : HS} {fr lo : Nat} {a : Array Value}
abbrev inb (i : Int32) (n : Nat) : Prop := 0 ≤ i ∧ i.toNatClampNeg < n
theorem inb.vp {i : Int32} {n : Nat} (h : inb i n) : vp_in i n := fun q => by
  rcases q with q | q
  · exact absurd q (Int32.not_lt.mpr h.1)
  · exact absurd h.2 (Nat.not_lt.mpr q)
theorem x_geti (cx : CX p s m args meth c cc nL rt own nm D dA base) (h : Wd D dA base σ s H locs) {nest : Bool} {index ci k n f : Nat} {fin : Bool} (hF : FL nest own index ci k false fin) (hf : 40 * ci + k = f) (hk : kd σ n = ci + 1) (hdg : decode cc pc = .ok (.getfield index, 3))
    (kk : W p l e R s m args below meth c H locs cells slots Q (F0 m (pc + 3) ls (.int (gi σ f n) :: rest))) : W p l e R s m args below meth c H locs cells slots Q (F0 m pc ls (vr n :: rest)) := by
  subst hf
  cases nest with
  | false => exact x_get cx h hF hk hdg kk
  | true => exact x_getN cx h hF hk hdg kk
theorem x_getr (cx : CX p s m args meth c cc nL rt own nm D dA base) (h : Wd D dA base σ s H locs) {nest : Bool} {index ci k n f : Nat} {fin : Bool} (hF : FL nest own index ci k true fin) (hf : 40 * ci + k = f) (hk : kd σ n = ci + 1) (hdg : decode cc pc = .ok (.getfield index, 3))
    (kk : W p l e R s m args below meth c H locs cells slots Q (F0 m (pc + 3) ls (vr (gr σ f n) :: rest))) : W p l e R s m args below meth c H locs cells slots Q (F0 m pc ls (vr n :: rest)) := by
  subst hf
  cases nest with
  | false => exact x_get cx h hF hk hdg kk
  | true => exact x_getN cx h hF hk hdg kk
theorem x_sti (cx : CX p s m args meth c cc nL rt own nm D dA base) (h : Wd D dA base σ s H locs) {nest : Bool} {index ci k n f : Nat} {fin : Bool} {v : Int32} (hF : FL nest own index ci k false fin) (hf : 40 * ci + k = f) (hfin : fin = false ∨ (nest = false ∧ nm = "<init>" ∧ ∃ T N, vwCl[ci]? = some (own, T, N))) (hk : kd σ n = ci + 1) (hdg : decode cc pc = .ok (.putfield index, 3))
    (kk : ∀ (H1 : Heap) (locs1 : List Loc), Wd D dA base (si σ f n v) s H1 locs1 → W p l e R s m args below meth c H1 locs1 cells slots Q (F0 m (pc + 3) ls rest)) : W p l e R s m args below meth c H locs cells slots Q (F0 m pc ls (.int v :: vr n :: rest)) := by
  subst hf; exact x_puti cx h hF hfin hk hdg kk
theorem x_str (cx : CX p s m args meth c cc nL rt own nm D dA base) (h : Wd D dA base σ s H locs) {nest : Bool} {index ci k n f : Nat} {fin : Bool} {v : Nat} (hF : FL nest own index ci k true fin) (hf : 40 * ci + k = f) (hfin : fin = false ∨ (nest = false ∧ nm = "<init>" ∧ ∃ T N, vwCl[ci]? = some (own, T, N))) (hk : kd σ n = ci + 1) (hdg : decode cc pc = .ok (.putfield index, 3))
    (kk : ∀ (H1 : Heap) (locs1 : List Loc), Wd D dA base (sr σ f n v) s H1 locs1 → W p l e R s m args below meth c H1 locs1 cells slots Q (F0 m (pc + 3) ls rest)) : W p l e R s m args below meth c H locs cells slots Q (F0 m pc ls (vr v :: vr n :: rest)) := by
  subst hf; exact x_putr cx h hF hfin hk hdg kk
abbrev WG (p : Program) (l : Launch) (e : Env) (s : State) (m : MethodId) (args : Array Value) (below : List Frame) (meth : Method) (c : Code) (D : va_G) (dA : Nat → ClassId) (base fr lo : Nat) (v : Option Value) (σ0 τ σ : HS) (H : Heap) (locs : List Loc) (pc : Nat) (ls : Array Slot) (st : List Value) : Prop :=
  W p l e (RM fr lo σ0 τ) s m args below meth c H locs (hs σ - hs σ0) (ns σ - ns σ0) (MQ below (QC D dA base v τ) args s (hs τ - hs σ0) (ns τ - ns σ0) (fun q => base ≤ q)) (F0 m pc ls st)
theorem le_room (g0 : LE σ0 σ) (g1 : LE σ σ1) (g2 : LE σ1 τ) : (hs σ - hs σ0) + (hs σ1 - hs σ) ≤ (RM fr lo σ0 τ).cells ∧ (ns σ - ns σ0) + (ns σ1 - ns σ) ≤ (RM fr lo σ0 τ).slots := by
  obtain ⟨a1, a2⟩ := g0; obtain ⟨b1, b2⟩ := g1; obtain ⟨c1, c2⟩ := g2
  show _ ≤ hs τ - hs σ0 ∧ _ ≤ ns τ - ns σ0
  omega
theorem x_calli {r : Int32} (g0 : LE σ0 σ) (g1 : LE σ σ1) (hr : va_Run p l e R s m args below meth c H locs (hs σ - hs σ0) (ns σ - ns σ0) (hs σ1 - hs σ) (ns σ1 - ns σ) (F0 m pc ls st0) rest (QC D dA base (some (.int r)) σ1 a) (fun q => base ≤ q)) (h : Wd D dA base σ s H locs)
    (kk : ∀ (H1 : Heap) (locs1 : List Loc), Wd D dA base σ1 s H1 locs1 → LE σ0 σ1 → W p l e R s m args below meth c H1 locs1 (hs σ1 - hs σ0) (ns σ1 - ns σ0) Q (F0 m (pc + 3) ls (.int r :: rest))) : W p l e R s m args below meth c H locs (hs σ - hs σ0) (ns σ - ns σ0) Q (F0 m pc ls st0) := by
  refine x_call hr h fun H1 locs1 h1 => W.cs (cells' := hs σ1 - hs σ0) (slots' := ns σ1 - ns σ0) ?_ ?_ (kk H1 locs1 h1 (g0.tr g1))
  · have := g0.1; have := g1.1; omega
  · have := g0.2; have := g1.2; omega
theorem x_callr {r : Nat} (g0 : LE σ0 σ) (g1 : LE σ σ1) (hr : va_Run p l e R s m args below meth c H locs (hs σ - hs σ0) (ns σ - ns σ0) (hs σ1 - hs σ) (ns σ1 - ns σ) (F0 m pc ls st0) rest (QC D dA base (some (vr r)) σ1 a) (fun q => base ≤ q)) (h : Wd D dA base σ s H locs)
    (kk : ∀ (H1 : Heap) (locs1 : List Loc), Wd D dA base σ1 s H1 locs1 → LE σ0 σ1 → W p l e R s m args below meth c H1 locs1 (hs σ1 - hs σ0) (ns σ1 - ns σ0) Q (F0 m (pc + 3) ls (vr r :: rest))) : W p l e R s m args below meth c H locs (hs σ - hs σ0) (ns σ - ns σ0) Q (F0 m pc ls st0) := by
  refine x_call hr h fun H1 locs1 h1 => W.cs (cells' := hs σ1 - hs σ0) (slots' := ns σ1 - ns σ0) ?_ ?_ (kk H1 locs1 h1 (g0.tr g1))
  · have := g0.1; have := g1.1; omega
  · have := g0.2; have := g1.2; omega
theorem x_callv (g0 : LE σ0 σ) (g1 : LE σ σ1) (hr : va_Run p l e R s m args below meth c H locs (hs σ - hs σ0) (ns σ - ns σ0) (hs σ1 - hs σ) (ns σ1 - ns σ) (F0 m pc ls st0) rest (QC D dA base none σ1 a) (fun q => base ≤ q)) (h : Wd D dA base σ s H locs)
    (kk : ∀ (H1 : Heap) (locs1 : List Loc), Wd D dA base σ1 s H1 locs1 → LE σ0 σ1 → W p l e R s m args below meth c H1 locs1 (hs σ1 - hs σ0) (ns σ1 - ns σ0) Q (F0 m (pc + 3) ls rest)) : W p l e R s m args below meth c H locs (hs σ - hs σ0) (ns σ - ns σ0) Q (F0 m pc ls st0) := by
  refine x_call hr h fun H1 locs1 h1 => W.cs (cells' := hs σ1 - hs σ0) (slots' := ns σ1 - ns σ0) ?_ ?_ (kk H1 locs1 h1 (g0.tr g1))
  · have := g0.1; have := g1.1; omega
  · have := g0.2; have := g1.2; omega
theorem x_newG (cx : CX p s m args meth c cc nL rt own nm D dA base) (h : Wd D dA base σ s H locs) {index ci N : Nat} (g0 : LE σ0 σ) (g2 : LE (nw σ (ci + 1) N) τ) (hN : NL own index ci N) (hdg : decode cc pc = .ok (.new index, 3))
    (kk : ∀ (H1 : Heap), Wd D dA base (nw σ (ci + 1) N) s H1 locs → LE σ0 (nw σ (ci + 1) N) → W p l e (RM fr lo σ0 τ) s m args below meth c H1 locs (hs (nw σ (ci + 1) N) - hs σ0) (ns (nw σ (ci + 1) N) - ns σ0) Q (F0 m (pc + 3) ls (vr (hs σ + 1) :: rest))) : W p l e (RM fr lo σ0 τ) s m args below meth c H locs (hs σ - hs σ0) (ns σ - ns σ0) Q (F0 m pc ls rest) := by
  obtain ⟨b1, b2⟩ := g2
  have e1 : hs (nw σ (ci + 1) N) = hs σ + 1 := rfl
  have e2 : ns (nw σ (ci + 1) N) = ns σ + N := rfl
  have a1 := g0.1; have a2 := g0.2
  refine x_new cx h hN (by show _ ≤ hs τ - hs σ0; omega) (by show _ ≤ ns τ - ns σ0; omega) hdg fun H1 h1 => W.cs ?_ ?_ (kk H1 h1 (g0.tr LE.nw))
  · omega
  · omega
theorem x_newaG (cx : CX p s m args meth c cc nL rt own nm D dA base) (h : Wd D dA base σ s H locs) {j : Nat} {n : Int32} {N : Nat} {aty : ArrayType} {ty : FieldType} (g0 : LE σ0 σ) (g2 : LE (nw σ (100 + j) N) τ) (hty : newarray.typeOf aty = ty) (hj : (j = 0 ∧ ty = .int) ∨ (j = 1 ∧ ty = .boolean)) (hw : Cond.arrayClass ty ∈ lw_good) (hn : ¬ n < 0) (hN : n.toNatClampNeg = N) (hb4 : N ≤ 100000) (hdg : decode cc pc = .ok (.newarray aty, 2))
    (kk : ∀ (H1 : Heap), Wd D dA base (nw σ (100 + j) N) s H1 locs → LE σ0 (nw σ (100 + j) N) → W p l e (RM fr lo σ0 τ) s m args below meth c H1 locs (hs (nw σ (100 + j) N) - hs σ0) (ns (nw σ (100 + j) N) - ns σ0) Q (F0 m (pc + 2) ls (vr (hs σ + 1) :: rest))) : W p l e (RM fr lo σ0 τ) s m args below meth c H locs (hs σ - hs σ0) (ns σ - ns σ0) Q (F0 m pc ls (.int n :: rest)) := by
  obtain ⟨b1, b2⟩ := g2
  have e1 : hs (nw σ (100 + j) N) = hs σ + 1 := rfl
  have e2 : ns (nw σ (100 + j) N) = ns σ + N := rfl
  have a1 := g0.1; have a2 := g0.2
  refine x_newa cx h hty hj hw hn hN hb4 (by show _ ≤ hs τ - hs σ0; omega) (by show _ ≤ ns τ - ns σ0; omega) hdg fun H1 h1 => W.cs ?_ ?_ (kk H1 h1 (g0.tr LE.nw))
  · omega
  · omega
theorem x_newqG (cx : CX p s m args meth c cc nL rt own nm D dA base) (h : Wd D dA base σ s H locs) {j index : Nat} {n : Int32} {N : Nat} {C : String} (g0 : LE σ0 σ) (g2 : LE (nw σ (100 + j) N) τ) (hj : 2 ≤ j) (hC : ∀ dA, (tysA dA)[j]? = some (dA j, .object C)) (hov : ∀ U, KK D dA U → va_AO C U) (hw : Cond.classLink own index C ∈ lw_good) (hn : ¬ n < 0) (hN : n.toNatClampNeg = N) (hb4 : N ≤ 100000) (hdg : decode cc pc = .ok (.anewarray index, 3))
    (kk : ∀ (H1 : Heap), Wd D dA base (nw σ (100 + j) N) s H1 locs → LE σ0 (nw σ (100 + j) N) → W p l e (RM fr lo σ0 τ) s m args below meth c H1 locs (hs (nw σ (100 + j) N) - hs σ0) (ns (nw σ (100 + j) N) - ns σ0) Q (F0 m (pc + 3) ls (vr (hs σ + 1) :: rest))) : W p l e (RM fr lo σ0 τ) s m args below meth c H locs (hs σ - hs σ0) (ns σ - ns σ0) Q (F0 m pc ls (.int n :: rest)) := by
  obtain ⟨b1, b2⟩ := g2
  have e1 : hs (nw σ (100 + j) N) = hs σ + 1 := rfl
  have e2 : ns (nw σ (100 + j) N) = ns σ + N := rfl
  have a1 := g0.1; have a2 := g0.2
  refine x_newq (ci := 0) cx h hj hC hov hw hn hN hb4 (by show _ ≤ hs τ - hs σ0; omega) (by show _ ≤ ns τ - ns σ0; omega) hdg fun H1 h1 => W.cs ?_ ?_ (kk H1 h1 (g0.tr LE.nw))
  · omega
  · omega
end XG
-- categories of values, of locals, of the stack
theorem vN : ∀ v ∈ ([] : List Value), v.category = 1 := fun _ h => by cases h
theorem vI {x : Int32} {t : List Value} (h : ∀ v ∈ t, v.category = 1) : ∀ v ∈ (Value.int x :: t), v.category = 1 := fun v hv => by
  rcases List.mem_cons.mp hv with rfl | hv
  · rfl
  · exact h v hv
theorem vR {x : Nat} {t : List Value} (h : ∀ v ∈ t, v.category = 1) : ∀ v ∈ (vr x :: t), v.category = 1 := fun v hv => by
  rcases List.mem_cons.mp hv with rfl | hv
  · exact vr_cat x
  · exact h v hv
theorem cN : ∀ q ∈ ([] : List (Nat × Value)), q.2.category = 1 := fun _ h => by cases h
theorem cI {i : Nat} {x : Int32} {t : List (Nat × Value)} (h : ∀ q ∈ t, q.2.category = 1) : ∀ q ∈ ((i, Value.int x) :: t), q.2.category = 1 := fun v hv => by
  rcases List.mem_cons.mp hv with rfl | hv
  · rfl
  · exact h v hv
theorem cR {i : Nat} {x : Nat} {t : List (Nat × Value)} (h : ∀ q ∈ t, q.2.category = 1) : ∀ q ∈ ((i, vr x) :: t), q.2.category = 1 := fun v hv => by
  rcases List.mem_cons.mp hv with rfl | hv
  · exact vr_cat x
  · exact h v hv
def SC (t : List Value) (n : Nat) : Prop := (t.map fun v => v.category).sum = n
theorem sN : SC [] 0 := rfl
theorem sI {x : Int32} {t : List Value} {n : Nat} (h : SC t n) : SC (Value.int x :: t) (n + 1) := by
  have h : (t.map fun v => v.category).sum = n := h
  show ((Value.int x :: t).map fun v => v.category).sum = n + 1
  rw [List.map_cons, List.sum_cons, h]; exact Nat.add_comm 1 n
theorem sR {x : Nat} {t : List Value} {n : Nat} (h : SC t n) : SC (vr x :: t) (n + 1) := by
  have h : (t.map fun v => v.category).sum = n := h
  show ((vr x :: t).map fun v => v.category).sum = n + 1
  rw [List.map_cons, List.sum_cons, h, vr_cat]; exact Nat.add_comm 1 n
theorem s8 {t : List Value} {n : Nat} (h : SC t n) (hn : n ≤ 8) : (t.map fun v => v.category).sum ≤ 8 := by
  have h : (t.map fun v => v.category).sum = n := h
  rw [h]; exact hn
theorem lg_list {ws : List Cond} (ps : List Nat) (hp : ws = ps.filterMap (fun i => lw_tbl[i]?)) (h : ws.all goodWord = true) : ∀ w ∈ ws, w ∈ lw_good := by
  intro w hw
  have h1 := List.all_eq_true.mp h w hw
  rw [hp] at hw
  obtain ⟨i, -, hi⟩ := List.mem_filterMap.mp hw
  exact lg_mem i hi h1
def NF : Nat := 100000
/-- a state gets a name -/
def lt1 {β : Type} (x : HS) (f : HS → Option β) : Option β := f x
theorem lts {β : Type} {x : HS} {f : HS → Option β} {y : β} (e : lt1 x f = some y) : ∃ v, v = x ∧ f v = some y := ⟨x, rfl, e⟩
theorem mo_lt {β : Type} {σ x : HS} {f : HS → Option (β × HS)} (h : LE σ x) (hf : ∀ v, Mo v (f v)) : Mo σ (lt1 x f) := fun r τ e => h.tr (hf x r τ e)
theorem Wd.nm {D : va_G} {dA : Nat → ClassId} {base : Nat} {σ σ' : HS} {s : State} {H : Heap} {locs : List Loc} (e : σ' = σ) (h : Wd D dA base σ s H locs) : Wd D dA base σ' s H locs := by rw [e]; exact h
theorem LE.nm {σ σ' σ0 : HS} (e : σ' = σ) (g : LE σ0 σ) : LE σ0 σ' := by rw [e]; exact g
theorem LEm {α : Type} {σ τ : HS} {x : Option (α × HS)} {r : α} (hF : x = some (r, τ)) (hm : Mo σ x) : LE σ τ := hm _ _ hF
