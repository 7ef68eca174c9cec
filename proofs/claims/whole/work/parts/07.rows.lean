section XC
variable {p : Program} {l : Launch} {e : Env} {R : Room} {s : State} {m : MethodId} {args : Array Value} {below : List Frame} {meth : Method} {c : Code} {H : Heap} {locs : List Loc} {cells slots : Nat} {Q : State → Prop}
variable {cc : ByteArray} {nL : Nat} {rt : Option FieldType} {own nm : String} {D : va_G} {dA : Nat → ClassId} {base : Nat} {pc : Nat} {ls : Array Slot} {rest st0 : List Value} {σ τ : HS} {mc ms : Nat} {a : Array Value}
/-- behind a call -/
theorem x_call {v : Option Value} (hr : va_Run p l e R s m args below meth c H locs cells slots mc ms (F0 m pc ls st0) rest (QC D dA base v τ a) (fun q => base ≤ q)) (h : Wd D dA base σ s H locs)
    (kk : ∀ (H1 : Heap) (locs1 : List Loc), Wd D dA base τ s H1 locs1 → W p l e R s m args below meth c H1 locs1 (cells + mc) (slots + ms) Q (F0 m (pc + 3) ls (v.toList ++ rest))) : W p l e R s m args below meth c H locs cells slots Q (F0 m pc ls st0) := by
  intro T hT X
  obtain ⟨v', st₀, t, T', L, h0, X', hL, e1, e2, ⟨hv, hP, hz, hk⟩, st⟩ := hr T hT X
  cases hv
  rw [h0] at hz hk
  obtain ⟨t2, a1, b1⟩ := kk T'.heap (locs ++ L) ⟨by rw [e1]; exact hP, Nat.le_trans h.2.1 (by rw [e1]; exact hz), fun q h1 h2 => by rw [e1, hk q (Nat.lt_of_lt_of_le h1 h.2.1) h2]; exact h.2.2.1 q h1 h2, fun q hq => by
      rcases List.mem_append.mp hq with h3 | h3
      · exact h.2.2.2 q h3
      · exact hL q h3⟩ T' rfl X'
  exact ⟨t2, st t2 a1, b1⟩
/-- a method that a place calls: its own words, and how it is linked -/
def ML (own : String) (index : Nat) (y : MethodName) (cc : ByteArray) (nL : Nat) (rt : Option FieldType) (n : Nat) : Prop :=
  Cond.methodLink own index y ∈ lw_good ∧ Cond.code y cc nL rt ∈ lw_good ∧ Cond.initialized y.cls ∈ lw_good ∧ (y.cls ≠ "java/lang/invoke/MethodHandle" ∧ y.cls ≠ "java/lang/invoke/VarHandle" ∧ (parseMethodDescriptor y.desc).map (fun d => d.parameters.length) = some n)
def MLN (own : String) (index : Nat) (y : MethodName) (cc : ByteArray) (nL : Nat) (rt : Option FieldType) (n : Nat) : Prop :=
  Cond.methodLinkNest own index y "SnapRows" ∈ nestW ∧ Cond.code y cc nL rt ∈ lw_good ∧ Cond.initialized y.cls ∈ lw_good ∧ (y.cls ≠ "java/lang/invoke/MethodHandle" ∧ y.cls ≠ "java/lang/invoke/VarHandle" ∧ (parseMethodDescriptor y.desc).map (fun d => d.parameters.length) = some n)
theorem ml_B (cx : CX p s m args meth c cc nL rt own nm D dA base) {index : Nat} {y : MethodName} {cy : ByteArray} {ny : Nat} {ry : Option FieldType} {n fr lo : Nat} (hM : ML own index y cy ny ry n) (hR : fr + 1 ≤ R.frames ∧ 8 + (ny + 11) + lo ≤ R.locals) :
    CallB R s args own index y cy ny ry (Cond.code y cy ny ry :: lw_good) (RM fr lo σ τ) (hs τ - hs σ) (ns τ - ns σ) n := by
  obtain ⟨hx, hb, hml, hown, hts, -, -, -, hK, -⟩ := cx
  exact callB_of n hts (lg_good hM.2.1) rfl rfl rfl (hts _ hM.2.2.1) (hts _ hM.1) hM.2.2.2 hR
theorem x_runV (cx : CX p s m args meth c cc nL rt own nm D dA base) (h : Wd D dA base σ s H locs) {index ci b : Nat} {y : MethodName} {cy : ByteArray} {ny : Nat} {ry : Option FieldType} {n fr lo : Nat} {As : List Value} {v : Option Value}
    (hC : CT l y cy ny ry fr lo D dA base (vr b :: As) v σ τ) (hM : ML own index y cy ny ry n) (hi : Cond.instanceMethod y ∈ lw_good ∧ Cond.selects y.cls y y ∈ lw_good ∧ ci < 99 ∧ ∃ T N, vwCl[ci]? = some (y.cls, T, N)) (hk : kd σ b = ci + 1) (hn : As.length = n) (hR : fr + 1 ≤ R.frames ∧ 8 + (ny + 11) + lo ≤ R.locals)
    (hls : ls.size = nL) (hst : st0 = As.reverse ++ vr b :: rest) (hW : (rest.map fun v => v.category).sum ≤ 8) (hdg : decode cc pc = .ok (.invokevirtual index, 3)) (hf : cells + (hs τ - hs σ) ≤ R.cells ∧ slots + (ns τ - ns σ) ≤ R.slots) :
    va_Run p l e R s m args below meth c H locs cells slots (hs τ - hs σ) (ns τ - ns σ) (F0 m pc ls st0) rest (QC D dA base v τ (vr b :: As).toArray) (fun q => base ≤ q) := by
  have cx' := cx
  obtain ⟨hx, hb, hml, hown, hts, -, -, -, hK, -⟩ := cx
  obtain ⟨i1, i2, i3, T, N, i4⟩ := hi
  obtain ⟨a, rfl, -, -, hat⟩ := h.1.ref hk (Nat.succ_ne_zero _)
  rw [mk_obj hk i3] at hat
  obtain ⟨r, h1, cell, q1, q2, q3, q4⟩ := hat
  have hr : r = (y.cls, T, N) := Option.some.inj (h1.symm.trans i4)
  subst hr
  exact va_runV ⟨hx, hb, hml, hown, hts⟩ hC ⟨ml_B cx' hM hR, hts _ i1, hts _ i2⟩ ⟨pc_blind, ⟨cell, q1, by rw [q3]; rfl, by rw [q2]; exact (hK.1.1 ci _ i4).2.1⟩, (pc_at h hK).2⟩ rfl hn hls hst (lv_room (m := m) (pc := pc) (ls := ls) (rest := st0) hW) hdg hf
theorem x_runS (cx : CX p s m args meth c cc nL rt own nm D dA base) (h : Wd D dA base σ s H locs) {index : Nat} {y : MethodName} {cy : ByteArray} {ny : Nat} {ry : Option FieldType} {n fr lo : Nat} {As : List Value} {v : Option Value}
    (hC : CT l y cy ny ry fr lo D dA base As v σ τ) (hM : ML own index y cy ny ry n) (hi : Cond.static y ∈ lw_good) (hn : As.length = n) (hR : fr + 1 ≤ R.frames ∧ 8 + (ny + 11) + lo ≤ R.locals)
    (hls : ls.size = nL) (hst : st0 = As.reverse ++ rest) (hW : (rest.map fun v => v.category).sum ≤ 8) (hdg : decode cc pc = .ok (.invokestatic index, 3)) (hf : cells + (hs τ - hs σ) ≤ R.cells ∧ slots + (ns τ - ns σ) ≤ R.slots) :
    va_Run p l e R s m args below meth c H locs cells slots (hs τ - hs σ) (ns τ - ns σ) (F0 m pc ls st0) rest (QC D dA base v τ As.toArray) (fun q => base ≤ q) := by
  have cx' := cx
  obtain ⟨hx, hb, hml, hown, hts, -, -, -, hK, -⟩ := cx
  exact va_runS ⟨hx, hb, hml, hown, hts⟩ hC ⟨ml_B cx' hM hR, hts _ hi⟩ (pc_at h hK) rfl hn hls hst (lv_room (m := m) (pc := pc) (ls := ls) (rest := st0) hW) hdg hf
theorem x_runI (cx : CX p s m args meth c cc nL rt own nm D dA base) (h : Wd D dA base σ s H locs) {index b k : Nat} {y : MethodName} {cy : ByteArray} {ny : Nat} {n fr lo : Nat} {As : List Value} {v : Option Value}
    (hC : CT l y cy ny none fr lo D dA base (vr b :: As) v σ τ) (hM : ML own index y cy ny none n) (hi : Cond.instanceMethod y ∈ lw_good ∧ y.name = "<init>") (hk : kd σ b = k + 1) (hn : As.length = n) (hR : fr + 1 ≤ R.frames ∧ 8 + (ny + 11) + lo ≤ R.locals)
    (hls : ls.size = nL) (hst : st0 = As.reverse ++ vr b :: rest) (hW : (rest.map fun v => v.category).sum ≤ 8) (hdg : decode cc pc = .ok (.invokespecial index, 3)) (hf : cells + (hs τ - hs σ) ≤ R.cells ∧ slots + (ns τ - ns σ) ≤ R.slots) :
    va_Run p l e R s m args below meth c H locs cells slots (hs τ - hs σ) (ns τ - ns σ) (F0 m pc ls st0) rest (QC D dA base v τ (vr b :: As).toArray) (fun q => base ≤ q) := by
  have cx' := cx
  obtain ⟨hx, hb, hml, hown, hts, -, -, -, hK, -⟩ := cx
  obtain ⟨a, rfl, -, -, -⟩ := h.1.ref hk (Nat.succ_ne_zero _)
  exact va_runI ⟨hx, hb, hml, hown, hts⟩ hC ⟨ml_B cx' hM hR, hi.2, hts _ hi.1⟩ (pc_at h hK) rfl hn hls hst (lv_room (m := m) (pc := pc) (ls := ls) (rest := st0) hW) hdg hf
theorem x_runIN (cx : CX p s m args meth c cc nL rt own nm D dA base) (h : Wd D dA base σ s H locs) {index b k : Nat} {y : MethodName} {cy : ByteArray} {ny : Nat} {n fr lo : Nat} {As : List Value} {v : Option Value}
    (hC : CT l y cy ny none fr lo D dA base (vr b :: As) v σ τ) (hM : MLN own index y cy ny none n) (hi : Cond.instanceMethod y ∈ lw_good ∧ y.name = "<init>") (hk : kd σ b = k + 1) (hn : As.length = n) (hR : fr + 1 ≤ R.frames ∧ 8 + (ny + 11) + lo ≤ R.locals)
    (hls : ls.size = nL) (hst : st0 = As.reverse ++ vr b :: rest) (hW : (rest.map fun v => v.category).sum ≤ 8) (hdg : decode cc pc = .ok (.invokespecial index, 3)) (hf : cells + (hs τ - hs σ) ≤ R.cells ∧ slots + (ns τ - ns σ) ≤ R.slots) :
    va_Run p l e R s m args below meth c H locs cells slots (hs τ - hs σ) (ns τ - ns σ) (F0 m pc ls st0) rest (QC D dA base v τ (vr b :: As).toArray) (fun q => base ≤ q) := by
  have cx' := cx
  obtain ⟨hx, hb, hml, hown, hts, -, -, -, hK, -⟩ := cx
  obtain ⟨a, rfl, -, -, -⟩ := h.1.ref hk (Nat.succ_ne_zero _)
  exact va_runIN ⟨hx, hb, hml, hown, hts⟩ hC ⟨va_cnB n hts (lg_good hM.2.1) rfl rfl rfl (hK.2.1 _ hM.1) (hts _ hM.2.2.1) hM.2.2.2 hR, hi.2, hts _ hi.1⟩ (pc_at h hK) rfl hn hls hst (lv_room (m := m) (pc := pc) (ls := ls) (rest := st0) hW) hdg hf
/-- the constructor of Object -/
theorem x_obj (cx : CX p s m args meth c cc nL rt own nm D dA base) (h : Wd D dA base σ s H locs) {index b k : Nat} (hM : Cond.methodLink own index Lib.objectInit ∈ lw_good ∧ Cond.instanceMethod Lib.objectInit ∈ lw_good ∧ Cond.code Lib.objectInit ⟨#[0xb1]⟩ 1 none ∈ lw_good) (hk : kd σ b = k + 1) (hls : ls.size = nL) (hR : 1 ≤ R.frames ∧ 20 ≤ R.locals) (hW : (rest.map fun v => v.category).sum ≤ 8) (hdg : decode cc pc = .ok (.invokespecial index, 3))
    (kk : W p l e R s m args below meth c H locs cells slots Q (F0 m (pc + 3) ls rest)) : W p l e R s m args below meth c H locs cells slots Q (F0 m pc ls (vr b :: rest)) := by
  obtain ⟨hx, hb, hml, hown, hts, -, -, -, hK, -⟩ := cx
  obtain ⟨a, rfl, -, -, -⟩ := h.1.ref hk (Nat.succ_ne_zero _)
  have hr := lv_room (m := m) (pc := pc) (ls := ls) (rest := vr (a + 1) :: rest) hW
  exact W.objInit hx hb hown (hts _ hM.1) (hts _ hM.2.1) (hts _ hM.2.2) rfl (by rw [hml]; exact hls) rfl hdg hR.1 (by omega) kk
-- ends
variable {σ0 : HS} {fr lo : Nat}
theorem x_iret {v : Int32} (cx : CX p s m args meth c cc nL (some .int) own nm D dA base) (h : Wd D dA base τ s H locs) (hdg : decode cc pc = .ok (.ireturn, 1)) :
    W p l e R s m args below meth c H locs (hs τ - hs σ0) (ns τ - ns σ0) (MQ below (QC D dA base (some (.int v)) τ) args s (hs τ - hs σ0) (ns τ - ns σ0) (fun q => base ≤ q)) (F0 m pc ls [.int v]) := by
  obtain ⟨hx, hb, hml, hown, hts, hr, hlocks, -, hK, -⟩ := cx
  exact W.iret hx hb hr (fun t ht hW => ⟨rfl, by rw [ht]; exact h.1, h.2.F ht⟩) h.2.2.2 hdg
theorem x_zret {v : Int32} (cx : CX p s m args meth c cc nL (some .boolean) own nm D dA base) (h : Wd D dA base τ s H locs) (hz : v = 0 ∨ v = 1) (hdg : decode cc pc = .ok (.ireturn, 1)) :
    W p l e R s m args below meth c H locs (hs τ - hs σ0) (ns τ - ns σ0) (MQ below (QC D dA base (some (.int v)) τ) args s (hs τ - hs σ0) (ns τ - ns σ0) (fun q => base ≤ q)) (F0 m pc ls [.int v]) := by
  obtain ⟨hx, hb, hml, hown, hts, hr, hlocks, -, hK, -⟩ := cx
  exact W.zret hx hb hr (by rcases hz with rfl | rfl <;> rfl) (fun t ht hW => ⟨rfl, by rw [ht]; exact h.1, h.2.F ht⟩) h.2.2.2 hdg
theorem x_vret (cx : CX p s m args meth c cc nL none own nm D dA base) (h : Wd D dA base τ s H locs) (hdg : decode cc pc = .ok (.return_, 1)) :
    W p l e R s m args below meth c H locs (hs τ - hs σ0) (ns τ - ns σ0) (MQ below (QC D dA base none τ) args s (hs τ - hs σ0) (ns τ - ns σ0) (fun q => base ≤ q)) (F0 m pc ls []) := by
  obtain ⟨hx, hb, hml, hown, hts, hr, hlocks, -, hK, -⟩ := cx
  exact W.vret hx hb hr (fun t ht hW => ⟨rfl, by rw [ht]; exact h.1, h.2.F ht⟩) h.2.2.2 hdg
theorem x_aret {v : Nat} {C : String} (cx : CX p s m args meth c cc nL (some (.object C)) own nm D dA base) (h : Wd D dA base τ s H locs) (hdg : decode cc pc = .ok (.areturn, 1)) :
    W p l e R s m args below meth c H locs (hs τ - hs σ0) (ns τ - ns σ0) (MQ below (QC D dA base (some (vr v)) τ) args s (hs τ - hs σ0) (ns τ - ns σ0) (fun q => base ≤ q)) (F0 m pc ls [vr v]) := by
  obtain ⟨hx, hb, hml, hown, hts, hr, hlocks, -, hK, -⟩ := cx
  exact W.aret hx hb hr (Or.inl ⟨C, rfl⟩) (vr_or v) (fun t ht hW => ⟨rfl, by rw [ht]; exact h.1, h.2.F ht⟩) h.2.2.2 hdg
end XC
