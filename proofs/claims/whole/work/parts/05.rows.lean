section XR
variable {p : Program} {l : Launch} {e : Env} {R : Room} {s : State} {m : MethodId} {args : Array Value} {below : List Frame} {meth : Method} {c : Code} {H : Heap} {locs : List Loc} {cells slots : Nat} {Q : State → Prop}
variable {cc : ByteArray} {nL : Nat} {rt : Option FieldType} {own nm : String} {D : va_G} {dA : Nat → ClassId} {base : Nat} {pc : Nat} {ls : Array Slot} {rest : List Value} {σ τ : HS}
theorem x_aload_n (hx : p.tables.exec = Jvm.exec) (hb : c.code = cc) {k : Fin 4} {i : Nat} {x : Nat} (hdg : decode cc pc = .ok (.aload_n k, 1)) (hi : (k : Nat) = i) (hl : ls[i]? = some (.val (vr x)))
    (kk : W p l e R s m args below meth c H locs cells slots Q (F0 m (pc + 1) ls (vr x :: rest))) : W p l e R s m args below meth c H locs cells slots Q (F0 m pc ls rest) := by
  cases x with
  | zero => exact lv_aload_nN hx hb hdg hi hl kk
  | succ a => exact lv_aload_n hx hb hdg hi hl kk
theorem x_aload (hx : p.tables.exec = Jvm.exec) (hb : c.code = cc) {i : Nat} {x : Nat} (hdg : decode cc pc = .ok (.aload i, 2)) (hl : ls[i]? = some (.val (vr x)))
    (kk : W p l e R s m args below meth c H locs cells slots Q (F0 m (pc + 2) ls (vr x :: rest))) : W p l e R s m args below meth c H locs cells slots Q (F0 m pc ls rest) := by
  cases x with
  | zero => exact lv_aloadN hx hb hdg hl kk
  | succ a => exact lv_aload hx hb hdg hl kk
theorem x_null (hx : p.tables.exec = Jvm.exec) (hb : c.code = cc) (hdg : decode cc pc = .ok (.aconst_null, 1)) (kk : W p l e R s m args below meth c H locs cells slots Q (F0 m (pc + 1) ls (vr 0 :: rest))) : W p l e R s m args below meth c H locs cells slots Q (F0 m pc ls rest) := lv_null hx hb hdg kk
/-- the locals behind a store into i: all others stay (all are of one slot) -/
theorem st_filter {lv : List (Nat × Value)} {i : Nat} (h : ∀ q ∈ lv, q.2.category = 1) : lv.filter (fun q => !(q.1 == i) && !(q.1 + 1 == i && q.2.category == 2)) = lv.filter (fun q => !(q.1 == i)) := by
  apply List.filter_congr
  intro q hq
  rw [h q hq]
  simp
theorem x_istore_n (hx : p.tables.exec = Jvm.exec) (hb : c.code = cc) {k : Fin 4} {i nL : Nat} {x : Int32} {lv lv' : List (Nat × Value)} (hdg : decode cc pc = .ok (.istore_n k, 1)) (hi : (k : Nat) = i) (h : lv_has ls nL lv) (hn : i < nL) (hc : ∀ q ∈ lv, q.2.category = 1) (hl : (i, Value.int x) :: lv.filter (fun q => !(q.1 == i)) = lv')
    (kk : ∀ ls' : Array Slot, lv_has ls' nL lv' → W p l e R s m args below meth c H locs cells slots Q (F0 m (pc + 1) ls' rest)) : W p l e R s m args below meth c H locs cells slots Q (F0 m pc ls (.int x :: rest)) := lv_istore_n hx hb hdg hi h hn (by rw [st_filter hc]; exact hl) kk
theorem x_istore (hx : p.tables.exec = Jvm.exec) (hb : c.code = cc) {i nL : Nat} {x : Int32} {lv lv' : List (Nat × Value)} (hdg : decode cc pc = .ok (.istore i, 2)) (h : lv_has ls nL lv) (hn : i < nL) (hc : ∀ q ∈ lv, q.2.category = 1) (hl : (i, Value.int x) :: lv.filter (fun q => !(q.1 == i)) = lv')
    (kk : ∀ ls' : Array Slot, lv_has ls' nL lv' → W p l e R s m args below meth c H locs cells slots Q (F0 m (pc + 2) ls' rest)) : W p l e R s m args below meth c H locs cells slots Q (F0 m pc ls (.int x :: rest)) := lv_istore hx hb hdg h hn (by rw [st_filter hc]; exact hl) kk
theorem x_astore_n (hx : p.tables.exec = Jvm.exec) (hb : c.code = cc) {k : Fin 4} {i nL : Nat} {x : Nat} {lv lv' : List (Nat × Value)} (hdg : decode cc pc = .ok (.astore_n k, 1)) (hi : (k : Nat) = i) (h : lv_has ls nL lv) (hn : i < nL) (hc : ∀ q ∈ lv, q.2.category = 1) (hl : (i, vr x) :: lv.filter (fun q => !(q.1 == i)) = lv')
    (kk : ∀ ls' : Array Slot, lv_has ls' nL lv' → W p l e R s m args below meth c H locs cells slots Q (F0 m (pc + 1) ls' rest)) : W p l e R s m args below meth c H locs cells slots Q (F0 m pc ls (vr x :: rest)) := by
  cases x with
  | zero => exact lv_astore_nN hx hb hdg hi h hn (by rw [st_filter hc]; exact hl) kk
  | succ a => exact lv_astore_n hx hb hdg hi h hn (by rw [st_filter hc]; exact hl) kk
theorem x_astore (hx : p.tables.exec = Jvm.exec) (hb : c.code = cc) {i nL : Nat} {x : Nat} {lv lv' : List (Nat × Value)} (hdg : decode cc pc = .ok (.astore i, 2)) (h : lv_has ls nL lv) (hn : i < nL) (hc : ∀ q ∈ lv, q.2.category = 1) (hl : (i, vr x) :: lv.filter (fun q => !(q.1 == i)) = lv')
    (kk : ∀ ls' : Array Slot, lv_has ls' nL lv' → W p l e R s m args below meth c H locs cells slots Q (F0 m (pc + 2) ls' rest)) : W p l e R s m args below meth c H locs cells slots Q (F0 m pc ls (vr x :: rest)) := by
  cases x with
  | zero => exact lv_astoreN hx hb hdg h hn (by rw [st_filter hc]; exact hl) kk
  | succ a => exact lv_astore hx hb hdg h hn (by rw [st_filter hc]; exact hl) kk
theorem x_iinc (hx : p.tables.exec = Jvm.exec) (hb : c.code = cc) {i nL k : Nat} {n : Int} {x v : Int32} {lv lv' : List (Nat × Value)} (hdg : decode cc pc = .ok (.iinc i n, 3)) (h : lv_has ls nL lv) (hk : lv[k]? = some (i, .int x)) (hv : Int32.ofInt n = v) (hn : i < nL) (hc : ∀ q ∈ lv, q.2.category = 1) (hl : (i, Value.int (x + v)) :: lv.filter (fun q => !(q.1 == i)) = lv')
    (kk : ∀ ls' : Array Slot, lv_has ls' nL lv' → W p l e R s m args below meth c H locs cells slots Q (F0 m (pc + 3) ls' rest)) : W p l e R s m args below meth c H locs cells slots Q (F0 m pc ls rest) := lv_iinc hx hb hdg h hk (by rw [hv]) hn (by rw [st_filter hc]; exact hl) kk
theorem x_ifnull (hx : p.tables.exec = Jvm.exec) (hb : c.code = cc) {x : Nat} {off : Int} {tgt : Nat} (hdg : decode cc pc = .ok (.ifnull off, 3)) (ht : (pc : Int) + off = (tgt : Int))
    (kt : x = 0 → W p l e R s m args below meth c H locs cells slots Q (F0 m tgt ls rest)) (kf : ¬ x = 0 → W p l e R s m args below meth c H locs cells slots Q (F0 m (pc + 3) ls rest)) : W p l e R s m args below meth c H locs cells slots Q (F0 m pc ls (vr x :: rest)) := by
  cases x with
  | zero => exact lv_ifnullN hx hb hdg ht (kt rfl)
  | succ a => exact lv_ifnull hx hb hdg (kf (Nat.succ_ne_zero a))
theorem x_ifnonnull (hx : p.tables.exec = Jvm.exec) (hb : c.code = cc) {x : Nat} {off : Int} {tgt : Nat} (hdg : decode cc pc = .ok (.ifnonnull off, 3)) (ht : (pc : Int) + off = (tgt : Int))
    (kt : ¬ x = 0 → W p l e R s m args below meth c H locs cells slots Q (F0 m tgt ls rest)) (kf : x = 0 → W p l e R s m args below meth c H locs cells slots Q (F0 m (pc + 3) ls rest)) : W p l e R s m args below meth c H locs cells slots Q (F0 m pc ls (vr x :: rest)) := by
  cases x with
  | zero => exact lv_ifnonnullN hx hb hdg (kf rfl)
  | succ a => exact lv_ifnonnull hx hb hdg ht (kt (Nat.succ_ne_zero a))
theorem x_acmp_ne (hx : p.tables.exec = Jvm.exec) (hb : c.code = cc) {x y : Nat} {off : Int} {tgt : Nat} (hdg : decode cc pc = .ok (.if_acmp .ne off, 3)) (ht : (pc : Int) + off = (tgt : Int))
    (kt : ¬ x = y → W p l e R s m args below meth c H locs cells slots Q (F0 m tgt ls rest)) (kf : x = y → W p l e R s m args below meth c H locs cells slots Q (F0 m (pc + 3) ls rest)) : W p l e R s m args below meth c H locs cells slots Q (F0 m pc ls (vr y :: vr x :: rest)) := by
  rw [← vr_ro, ← vr_ro]
  exact lv_acmp_ne hx hb hdg ht (fun h => kt (fun q => h (by rw [q]))) (fun h => kf (ro_inj h))
/-- a field of a class, as a place of a method's class links it -/
def FL (nest : Bool) (own : String) (index ci k : Nat) (b fin : Bool) : Prop :=
  ∃ (C : String) (T : u_T) (N : Nat) (ty : Nat → FieldType),
    vwCl[ci]? = some (C, T, N) ∧ ci < 99 ∧ k < N ∧ (FB ci)[k]? = some b ∧ (∀ w ∈ u_ws C T N, w ∈ lw_good) ∧
    (∀ j, j < N → parseFieldDescriptor (T j).2.2.1 = some (ty j)) ∧ (∀ a, a < N → ∀ b, b < N → a ≠ b → (T a).2.1 ≠ (T b).2.1) ∧
    (T k).2.2.2 = fin ∧ (T k).1 = C ∧ (if b = true then ((∃ n, ty k = .object n) ∨ ∃ t, ty k = .array t) else ty k = .int) ∧
    (if nest = true then Cond.fieldLinkNest own index (T k).1 (T k).2.1 (T k).2.2.1 "SnapRows" ∈ nestW else Cond.fieldLink own index (T k).1 (T k).2.1 (T k).2.2.1 ∈ lw_good)
theorem fl_get {ci k n : Nat} {b : Bool} (hb : (FB ci)[k]? = some b) : ((FB ci).mapIdx (mkf σ ci n))[k]? = some (mkf σ ci n k b) := by
  rw [List.getElem?_mapIdx, hb]; rfl
theorem x_get (cx : CX p s m args meth c cc nL rt own nm D dA base) (h : Wd D dA base σ s H locs) {index ci k n : Nat} {b fin : Bool} (hF : FL false own index ci k b fin) (hk : kd σ n = ci + 1) (hdg : decode cc pc = .ok (.getfield index, 3))
    (kk : W p l e R s m args below meth c H locs cells slots Q (F0 m (pc + 3) ls (mkf σ ci n k b :: rest))) : W p l e R s m args below meth c H locs cells slots Q (F0 m pc ls (vr n :: rest)) := by
  obtain ⟨hx, hb, hml, hown, hts, -, -, -, hK, -⟩ := cx
  obtain ⟨C, T, N, ty, f1, f2, f3, f4, f5, f6, f7, f8, f9, f10, f11⟩ := hF
  obtain ⟨a, rfl, -, -, hat⟩ := h.1.ref hk (Nat.succ_ne_zero _)
  rw [mk_obj hk f2] at hat
  exact va_get (D := D) (ws := [(a, .inr (ci, (FB ci).mapIdx (mkf σ ci (a + 1))))]) hx hb hts f5 hown hK.1 (fun j q hq => by
    cases j with
    | zero => cases hq; exact hat
    | succ j => simp at hq) 0 rfl f1 k f3 (hts _ f11) (fun _ h9 => h9) (fl_get f4) hdg kk
theorem x_getN (cx : CX p s m args meth c cc nL rt own nm D dA base) (h : Wd D dA base σ s H locs) {index ci k n : Nat} {b fin : Bool} (hF : FL true own index ci k b fin) (hk : kd σ n = ci + 1) (hdg : decode cc pc = .ok (.getfield index, 3))
    (kk : W p l e R s m args below meth c H locs cells slots Q (F0 m (pc + 3) ls (mkf σ ci n k b :: rest))) : W p l e R s m args below meth c H locs cells slots Q (F0 m pc ls (vr n :: rest)) := by
  obtain ⟨hx, hb, hml, hown, hts, -, -, -, hK, -⟩ := cx
  obtain ⟨C, T, N, ty, f1, f2, f3, f4, f5, f6, f7, f8, f9, f10, f11⟩ := hF
  obtain ⟨a, rfl, -, -, hat⟩ := h.1.ref hk (Nat.succ_ne_zero _)
  rw [mk_obj hk f2] at hat
  exact va_getN (D := D) (ws := [(a, .inr (ci, (FB ci).mapIdx (mkf σ ci (a + 1))))]) hx hb hts f5 hown hK.1 (fun j q hq => by
    cases j with
    | zero => cases hq; exact hat
    | succ j => simp at hq) 0 rfl f1 k f3 (va_Nw.use rfl (hK.2.1 _ f11)) (fun _ h9 => h9) (fl_get f4) hdg kk
theorem Wd.put {D : va_G} {dA : Nat → ClassId} {base : Nat} {σ σ' : HS} {s : State} {H H1 : Heap} {locs : List Loc} (h : Wd D dA base σ s H locs) {a i : Nat} (ha : base ≤ a) (hkd : kd σ' = kd σ) (hhs : hs σ' = hs σ) (hz : H1.size = H.size) (oq : ∀ q : Nat, q ≠ a → H1[q]? = H[q]?)
    (ho : ∀ n, n ≠ a + 1 → mk dA σ' n = mk dA σ n) (hat : va_at D vwCl (a, mk dA σ' (a + 1)) H1) : Wd D dA base σ' s H1 (locs ++ [⟨a, i⟩]) := ⟨h.1.set hkd hhs hz oq ho hat, h.2.put hz oq ha⟩
theorem fit_int (v : Int32) : narrow .int (.int v) = .int v ∧ fits .int (.int v) = true := ⟨rfl, rfl⟩
theorem fit_ref {ty : FieldType} (h : (∃ n, ty = .object n) ∨ ∃ t, ty = .array t) (n : Nat) : narrow ty (vr n) = vr n ∧ fits ty (vr n) = true := by
  rcases h with ⟨x, rfl⟩ | ⟨x, rfl⟩ <;> cases n <;> exact ⟨rfl, rfl⟩
/-- a field is put: the machine's side, for both kinds of value -/
theorem x_put0 (cx : CX p s m args meth c cc nL rt own nm D dA base) (h : Wd D dA base σ s H locs) {nest : Bool} {index ci k n : Nat} {b fin : Bool} {v : Value} {σ' : HS} (hF : FL nest own index ci k b fin) (hfin : fin = false ∨ (nest = false ∧ nm = "<init>" ∧ ∃ T N, vwCl[ci]? = some (own, T, N))) (hk : kd σ n = ci + 1) (hdg : decode cc pc = .ok (.putfield index, 3))
    (hv : ∀ ty, (if b = true then ((∃ n, ty = .object n) ∨ ∃ t, ty = .array t) else ty = .int) → narrow ty v = v ∧ fits ty v = true)
    (hkd : kd σ' = kd σ) (hhs : hs σ' = hs σ) (ho : ∀ x, x ≠ n → mk dA σ' x = mk dA σ x) (hset : (FB ci).mapIdx (mkf σ' ci n) = ((FB ci).mapIdx (mkf σ ci n)).set k v)
    (kk : ∀ (H1 : Heap) (locs1 : List Loc), Wd D dA base σ' s H1 locs1 → W p l e R s m args below meth c H1 locs1 cells slots Q (F0 m (pc + 3) ls rest)) : W p l e R s m args below meth c H locs cells slots Q (F0 m pc ls (v :: vr n :: rest)) := by
  obtain ⟨hx, hb, hml, hown, hts, -, -, hnm, hK, -⟩ := cx
  obtain ⟨C, T, N, ty, f1, f2, f3, f4, f5, f6, f7, f8, f9, f10, f11⟩ := hF
  obtain ⟨a, rfl, hab, -, hat⟩ := h.1.ref hk (Nat.succ_ne_zero _)
  rw [mk_obj hk f2] at hat
  obtain ⟨r, h1, cell, q1, q2, q3, q4⟩ := hat
  have hr : r = (C, T, N) := Option.some.inj (h1.symm.trans f1)
  subst hr
  have hap := va_apart (own := own) hts f5 ty f6 f7 hK.1 f1
  obtain ⟨hS, hfc, kC, hkC, hkind⟩ := hK.1.1 ci _ f1
  obtain ⟨cf, kf, fi, f, hi, hsl⟩ := hS k f3
  have hst := (u_facts hfc hkC (u_lays hts f5 f3) hi).1
  obtain ⟨hn, hfit⟩ := hv _ f10
  have hl : k < ((FB ci).mapIdx (mkf σ ci (a + 1))).length := by rw [List.length_mapIdx]; exact (List.getElem?_eq_some_iff.mp f4).1
  have hat' : ∀ H' : Heap, H'[a]? = some (cell.setSlot f.slot v) → va_at D vwCl (a, mk dA σ' (a + 1)) H' := by
    intro H' e1
    rw [hsl] at e1
    rw [mk_obj (by rw [hkd]; exact hk) f2, hset]
    exact ⟨_, f1, t_OB.to (V := updV (vp_V ((FB ci).mapIdx (mkf σ ci (a + 1)))) k v) ⟨_, e1, q2, q3, t_set q4 hap f3 v⟩ (fun j _ => vp_updV_set hl v j)⟩
  have hlay := hts _ (f5 _ (u_in_lay f3))
  unfold u_lay at hlay
  rcases hfin with hfin | ⟨hne, hnm', T', N', hown'⟩
  · rw [if_neg (by rw [f8, hfin]; decide)] at hlay
    have h6 := u_store hfc hkC hkind hlay hi (f6 k f3) hn hfit
    cases nest with
    | false => exact W.putK hx hb (f := f) ⟨hown, hts _ f11, ⟨_, _, _, hi⟩, hst⟩ (by rw [q2]; exact h6) q1 q3 (by rw [hsl]; exact k2_hasslot (q4 k f3)) rfl rfl hdg fun H' e1 e2 e3 => kk H' _ (h.put hab hkd hhs e2 e3 ho (hat' H' e1))
    | true => exact va_WputK hx hb (f := f) hown (va_Nw.use rfl (hK.2.1 _ f11)) hi hst (by rw [q2]; exact h6) q1 q3 (by rw [hsl]; exact k2_hasslot (q4 k f3)) rfl rfl hdg fun H' e1 e2 e3 => kk H' _ (h.put hab hkd hhs e2 e3 ho (hat' H' e1))
  · subst hne
    have hC : C = own := by have := f1.symm.trans hown'; simp at this; exact this.1
    cases fin with
    | false =>
      rw [if_neg (by rw [f8]; decide)] at hlay
      have h6 := u_store hfc hkC hkind hlay hi (f6 k f3) hn hfit
      exact W.putK hx hb (f := f) ⟨hown, hts _ f11, ⟨_, _, _, hi⟩, hst⟩ (by rw [q2]; exact h6) q1 q3 (by rw [hsl]; exact k2_hasslot (q4 k f3)) rfl rfl hdg fun H' e1 e2 e3 => kk H' _ (h.put hab hkd hhs e2 e3 ho (hat' H' e1))
    | true =>
      rw [if_pos f8] at hlay
      have hcf : m.cls = cf := by
        obtain ⟨_, _, c', _, _, _, -, -, hf', -, -, -, hown2, -⟩ := Cond.laysFinal_spec hlay
        have e1 : c' = cf := by have := hi.symm.trans hf'; simp at this; exact this.1.symm
        rw [f9, hC] at hown2
        rw [← e1]; exact Option.some.inj (hown.symm.trans hown2)
      have h6 := u_fits hfc hkC hkind (Or.inr hlay) hi (f6 k f3) hn hfit
      exact W.putFinK hx hb hown (hts _ f11) hi hst hcf (hnm.trans hnm') (by rw [q2]; exact h6) q1 q3 (by rw [hsl]; exact k2_hasslot (q4 k f3)) rfl rfl hdg fun H' e1 e2 e3 => kk H' _ (h.put hab hkd hhs e2 e3 ho (hat' H' e1))
theorem x_puti (cx : CX p s m args meth c cc nL rt own nm D dA base) (h : Wd D dA base σ s H locs) {nest : Bool} {index ci k n : Nat} {fin : Bool} {v : Int32} (hF : FL nest own index ci k false fin) (hfin : fin = false ∨ (nest = false ∧ nm = "<init>" ∧ ∃ T N, vwCl[ci]? = some (own, T, N))) (hk : kd σ n = ci + 1) (hdg : decode cc pc = .ok (.putfield index, 3))
    (kk : ∀ (H1 : Heap) (locs1 : List Loc), Wd D dA base (si σ (40 * ci + k) n v) s H1 locs1 → W p l e R s m args below meth c H1 locs1 cells slots Q (F0 m (pc + 3) ls rest)) : W p l e R s m args below meth c H locs cells slots Q (F0 m pc ls (.int v :: vr n :: rest)) :=
  x_put0 (σ' := si σ (40 * ci + k) n v) cx h hF hfin hk hdg (fun ty ht => by rw [if_neg (by decide)] at ht; subst ht; exact fit_int v) rfl rfl (fun x hx => mk_si_ne hx) (mk_si_set (by obtain ⟨C, T, N, ty, f1, f2, f3, f4, f5⟩ := hF; exact f4)) kk
theorem x_putr (cx : CX p s m args meth c cc nL rt own nm D dA base) (h : Wd D dA base σ s H locs) {nest : Bool} {index ci k n : Nat} {fin : Bool} {v : Nat} (hF : FL nest own index ci k true fin) (hfin : fin = false ∨ (nest = false ∧ nm = "<init>" ∧ ∃ T N, vwCl[ci]? = some (own, T, N))) (hk : kd σ n = ci + 1) (hdg : decode cc pc = .ok (.putfield index, 3))
    (kk : ∀ (H1 : Heap) (locs1 : List Loc), Wd D dA base (sr σ (40 * ci + k) n v) s H1 locs1 → W p l e R s m args below meth c H1 locs1 cells slots Q (F0 m (pc + 3) ls rest)) : W p l e R s m args below meth c H locs cells slots Q (F0 m pc ls (vr v :: vr n :: rest)) :=
  x_put0 (σ' := sr σ (40 * ci + k) n v) cx h hF hfin hk hdg (fun ty ht => by rw [if_pos rfl] at ht; exact fit_ref ht v) rfl rfl (fun x hx => mk_sr_ne hx) (mk_sr_set (by obtain ⟨C, T, N, ty, f1, f2, f3, f4, f5⟩ := hF; exact f4)) kk
end XR
