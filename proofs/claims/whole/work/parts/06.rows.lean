section XA
variable {p : Program} {l : Launch} {e : Env} {R : Room} {s : State} {m : MethodId} {args : Array Value} {below : List Frame} {meth : Method} {c : Code} {H : Heap} {locs : List Loc} {cells slots : Nat} {Q : State → Prop}
variable {cc : ByteArray} {nL : Nat} {rt : Option FieldType} {own nm : String} {D : va_G} {dA : Nat → ClassId} {base : Nat} {pc : Nat} {ls : Array Slot} {rest : List Value} {σ τ : HS}
theorem x_iald (cx : CX p s m args meth c cc nL rt own nm D dA base) (h : Wd D dA base σ s H locs) {n : Nat} {i : Int32} (hk : kd σ n = 100) (hin : vp_in i (ln σ n)) (hdg : decode cc pc = .ok (.iaload, 1))
    (kk : W p l e R s m args below meth c H locs cells slots Q (F0 m (pc + 1) ls (.int (ai σ n i.toNatClampNeg) :: rest))) : W p l e R s m args below meth c H locs cells slots Q (F0 m pc ls (.int i :: vr n :: rest)) := by
  obtain ⟨hx, hb, hml, hown, hts, -, -, -, hK, -⟩ := cx
  obtain ⟨a, rfl, -, -, hat⟩ := h.1.ref hk (by decide)
  rw [mk_ia (j := 0) hk (by decide)] at hat
  exact va_iald (D := D) (cl := vwCl) (ws := [(a, .inl (dA 0, (ln σ (a + 1), .inl (fun i => ai σ (a + 1) i))))]) hx hb hK.1 (fun j q hq => by
    cases j with
    | zero => cases hq; exact hat
    | succ j => simp at hq) 0 0 rfl rfl hin hdg kk
theorem x_zald (cx : CX p s m args meth c cc nL rt own nm D dA base) (h : Wd D dA base σ s H locs) {n : Nat} {i : Int32} (hk : kd σ n = 101) (hin : vp_in i (ln σ n)) (hdg : decode cc pc = .ok (.baload, 1))
    (kk : W p l e R s m args below meth c H locs cells slots Q (F0 m (pc + 1) ls (.int (ai σ n i.toNatClampNeg) :: rest))) : W p l e R s m args below meth c H locs cells slots Q (F0 m pc ls (.int i :: vr n :: rest)) := by
  obtain ⟨hx, hb, hml, hown, hts, -, -, -, hK, -⟩ := cx
  obtain ⟨a, rfl, -, -, hat⟩ := h.1.ref hk (by decide)
  rw [mk_ia (j := 1) hk (by decide)] at hat
  exact va_zald (D := D) (cl := vwCl) (ws := [(a, .inl (dA 1, (ln σ (a + 1), .inl (fun i => ai σ (a + 1) i))))]) hx hb hK.1 (fun j q hq => by
    cases j with
    | zero => cases hq; exact hat
    | succ j => simp at hq) 0 1 rfl rfl hin hdg kk
/-- the class of an array of references of kind 100 + j -/
def RA (j ci : Nat) : Prop := ∃ (C : String) (T : u_T) (N : Nat), 2 ≤ j ∧ vwCl[ci]? = some (C, T, N) ∧ ∀ dA, (tysA dA)[j]? = some (dA j, .object C)
theorem RA2 : RA 2 0 := ⟨RX0, TX0, 5, by decide, rfl, fun _ => rfl⟩
theorem RA3 : RA 3 4 := ⟨RX4, TX4, 10, by decide, rfl, fun _ => rfl⟩
theorem x_aald (cx : CX p s m args meth c cc nL rt own nm D dA base) (h : Wd D dA base σ s H locs) {n j ci : Nat} {i : Int32} (hj : RA j ci) (hk : kd σ n = 100 + j) (hin : vp_in i (ln σ n)) (hdg : decode cc pc = .ok (.aaload, 1))
    (kk : W p l e R s m args below meth c H locs cells slots Q (F0 m (pc + 1) ls (vr (ar σ n i.toNatClampNeg) :: rest))) : W p l e R s m args below meth c H locs cells slots Q (F0 m pc ls (.int i :: vr n :: rest)) := by
  obtain ⟨hx, hb, hml, hown, hts, -, -, -, hK, -⟩ := cx
  obtain ⟨C, T, N, j2, j3, j4⟩ := hj
  obtain ⟨a, rfl, -, -, hat⟩ := h.1.ref hk (by omega)
  rw [mk_ra hk j2] at hat
  refine va_aldq (D := D) (cl := vwCl) (C := C) (ws := [(a, .inl (dA j, (ln σ (a + 1), .inr (.inr (.inr (.inr (fun i => ro (ar σ (a + 1) i))))))))]) hx hb hK.1 (fun j q hq => by
    cases j with
    | zero => cases hq; exact hat
    | succ j => simp at hq) 0 j rfl (j4 dA) hin hdg ?_
  rw [vr_ro]
  exact kk
theorem x_iast (cx : CX p s m args meth c cc nL rt own nm D dA base) (h : Wd D dA base σ s H locs) {n : Nat} {i x : Int32} (hk : kd σ n = 100) (hin : vp_in i (ln σ n)) (hdg : decode cc pc = .ok (.iastore, 1))
    (kk : ∀ (H1 : Heap) (locs1 : List Loc), Wd D dA base (sai σ n i.toNatClampNeg x) s H1 locs1 → W p l e R s m args below meth c H1 locs1 cells slots Q (F0 m (pc + 1) ls rest)) : W p l e R s m args below meth c H locs cells slots Q (F0 m pc ls (.int x :: .int i :: vr n :: rest)) := by
  obtain ⟨hx, hb, hml, hown, hts, -, -, -, hK, -⟩ := cx
  obtain ⟨a, rfl, hab, -, hat⟩ := h.1.ref hk (by decide)
  rw [mk_ia (j := 0) hk (by decide)] at hat
  refine W.iast hx hb hat ((hK.1.2 0 _ rfl).1 _ (fun j => .int (ai σ (a + 1) j))) (fun q => by cases q) (by show ¬ (i < 0 ∨ (arrV _ _ _).slots.size ≤ _); rw [arrV_size]; exact hin) rfl rfl hdg fun H1 e1 z oq => kk H1 _ (h.put hab rfl rfl z oq (fun x hx => mk_sai_ne hx) ?_)
  rw [mk_ia (j := 0) (σ := sai σ (a + 1) i.toNatClampNeg x) hk (by decide)]
  show H1[a]? = some (vp_cell _ _)
  rw [e1, vp_cell_i, vp_cell_i, arrV_store]
  show some (arrV _ _ _) = some (arrV _ (ln σ (a + 1)) _)
  congr 2
  funext q
  by_cases hq : q = i.toNatClampNeg
  · subst hq; simp [updV, ai, sai, up2]
  · simp [updV, ai, sai, up2, hq]
theorem x_zast (cx : CX p s m args meth c cc nL rt own nm D dA base) (h : Wd D dA base σ s H locs) {n : Nat} {i x : Int32} (hk : kd σ n = 101) (hin : vp_in i (ln σ n)) (hz : x = 0 ∨ x = 1) (hdg : decode cc pc = .ok (.bastore, 1))
    (kk : ∀ (H1 : Heap) (locs1 : List Loc), Wd D dA base (sai σ n i.toNatClampNeg x) s H1 locs1 → W p l e R s m args below meth c H1 locs1 cells slots Q (F0 m (pc + 1) ls rest)) : W p l e R s m args below meth c H locs cells slots Q (F0 m pc ls (.int x :: .int i :: vr n :: rest)) := by
  obtain ⟨hx, hb, hml, hown, hts, -, -, -, hK, -⟩ := cx
  obtain ⟨a, rfl, hab, -, hat⟩ := h.1.ref hk (by decide)
  rw [mk_ia (j := 1) hk (by decide)] at hat
  refine W.zast hx hb hat ((hK.1.2 1 _ rfl).1 _ (fun j => .int (ai σ (a + 1) j))) (fun q => by cases q) (by show ¬ (i < 0 ∨ (arrV _ _ _).slots.size ≤ _); rw [arrV_size]; exact hin) rfl rfl hdg fun H1 e1 z oq => kk H1 _ (h.put hab rfl rfl z oq (fun x hx => mk_sai_ne hx) ?_)
  rw [mk_ia (j := 1) (σ := sai σ (a + 1) i.toNatClampNeg x) hk (by decide)]
  show H1[a]? = some (vp_cell _ _)
  rw [e1, vp_cell_i, vp_cell_i, arrV_store]
  show some (arrV _ _ _) = some (arrV _ (ln σ (a + 1)) _)
  congr 2
  funext q
  have hn : narrow .boolean (.int x) = .int x := by rcases hz with rfl | rfl <;> rfl
  by_cases hq : q = i.toNatClampNeg
  · subst hq
    simp only [updV, ai, sai, up2, if_true, and_self]
    exact hn
  · simp [updV, ai, sai, up2, hq]
theorem x_aast (cx : CX p s m args meth c cc nL rt own nm D dA base) (h : Wd D dA base σ s H locs) {n j ci x : Nat} {i : Int32} (hj : RA j ci) (hci : ci < 99) (hk : kd σ n = 100 + j) (hin : vp_in i (ln σ n)) (hxk : kd σ x = ci + 1) (hdg : decode cc pc = .ok (.aastore, 1))
    (kk : ∀ (H1 : Heap) (locs1 : List Loc), Wd D dA base (sar σ n i.toNatClampNeg x) s H1 locs1 → W p l e R s m args below meth c H1 locs1 cells slots Q (F0 m (pc + 1) ls rest)) : W p l e R s m args below meth c H locs cells slots Q (F0 m pc ls (vr x :: .int i :: vr n :: rest)) := by
  obtain ⟨hx, hb, hml, hown, hts, -, -, -, hK, -⟩ := cx
  obtain ⟨C, T, N, j2, j3, j4⟩ := hj
  obtain ⟨a, rfl, hab, -, hat⟩ := h.1.ref hk (by omega)
  obtain ⟨v, rfl, -, -, hav⟩ := h.1.ref hxk (Nat.succ_ne_zero _)
  rw [mk_ra hk j2] at hat
  rw [mk_obj hxk hci] at hav
  have hlt : i.toNatClampNeg < ln σ (a + 1) := Nat.not_le.mp fun q => hin (Or.inr q)
  have h0 : ¬ i < 0 := fun q => hin (Or.inl q)
  obtain ⟨r', hr', cellV, g1, g2, g3, -⟩ := hav
  have hcls := (hK.1.1 ci _ j3).2
  obtain ⟨kA, comp, k1, k2, k3, -⟩ := (hK.1.2 j _ (j4 dA)).2
  have hcomp : comp = D.1 ci := Option.some.inj (k3.symm.trans hcls.1)
  subst hcomp
  obtain ⟨kC, hkC, -⟩ := hcls.2
  refine W.aast hx hb hat (fun q h => by cases h) (fun h => by cases h) k1 k2 rfl hkC ⟨h0, by show _ < (arrV _ _ _).slots.size; rw [arrV_size]; exact hlt⟩ g1 (fun q h => by rw [g3] at h; cases h) (by rw [g2]; exact hkC) (by rw [g2]; exact va_assign hcls) rfl rfl hdg fun H1 e1 z oq => kk H1 _ (h.put hab rfl rfl z oq (fun x hx => mk_sar_ne hx) ?_)
  rw [mk_ra (σ := sar σ (a + 1) i.toNatClampNeg (v + 1)) hk j2]
  show H1[a]? = some (vp_cell _ _)
  rw [e1, vp_cell_q, vp_cell_q, arrV_store]
  show some (arrV _ _ _) = some (arrV _ (ln σ (a + 1)) _)
  congr 2
  funext q
  by_cases hq : q = i.toNatClampNeg
  · subst hq; simp [updV, ar, sar, up2, va_rf, ro]
  · simp [updV, ar, sar, up2, hq]
/-- a class whose objects a place makes -/
def NL (own : String) (index ci N : Nat) : Prop :=
  ∃ (C : String) (T : u_T) (ty : Nat → FieldType), vwCl[ci]? = some (C, T, N) ∧ ci < 99 ∧ (FB ci).length = N ∧ (∀ w ∈ u_ws C T N, w ∈ lw_good) ∧ (∀ j, j < N → parseFieldDescriptor (T j).2.2.1 = some (ty j)) ∧
    (∀ j, j < N → defaultValue (ty j) = (if (FB ci)[j]? = some true then .null else .int 0)) ∧ Cond.classLink own index C ∈ lw_good ∧ Cond.instantiable C N ∈ lw_good ∧ Cond.initialized C ∈ lw_good
theorem Wd.push {D : va_G} {dA : Nat → ClassId} {base : Nat} {σ : HS} {s : State} {H H1 : Heap} {locs : List Loc} {k L : Nat} (h : Wd D dA base σ s H locs) (hz : H1.size = H.size + 1) (oq : ∀ q : Nat, q < H.size → H1[q]? = H[q]?)
    (hat : va_at D vwCl (H.size, mk dA (nw σ k L) (hs σ + 1)) H1) : Wd D dA base (nw σ k L) s H1 locs := by
  refine ⟨h.1.push hz oq hat, ?_, fun q h1 h2 => ?_, h.2.2.2⟩
  · have := h.2.1; omega
  · rw [oq q (Nat.lt_of_lt_of_le h1 h.2.1)]; exact h.2.2.1 q h1 h2
theorem x_new (cx : CX p s m args meth c cc nL rt own nm D dA base) (h : Wd D dA base σ s H locs) {index ci N : Nat} (hN : NL own index ci N) (hcells : cells + 1 ≤ R.cells) (hslots : slots + N ≤ R.slots) (hdg : decode cc pc = .ok (.new index, 3))
    (kk : ∀ (H1 : Heap), Wd D dA base (nw σ (ci + 1) N) s H1 locs → W p l e R s m args below meth c H1 locs (cells + 1) (slots + N) Q (F0 m (pc + 3) ls (vr (hs σ + 1) :: rest))) : W p l e R s m args below meth c H locs cells slots Q (F0 m pc ls rest) := by
  obtain ⟨hx, hb, hml, hown, hts, -, -, -, hK, -⟩ := cx
  obtain ⟨C, T, ty, n1, n2, n3, n4, n5, n6, n7, n8, n9⟩ := hN
  have hKn := hK.1.1 ci _ n1
  refine W.newcK hx hb hown (hts _ n7) (hts _ n8) (hts _ n9) rfl hdg hcells hslots hKn.2.1 h.1.1 fun H1 kC hkC e1 z1 o1 => kk H1 (h.push (by rw [z1, h.1.1]) (by rw [h.1.1]; exact o1) ?_)
  rw [mk_obj (c := ci) (kd_nw_self σ (ci + 1) N) n2, h.1.1]
  refine ⟨_, n1, (u_born ty hts n4 hKn hkC e1 n5).to (fun j hj => ?_)⟩
  rw [n6 j hj]
  have hj' : j < (FB ci).length := by rw [n3]; exact hj
  have e2 : (FB ci)[j]? = some (FB ci)[j] := List.getElem?_eq_getElem hj'
  unfold vp_V
  rw [List.getD_eq_getElem?_getD, fl_get e2, e2]
  cases (FB ci)[j] with
  | false => rw [if_neg (by simp)]; simp [mkf, gi, nw]
  | true => rw [if_pos rfl]; simp [mkf, gr, nw, vr]
theorem x_newa (cx : CX p s m args meth c cc nL rt own nm D dA base) (h : Wd D dA base σ s H locs) {j : Nat} {n : Int32} {N : Nat} {aty : ArrayType} {ty : FieldType} (hty : newarray.typeOf aty = ty) (hj : (j = 0 ∧ ty = .int) ∨ (j = 1 ∧ ty = .boolean)) (hw : Cond.arrayClass ty ∈ lw_good) (hn : ¬ n < 0) (hN : n.toNatClampNeg = N) (hb4 : N ≤ 100000) (hcells : cells + 1 ≤ R.cells) (hslots : slots + N ≤ R.slots) (hdg : decode cc pc = .ok (.newarray aty, 2))
    (kk : ∀ (H1 : Heap), Wd D dA base (nw σ (100 + j) N) s H1 locs → W p l e R s m args below meth c H1 locs (cells + 1) (slots + N) Q (F0 m (pc + 2) ls (vr (hs σ + 1) :: rest))) : W p l e R s m args below meth c H locs cells slots Q (F0 m pc ls (.int n :: rest)) := by
  obtain ⟨hx, hb, hml, hown, hts, -, -, -, hK, -⟩ := cx
  subst hty
  have hbytes : N * componentBytes (newarray.typeOf aty) ≤ 536870912 := by
    rcases hj with ⟨-, e⟩ | ⟨-, e⟩ <;> rw [e] <;> simp [componentBytes] <;> omega
  refine va_newaK hx hb (hts _ hw) rfl hdg rfl hn hN hbytes hcells hslots h.1.1 fun H1 cA e1 z1 o1 hAr hNm => kk H1 (h.push (by rw [z1, h.1.1]) (by rw [h.1.1]; exact o1) ?_)
  have hcA : cA = dA j := by
    rcases hj with ⟨rfl, e⟩ | ⟨rfl, e⟩
    · have := (hK.1.2 0 _ rfl).2
      rw [e] at hNm
      exact Option.some.inj (hNm.symm.trans this)
    · have := (hK.1.2 1 _ rfl).2
      rw [e] at hNm
      exact Option.some.inj (hNm.symm.trans this)
  subst hcA
  rw [mk_ia (kd_nw_self σ (100 + j) N) (by omega), h.1.1]
  show H1[hs σ]? = some (vp_cell _ _)
  rw [e1, vp_cell_i]
  congr 1
  have e2 : ln (nw σ (100 + j) N) (hs σ + 1) = N := if_pos rfl
  rw [e2]
  congr 1
  funext q
  have e3 : ai (nw σ (100 + j) N) (hs σ + 1) q = 0 := if_pos rfl
  rw [e3]
  rcases hj with ⟨-, e⟩ | ⟨-, e⟩ <;> rw [e] <;> rfl
theorem x_newq (cx : CX p s m args meth c cc nL rt own nm D dA base) (h : Wd D dA base σ s H locs) {j ci index : Nat} {n : Int32} {N : Nat} {C : String} (hj : 2 ≤ j) (hC : ∀ dA, (tysA dA)[j]? = some (dA j, .object C)) (hov : ∀ U, KK D dA U → va_AO C U) (hw : Cond.classLink own index C ∈ lw_good) (hn : ¬ n < 0) (hN : n.toNatClampNeg = N) (hb4 : N ≤ 100000) (hcells : cells + 1 ≤ R.cells) (hslots : slots + N ≤ R.slots) (hdg : decode cc pc = .ok (.anewarray index, 3))
    (kk : ∀ (H1 : Heap), Wd D dA base (nw σ (100 + j) N) s H1 locs → W p l e R s m args below meth c H1 locs (cells + 1) (slots + N) Q (F0 m (pc + 3) ls (vr (hs σ + 1) :: rest))) : W p l e R s m args below meth c H locs cells slots Q (F0 m pc ls (.int n :: rest)) := by
  obtain ⟨hx, hb, hml, hown, hts, -, -, -, hK, -⟩ := cx
  subst hN
  refine W.anew hx hb hown (hts _ hw) (va_AO.use (hov s hK)) rfl hdg rfl hn (by omega) hcells hslots fun cA kA comp f1 f2 f3 f4 => ?_
  generalize hH1 : H.push ({ cls := cA, slots := Array.replicate n.toNatClampNeg .null, vm := .none } : Cell) = H1
  have z1 : H1.size = H.size + 1 := by rw [← hH1, Array.size_push]
  have e1 : H1[H.size]? = some (arrV cA n.toNatClampNeg (fun _ => .null)) := by rw [← hH1, Array.getElem?_push_size, ← arrV_new]
  have o1 : ∀ q : Nat, q < H.size → H1[q]? = H[q]? := fun q hq => by rw [← hH1, Array.getElem?_push, if_neg (Nat.ne_of_lt hq)]
  have hcA : cA = dA j := by
    obtain ⟨_, _, _, _, _, g4⟩ := (hK.1.2 j _ (hC dA)).2
    exact Option.some.inj (f1.symm.trans g4)
  subst hcA
  have K := kk H1 (h.push z1 o1 (by
    rw [mk_ra (kd_nw_self σ (100 + j) n.toNatClampNeg) hj]
    show H1[H.size]? = some (vp_cell _ _)
    rw [e1, vp_cell_q]
    congr 1
    have e2 : ln (nw σ (100 + j) n.toNatClampNeg) (hs σ + 1) = n.toNatClampNeg := if_pos rfl
    rw [e2]
    congr 1
    funext q
    have e3 : ar (nw σ (100 + j) n.toNatClampNeg) (hs σ + 1) q = 0 := if_pos rfl
    rw [e3]; rfl))
  have e9 : Value.ref H.size = vr (hs σ + 1) := by rw [h.1.1]; rfl
  rw [e9]
  exact K
end XA
