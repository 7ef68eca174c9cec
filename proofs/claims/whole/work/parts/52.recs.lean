/-! THE REFERENCE'S RECORDS -/
theorem swr_perm {α : Type} {l : List α} {d : Nat} {x y : α} (hx : l.getLast? = some x) (hy : l[d]? = some y) : l.Perm (y :: (l.set d x).dropLast) := by
  obtain ⟨l', rfl⟩ : ∃ l', l = l' ++ [x] := by
    obtain ⟨ys, h⟩ := List.getLast?_eq_some_iff.mp hx
    exact ⟨ys, h⟩
  have hd : d < (l' ++ [x]).length := (List.getElem?_eq_some_iff.mp hy).1
  by_cases e : d = l'.length
  · subst e
    rw [List.getElem?_append_right (Nat.le_refl _), Nat.sub_self] at hy
    have hxy : x = y := by simpa using hy
    subst hxy
    rw [List.set_append_right _ _ (Nat.le_refl _), Nat.sub_self]
    simp only [List.set_cons_zero, List.dropLast_concat]
    exact List.perm_append_singleton _ _
  · have hd' : d < l'.length := by simp at hd; omega
    rw [List.getElem?_append_left hd'] at hy
    rw [List.set_append_left _ _ hd', List.dropLast_concat]
    have hc : l' = l'.take d ++ y :: l'.drop (d + 1) := by
      obtain ⟨q, hq⟩ := List.getElem?_eq_some_iff.mp hy
      rw [← hq, ← List.drop_eq_getElem_cons q, List.take_append_drop]
    have hs : l'.set d x = l'.take d ++ x :: l'.drop (d + 1) := List.set_eq_take_append_cons_drop ▸ by rw [if_pos hd']
    rw [hs]
    conv => lhs; rw [hc]
    refine (List.perm_append_singleton _ _).trans ?_
    refine (List.Perm.cons x (List.perm_middle)).trans ?_
    refine (List.Perm.swap y x _).trans ?_
    exact List.Perm.cons y List.perm_middle.symm
theorem swr_get {α : Type} {l : List α} {d i : Nat} {x : α} (hi : i < l.length - 1) : ((l.set d x).dropLast)[i]? = if i = d then some x else l[i]? := by
  rw [List.getElem?_dropLast, if_pos (by simpa using hi), List.getElem?_set]
  by_cases e : d = i
  · subst e
    rw [if_pos rfl, if_pos (by omega), if_pos rfl]
  · rw [if_neg e, if_neg (fun q => e q.symm)]
theorem cnt_up (p p' : Nat → Bool) (c : Nat) : ∀ (l : List Nat), l.Nodup → c ∈ l → (∀ x, x ≠ c → p' x = p x) → (l.filter p').length + (if p c = true then 1 else 0) = (l.filter p).length + (if p' c = true then 1 else 0) := by
  intro l
  induction l with
  | nil => intro _ h; cases h
  | cons x l ih =>
    intro hn hc he
    have hn' := List.nodup_cons.mp hn
    by_cases e : x = c
    · subst e
      have : l.filter p' = l.filter p := List.filter_congr (fun y hy => he y (fun q => hn'.1 (q ▸ hy)))
      rw [List.filter_cons, List.filter_cons, this]
      cases p' x <;> cases p x <;> simp
    · have := ih hn'.2 ((List.mem_cons.mp hc).resolve_left (fun q => e q.symm)) he
      rw [List.filter_cons, List.filter_cons, he x e]
      cases p x
      · simpa using this
      · simp only [if_true, List.length_cons]; omega
theorem cntL_set {A A' : AS} {c : Nat} {s : Int32} (hc : c < 256) (h : ∀ x, zlk A' 0 x = if x = c then s else zlk A 0 x) : cntL A' + (if zlk A 0 c = 0 then 0 else 1) = cntL A + (if s = 0 then 0 else 1) := by
  have := cnt_up (fun c => decide (¬ zlk A 0 c = 0)) (fun c => decide (¬ zlk A' 0 c = 0)) c (List.range 256) List.nodup_range (List.mem_range.mpr hc) (fun x hx => by simp only [h x, if_neg hx])
  unfold cntL
  rw [show (if zlk A 0 c = 0 then 0 else 1) = (if decide (¬ zlk A 0 c = 0) = true then 1 else 0) by by_cases e : zlk A 0 c = 0 <;> simp [e]]
  rw [this, h c, if_pos rfl]
  by_cases e : s = 0 <;> simp [e]
theorem lk_0 (A : AS) (c : Nat) (s : Int32) (p : Nat) (t : Int32) (x : Nat) : zlk (aLk A c s p t) 0 x = if x = c then s else zlk A 0 x := by
  show (if 0 = 1 ∧ x = c then t else if 0 = 0 ∧ x = c then s else zlk A 0 x) = _
  rw [if_neg (by omega)]
  by_cases e : x = c
  · rw [if_pos ⟨rfl, e⟩, if_pos e]
  · rw [if_neg (fun q => e q.2), if_neg e]
theorem lk_1 (A : AS) (c : Nat) (s : Int32) (p : Nat) (t : Int32) (x : Nat) : zlk (aLk A c s p t) 1 x = if x = c then t else zlk A 1 x := by
  show (if 1 = 1 ∧ x = c then t else if 1 = 0 ∧ x = c then s else zlk A 1 x) = _
  by_cases e : x = c
  · rw [if_pos ⟨rfl, e⟩, if_pos e]
  · rw [if_neg (fun q => e q.2), if_neg e, if_neg (by omega)]
theorem lk_p (A : AS) (c : Nat) (s : Int32) (p : Nat) (t : Int32) (x : Nat) : zlp (aLk A c s p t) x = if x = c then p else zlp A x := rfl
theorem line_ne (A : AS) (r : Int32) {j : Nat} (h1 : j ≠ 6) (h2 : j ≠ 7) : zsc (aLine A r) j = zsc A j := by
  show (if j = 7 then _ else if j = 6 then _ else zsc A j) = _
  rw [if_neg h2, if_neg h1]
theorem nI_m2 (n : Nat) : nI (n + 2) + (-2) = nI n := by
  rw [← nI_add, Int32.add_assoc, show (nI 2 + -2 : Int32) = 0 from by decide, Int32.add_zero]
theorem nI_m1 (n : Nat) : nI (n + 1) + (-1) = nI n := by
  rw [← nI_add, Int32.add_assoc, show (nI 1 + -1 : Int32) = 0 from by decide, Int32.add_zero]
theorem nI_2x (n : Nat) : (2 : Int32) * nI n = nI (2 * n) := (Int32.ofNat_mul 2 n).symm
/-- the reference's state with its lists named -/
def RMw (p : Nat → Nat) (m : Nat) (A : AS) (σ : HS) (D : List (Nat × Int32 × Int32)) (V : List (Nat × Int32 × Int32 × Int32)) : Prop := ShM p σ ∧ Mlk p A σ ∧ Mtr p A σ ∧ Msc p m A σ D.length V.length (cntL A) ∧ Mda p A σ D ∧ Mwr p A σ V
section
variable {p : Nat → Nat} {m : Nat} {A : AS} {σ : HS} {D : List (Nat × Int32 × Int32)} {V : List (Nat × Int32 × Int32 × Int32)}
theorem RMw.mo (h : RMw p m A σ D V) : RMo p m A σ := ⟨h.1, h.2.1, h.2.2.1, D, V, h.2.2.2⟩
theorem RMo.wi (h : RMo p m A σ) : ∃ D V, RMw p m A σ D V := by
  obtain ⟨h1, h2, h3, D, V, h4⟩ := h
  exact ⟨D, V, h1, h2, h3, h4⟩
theorem RMo.le {m' : Nat} (h : RMo p m A σ) (hm : m ≤ m') : RMo p m' A σ := by
  obtain ⟨h1, h2, h3, D, V, ⟨a1, a2, a3, a4, a5, a6, a7, a8, a9, a10, a11, a12, a13, a14, a15⟩, h5, h6⟩ := h
  exact ⟨h1, h2, h3, D, V, ⟨a1, a2, a3, a4, a5, a6, a7, a8, a9, a10, a11, a12, a13, a14, by omega⟩, h5, h6⟩
theorem mo_records (h : RMo p m A σ) : F_X6_records (p 294) σ = some (zsc A 6, σ) := by
  obtain ⟨h1, h2, h3, D, V, ⟨a1, a2, a3, a4, a5, a6, a7, a8, a9, a10, a11, a12, a13, a14, a15⟩, h5, h6⟩ := h
  unfold F_X6_records
  rw [if_pos h1.km, a6, a7, a8, nI_2x, nI_add, nI_add, a14]
theorem mo_dropLock (h : RMo p m A σ) {c : Nat} (hc : c < 256) (hl : ¬ zlk A 0 c = 0) : ∃ τ, F_X6_dropLock (p 294) (nI c) σ = some ((), τ) ∧ RMo p (m - 2) (aDropLock A c) τ ∧ Mst p σ τ := by
  obtain ⟨h1, h2, h3, D, V, h4, h5, h6⟩ := h
  have hcn : cntL A = cntL (aDropLock A c) + 1 := by
    have := cntL_set (A := A) (A' := aDropLock A c) (c := c) (s := 0) hc (fun x => lk_0 A c 0 0 0 x)
    rw [if_neg hl, if_pos rfl] at this
    omega
  generalize cntL A = n0 at hcn h4
  obtain ⟨g1, g2, g3⟩ := h1.g256
  have hi : inb (nI c) 256 := inb_nI hc (by decide)
  have a8 := h4.2.2.2.2.2.2.2.1
  have a9 := h4.2.2.2.2.2.2.2.2.1
  have a14 := h4.2.2.2.2.2.2.2.2.2.2.2.2.2.1
  have a15 := h4.2.2.2.2.2.2.2.2.2.2.2.2.2.2
  refine ⟨si (si (sai σ (p 302) c 0) 255 (p 294) (nI n0 - 1)) 267 (p 294) (gi σ 267 (p 294) + 1), ?_, ⟨h1.keepM (((Mst.rf.sai (h1.le (by decide))).si (by decide)).si (by decide)), fun x hx => ?_, h3.keep ((SA.rf.sai h1 (by omega)).si.si) rfl rfl, D, V, ?_, h5.keep ((SA.rf.sai h1 (by omega)).si.si) (fun _ _ => rfl), h6.keep ((SA.rf.sai h1 (by omega)).si.si) (fun _ _ => rfl)⟩, ((Mst.rf.sai (h1.le (by decide))).si (by decide)).si (by decide)⟩
  · unfold F_X6_dropLock lt1
    refine (if_pos h1.km).trans ((if_pos ?_).trans ?_)
    · simp only [gr_sai, kd_sai, ln_sai, gi_sai, gr_si, kd_si, ln_si, ai_si, g1]; exact ⟨g2, by rw [g3]; exact hi⟩
    · simp only [gr_sai, kd_sai, ln_sai, gi_sai, gr_si, kd_si, ln_si, ai_si, gi_ne (show 267 ≠ 255 by decide), g1, nI_clamp (show c < 2 ^ 31 by omega), a8]
  · obtain ⟨y1, y2⟩ := h2 x hx
    have ez : zlk (aDropLock A c) 0 x = (if x = c then 0 else zlk A 0 x) ∧ zlk (aDropLock A c) 1 x = (if x = c then 0 else zlk A 1 x) ∧ zlp (aDropLock A c) x = (if x = c then 0 else zlp A x) := by
      exact ⟨lk_0 A c 0 0 0 x, lk_1 A c 0 0 0 x, lk_p A c 0 0 0 x⟩
    rw [ez.1, ez.2.1, ez.2.2]
    simp only [ai_si]
    rw [ai_ne (h1.ne (i := 303) (j := 302) (by decide)), ai_ne (h1.ne (i := 304) (j := 302) (by decide))]
    by_cases e : x = c
    · subst e
      rw [ai_eq, if_pos rfl]
      exact ⟨rfl, fun q => absurd rfl q⟩
    · rw [ai_nj e, if_neg e, if_neg e, if_neg e]
      exact ⟨y1, y2⟩
  · generalize hA : aDropLock A c = A' at hcn ⊢
    generalize cntL A' = n at hcn ⊢
    subst hcn
    refine h4.up (fun j j1 j2 => ?_) ?_ ?_ (fun f f1 f2 f3 f4 => ?_) ?_ ?_ ?_ ?_ ?_
    · rw [← hA]; exact line_ne _ _ j1 j2
    · rw [← hA]; rfl
    · rw [← hA]
      show zsc A 6 + (-2) = _
      rw [a14, show D.length + V.length + 2 * (n + 1) = (D.length + V.length + 2 * n) + 2 by omega, nI_m2]
    · rw [gi_ne f4, gi_ne f3]; simp only [gi_sai]
    · rw [gi_ne (by decide), gi_ne (by decide)]; simp only [gi_sai]; exact h4.2.2.2.2.2.1
    · rw [gi_ne (by decide), gi_ne (by decide)]; simp only [gi_sai]; exact h4.2.2.2.2.2.2.1
    · rw [gi_ne (by decide), gi_eq]; exact nI_pred n
    · rw [gi_eq]
    · omega
theorem mo_addLock (h : RMo p m A σ) {c pr : Nat} (hc : c < 256) (hp : pr < 256) {s : Int32} (hs : ¬ s = 0) (hl : zlk A 0 c = 0) : ∃ τ, F_X6_addLock (p 294) (nI c) s (nI pr) σ = some ((), τ) ∧ RMo p (m + 2) (aAddLock A c s pr (zsc A 0)) τ ∧ Mst p σ τ := by
  obtain ⟨h1, h2, h3, D, V, h4, h5, h6⟩ := h
  have hcn : cntL (aAddLock A c s pr (zsc A 0)) = cntL A + 1 := by
    have := cntL_set (A := A) (A' := aAddLock A c s pr (zsc A 0)) (c := c) (s := s) hc (fun x => lk_0 A c s pr (zsc A 0) x)
    rw [if_pos hl, if_neg hs] at this
    omega
  generalize cntL A = n0 at hcn h4
  obtain ⟨g1, g2, g3⟩ := h1.g256
  obtain ⟨g4, g5, g6⟩ := h1.g257
  obtain ⟨g7, g8, g9⟩ := h1.g258
  have hi : inb (nI c) 256 := inb_nI hc (by decide)
  have a1 := h4.1
  have a8 := h4.2.2.2.2.2.2.2.1
  have a14 := h4.2.2.2.2.2.2.2.2.2.2.2.2.2.1
  have a15 := h4.2.2.2.2.2.2.2.2.2.2.2.2.2.2
  refine ⟨si (si (sai (sai (sai σ (p 302) c s) (p 303) c (nI pr)) (p 304) c (zsc A 0)) 255 (p 294) (nI n0 + 1)) 267 (p 294) (gi σ 267 (p 294) + 1), ?_, ⟨h1.keepM (((((Mst.rf.sai (h1.le (by decide))).sai (h1.le (by decide))).sai (h1.le (by decide))).si (by decide)).si (by decide)), fun x hx => ?_, h3.keep ((((SA.rf.sai h1 (by omega)).sai h1 (by omega)).sai h1 (by omega)).si.si) rfl rfl, D, V, ?_, h5.keep ((((SA.rf.sai h1 (by omega)).sai h1 (by omega)).sai h1 (by omega)).si.si) (fun _ _ => rfl), h6.keep ((((SA.rf.sai h1 (by omega)).sai h1 (by omega)).sai h1 (by omega)).si.si) (fun _ _ => rfl)⟩, ((((Mst.rf.sai (h1.le (by decide))).sai (h1.le (by decide))).sai (h1.le (by decide))).si (by decide)).si (by decide)⟩
  · unfold F_X6_addLock lt1
    refine (if_pos h1.km).trans ((if_pos ?_).trans ((if_pos ?_).trans ((if_pos ?_).trans ?_)))
    · simp only [gr_sai, kd_sai, ln_sai, gi_sai, gr_si, kd_si, ln_si, ai_si, g1]; exact ⟨g2, by rw [g3]; exact hi⟩
    · simp only [gr_sai, kd_sai, ln_sai, gi_sai, gr_si, kd_si, ln_si, ai_si, g4]; exact ⟨g5, by rw [g6]; exact hi⟩
    · simp only [gr_sai, kd_sai, ln_sai, gi_sai, gr_si, kd_si, ln_si, ai_si, g7]; exact ⟨g8, by rw [g9]; exact hi⟩
    · simp only [gr_sai, kd_sai, ln_sai, gi_sai, gr_si, kd_si, ln_si, ai_si, gi_ne (show 267 ≠ 255 by decide), g1, g4, g7, nI_clamp (show c < 2 ^ 31 by omega), a1, a8]
  · obtain ⟨y1, y2⟩ := h2 x hx
    have ez : zlk (aAddLock A c s pr (zsc A 0)) 0 x = (if x = c then s else zlk A 0 x) ∧ zlk (aAddLock A c s pr (zsc A 0)) 1 x = (if x = c then zsc A 0 else zlk A 1 x) ∧ zlp (aAddLock A c s pr (zsc A 0)) x = (if x = c then pr else zlp A x) := by
      exact ⟨lk_0 A c s pr (zsc A 0) x, lk_1 A c s pr (zsc A 0) x, lk_p A c s pr (zsc A 0) x⟩
    rw [ez.1, ez.2.1, ez.2.2]
    simp only [ai_si]
    rw [ai_ne (h1.ne (i := 302) (j := 304) (by decide)), ai_ne (h1.ne (i := 302) (j := 303) (by decide)), ai_ne (h1.ne (i := 303) (j := 304) (by decide))]
    by_cases e : x = c
    · subst e
      rw [ai_eq, ai_eq, ai_eq, if_pos rfl, if_pos rfl, if_pos rfl]
      exact ⟨rfl, fun _ => ⟨rfl, rfl, hp⟩⟩
    · rw [if_neg e, if_neg e, if_neg e]
      simp only [ai_nj e]
      exact ⟨y1, y2⟩
  · generalize hA : aAddLock A c s pr (zsc A 0) = A' at hcn ⊢
    generalize cntL A' = n at hcn ⊢
    subst hcn
    refine h4.up (fun j j1 j2 => ?_) ?_ ?_ (fun f f1 f2 f3 f4 => ?_) ?_ ?_ ?_ ?_ ?_
    · rw [← hA]; exact line_ne _ _ j1 j2
    · rw [← hA]; rfl
    · rw [← hA]
      show zsc A 6 + 2 = _
      rw [show (2 : Int32) = nI 2 from rfl, a14, nI_add, show D.length + V.length + 2 * n0 + 2 = D.length + V.length + 2 * (n0 + 1) by omega]
    · rw [gi_ne f4, gi_ne f3]; simp only [gi_sai]
    · rw [gi_ne (by decide), gi_ne (by decide)]; simp only [gi_sai]; exact h4.2.2.2.2.2.1
    · rw [gi_ne (by decide), gi_ne (by decide)]; simp only [gi_sai]; exact h4.2.2.2.2.2.2.1
    · rw [gi_ne (by decide), gi_eq]; exact nI_1 n0
    · rw [gi_eq]
    · omega
end
