/-! THE REFERENCE'S PARTS, KEPT; ONE SCALAR -/
def SA (p : Nat → Nat) (lo hi : Nat) (σ τ : HS) : Prop := ∀ j i, lo ≤ j → j ≤ hi → ai τ (p j) i = ai σ (p j) i
theorem SA.rf {p : Nat → Nat} {lo hi : Nat} {σ : HS} : SA p lo hi σ σ := fun _ _ _ _ => rfl
theorem SA.si {p : Nat → Nat} {lo hi : Nat} {σ τ : HS} (h : SA p lo hi σ τ) {f n : Nat} {v : Int32} : SA p lo hi σ (si τ f n v) := h
theorem SA.sai {p : Nat → Nat} {lo hi : Nat} {σ τ υ : HS} (h : SA p lo hi σ τ) (hs : ShM p υ) {n i : Nat} {v : Int32} (hn : n < lo ∨ hi < n) : SA p lo hi σ (sai τ (p n) i v) := fun j y h1 h2 => by
  rw [ai_sai, if_neg (fun q => hs.ne (i := j) (j := n) (by omega) q.1)]; exact h j y h1 h2
theorem Mlk.keep {p : Nat → Nat} {A A' : AS} {σ τ : HS} (h : Mlk p A σ) (k : SA p 302 304 σ τ) (e1 : zlk A' = zlk A) (e2 : zlp A' = zlp A) : Mlk p A' τ := by
  intro c hc
  rw [k 302 _ (by omega) (by omega), k 303 _ (by omega) (by omega), k 304 _ (by omega) (by omega), e1, e2]
  exact h c hc
theorem Mtr.keep {p : Nat → Nat} {A A' : AS} {σ τ : HS} (h : Mtr p A σ) (k : SA p 305 312 σ τ) (e1 : ztf A' = ztf A) (e2 : zow A' = zow A) : Mtr p A' τ := fun x hx =>
  (h x hx).keep (fun j _ _ _ _ => k _ _ (by omega) (by omega)) (fun j i _ _ _ => k _ _ (by omega) (by omega)) (fun _ => by rw [e1]) (by rw [e2])
theorem Mda.keep {p : Nat → Nat} {A A' : AS} {σ τ : HS} {D : List (Nat × Int32 × Int32)} (h : Mda p A σ D) (k : SA p 295 297 σ τ) (e : ∀ c, c < 256 → zl A' (2 * c) = zl A (2 * c)) : Mda p A' τ D := by
  refine ⟨fun i q hq => ?_, fun c hc => by rw [e c hc]; exact h.2 c hc⟩
  rw [k 295 _ (by omega) (by omega), k 296 _ (by omega) (by omega), k 297 _ (by omega) (by omega)]
  exact h.1 i q hq
theorem Mwr.keep {p : Nat → Nat} {A A' : AS} {σ τ : HS} {V : List (Nat × Int32 × Int32 × Int32)} (h : Mwr p A σ V) (k : SA p 298 301 σ τ) (e : ∀ c, c < 256 → zl A' (2 * c + 1) = zl A (2 * c + 1)) : Mwr p A' τ V := by
  refine ⟨fun i q hq => ?_, fun c hc => by rw [e c hc]; exact h.2 c hc⟩
  rw [k 298 _ (by omega) (by omega), k 299 _ (by omega) (by omega), k 300 _ (by omega) (by omega), k 301 _ (by omega) (by omega)]
  exact h.1 i q hq
theorem gi_eq (σ : HS) (f n : Nat) (v : Int32) : gi (si σ f n v) f n = v := if_pos ⟨rfl, rfl⟩
theorem gi_ne {σ : HS} {f n g k : Nat} {v : Int32} (h : g ≠ f) : gi (si σ f n v) g k = gi σ g k := if_neg (fun q => h q.1)
theorem ai_eq (σ : HS) (n i : Nat) (v : Int32) : ai (sai σ n i v) n i = v := if_pos ⟨rfl, rfl⟩
theorem ai_ne {σ : HS} {n i k j : Nat} {v : Int32} (h : k ≠ n) : ai (sai σ n i v) k j = ai σ k j := if_neg (fun q => h q.1)
theorem ai_nj {σ : HS} {n i k j : Nat} {v : Int32} (h : j ≠ i) : ai (sai σ n i v) k j = ai σ k j := if_neg (fun q => h q.2)
section
variable {p : Nat → Nat} {m : Nat} {A : AS} {σ : HS}
theorem RMo.km (h : RMo p m A σ) : kd σ (p 294) = 7 := h.1.km
theorem mo_code (h : RMo p m A σ) (v : Int32) : RMo p m A (si σ 240 (p 294) v) := by
  obtain ⟨h1, h2, h3, D, V, h4, h5, h6⟩ := h
  refine ⟨h1.keepM (Mst.rf.si (by decide)), h2.keep SA.rf rfl rfl, h3.keep SA.rf rfl rfl, D, V, ?_, h5.keep SA.rf (fun _ _ => rfl), h6.keep SA.rf (fun _ _ => rfl)⟩
  unfold Msc at h4 ⊢
  simp only [gi_si]
  simpa using h4
theorem mo_sc0 (h : RMo p m A σ) (v : Int32) : RMo p m (usc A 0 v) (si σ 241 (p 294) v) := by
  obtain ⟨h1, h2, h3, D, V, h4, h5, h6⟩ := h
  refine ⟨h1.keepM (Mst.rf.si (by decide)), h2.keep SA.rf rfl rfl, h3.keep SA.rf rfl rfl, D, V, ?_, h5.keep SA.rf (fun _ _ => rfl), h6.keep SA.rf (fun _ _ => rfl)⟩
  obtain ⟨a1, a2, a3, a4, a5, a6, a7, a8, a9, a10, a11, a12, a13, a14, a15⟩ := h4
  rw [cntL_cg (show zlk (usc A 0 v) = zlk A from rfl)]
  unfold Msc
  simp only [gi_si, zsc_usc]
  simp [a1, a2, a3, a4, a5, a6, a7, a8, a9, a10, a11, a12, a13, a14, a15]
theorem mo_sc1 (h : RMo p m A σ) (v : Int32) : RMo p m (usc A 1 v) (si σ 242 (p 294) v) := by
  obtain ⟨h1, h2, h3, D, V, h4, h5, h6⟩ := h
  refine ⟨h1.keepM (Mst.rf.si (by decide)), h2.keep SA.rf rfl rfl, h3.keep SA.rf rfl rfl, D, V, ?_, h5.keep SA.rf (fun _ _ => rfl), h6.keep SA.rf (fun _ _ => rfl)⟩
  obtain ⟨a1, a2, a3, a4, a5, a6, a7, a8, a9, a10, a11, a12, a13, a14, a15⟩ := h4
  rw [cntL_cg (show zlk (usc A 1 v) = zlk A from rfl)]
  unfold Msc
  simp only [gi_si, zsc_usc]
  simp [a1, a2, a3, a4, a5, a6, a7, a8, a9, a10, a11, a12, a13, a14, a15]
theorem mo_sc4 (h : RMo p m A σ) (v : Int32) : RMo p m (usc A 4 v) (si σ 243 (p 294) v) := by
  obtain ⟨h1, h2, h3, D, V, h4, h5, h6⟩ := h
  refine ⟨h1.keepM (Mst.rf.si (by decide)), h2.keep SA.rf rfl rfl, h3.keep SA.rf rfl rfl, D, V, ?_, h5.keep SA.rf (fun _ _ => rfl), h6.keep SA.rf (fun _ _ => rfl)⟩
  obtain ⟨a1, a2, a3, a4, a5, a6, a7, a8, a9, a10, a11, a12, a13, a14, a15⟩ := h4
  rw [cntL_cg (show zlk (usc A 4 v) = zlk A from rfl)]
  unfold Msc
  simp only [gi_si, zsc_usc]
  simp [a1, a2, a3, a4, a5, a6, a7, a8, a9, a10, a11, a12, a13, a14, a15]
theorem mo_sc3 (h : RMo p m A σ) (v : Int32) : RMo p m (usc A 3 v) (si σ 244 (p 294) v) := by
  obtain ⟨h1, h2, h3, D, V, h4, h5, h6⟩ := h
  refine ⟨h1.keepM (Mst.rf.si (by decide)), h2.keep SA.rf rfl rfl, h3.keep SA.rf rfl rfl, D, V, ?_, h5.keep SA.rf (fun _ _ => rfl), h6.keep SA.rf (fun _ _ => rfl)⟩
  obtain ⟨a1, a2, a3, a4, a5, a6, a7, a8, a9, a10, a11, a12, a13, a14, a15⟩ := h4
  rw [cntL_cg (show zlk (usc A 3 v) = zlk A from rfl)]
  unfold Msc
  simp only [gi_si, zsc_usc]
  simp [a1, a2, a3, a4, a5, a6, a7, a8, a9, a10, a11, a12, a13, a14, a15]
theorem mo_sc5 (h : RMo p m A σ) (v : Int32) : RMo p m (usc A 5 v) (si σ 245 (p 294) v) := by
  obtain ⟨h1, h2, h3, D, V, h4, h5, h6⟩ := h
  refine ⟨h1.keepM (Mst.rf.si (by decide)), h2.keep SA.rf rfl rfl, h3.keep SA.rf rfl rfl, D, V, ?_, h5.keep SA.rf (fun _ _ => rfl), h6.keep SA.rf (fun _ _ => rfl)⟩
  obtain ⟨a1, a2, a3, a4, a5, a6, a7, a8, a9, a10, a11, a12, a13, a14, a15⟩ := h4
  rw [cntL_cg (show zlk (usc A 5 v) = zlk A from rfl)]
  unfold Msc
  simp only [gi_si, zsc_usc]
  simp [a1, a2, a3, a4, a5, a6, a7, a8, a9, a10, a11, a12, a13, a14, a15]
theorem mo_sc7 (h : RMo p m A σ) (v : Int32) : RMo p m (usc A 7 v) (si σ 267 (p 294) v) := by
  obtain ⟨h1, h2, h3, D, V, h4, h5, h6⟩ := h
  refine ⟨h1.keepM (Mst.rf.si (by decide)), h2.keep SA.rf rfl rfl, h3.keep SA.rf rfl rfl, D, V, ?_, h5.keep SA.rf (fun _ _ => rfl), h6.keep SA.rf (fun _ _ => rfl)⟩
  obtain ⟨a1, a2, a3, a4, a5, a6, a7, a8, a9, a10, a11, a12, a13, a14, a15⟩ := h4
  rw [cntL_cg (show zlk (usc A 7 v) = zlk A from rfl)]
  unfold Msc
  simp only [gi_si, zsc_usc]
  simp [a1, a2, a3, a4, a5, a6, a7, a8, a9, a10, a11, a12, a13, a14, a15]
theorem mo_sc8 (h : RMo p m A σ) (v : Int32) : RMo p m (usc A 8 v) (si σ 268 (p 294) v) := by
  obtain ⟨h1, h2, h3, D, V, h4, h5, h6⟩ := h
  refine ⟨h1.keepM (Mst.rf.si (by decide)), h2.keep SA.rf rfl rfl, h3.keep SA.rf rfl rfl, D, V, ?_, h5.keep SA.rf (fun _ _ => rfl), h6.keep SA.rf (fun _ _ => rfl)⟩
  obtain ⟨a1, a2, a3, a4, a5, a6, a7, a8, a9, a10, a11, a12, a13, a14, a15⟩ := h4
  rw [cntL_cg (show zlk (usc A 8 v) = zlk A from rfl)]
  unfold Msc
  simp only [gi_si, zsc_usc]
  simp [a1, a2, a3, a4, a5, a6, a7, a8, a9, a10, a11, a12, a13, a14, a15]
theorem mo_sc9 (h : RMo p m A σ) (v : Int32) : RMo p m (usc A 9 v) (si σ 269 (p 294) v) := by
  obtain ⟨h1, h2, h3, D, V, h4, h5, h6⟩ := h
  refine ⟨h1.keepM (Mst.rf.si (by decide)), h2.keep SA.rf rfl rfl, h3.keep SA.rf rfl rfl, D, V, ?_, h5.keep SA.rf (fun _ _ => rfl), h6.keep SA.rf (fun _ _ => rfl)⟩
  obtain ⟨a1, a2, a3, a4, a5, a6, a7, a8, a9, a10, a11, a12, a13, a14, a15⟩ := h4
  rw [cntL_cg (show zlk (usc A 9 v) = zlk A from rfl)]
  unfold Msc
  simp only [gi_si, zsc_usc]
  simp [a1, a2, a3, a4, a5, a6, a7, a8, a9, a10, a11, a12, a13, a14, a15]
theorem mo_sc2 (h : RMo p m A σ) (v : Int32) : RMo p m (usc A 2 v) (si σ 270 (p 294) v) := by
  obtain ⟨h1, h2, h3, D, V, h4, h5, h6⟩ := h
  refine ⟨h1.keepM (Mst.rf.si (by decide)), h2.keep SA.rf rfl rfl, h3.keep SA.rf rfl rfl, D, V, ?_, h5.keep SA.rf (fun _ _ => rfl), h6.keep SA.rf (fun _ _ => rfl)⟩
  obtain ⟨a1, a2, a3, a4, a5, a6, a7, a8, a9, a10, a11, a12, a13, a14, a15⟩ := h4
  rw [cntL_cg (show zlk (usc A 2 v) = zlk A from rfl)]
  unfold Msc
  simp only [gi_si, zsc_usc]
  simp [a1, a2, a3, a4, a5, a6, a7, a8, a9, a10, a11, a12, a13, a14, a15]
theorem mo_sc10 (h : RMo p m A σ) (v : Int32) : RMo p m (usc A 10 v) (si σ 271 (p 294) v) := by
  obtain ⟨h1, h2, h3, D, V, h4, h5, h6⟩ := h
  refine ⟨h1.keepM (Mst.rf.si (by decide)), h2.keep SA.rf rfl rfl, h3.keep SA.rf rfl rfl, D, V, ?_, h5.keep SA.rf (fun _ _ => rfl), h6.keep SA.rf (fun _ _ => rfl)⟩
  obtain ⟨a1, a2, a3, a4, a5, a6, a7, a8, a9, a10, a11, a12, a13, a14, a15⟩ := h4
  rw [cntL_cg (show zlk (usc A 10 v) = zlk A from rfl)]
  unfold Msc
  simp only [gi_si, zsc_usc]
  simp [a1, a2, a3, a4, a5, a6, a7, a8, a9, a10, a11, a12, a13, a14, a15]
theorem RMo.s0 (h : RMo p m A σ) : gi σ 241 (p 294) = zsc A 0 := h.2.2.2.choose_spec.choose_spec.1.1
theorem RMo.s1 (h : RMo p m A σ) : gi σ 242 (p 294) = zsc A 1 := h.2.2.2.choose_spec.choose_spec.1.2.1
theorem RMo.s4 (h : RMo p m A σ) : gi σ 243 (p 294) = zsc A 4 := h.2.2.2.choose_spec.choose_spec.1.2.2.1
theorem RMo.s3 (h : RMo p m A σ) : gi σ 244 (p 294) = zsc A 3 := h.2.2.2.choose_spec.choose_spec.1.2.2.2.1
theorem RMo.s5 (h : RMo p m A σ) : gi σ 245 (p 294) = zsc A 5 := h.2.2.2.choose_spec.choose_spec.1.2.2.2.2.1
theorem RMo.s7 (h : RMo p m A σ) : gi σ 267 (p 294) = zsc A 7 := h.2.2.2.choose_spec.choose_spec.1.2.2.2.2.2.2.2.2.1
theorem RMo.s8 (h : RMo p m A σ) : gi σ 268 (p 294) = zsc A 8 := h.2.2.2.choose_spec.choose_spec.1.2.2.2.2.2.2.2.2.2.1
theorem RMo.s9 (h : RMo p m A σ) : gi σ 269 (p 294) = zsc A 9 := h.2.2.2.choose_spec.choose_spec.1.2.2.2.2.2.2.2.2.2.2.1
theorem RMo.s2 (h : RMo p m A σ) : gi σ 270 (p 294) = zsc A 2 := h.2.2.2.choose_spec.choose_spec.1.2.2.2.2.2.2.2.2.2.2.2.1
theorem RMo.s10 (h : RMo p m A σ) : gi σ 271 (p 294) = zsc A 10 := h.2.2.2.choose_spec.choose_spec.1.2.2.2.2.2.2.2.2.2.2.2.2.1
theorem mo_end (h : RMo p m A σ) (r : Int32) : ∃ τ, F_X6_end (p 294) r σ = some (r, τ) ∧ RMo p m (aPut A) τ ∧ Mst p σ τ := by
  unfold F_X6_end aPut lt1 B_X6_end_47
  rw [if_pos h.km, h.s7]
  by_cases e : 64 ≤ zsc A 7
  · rw [if_neg (Int32.not_lt.mpr e), if_pos e]
    have hA0 := mo_sc7 h 0
    have t8 : gi (si σ 267 (p 294) 0) 268 (p 294) = zsc A 8 := hA0.s8
    rw [t8]
    have hA := mo_sc8 hA0 (zsc A 8 + 1)
    have t8' : gi (si (si σ 267 (p 294) 0) 268 (p 294) (zsc A 8 + 1)) 268 (p 294) = zsc A 8 + 1 := hA.s8
    simp only [t8']
    by_cases e2 : zsc A 8 + 1 = 4
    · rw [if_pos e2, if_pos e2]
      have hB := mo_sc8 hA 1
      have t9 : gi (si (si (si σ 267 (p 294) 0) 268 (p 294) (zsc A 8 + 1)) 268 (p 294) 1) 269 (p 294) = zsc A 9 := hB.s9
      rw [t9]
      have hC := mo_sc9 hB (zsc A 9 + 1)
      rw [usc_usc] at hC
      exact ⟨_, rfl, hC, (((Mst.rf.si (by decide)).si (by decide)).si (by decide)).si (by decide)⟩
    · rw [if_neg e2, if_neg e2]
      exact ⟨_, rfl, hA, (Mst.rf.si (by decide)).si (by decide)⟩
  · rw [if_pos (Int32.not_le.mp e), if_neg e]
    exact ⟨σ, rfl, h, Mst.rf⟩
theorem mo_give (h : RMo p m A σ) : ∃ τ, F_X6_give (p 294) σ = some (zsc A 4, τ) ∧ RMo p m (aGive A) τ ∧ Mst p σ τ := by
  have key : ∀ (A' : AS) (σ' : HS), RMo p m A' σ' → ∃ τ, B_X6_give_24 (p 294) (zsc A' 4) σ' = some (zsc A' 4, τ) ∧ RMo p m (usc (usc A' 3 (zsc A' 4)) 4 (zsc A' 4 + 1)) τ ∧ Mst p σ' τ := by
    intro A' σ' h'
    unfold B_X6_give_24
    rw [if_pos h'.km, h'.s4]
    have := mo_sc3 (mo_sc4 h' (zsc A' 4 + 1)) (zsc A' 4)
    refine ⟨_, rfl, ?_, (Mst.rf.si (by decide)).si (by decide)⟩
    have e : usc (usc A' 4 (zsc A' 4 + 1)) 3 (zsc A' 4) = usc (usc A' 3 (zsc A' 4)) 4 (zsc A' 4 + 1) := by
      unfold usc
      refine Prod.ext ?_ rfl
      funext i
      show (if i = 3 then _ else if i = 4 then _ else zsc A' i) = (if i = 4 then _ else if i = 3 then _ else zsc A' i)
      by_cases q : i = 3
      · subst q; rfl
      · rw [if_neg q, if_neg q]
    rw [← e]; exact this
  unfold F_X6_give aGive
  rw [if_pos h.km, h.s4, h.s5]
  by_cases e : zsc A 4 ≤ zsc A 5
  · rw [if_pos e, if_pos e]
    exact key A σ h
  · rw [if_neg e, if_neg e]
    obtain ⟨τ, a1, a2, a3⟩ := key _ _ (mo_sc5 h (zsc A 5 + 16))
    exact ⟨τ, a1, a2, (Mst.rf.si (by decide)).tr a3⟩
/-- one place of one array of the clients -/
theorem mo_tr (h : RMo p m A σ) {j k : Nat} {v : Int32} {A' : AS} (h1 : 305 ≤ j) (h2 : j ≤ 312) (h3 : j ≠ 309) (h4 : j ≠ 310) (e1 : zsc A' = zsc A) (e2 : zlk A' = zlk A) (e3 : zl A' = zl A) (e4 : zlp A' = zlp A) (e5 : ∀ f x, x ≠ k → ztf A' f x = ztf A f x) (e6 : ∀ x, x ≠ k → zow A' x = zow A x) (ht : k < 8 → Mt1 p A' (sai σ (p j) k v) k) : RMo p m A' (sai σ (p j) k v) := by
  obtain ⟨g1, g2, g3, D, V, g4, g5, g6⟩ := h
  refine ⟨g1.keepM (Mst.rf.sai (g1.le (by omega))), g2.keep (SA.rf.sai g1 (by omega)) e2 e4, fun x hx => ?_, D, V, ?_, g5.keep (SA.rf.sai g1 (by omega)) (fun _ _ => by rw [e3]), g6.keep (SA.rf.sai g1 (by omega)) (fun _ _ => by rw [e3])⟩
  · by_cases q : x = k
    · subst q; exact ht hx
    · refine (g3 x hx).keep (fun i _ _ _ _ => ai_nj q) (fun i y _ _ _ => ?_) (fun f => e5 f x q) (e6 x q)
      exact ai_ne (g1.ne (by omega))
  · have e7 : cntL A' = cntL A := cntL_cg e2
    rw [e7]
    unfold Msc at g4 ⊢
    rw [e1]
    exact g4
theorem mo_touch (h : RMo p m A σ) {k : Nat} (hk : k < 8) : RMo p m (aTouch A k) (sai σ (p 307) k (zsc A 0)) := by
  have h3 := h.2.2.1 k hk
  have S := h.1
  unfold aTouch
  by_cases e : ztf A 0 k = 0
  · rw [if_pos e]
    refine mo_tr h (by omega) (by omega) (by omega) (by omega) rfl rfl rfl rfl (fun _ _ _ => rfl) (fun _ _ => rfl) (fun _ => ?_)
    refine ⟨?_, fun q => absurd e q⟩
    rw [ai_ne (S.ne (by decide))]; exact h3.1
  · rw [if_neg e]
    refine mo_tr h (by omega) (by omega) (by omega) (by omega) rfl rfl rfl rfl (fun f x q => by rw [ztf_utf, if_neg (by omega)]) (fun _ _ => rfl) (fun _ => ?_)
    obtain ⟨y1, y2, y3, y4, y5, y6, y7⟩ := h3.2 e
    unfold Mt1
    simp only [ztf_utf, zow_utf]
    refine ⟨?_, fun _ => ⟨?_, ?_, ?_, y4, fun i q hq => ?_, ?_⟩⟩
    · rw [ai_ne (S.ne (by decide)), if_neg (by omega)]; exact h3.1
    · rw [ai_ne (S.ne (by decide)), if_neg (by omega)]; exact y1
    · rw [ai_eq]; simp
    · rw [ai_ne (S.ne (by decide))]; exact y3
    · rw [ai_ne (S.ne (by decide)), ai_ne (S.ne (by decide))]; exact y5 i q hq
    · rw [ai_ne (S.ne (by decide)), ai_ne (S.ne (by decide)), if_neg (by omega), if_neg (by omega), if_neg (by omega)]; exact ⟨y6, y7⟩
end
