/-! WHAT HOLDS BETWEEN THE CALLS: the cells -/
theorem rmK_mem {l : List (Int32 × Int32)} {s : Int32} (hn : (l.map (fun q => q.1)).Nodup) {q : Int32 × Int32} : q ∈ rmK l s ↔ q ∈ l ∧ ¬ q.1 = s := by
  by_cases e : hasK l s = true
  · obtain ⟨v, hv⟩ := hasK_iff.mp e
    have hp := rmK_perm hn hv
    have nd := (hp.map (fun q => q.1)).nodup_iff.mp hn
    rw [List.map_cons, List.nodup_cons] at nd
    constructor
    · intro h
      refine ⟨hp.mem_iff.mpr (List.mem_cons_of_mem _ h), fun z => nd.1 ?_⟩
      exact List.mem_map.mpr ⟨q, h, z⟩
    · rintro ⟨h1, h2⟩
      rcases List.mem_cons.mp (hp.mem_iff.mp h1) with z | z
      · exact absurd (by rw [z]) h2
      · exact z
  · have hno : ∀ x ∈ l, ¬ x.1 = s := fun x hx z => e (hasK_iff.mpr ⟨x.2, by rw [← z]; exact hx⟩)
    have : rmK l s = l := by
      unfold rmK
      exact List.eraseP_of_forall_not (fun x hx => by simpa using hno x hx)
    rw [this]
    exact ⟨fun h => ⟨h, hno q h⟩, fun h => h.1⟩
theorem dd_l (A : AS) (c : Nat) (s : Int32) : zl (aDropData A c s) (2 * c) = rmK (zl A (2 * c)) s := by
  unfold aDropData
  by_cases e : hasK (zl A (2 * c)) s = true
  · rw [if_pos e, del_l, if_pos rfl]
  · rw [if_neg e]
    unfold rmK
    refine (List.eraseP_of_forall_not (fun x hx => ?_)).symm
    intro z
    exact e (hasK_iff.mpr ⟨x.2, by rw [← of_decide_eq_true z]; exact hx⟩)
theorem dd_ln (A : AS) (c : Nat) (s : Int32) {d : Nat} (h : d ≠ 2 * c) : zl (aDropData A c s) d = zl A d := dd_zl A c s h
theorem dd_lp (A : AS) (c : Nat) (s : Int32) : zlp (aDropData A c s) = zlp A := by unfold aDropData; split <;> rfl
theorem dd_ne (A : AS) (c : Nat) (s : Int32) : zne (aDropData A c s) = zne A := by unfold aDropData; split <;> rfl
theorem dd_sc (A : AS) (c : Nat) (s : Int32) {j : Nat} (h1 : j ≠ 6) (h2 : j ≠ 7) : zsc (aDropData A c s) j = zsc A j := by
  unfold aDropData; split
  · exact del_sc _ _ _ h1 h2
  · rfl
/-- undoing a cell: its parts -/
theorem un_w (A : AS) (c : Nat) (b : Bool) : zl (aUndo A c b) (2 * c + 1) = if b = true then (zlk A 0 c, 0) :: zl A (2 * c + 1) else zl A (2 * c + 1) := by
  unfold aUndo
  split
  · rw [add_l, if_pos rfl, dd_ln _ _ _ (by omega), dl_l]
  · rw [dd_ln _ _ _ (by omega), dl_l]
theorem un_d (A : AS) (c : Nat) (b : Bool) : zl (aUndo A c b) (2 * c) = rmK (zl A (2 * c)) (zlk A 0 c) := by
  unfold aUndo
  split
  · rw [add_l, if_neg (by omega), dd_l, dl_l]
  · rw [dd_l, dl_l]
theorem un_o (A : AS) (c : Nat) (b : Bool) {d : Nat} (h1 : d ≠ 2 * c) (h2 : d ≠ 2 * c + 1) : zl (aUndo A c b) d = zl A d := by
  unfold aUndo
  split
  · rw [add_l, if_neg h2, dd_ln _ _ _ h1, dl_l]
  · rw [dd_ln _ _ _ h1, dl_l]
theorem un_k1 (A : AS) (c : Nat) (b : Bool) (x : Nat) : zlk (aUndo A c b) 1 x = if x = c then 0 else zlk A 1 x := by
  have : zlk (aUndo A c b) 1 x = zlk (aDropLock A c) 1 x := by
    unfold aUndo
    split
    · rw [add_lk, dd_lk]
    · rw [dd_lk]
  rw [this]
  exact lk_1 A c 0 0 0 x
theorem un_lp (A : AS) (c : Nat) (b : Bool) (x : Nat) : zlp (aUndo A c b) x = if x = c then 0 else zlp A x := by
  have : zlp (aUndo A c b) x = zlp (aDropLock A c) x := by
    unfold aUndo
    split
    · rw [add_lp, dd_lp]
    · rw [dd_lp]
  rw [this, dl_lp]
theorem un_sc (A : AS) (c : Nat) (b : Bool) {j : Nat} (h1 : j ≠ 6) (h2 : j ≠ 7) : zsc (aUndo A c b) j = zsc A j := by
  have e : zsc (aDropLock A c) j = zsc A j := line_ne _ _ h1 h2
  unfold aUndo
  split
  · rw [add_ne _ _ _ _ h1 h2, dd_sc _ _ _ h1 h2, e]
  · rw [dd_sc _ _ _ h1 h2, e]
theorem un_ne (A : AS) (c : Nat) (b : Bool) : zne (aUndo A c b) = zne A + (if b = true then 1 else 0) := by
  unfold aUndo
  split
  · rw [add_nE, dd_ne, dl_ne]
  · rw [dd_ne, dl_ne]; rfl
theorem Pce.undo {A : AS} {c : Nat} (h : Pce A c) (hl : ¬ zlk A 0 c = 0) (b : Bool) : Pce (aUndo A c b) c := by
  have nd := h.nd
  obtain ⟨h1, h2, h3, h4, h5, h6, h7, h8, h9⟩ := h
  obtain ⟨l1, l2, l3, l4⟩ := h8 hl
  have e0 : zlk (aUndo A c b) 0 c = 0 := by rw [undo_lk, if_pos rfl]
  have sub : (rmK (zl A (2 * c)) (zlk A 0 c)).Sublist (zl A (2 * c)) := List.eraseP_sublist
  have memw : ∀ q, q ∈ zl (aUndo A c b) (2 * c + 1) → q = (zlk A 0 c, 0) ∨ q ∈ zl A (2 * c + 1) := by
    intro q hq
    rw [un_w] at hq
    split at hq
    · exact List.mem_cons.mp hq
    · exact Or.inr hq
  have memw' : ∀ q, q ∈ zl A (2 * c + 1) → q ∈ zl (aUndo A c b) (2 * c + 1) := by
    intro q hq
    rw [un_w]
    split
    · exact List.mem_cons_of_mem _ hq
    · exact hq
  refine ⟨?_, ?_, fun q hq => ?_, fun q hq => ?_, fun q hq q0 => ?_, ?_, fun _ => ⟨?_, ?_⟩, fun z => absurd e0 z, fun q hq => ?_⟩
  · rw [un_w]
    split
    · exact List.pairwise_cons.mpr ⟨fun y hy => l3 y hy, h1⟩
    · exact h1
  · rw [un_d]; exact h2.sublist sub
  · rw [un_sc _ _ _ (by decide) (by decide)]
    rcases memw q hq with e | e
    · rw [e]; exact ⟨l1, l2⟩
    · exact h3 q e
  · rw [un_sc _ _ _ (by decide) (by decide)]
    rw [un_d] at hq
    exact h4 q (sub.subset hq)
  · rcases memw q hq with e | e
    · rw [e] at q0; exact absurd rfl q0
    · obtain ⟨i1, i2, v, hv⟩ := h5 q e q0
      refine ⟨i1, i2, v, ?_⟩
      rw [un_d, rmK_mem nd]
      refine ⟨hv, fun z => ?_⟩
      have := Int32.lt_trans i2 (l3 q e)
      rw [show q.2 = zlk A 0 c from z] at this
      exact Int32.lt_irrefl this
  · rw [un_w]
    split
    · exact List.pairwise_cons.mpr ⟨fun y hy e => rfl, h6⟩
    · exact h6
  · rw [un_lp, if_pos rfl]
  · rw [un_k1, if_pos rfl]
  · rw [un_d, rmK_mem nd] at hq
    obtain ⟨w, w1, w2⟩ := (h9 q hq.1).resolve_left hq.2
    exact Or.inr ⟨w, memw' w w1, w2⟩
theorem Pce.undo' {A : AS} {c c' : Nat} (h : Pce A c') (b : Bool) (hc : c' ≠ c) : Pce (aUndo A c b) c' :=
  h.cg (un_o _ _ _ (by omega) (by omega)) (un_o _ _ _ (by omega) (by omega)) (un_sc _ _ _ (by decide) (by decide)) (by rw [undo_lk, if_neg hc]) (by rw [un_lp, if_neg hc]) (by rw [un_k1, if_neg hc])
/-- settling a cell: its parts -/
def aSet (A : AS) (c : Nat) (t s : Int32) : AS := aDropLock (aAdd A (2 * c + 1) t s) c
theorem dl_1 (A : AS) (c x : Nat) : zlk (aDropLock A c) 1 x = if x = c then 0 else zlk A 1 x := lk_1 A c 0 0 0 x
theorem se_l (A : AS) (c : Nat) (t s : Int32) (d : Nat) : zl (aSet A c t s) d = if d = 2 * c + 1 then (t, s) :: zl A (2 * c + 1) else zl A d := by
  unfold aSet; rw [dl_l, add_l]
theorem se_k0 (A : AS) (c : Nat) (t s : Int32) (x : Nat) : zlk (aSet A c t s) 0 x = if x = c then 0 else zlk A 0 x := by
  unfold aSet; rw [dl_0, add_lk]
theorem se_k1 (A : AS) (c : Nat) (t s : Int32) (x : Nat) : zlk (aSet A c t s) 1 x = if x = c then 0 else zlk A 1 x := by
  unfold aSet
  rw [dl_1, add_lk]
theorem se_lp (A : AS) (c : Nat) (t s : Int32) (x : Nat) : zlp (aSet A c t s) x = if x = c then 0 else zlp A x := by
  unfold aSet; rw [dl_lp, add_lp]
theorem se_tf (A : AS) (c : Nat) (t s : Int32) : ztf (aSet A c t s) = ztf A := by unfold aSet; rw [dl_tf, add_tf]
theorem se_ow (A : AS) (c : Nat) (t s : Int32) : zow (aSet A c t s) = zow A := by unfold aSet; rw [dl_ow, add_ow]
theorem se_ne (A : AS) (c : Nat) (t s : Int32) : zne (aSet A c t s) = zne A + 1 := by unfold aSet; rw [dl_ne, add_nE]
theorem dlk_sc (A : AS) (c : Nat) {j : Nat} (h1 : j ≠ 6) (h2 : j ≠ 7) : zsc (aDropLock A c) j = zsc A j := line_ne _ _ h1 h2
theorem se_sc (A : AS) (c : Nat) (t s : Int32) {j : Nat} (h1 : j ≠ 6) (h2 : j ≠ 7) : zsc (aSet A c t s) j = zsc A j := by
  unfold aSet; rw [dlk_sc _ _ h1 h2, add_ne _ _ _ _ h1 h2]
theorem Pce.set {A : AS} {c : Nat} (h : Pce A c) (hl : ¬ zlk A 0 c = 0) {t : Int32} (ht : zlk A 0 c < t) (ht2 : t < zsc A 4) : Pce (aSet A c t (zlk A 0 c)) c := by
  obtain ⟨h1, h2, h3, h4, h5, h6, h7, h8, h9⟩ := h
  obtain ⟨l1, l2, l3, l4⟩ := h8 hl
  have e0 : zlk (aSet A c t (zlk A 0 c)) 0 c = 0 := by rw [se_k0, if_pos rfl]
  have ew : zl (aSet A c t (zlk A 0 c)) (2 * c + 1) = (t, zlk A 0 c) :: zl A (2 * c + 1) := by rw [se_l, if_pos rfl]
  have ed : zl (aSet A c t (zlk A 0 c)) (2 * c) = zl A (2 * c) := by rw [se_l, if_neg (by omega)]
  have e4 : zsc (aSet A c t (zlk A 0 c)) 4 = zsc A 4 := se_sc _ _ _ _ (by decide) (by decide)
  unfold Pce
  rw [ew, ed, e4, e0]
  refine ⟨List.pairwise_cons.mpr ⟨fun y hy => Int32.lt_trans (l3 y hy) ht, h1⟩, h2, fun q hq => ?_, h4, fun q hq q0 => ?_, List.pairwise_cons.mpr ⟨fun y hy e => ?_, h6⟩, fun _ => ⟨?_, ?_⟩, fun z => absurd rfl z, fun q hq => ?_⟩
  · rcases List.mem_cons.mp hq with e | e
    · rw [e]; exact ⟨Int32.lt_trans l1 ht, ht2⟩
    · exact h3 q e
  · rcases List.mem_cons.mp hq with e | e
    · rw [e]; exact ⟨l1, ht, l4⟩
    · exact h5 q e q0
  · exfalso
    have e' : y.2 = zlk A 0 c := e.symm
    obtain ⟨i1, i2, -⟩ := h5 y hy (by rw [e']; exact hl)
    have := Int32.lt_trans i2 (l3 y hy)
    rw [e'] at this
    exact Int32.lt_irrefl this
  · rw [se_lp, if_pos rfl]
  · rw [se_k1, if_pos rfl]
  · rcases h9 q hq with e | ⟨w, w1, w2⟩
    · exact Or.inr ⟨(t, zlk A 0 c), List.mem_cons_self, e.symm⟩
    · exact Or.inr ⟨w, List.mem_cons_of_mem _ w1, w2⟩
theorem Pce.set' {A : AS} {c c' : Nat} (h : Pce A c') {t s : Int32} (hc : c' ≠ c) : Pce (aSet A c t s) c' :=
  h.cg (by rw [se_l, if_neg (by omega)]) (by rw [se_l, if_neg (by omega)]) (se_sc _ _ _ _ (by decide) (by decide)) (by rw [se_k0, if_neg hc]) (by rw [se_lp, if_neg hc]) (by rw [se_k1, if_neg hc])
/-- locking a cell: its parts -/
def aPl (A : AS) (c : Nat) (s v : Int32) (pr : Nat) (t : Int32) : AS := aAddLock (aAdd A (2 * c) s v) c s pr t
theorem al_l (A : AS) (c : Nat) (s : Int32) (pr : Nat) (t : Int32) : zl (aAddLock A c s pr t) = zl A := rfl
theorem al_tf (A : AS) (c : Nat) (s : Int32) (pr : Nat) (t : Int32) : ztf (aAddLock A c s pr t) = ztf A := rfl
theorem al_ow (A : AS) (c : Nat) (s : Int32) (pr : Nat) (t : Int32) : zow (aAddLock A c s pr t) = zow A := rfl
theorem al_ne (A : AS) (c : Nat) (s : Int32) (pr : Nat) (t : Int32) : zne (aAddLock A c s pr t) = zne A := rfl
theorem al_sc (A : AS) (c : Nat) (s : Int32) (pr : Nat) (t : Int32) {j : Nat} (h1 : j ≠ 6) (h2 : j ≠ 7) : zsc (aAddLock A c s pr t) j = zsc A j := line_ne _ _ h1 h2
theorem al_lp (A : AS) (c : Nat) (s : Int32) (pr : Nat) (t : Int32) (x : Nat) : zlp (aAddLock A c s pr t) x = if x = c then pr else zlp A x := rfl
theorem al_k1 (A : AS) (c : Nat) (s : Int32) (pr : Nat) (t : Int32) (x : Nat) : zlk (aAddLock A c s pr t) 1 x = if x = c then t else zlk A 1 x := lk_1 A c s pr t x
theorem al_k0 (A : AS) (c : Nat) (s : Int32) (pr : Nat) (t : Int32) (x : Nat) : zlk (aAddLock A c s pr t) 0 x = if x = c then s else zlk A 0 x := lk_0 A c s pr t x
theorem pl_l (A : AS) (c : Nat) (s v : Int32) (pr : Nat) (t : Int32) (d : Nat) : zl (aPl A c s v pr t) d = if d = 2 * c then (s, v) :: zl A (2 * c) else zl A d := by
  unfold aPl; rw [al_l, add_l]
theorem pl_k0 (A : AS) (c : Nat) (s v : Int32) (pr : Nat) (t : Int32) (x : Nat) : zlk (aPl A c s v pr t) 0 x = if x = c then s else zlk A 0 x := by
  unfold aPl; rw [al_k0, add_lk]
theorem pl_k1 (A : AS) (c : Nat) (s v : Int32) (pr : Nat) (t : Int32) (x : Nat) : zlk (aPl A c s v pr t) 1 x = if x = c then t else zlk A 1 x := by
  unfold aPl; rw [al_k1, add_lk]
theorem pl_lp (A : AS) (c : Nat) (s v : Int32) (pr : Nat) (t : Int32) (x : Nat) : zlp (aPl A c s v pr t) x = if x = c then pr else zlp A x := by
  unfold aPl; rw [al_lp, add_lp]
theorem pl_tf (A : AS) (c : Nat) (s v : Int32) (pr : Nat) (t : Int32) : ztf (aPl A c s v pr t) = ztf A := by unfold aPl; rw [al_tf, add_tf]
theorem pl_ow (A : AS) (c : Nat) (s v : Int32) (pr : Nat) (t : Int32) : zow (aPl A c s v pr t) = zow A := by unfold aPl; rw [al_ow, add_ow]
theorem pl_ne (A : AS) (c : Nat) (s v : Int32) (pr : Nat) (t : Int32) : zne (aPl A c s v pr t) = zne A + 1 := by unfold aPl; rw [al_ne, add_nE]
theorem pl_sc (A : AS) (c : Nat) (s v : Int32) (pr : Nat) (t : Int32) {j : Nat} (h1 : j ≠ 6) (h2 : j ≠ 7) : zsc (aPl A c s v pr t) j = zsc A j := by
  unfold aPl; rw [al_sc _ _ _ _ _ h1 h2, add_ne _ _ _ _ h1 h2]
theorem Pce.lock {A : AS} {c : Nat} (h : Pce A c) (hl : zlk A 0 c = 0) {s v : Int32} (hw : ∀ q ∈ zl A (2 * c + 1), q.1 < s) (h0 : 0 < s) (hs : s < zsc A 4) (hv : -1 ≤ v) (pr : Nat) (t : Int32) : Pce (aPl A c s v pr t) c := by
  obtain ⟨h1, h2, h3, h4, h5, h6, h7, h8, h9⟩ := h
  have hs0 : ¬ s = 0 := fun z => by rw [z] at h0; exact Int32.lt_irrefl h0
  have e0 : zlk (aPl A c s v pr t) 0 c = s := by rw [pl_k0, if_pos rfl]
  have ew : zl (aPl A c s v pr t) (2 * c + 1) = zl A (2 * c + 1) := by rw [pl_l, if_neg (by omega)]
  have ed : zl (aPl A c s v pr t) (2 * c) = (s, v) :: zl A (2 * c) := by rw [pl_l, if_pos rfl]
  have e4 : zsc (aPl A c s v pr t) 4 = zsc A 4 := pl_sc _ _ _ _ _ _ (by decide) (by decide)
  have hd : ∀ q ∈ zl A (2 * c), q.1 < s ∧ ∃ w ∈ zl A (2 * c + 1), w.2 = q.1 := by
    intro q hq
    have hk := (h4 q hq).1
    rcases h9 q hq with e | ⟨w, w1, w2⟩
    · rw [e, hl] at hk; exact absurd hk Int32.lt_irrefl
    · refine ⟨?_, w, w1, w2⟩
      obtain ⟨i1, i2, -⟩ := h5 w w1 (fun z => by rw [w2] at z; rw [z] at hk; exact Int32.lt_irrefl hk)
      rw [← w2]
      exact Int32.lt_trans i2 (hw w w1)
  unfold Pce
  rw [ew, ed, e4, e0]
  refine ⟨h1, List.pairwise_cons.mpr ⟨fun y hy => (hd y hy).1, h2⟩, h3, fun q hq => ?_, fun q hq q0 => ?_, h6, fun z => absurd z hs0, fun _ => ⟨h0, hs, hw, v, List.mem_cons_self⟩, fun q hq => ?_⟩
  · rcases List.mem_cons.mp hq with e | e
    · rw [e]; exact ⟨h0, hs, hv⟩
    · exact h4 q e
  · obtain ⟨i1, i2, x, hx⟩ := h5 q hq q0
    exact ⟨i1, i2, x, List.mem_cons_of_mem _ hx⟩
  · rcases List.mem_cons.mp hq with e | e
    · rw [e]; exact Or.inl rfl
    · exact Or.inr (hd q e).2
theorem Pce.lock' {A : AS} {c c' : Nat} (h : Pce A c') {s v : Int32} {pr : Nat} {t : Int32} (hc : c' ≠ c) : Pce (aPl A c s v pr t) c' :=
  h.cg (by rw [pl_l, if_neg (by omega)]) (by rw [pl_l, if_neg (by omega)]) (pl_sc _ _ _ _ _ _ (by decide) (by decide)) (by rw [pl_k0, if_neg hc]) (by rw [pl_lp, if_neg hc]) (by rw [pl_k1, if_neg hc])
theorem Pce.sweep {A : AS} {c : Nat} (h : Pce A c) (t : Int32) : Pce (swp c t 0 (zl A (2 * c + 1)) A) c := by
  obtain ⟨X, s1, s2, s3, s4⟩ := swp_all h t
  have hP := h
  generalize swp c t 0 (zl A (2 * c + 1)) A = B at s1 s3 s4
  have hdat := fun q hq h0 => (s1.dat hP (q := q) hq h0).1
  have nd := hP.nd
  obtain ⟨a1, ⟨Y, y1, y2⟩, a4, ⟨b1, b2, b3, b4, b5⟩, a6, a7, a8⟩ := s1
  obtain ⟨h1, h2, h3, h4, h5, h6, h7, h8, h9⟩ := h
  have subw : (zl B (2 * c + 1)).Sublist (zl A (2 * c + 1)) := by rw [s3]; exact List.filter_sublist
  have ndY := (y1.map (fun q => q.1)).nodup_iff.mp nd
  rw [List.map_append, List.nodup_append] at ndY
  have hY : ∀ s v, (s, v) ∈ Y → ∃ x ∈ zl A (2 * c + 1), x ∈ X ∧ x.2 = s ∧ ¬ x.2 = 0 := by
    intro s v hv
    have : s ∈ (nz X).map (fun q => q.2) := by rw [← y2]; exact List.mem_map.mpr ⟨_, hv, rfl⟩
    obtain ⟨x, x1, x2⟩ := List.mem_map.mp this
    obtain ⟨x3, x4⟩ := List.mem_filter.mp x1
    exact ⟨x, a1.mem_iff.mpr (List.mem_append_left _ x3), x3, x2, of_decide_eq_true x4⟩
  have e4 : zsc B 4 = zsc A 4 := a6 4 (by decide) (by decide)
  unfold Pce
  rw [e4, b1, b2]
  refine ⟨h1.sublist subw, h2.sublist s4, fun q hq => h3 q (subw.subset hq), fun q hq => h4 q (s4.subset hq), fun q hq q0 => ?_, h6.sublist subw, h7, fun z => ?_, fun q hq => ?_⟩
  · obtain ⟨i1, i2, -⟩ := h5 q (subw.subset hq) q0
    exact ⟨i1, i2, hdat q hq q0⟩
  · obtain ⟨l1, l2, l3, v, l4⟩ := h8 z
    refine ⟨l1, l2, fun q hq => l3 q (subw.subset hq), v, ?_⟩
    rcases List.mem_append.mp (y1.mem_iff.mp l4) with g | g
    · exfalso
      obtain ⟨x, x1, x2, x3, x4⟩ := hY _ _ g
      obtain ⟨i1, i2, -⟩ := h5 x x1 x4
      have := Int32.lt_trans i2 (l3 x x1)
      rw [x3] at this
      exact Int32.lt_irrefl this
    · exact g
  · rcases h9 q (s4.subset hq) with e | ⟨w, w1, w2⟩
    · exact Or.inl e
    · refine Or.inr ⟨w, ?_, w2⟩
      rcases List.mem_append.mp (a1.mem_iff.mp w1) with g | g
      · exfalso
        have hk := (h4 q (s4.subset hq)).1
        have w0 : ¬ w.2 = 0 := fun z => by rw [w2] at z; rw [z] at hk; exact Int32.lt_irrefl hk
        have : q.1 ∈ Y.map (fun q => q.1) := by
          rw [y2]; exact List.mem_map.mpr ⟨w, List.mem_filter.mpr ⟨g, decide_eq_true w0⟩, w2⟩
        exact ndY.2.2 q.1 this q.1 (List.mem_map.mpr ⟨q, hq, rfl⟩) rfl
      · exact g
