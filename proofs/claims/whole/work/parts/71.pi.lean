/-! WHAT HOLDS BETWEEN THE CALLS: the clients, the whole -/
def Pcl (A : AS) (k : Nat) : Prop :=
  (ztf A 0 k = 0 ∨ ztf A 0 k = 1 ∨ ztf A 0 k = 2 ∨ ztf A 0 k = 3 ∨ ztf A 0 k = 4) ∧ (ztf A 0 k = 0 → ztf A 1 k = 0 ∧ ztf A 2 k = 0 ∧ ztf A 3 k = 0 ∧ ztf A 4 k = 0 ∧ zow A k = []) ∧
  (¬ ztf A 0 k = 0 → 0 < ztf A 1 k ∧ ztf A 1 k < zsc A 4) ∧ (∀ q ∈ zow A k, -1 ≤ q.2 ∧ q.1 < 256) ∧ Ph A k ∧ (ztf A 0 k = 3 → ztf A 1 k < ztf A 3 k ∧ ztf A 3 k < zsc A 4) ∧
  (¬ ztf A 0 k = 3 → ztf A 3 k = 0) ∧ (¬ ztf A 0 k = 2 → ¬ ztf A 0 k = 3 → ztf A 4 k = 0) ∧ (¬ ztf A 0 k = 0 → ∀ c, c < 256 → zlk A 0 c = ztf A 1 k → plc (zow A k) c ≠ none) ∧
  (¬ ztf A 0 k = 0 → ∀ x, x < 8 → x ≠ k → ¬ ztf A 0 x = 0 → ¬ ztf A 1 x = ztf A 1 k)
def PJ (n z : Nat) (A : AS) : Prop := (∃ co li : Nat, zsc A 4 = nI co ∧ zsc A 5 = nI li ∧ 0 < co ∧ co ≤ li + 1 ∧ li ≤ 16 * n) ∧ (∀ d, (zl A d).length ≤ zne A) ∧ zne A ≤ z ∧ (∀ c, c < 256 → zlp A c < 256) ∧ (∀ c, c < 256 → Pce A c) ∧ ∀ k, k < 8 → Pcl A k
def PI (n : Nat) (A : AS) : Prop := PJ n (4 * n) A ∧ ¬ 64 ≤ zsc A 7
theorem i_le_lt {a b : Nat} (h : a < b) (hb : b < 2 ^ 31) : nI a < nI b := Int32.not_le.mp (nI_ge h hb)
theorem Pce.up {A B : AS} {c : Nat} (h : Pce A c) (e1 : zl B (2 * c + 1) = zl A (2 * c + 1)) (e2 : zl B (2 * c) = zl A (2 * c)) (e3 : zsc A 4 ≤ zsc B 4) (e4 : zlk B 0 c = zlk A 0 c) (e5 : zlp B c = zlp A c) (e6 : zlk B 1 c = zlk A 1 c) : Pce B c := by
  obtain ⟨h1, h2, h3, h4, h5, h6, h7, h8, h9⟩ := h
  unfold Pce
  rw [e1, e2, e4, e5, e6]
  refine ⟨h1, h2, fun q hq => ⟨(h3 q hq).1, Int32.lt_of_lt_of_le (h3 q hq).2 e3⟩, fun q hq => ⟨(h4 q hq).1, Int32.lt_of_lt_of_le (h4 q hq).2.1 e3, (h4 q hq).2.2⟩, h5, h6, h7, fun z => ?_, h9⟩
  obtain ⟨l1, l2, l3⟩ := h8 z
  exact ⟨l1, Int32.lt_of_lt_of_le l2 e3, l3⟩
/-- client k as it was, the others' starts as they were or ended -/
theorem Pcl.up {A B : AS} {k : Nat} (h : Pcl A k) (e1 : ∀ f, ztf B f k = ztf A f k) (e2 : zow B k = zow A k) (e3 : zsc A 4 ≤ zsc B 4) (hl : ∀ c, c < 256 → zlk B 0 c = zlk A 0 c ∨ zlk B 0 c = 0) (ho : ∀ x, x < 8 → x ≠ k → ¬ ztf B 0 x = 0 → ¬ ztf A 0 x = 0 ∧ ztf B 1 x = ztf A 1 x) : Pcl B k := by
  obtain ⟨h1, h2, h3, h4, h5, h6, h7, h8, h9, h10⟩ := h
  unfold Pcl Ph
  rw [e1, e1, e1, e1, e1, e2]
  refine ⟨h1, h2, fun z => ⟨(h3 z).1, Int32.lt_of_lt_of_le (h3 z).2 e3⟩, h4, h5, fun z => ⟨(h6 z).1, Int32.lt_of_lt_of_le (h6 z).2 e3⟩, h7, h8, fun z c hc hq => ?_, fun z x hx xk x0 => ?_⟩
  · rcases hl c hc with q | q
    · exact h9 z c hc (by rw [← q]; exact hq)
    · rw [q] at hq
      exfalso
      have := (h3 z).1
      rw [← hq] at this
      exact Int32.lt_irrefl this
  · obtain ⟨o1, o2⟩ := ho x hx xk x0
    rw [o2]
    exact h10 z x hx xk o1
theorem Pcl.cg {A B : AS} {k : Nat} (h : Pcl A k) (e1 : ztf B = ztf A) (e2 : zow B = zow A) (e3 : zsc B 4 = zsc A 4) (hl : ∀ c, c < 256 → zlk B 0 c = zlk A 0 c ∨ zlk B 0 c = 0) : Pcl B k :=
  h.up (fun f => by rw [e1]) (by rw [e2]) (by rw [e3]; exact Int32.le_refl _) hl (fun x _ _ z => by rw [e1] at z ⊢; exact ⟨z, rfl⟩)
section
variable {n z : Nat} {A : AS}
theorem PJ.kp (h : PJ n z A) : ∀ k, k < 8 → 0 ≤ ztf A 0 k := by
  intro k hk
  rcases (h.2.2.2.2.2 k hk).1 with q | q | q | q | q <;> rw [q] <;> decide
theorem PJ.le {n' z' : Nat} (h : PJ n z A) (hn : n ≤ n') (hz : z ≤ z') : PJ n' z' A := by
  obtain ⟨⟨co, li, a1, a2, a3, a4, a5⟩, b1, b2, b3⟩ := h
  exact ⟨⟨co, li, a1, a2, a3, a4, by omega⟩, b1, by omega, b3⟩
theorem PJ.cs {B : AS} (h : PJ n z A) (e1 : zlk B = zlk A) (e2 : zlp B = zlp A) (e3 : ztf B = ztf A) (e4 : zl B = zl A) (e5 : zow B = zow A) (e6 : zne B = zne A) (e7 : zsc B 4 = zsc A 4) (e8 : zsc B 5 = zsc A 5) : PJ n z B := by
  obtain ⟨⟨co, li, a1, a2, a3, a4, a5⟩, b1, b2, b3, b4, b5⟩ := h
  refine ⟨⟨co, li, e7.trans a1, e8.trans a2, a3, a4, a5⟩, by rw [e4, e6]; exact b1, by rw [e6]; exact b2, by rw [e2]; exact b3, fun c hc => ?_, fun k hk => ?_⟩
  · exact (b4 c hc).cg (by rw [e4]) (by rw [e4]) e7 (by rw [e1]) (by rw [e2]) (by rw [e1])
  · exact (b5 k hk).cg e3 e5 e7 (fun c _ => Or.inl (by rw [e1]))
theorem PJ.sc (h : PJ n z A) {j : Nat} (v : Int32) (h4 : j ≠ 4) (h5 : j ≠ 5) : PJ n z (usc A j v) :=
  h.cs (usc_lk _ _ _) (usc_lp _ _ _) (usc_tf _ _ _) (usc_l _ _ _) (usc_ow _ _ _) (usc_ne _ _ _) (by rw [zsc_usc, if_neg (by omega)]) (by rw [zsc_usc, if_neg (by omega)])
theorem PJ.put (h : PJ n z A) : PJ n z (aPut A) ∧ ¬ 64 ≤ zsc (aPut A) 7 := by
  unfold aPut
  by_cases e : 64 ≤ zsc A 7
  · rw [if_pos e]
    by_cases e2 : zsc A 8 + 1 = 4
    · rw [if_pos e2]
      refine ⟨((h.sc 0 (by decide) (by decide)).sc 1 (by decide) (by decide)).sc _ (by decide) (by decide), ?_⟩
      rw [zsc_usc, if_neg (by decide), zsc_usc, if_neg (by decide), zsc_usc, if_pos rfl]; decide
    · rw [if_neg e2]
      refine ⟨(h.sc 0 (by decide) (by decide)).sc _ (by decide) (by decide), ?_⟩
      rw [zsc_usc, if_neg (by decide), zsc_usc, if_pos rfl]; decide
  · rw [if_neg e]; exact ⟨h, e⟩
/-- one client's fields changed, nothing else -/
theorem PJ.cl {B : AS} {k : Nat} (h : PJ n z A) (e1 : zlk B = zlk A) (e2 : zlp B = zlp A) (e4 : zl B = zl A) (e6 : zne B = zne A) (e7 : zsc B 4 = zsc A 4) (e8 : zsc B 5 = zsc A 5) (e3 : ∀ f x, x ≠ k → ztf B f x = ztf A f x) (e5 : ∀ x, x ≠ k → zow B x = zow A x) (hs : ¬ ztf B 0 k = 0 → ¬ ztf A 0 k = 0 ∧ ztf B 1 k = ztf A 1 k) (hk : k < 8 → Pcl B k) : PJ n z B := by
  obtain ⟨⟨co, li, a1, a2, a3, a4, a5⟩, b1, b2, b3, b4, b5⟩ := h
  refine ⟨⟨co, li, e7.trans a1, e8.trans a2, a3, a4, a5⟩, by rw [e4, e6]; exact b1, by rw [e6]; exact b2, by rw [e2]; exact b3, fun c hc => ?_, fun x hx => ?_⟩
  · exact (b4 c hc).cg (by rw [e4]) (by rw [e4]) e7 (by rw [e1]) (by rw [e2]) (by rw [e1])
  · by_cases q : x = k
    · subst q; exact hk hx
    · refine (b5 x hx).up (fun f => e3 f x q) (e5 x q) (by rw [e7]; exact Int32.le_refl _) (fun c _ => Or.inl (by rw [e1])) (fun y hy yx y0 => ?_)
      by_cases q2 : y = k
      · subst q2; exact hs y0
      · rw [e3 0 y q2] at y0
        exact ⟨y0, e3 1 y q2⟩
theorem PJ.touch (h : PJ n z A) (k : Nat) : PJ n z (aTouch A k) := by
  unfold aTouch
  by_cases e : ztf A 0 k = 0
  · rw [if_pos e]; exact h
  · rw [if_neg e]
    have t : ∀ f, f ≠ 2 → ztf (utf A 2 k (zsc A 0)) f k = ztf A f k := fun f hf => by rw [ztf_utf, if_neg (by omega)]
    refine h.cl (k := k) rfl rfl rfl rfl rfl rfl (fun f x q => by rw [ztf_utf, if_neg (by omega)]) (fun _ _ => rfl) (fun z => ⟨by rw [t 0 (by decide)] at z; exact z, t 1 (by decide)⟩) (fun hk => ?_)
    obtain ⟨h1, h2, h3, h4, h5, h6, h7, h8, h9, h10⟩ := h.2.2.2.2.2 k hk
    unfold Pcl Ph
    rw [t 0 (by decide), t 1 (by decide), t 3 (by decide), t 4 (by decide), utf_ow, utf_sc, utf_lk]
    refine ⟨h1, fun q => absurd q e, h3, h4, h5, h6, h7, h8, h9, fun q x hx xk x0 => ?_⟩
    rw [ztf_utf, if_neg (by omega)] at x0 ⊢
    exact h10 q x hx xk x0
theorem PJ.end' (h : PJ n z A) (k : Nat) : PJ n z (aEnd A k) := by
  have t : ∀ f, f ≤ 4 → ztf (aEnd A k) f k = 0 := fun f hf => by rw [end_tf, if_pos ⟨rfl, hf⟩]
  refine h.cl (k := k) (end_lk _ _) (end_lp _ _) (end_l _ _) (end_ne _ _) (by rw [end_sc]) (by rw [end_sc]) (fun f x q => by rw [end_tf, if_neg (fun z => q z.1)]) (fun x q => by rw [end_ow, if_neg q]) (fun z => absurd (t 0 (by decide)) z) (fun hk => ?_)
  have z0 := t 0 (by decide)
  have zo : zow (aEnd A k) k = [] := by rw [end_ow, if_pos rfl]
  unfold Pcl Ph
  rw [z0, t 1 (by decide), t 2 (by decide), t 3 (by decide), t 4 (by decide), zo]
  refine ⟨Or.inl rfl, fun _ => ⟨rfl, rfl, rfl, rfl, rfl⟩, fun q => absurd rfl q, fun q hq => by simp at hq, ⟨fun q => absurd q (by decide), fun q => absurd q (by decide), fun q => absurd q (by decide)⟩, fun q => absurd q (by decide), fun _ => rfl, fun _ _ => rfl, fun q => absurd rfl q, fun q => absurd rfl q⟩
/-- a cell's records changed -/
theorem PJ.ce {B : AS} {z' : Nat} (h : PJ n z A) (e3 : ztf B = ztf A) (e5 : zow B = zow A) (e7 : zsc B 4 = zsc A 4) (e8 : zsc B 5 = zsc A 5) (hz : zne B ≤ z') (hl : ∀ d, (zl B d).length ≤ zne B) (hp : ∀ c, c < 256 → zlp B c < 256) (hc : ∀ c, c < 256 → Pce B c) (hk : ∀ c, c < 256 → zlk B 0 c = zlk A 0 c ∨ zlk B 0 c = 0) : PJ n z' B := by
  obtain ⟨⟨co, li, a1, a2, a3, a4, a5⟩, b1, b2, b3, b4, b5⟩ := h
  exact ⟨⟨co, li, e7.trans a1, e8.trans a2, a3, a4, a5⟩, hl, hz, hp, hc, fun k hk' => (b5 k hk').cg e3 e5 e7 hk⟩
theorem PJ.undo (h : PJ n z A) {c : Nat} (hc : c < 256) (hl : ¬ zlk A 0 c = 0) (b : Bool) : PJ n (z + (if b = true then 1 else 0)) (aUndo A c b) := by
  obtain ⟨k1, k2⟩ := undo_k A c b
  have b1 := h.2.1
  have b2 := h.2.2.1
  refine h.ce k2 k1 (un_sc _ _ _ (by decide) (by decide)) (un_sc _ _ _ (by decide) (by decide)) (by rw [un_ne]; omega) (fun d => ?_) (fun x hx => ?_) (fun x hx => ?_) (fun x hx => ?_)
  · rw [un_ne]
    by_cases e1 : d = 2 * c + 1
    · subst e1
      have := b1 (2 * c + 1)
      rw [un_w]
      split
      · rw [List.length_cons]; omega
      · omega
    · by_cases e2 : d = 2 * c
      · subst e2
        have := b1 (2 * c)
        have := (List.eraseP_sublist (p := fun q : Int32 × Int32 => decide (q.1 = zlk A 0 c)) (l := zl A (2 * c))).length_le
        rw [un_d]
        unfold rmK
        omega
      · rw [un_o _ _ _ e2 e1]
        have := b1 d
        omega
  · rw [un_lp]; split
    · decide
    · exact h.2.2.2.1 x hx
  · by_cases e : x = c
    · subst e; exact (h.2.2.2.2.1 x hx).undo hl b
    · exact (h.2.2.2.2.1 x hx).undo' b e
  · rw [undo_lk]; split
    · exact Or.inr rfl
    · exact Or.inl rfl
theorem PJ.set (h : PJ n z A) {c : Nat} (hc : c < 256) (hl : ¬ zlk A 0 c = 0) {t : Int32} (ht : zlk A 0 c < t) (ht2 : t < zsc A 4) : PJ n (z + 1) (aSet A c t (zlk A 0 c)) := by
  have b1 := h.2.1
  have b2 := h.2.2.1
  refine h.ce (se_tf _ _ _ _) (se_ow _ _ _ _) (se_sc _ _ _ _ (by decide) (by decide)) (se_sc _ _ _ _ (by decide) (by decide)) (by rw [se_ne]; omega) (fun d => ?_) (fun x hx => ?_) (fun x hx => ?_) (fun x hx => ?_)
  · rw [se_ne, se_l]
    split
    · rename_i e
      have := b1 (2 * c + 1)
      rw [List.length_cons]; omega
    · have := b1 d; omega
  · rw [se_lp]; split
    · decide
    · exact h.2.2.2.1 x hx
  · by_cases e : x = c
    · subst e; exact (h.2.2.2.2.1 x hx).set hl ht ht2
    · exact (h.2.2.2.2.1 x hx).set' e
  · rw [se_k0]; split
    · exact Or.inr rfl
    · exact Or.inl rfl
theorem PJ.clean (h : PJ n z A) {c : Nat} (hc : c < 256) (hl : ¬ zlk A 0 c = 0) : PJ n (z + 1) (aClean A c) := by
  have hpc := h.2.2.2.1 c hc
  have h1 := h.sc (j := 10) (zsc A 10 + 1) (by decide) (by decide)
  have hk : ∀ x y, zlk (usc A 10 (zsc A 10 + 1)) x y = zlk A x y := fun x y => rfl
  unfold aClean
  by_cases e : zlk A 0 (zlp A c) = zlk A 0 c
  · rw [if_pos e]
    exact h1.undo hpc (by rw [hk, e]; exact hl) true
  · rw [if_neg e]
    cases hf : (zl A (2 * zlp A c + 1)).find? (fun q => decide (q.2 = zlk A 0 c)) with
    | none => exact (h1.undo hc (by rw [hk]; exact hl) false).le (Nat.le_refl _) (by simp)
    | some q =>
      have r0 := List.find?_some hf
      have r1 : q.2 = zlk A 0 c := by simpa using r0
      have hq := List.mem_of_find?_eq_some hf
      have hP := h.2.2.2.2.1 _ hpc
      obtain ⟨i1, i2, -⟩ := hP.2.2.2.2.1 q hq (by rw [r1]; exact hl)
      have := h1.set hc (t := q.1) (by rw [hk]; exact hl) (by rw [hk, ← r1]; exact i2) (hP.2.2.1 q hq).2
      exact this
theorem PJ.lose (h : PJ n z A) {k : Nat} (hp : ztf A 0 k = 2) : PJ n z (aLose A k) := by
  have t0 : ztf (aLose A k) 0 k = 4 := by simp [aLose, ztf_utf]
  have t4 : ztf (aLose A k) 4 k = 0 := by simp [aLose, ztf_utf]
  have tx : ∀ f x, x ≠ k → ztf (aLose A k) f x = ztf A f x := fun f x q => by
    unfold aLose; rw [ztf_utf, if_neg (by omega), ztf_utf, if_neg (by omega)]
  have tj : ∀ j, j ≠ 0 → j ≠ 4 → ztf (aLose A k) j k = ztf A j k := fun j hj h4 => by
    unfold aLose
    rw [ztf_utf, if_neg (by omega), ztf_utf, if_neg (by omega)]
  have es : zsc (aLose A k) = zsc A := by unfold aLose; rw [utf_sc, utf_sc]
  have el : zlk (aLose A k) = zlk A := by unfold aLose; rw [utf_lk, utf_lk]
  have eo : zow (aLose A k) = zow A := by unfold aLose; rw [utf_ow, utf_ow]
  refine h.cl (k := k) el (by unfold aLose; rw [utf_lp, utf_lp]) (by unfold aLose; rw [utf_l, utf_l]) (by unfold aLose; rw [utf_ne, utf_ne]) (by rw [es]) (by rw [es]) tx (fun x _ => by rw [eo]) (fun _ => ⟨by rw [hp]; decide, tj 1 (by decide) (by decide)⟩) (fun hk => ?_)
  obtain ⟨h1, h2, h3, h4, h5, h6, h7, h8, h9, h10⟩ := h.2.2.2.2.2 k hk
  have hp0 : ¬ ztf A 0 k = 0 := by rw [hp]; decide
  unfold Pcl Ph
  rw [t0, t4, tj 1 (by decide) (by decide), tj 2 (by decide) (by decide), tj 3 (by decide) (by decide), es, el, eo]
  refine ⟨Or.inr (Or.inr (Or.inr (Or.inr rfl))), fun q => absurd q (by decide), fun _ => h3 hp0, h4, ⟨fun q => absurd q (by decide), fun q => absurd q (by decide), fun _ => (h5.1 hp).1⟩, fun q => absurd q (by decide), fun _ => h7 (by rw [hp]; decide), fun _ _ => rfl, fun _ => h9 hp0, fun _ x hx xk x0 => ?_⟩
  rw [tx _ _ xk] at x0 ⊢
  exact h10 hp0 x hx xk x0
end
