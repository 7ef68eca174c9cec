/-! THE INVARIANT IS KEPT: STEPS AND SWEEP -/
theorem lrA_inl {A : AS} {k : Nat} : ∀ (r c : Nat) (x : Int32) (q : Int32 × AS), c + r ≤ 256 → lrA A k r c x = .inl q → (∃ c', c' < 256 ∧ ¬ zlk A 0 c' = 0 ∧ q.2 = aClean A c') ∨ q.2 = aLose A k := by
  intro r
  induction r with
  | zero => intro c x q _ h; simp [lrA] at h
  | succ r ih =>
    intro c x q hc h
    unfold lrA at h
    have key : ∀ h0 : (if zlk A 0 c = 0 then lrA A k r (c + 1) (x + 1) else if aFor A c then .inl (5, aClean A c) else .inl (4, aLose A k)) = (Sum.inl q : (Int32 × AS) ⊕ Int32), (∃ c', c' < 256 ∧ ¬ zlk A 0 c' = 0 ∧ q.2 = aClean A c') ∨ q.2 = aLose A k := by
      intro h0
      by_cases e1 : zlk A 0 c = 0
      · rw [if_pos e1] at h0
        exact ih _ _ q (by omega) h0
      · rw [if_neg e1] at h0
        by_cases e2 : aFor A c
        · rw [if_pos e2] at h0
          injection h0 with h0
          exact Or.inl ⟨c, by omega, e1, by rw [← h0]⟩
        · rw [if_neg e2] at h0
          injection h0 with h0
          exact Or.inr (by rw [← h0])
    cases e : plc (zow A k) c with
    | none => rw [e] at h; exact ih _ _ q (by omega) h
    | some j =>
      rw [e] at h
      simp only [] at h
      cases ez : zl A (2 * c + 1) with
      | nil => rw [ez] at h; exact key h
      | cons y l =>
        rw [ez] at h
        simp only [] at h
        by_cases e3 : y.1 < ztf A 1 k
        · rw [if_pos e3] at h; exact key h
        · rw [if_neg e3] at h
          injection h with h
          exact Or.inr (by rw [← h])
theorem lrA_top {A : AS} {k : Nat} : ∀ (r c : Nat) (x y : Int32), lrA A k r c x = .inr y → ∀ c', c ≤ c' → c' < c + r → plc (zow A k) c' ≠ none → ∀ q l, zl A (2 * c' + 1) = q :: l → q.1 < ztf A 1 k := by
  intro r
  induction r with
  | zero => intro c x y _ c' h1 h2; omega
  | succ r ih =>
    intro c x y h c' h1 h2 h3 q l hq
    unfold lrA at h
    have key : ∀ h0 : (if zlk A 0 c = 0 then lrA A k r (c + 1) (x + 1) else if aFor A c then .inl (5, aClean A c) else .inl (4, aLose A k)) = (Sum.inr y : (Int32 × AS) ⊕ Int32), c' ≠ c → q.1 < ztf A 1 k := by
      intro h0 hn
      by_cases e1 : zlk A 0 c = 0
      · rw [if_pos e1] at h0
        exact ih _ _ y h0 c' (by omega) (by omega) h3 q l hq
      · rw [if_neg e1] at h0
        split at h0 <;> cases h0
    cases e : plc (zow A k) c with
    | none =>
      rw [e] at h
      by_cases ec : c' = c
      · rw [ec] at h3; exact absurd e h3
      · exact ih _ _ y h c' (by omega) (by omega) h3 q l hq
    | some j =>
      rw [e] at h
      simp only [] at h
      by_cases ec : c' = c
      · subst ec
        rw [hq] at h
        simp only [] at h
        by_cases e3 : q.1 < ztf A 1 k
        · exact e3
        · rw [if_neg e3] at h; cases h
      · cases ez : zl A (2 * c + 1) with
        | nil => rw [ez] at h; exact key h ec
        | cons w m =>
          rw [ez] at h
          simp only [] at h
          split at h
          · exact key h ec
          · cases h
section
variable {n z : Nat} {A : AS}
theorem PJ.pl (h : PJ n z A) {k c : Nat} (hk : k < 8) (hc : c < 256) (hp : ¬ ztf A 0 k = 0) (ho : plc (zow A k) c ≠ none) (hl : zlk A 0 c = 0) (hw : ∀ q ∈ zl A (2 * c + 1), q.1 < ztf A 1 k) {v : Int32} (hv : -1 ≤ v) {pr : Nat} (hpr : pr < 256) (t : Int32) : PJ n (z + 1) (aPl A c (ztf A 1 k) v pr t) := by
  obtain ⟨⟨co, li, a1, a2, a3, a4, a5⟩, b1, b2, b3, b4, b5⟩ := h
  obtain ⟨s0, s1⟩ := (b5 k hk).2.2.1 hp
  have e4 := pl_sc A c (ztf A 1 k) v pr t (j := 4) (by decide) (by decide)
  have e5 := pl_sc A c (ztf A 1 k) v pr t (j := 5) (by decide) (by decide)
  refine ⟨⟨co, li, e4.trans a1, e5.trans a2, a3, a4, a5⟩, fun d => ?_, by rw [pl_ne]; omega, fun x hx => ?_, fun x hx => ?_, fun x hx => ?_⟩
  · rw [pl_ne, pl_l]
    split
    · have := b1 (2 * c)
      rw [List.length_cons]; omega
    · have := b1 d; omega
  · rw [pl_lp]; split
    · exact hpr
    · exact b3 x hx
  · by_cases e : x = c
    · subst e; exact (b4 x hx).lock hl hw s0 s1 hv pr t
    · exact (b4 x hx).lock' e
  · obtain ⟨h1, h2, h3, h4, h5, h6, h7, h8, h9, h10⟩ := b5 x hx
    unfold Pcl Ph
    rw [pl_tf, pl_ow, e4]
    refine ⟨h1, h2, h3, h4, h5, h6, h7, h8, fun q c' hc' hq => ?_, h10⟩
    rw [pl_k0] at hq
    by_cases e : c' = c
    · rw [if_pos e] at hq
      by_cases ex : x = k
      · rw [ex, e]; exact ho
      · exact absurd hq ((b5 x hx).2.2.2.2.2.2.2.2.2 q k hk (fun z => ex z.symm) hp)
    · rw [if_neg e] at hq
      exact h9 q c' hc' hq
theorem PJ.lrBL {k : Nat} (hk : k < 8) : ∀ (r c : Nat) (z : Nat) (A : AS), PJ n z A → ¬ ztf A 0 k = 0 → zow A k ≠ [] → (∀ c', c ≤ c' → c' < c + r → plc (zow A k) c' ≠ none → zlk A 0 c' = 0 ∧ ∀ q ∈ zl A (2 * c' + 1), q.1 < ztf A 1 k) → c + r ≤ 256 → PJ n (z + r) (lrB k r c A) := by
  intro r
  induction r with
  | zero => intro c z A h _ _ _ _; exact h
  | succ r ih =>
    intro c z A h hp hne hu hc
    unfold lrB
    rw [ownV_plc]
    cases e : plc (zow A k) c with
    | none => exact (ih (c + 1) z A h hp hne (fun c' g1 g2 => hu c' (by omega) (by omega)) (by omega)).le (Nat.le_refl _) (by omega)
    | some j =>
      obtain ⟨q, q1, q2, q3, q4⟩ := plc_some e
      simp only [q1, Option.map_some]
      obtain ⟨hl, hw⟩ := hu c (by omega) (by omega) (by rw [e]; simp)
      have hown := (h.2.2.2.2.2 k hk).2.2.2.1
      have hpr : prm A k < 256 := by
        unfold prm
        cases e2 : zow A k with
        | nil => exact absurd e2 hne
        | cons y l => exact (hown y (by rw [e2]; exact List.mem_cons_self)).2
      have st := h.pl hk (by omega) hp (by rw [e]; simp) hl hw (hown q (List.mem_of_getElem? q1)).1 hpr (zsc A 0)
      have := ih (c + 1) (z + 1) _ st (by rw [pl_tf]; exact hp) (by rw [pl_ow]; exact hne) (fun c' g1 g2 g3 => by
        rw [pl_ow] at g3
        rw [pl_k0, if_neg (by omega), pl_l, if_neg (by omega), pl_tf]
        exact hu c' (by omega) (by omega) g3) (by omega)
      exact this.le (Nat.le_refl _) (by omega)
theorem PJ.done (h : PJ n z A) {k d : Nat} (hp : ztf A 0 k = 2 ∧ d ≤ (rws (zow A k)).length ∨ ztf A 0 k = 3 ∧ d < (rws (zow A k)).length) : PJ n z (utf A 4 k (nI d)) := by
  have tj : ∀ j, j ≠ 4 → ztf (utf A 4 k (nI d)) j k = ztf A j k := fun j hj => by rw [ztf_utf, if_neg (by omega)]
  have t4 : ztf (utf A 4 k (nI d)) 4 k = nI d := by simp [ztf_utf]
  have tx : ∀ f x, x ≠ k → ztf (utf A 4 k (nI d)) f x = ztf A f x := fun f x q => by rw [ztf_utf, if_neg (by omega)]
  refine h.cl (k := k) (utf_lk _ _ _ _) (utf_lp _ _ _ _) (utf_l _ _ _ _) (utf_ne _ _ _ _) (by rw [utf_sc]) (by rw [utf_sc]) tx (fun x q => by rw [utf_ow]) (fun q => ⟨by rw [tj 0 (by decide)] at q; exact q, tj 1 (by decide)⟩) (fun hk => ?_)
  obtain ⟨h1, h2, h3, h4, h5, h6, h7, h8, h9, h10⟩ := h.2.2.2.2.2 k hk
  have hp0 : ¬ ztf A 0 k = 0 := by rcases hp with ⟨q, _⟩ | ⟨q, _⟩ <;> rw [q] <;> decide
  unfold Pcl Ph
  rw [t4, tj 0 (by decide), tj 1 (by decide), tj 2 (by decide), tj 3 (by decide), utf_sc, utf_lk, utf_ow]
  refine ⟨h1, fun q => absurd q hp0, h3, h4, ⟨fun q => ?_, fun q => ?_, h5.2.2⟩, h6, h7, fun q1 q2 => ?_, h9, fun _ x hx xk x0 => ?_⟩
  · rcases hp with ⟨_, r⟩ | ⟨r, _⟩
    · exact ⟨(h5.1 q).1, d, rfl, r⟩
    · rw [q] at r; exact absurd r (by decide)
  · rcases hp with ⟨r, _⟩ | ⟨_, r⟩
    · rw [q] at r; exact absurd r (by decide)
    · exact ⟨(h5.2.1 q).1, d, rfl, r⟩
  · rcases hp with ⟨r, _⟩ | ⟨r, _⟩
    · exact absurd r q1
    · exact absurd r q2
  · rw [tx _ _ xk] at x0 ⊢
    exact h10 hp0 x hx xk x0
theorem lrB_tf {k : Nat} (r c : Nat) (A : AS) : ztf (lrB k r c A) = ztf A := (lrB_ow k r c A).2
theorem PJ.lockRow (h : PJ n z A) {k row d : Nat} (hk : k < 8) (hp : ztf A 0 k = 2) (hne : zow A k ≠ []) (hr : row < 64) (hd : ztf A 4 k = nI d) (hdl : d < (rws (zow A k)).length) : PJ n (z + 4) (aLockRow A k row).2 := by
  have hp0 : ¬ ztf A 0 k = 0 := by rw [hp]; decide
  unfold aLockRow
  cases e : lrA A k 4 (4 * row) 0 with
  | inl q =>
    simp only []
    rcases lrA_inl 4 (4 * row) 0 q (by omega) e with ⟨c', g1, g2, g3⟩ | g
    · rw [g3]; exact (h.clean g1 g2).le (Nat.le_refl _) (by omega)
    · rw [g]; exact (h.lose hp).le (Nat.le_refl _) (by omega)
  | inr y =>
    simp only []
    by_cases e3 : zsc A 6 + y * 3 ≤ 3000
    · rw [if_pos e3]
      have hu := (lrA_inr 4 (4 * row) 0 y e).2
      have ht := lrA_top 4 (4 * row) 0 y e
      have lb := PJ.lrBL hk 4 (4 * row) z A h hp0 hne (fun c' g1 g2 g3 => ⟨hu c' g1 g2 g3, fun q hq => by
        have hP := h.2.2.2.2.1 c' (by omega)
        cases ez : zl A (2 * c' + 1) with
        | nil => rw [ez] at hq; cases hq
        | cons x l =>
          have hx := ht c' g1 g2 g3 x l ez
          have hs := hP.1
          rw [ez] at hq hs
          rcases List.mem_cons.mp hq with r | r
          · rw [r]; exact hx
          · exact Int32.lt_trans ((List.pairwise_cons.mp hs).1 q r) hx⟩) (by omega)
      obtain ⟨o1, o2⟩ := lrB_ow k 4 (4 * row) A
      rw [o2, hd, nI_1]
      exact lb.done (Or.inl ⟨by rw [o2]; exact hp, by rw [o1]; omega⟩)
    · rw [if_neg e3]; exact h.le (Nat.le_refl _) (by omega)
theorem PJ.stTL {k : Nat} (t : Int32) : ∀ (r c : Nat) (z : Nat) (A : AS), PJ n z A → ¬ ztf A 1 k = 0 → ztf A 1 k < t → t < zsc A 4 → c + r ≤ 256 → PJ n (z + r) (stT k t r c A) := by
  intro r
  induction r with
  | zero => intro c z A h _ _ _ _; exact h
  | succ r ih =>
    intro c z A h h0 h1 h2 hc
    unfold stT
    by_cases e : zlk A 0 c = ztf A 1 k
    · rw [if_pos e]
      have st := h.set (c := c) (by omega) (by rw [e]; exact h0) (t := t) (by rw [e]; exact h1) h2
      rw [e] at st
      have := ih (c + 1) (z + 1) (aSet A c t (ztf A 1 k)) st (by rw [se_tf]; exact h0) (by rw [se_tf]; exact h1) (by rw [se_sc _ _ _ _ (by decide) (by decide)]; exact h2) (by omega)
      exact this.le (Nat.le_refl _) (by omega)
    · rw [if_neg e]
      exact (ih (c + 1) z A h h0 h1 h2 (by omega)).le (Nat.le_refl _) (by omega)
theorem usc_utf (A : AS) (j f k : Nat) (v w : Int32) : usc (utf A f k w) j v = utf (usc A j v) f k w := rfl
theorem PJ.dcd (h : PJ n z A) (hn : n < 100000) {k : Nat} (hk : k < 8) (hp : ztf A 0 k = 2) (hne : zow A k ≠ []) : PJ (n + 1) (z + 4) (aDecide A k ((rws (zow A k)).getD 0 0)).2 := by
  have hp0 : ¬ ztf A 0 k = 0 := by rw [hp]; decide
  obtain ⟨g, lt⟩ := h.give hn
  obtain ⟨s0, s1⟩ := (h.2.2.2.2.2 k hk).2.2.1 hp0
  have hs : ¬ ztf A 1 k = 0 := fun q => by rw [q] at s0; exact Int32.lt_irrefl s0
  have gt := give_tf A
  have go := give_ow A
  have hown := (h.2.2.2.2.2 k hk).2.2.2.1
  have hrow : (rws (zow A k)).getD 0 0 < 64 := by
    rw [rws0 hne]
    unfold prm
    cases e2 : zow A k with
    | nil => exact absurd e2 hne
    | cons y l =>
      have := (hown y (by rw [e2]; exact List.mem_cons_self)).2
      show y.1 / 4 < 64
      omega
  unfold aDecide aDecide1
  generalize aGive A = A' at g lt gt go
  by_cases e : zlk A' 0 (prm A k) = ztf A 1 k
  · rw [if_pos e]
    have st := PJ.stTL (k := k) (zsc A 4) 4 (4 * (rws (zow A k)).getD 0 0) z A' g (by rw [gt]; exact hs) (by rw [gt]; exact s1) lt (by omega)
    obtain ⟨k1, k2⟩ := stT_k k (zsc A 4) 4 (4 * (rws (zow A k)).getD 0 0) A'
    have k4 := stT_sc k (zsc A 4) (j := 4) (by decide) (by decide) 4 (4 * (rws (zow A k)).getD 0 0) A'
    have ht3 : ztf (uD A' k (zsc A 4) (zsc A' 2 + 1)) 3 k = zsc A 4 := by simp [uD, ztf_utf, ztf_usc]
    rw [show utf (usc (utf A' 3 k (zsc A 4)) 2 (zsc A' 2 + 1)) 0 k 3 = uD A' k (zsc A 4) (zsc A' 2 + 1) from rfl, stl_T, ht3, stT_u]
    generalize stT k (zsc A 4) 4 (4 * (rws (zow A k)).getD 0 0) A' = A8 at st k1 k2 k4
    have st2 := st.sc (j := 2) (zsc A' 2 + 1) (by decide) (by decide)
    by_cases e1 : (rws (zow A k)).length = 1
    · rw [if_pos e1]
      unfold uD
      rw [end_utf _ _ _ (by decide), end_utf _ _ _ (by decide), usc_utf, end_utf _ _ _ (by decide)]
      exact st2.end' k
    · rw [if_neg e1]
      have hl := rws_ne hne
      have hu : PJ (n + 1) (z + 4) (uD A8 k (zsc A 4) (zsc A' 2 + 1)) ∨ True := Or.inr trivial
      have k2' : ztf A8 = ztf A := k2.trans gt
      have k1' : zow A8 = zow A := k1.trans go
      have tj : ∀ j, j ≠ 0 → j ≠ 3 → j ≠ 4 → ztf (utf (uD A8 k (zsc A 4) (zsc A' 2 + 1)) 4 k 1) j k = ztf A j k := fun j j0 j3 j4 => by
        rw [ztf_utf, if_neg (by omega), uD_tf]
        simp only []
        rw [if_neg (by omega), if_neg (by omega), k2']
      have tx : ∀ f x, x ≠ k → ztf (utf (uD A8 k (zsc A 4) (zsc A' 2 + 1)) 4 k 1) f x = ztf A f x := fun f x q => by
        rw [ztf_utf, if_neg (by omega), uD_tf]
        simp only []
        rw [if_neg (by omega), if_neg (by omega), k2']
      have t0 : ztf (utf (uD A8 k (zsc A 4) (zsc A' 2 + 1)) 4 k 1) 0 k = 3 := by
        rw [ztf_utf, if_neg (by omega), uD_tf]; simp
      have t3 : ztf (utf (uD A8 k (zsc A 4) (zsc A' 2 + 1)) 4 k 1) 3 k = zsc A 4 := by
        rw [ztf_utf, if_neg (by omega), uD_tf]; simp
      have t4 : ztf (utf (uD A8 k (zsc A 4) (zsc A' 2 + 1)) 4 k 1) 4 k = nI 1 := by
        rw [ztf_utf, if_pos ⟨rfl, rfl⟩]; rfl
      have el : zlk (utf (uD A8 k (zsc A 4) (zsc A' 2 + 1)) 4 k 1) = zlk A8 := by rw [utf_lk, uD_lk]
      have eo : zow (utf (uD A8 k (zsc A 4) (zsc A' 2 + 1)) 4 k 1) = zow A := by rw [utf_ow, uD_ow, k1']
      have e4 : zsc (utf (uD A8 k (zsc A 4) (zsc A' 2 + 1)) 4 k 1) 4 = zsc A8 4 := by rw [utf_sc, uD_sc]; rfl
      refine st.cl (k := k) el (by rw [utf_lp, uD_lp]) (by rw [utf_l, uD_l]) (by rw [utf_ne, uD_ne]) e4 (by rw [utf_sc, uD_sc]; rfl) (fun f x q => by rw [tx f x q, k2']) (fun x q => by rw [eo, k1']) (fun _ => ⟨by rw [k2', hp]; decide, by rw [tj 1 (by decide) (by decide) (by decide), k2']⟩) (fun _ => ?_)
      obtain ⟨h1, h2, h3, h4, h5, h6, h7, h8, h9, h10⟩ := st.2.2.2.2.2 k hk
      have hp8 : ¬ ztf A8 0 k = 0 := by rw [k2']; exact hp0
      rw [k2'] at h3 h9 h10
      rw [k1'] at h9
      unfold Pcl Ph
      rw [t0, t3, t4, tj 1 (by decide) (by decide) (by decide), tj 2 (by decide) (by decide) (by decide), eo, el, e4]
      refine ⟨Or.inr (Or.inr (Or.inr (Or.inl rfl))), fun q => absurd q (by decide), fun _ => h3 hp0, hown, ⟨fun q => absurd q (by decide), fun _ => ⟨hne, 1, rfl, by omega⟩, fun q => absurd q (by decide)⟩, fun _ => ⟨s1, by rw [k4]; exact lt⟩, fun q => absurd rfl q, fun _ q => absurd rfl q, fun _ => h9 hp0, fun _ x hx xk x0 => ?_⟩
      rw [tx _ _ xk] at x0 ⊢
      exact h10 hp0 x hx xk x0
  · rw [if_neg e]
    exact (g.lose (by rw [gt]; exact hp)).le (Nat.le_refl _) (by omega)
theorem PJ.settle (h : PJ n z A) {k row d : Nat} (hk : k < 8) (hp : ztf A 0 k = 3) (hr : row < 64) (hd : ztf A 4 k = nI d) (hdl : d < (rws (zow A k)).length) (hl16 : (rws (zow A k)).length < 1000) : PJ n (z + 4) (aSettle A k row).2 := by
  have hp0 : ¬ ztf A 0 k = 0 := by rw [hp]; decide
  obtain ⟨s0, s1⟩ := (h.2.2.2.2.2 k hk).2.2.1 hp0
  have hs : ¬ ztf A 1 k = 0 := fun q => by rw [q] at s0; exact Int32.lt_irrefl s0
  obtain ⟨t1, t2⟩ := (h.2.2.2.2.2 k hk).2.2.2.2.2.1 hp
  have st := PJ.stTL (k := k) (ztf A 3 k) 4 (4 * row) z A h hs t1 t2 (by omega)
  obtain ⟨k1, k2⟩ := stT_k k (ztf A 3 k) 4 (4 * row) A
  unfold aSettle
  rw [stl_T]
  generalize stT k (ztf A 3 k) 4 (4 * row) A = A8 at st k1 k2
  rw [k2, hd, nI_1]
  by_cases e : nI (rws (zow A k)).length ≤ nI (d + 1)
  · rw [if_pos e, end_utf _ _ _ (by decide)]
    exact st.end' k
  · rw [if_neg e]
    have : ¬ (rws (zow A k)).length ≤ d + 1 := fun q => e (nI_le q (by omega))
    exact st.done (Or.inr ⟨by rw [k2]; exact hp, by rw [k1]; omega⟩)
theorem PJ.undL {k : Nat} : ∀ (r c : Nat) (f : Int32) (z : Nat) (A : AS), PJ n z A → ¬ ztf A 1 k = 0 → c + r ≤ 256 → PJ n (z + r) (und k r c f A).2 := by
  intro r
  induction r with
  | zero => intro c f z A h _ _; exact h
  | succ r ih =>
    intro c f z A h h0 hc
    unfold und
    by_cases e : zlk A 0 c = ztf A 1 k
    · rw [if_pos e]
      have st := h.undo (c := c) (by omega) (by rw [e]; exact h0) (decide (c = prm A k))
      obtain ⟨z1, z2⟩ := undo_k A c (decide (c = prm A k))
      have := ih (c + 1) 1 _ _ st (by rw [z2]; exact h0) (by omega)
      refine this.le (Nat.le_refl _) ?_
      split <;> omega
    · rw [if_neg e]
      exact (ih (c + 1) f z A h h0 (by omega)).le (Nat.le_refl _) (by omega)
theorem PJ.unrL (h : PJ n z A) {k : Nat} (h0 : ¬ ztf A 1 k = 0) : ∀ L : List Nat, (∀ r ∈ L, r < 64) → PJ n (z + 4) (unr k L A).2 := by
  intro L
  induction L with
  | nil => intro _; exact (h.end' k).le (Nat.le_refl _) (by omega)
  | cons r L ih =>
    intro hL
    unfold unr
    by_cases e : (und k 4 (4 * r) 0 A).1 = 0
    · rw [if_pos e, und0 k 4 (4 * r) 0 A e]
      exact ih (fun x hx => hL x (List.mem_cons_of_mem _ hx))
    · rw [if_neg e]
      exact PJ.undL 4 (4 * r) 0 z A h h0 (by have := hL r List.mem_cons_self; omega)
theorem PI.step (h : PI n A) (hn : n < 100000) {k : Nat} (hk : k < 8) (hl16 : (zow A k).length ≤ 16) : PI (n + 1) (aStep A k).2 := by
  have t := h.touch k
  have hl : (zow (aTouch A k) k).length ≤ 16 := by rw [(touch_k A k).1]; exact hl16
  have hst : (aStep A k).2 = aPut (aGo (aTouch A k) k).2 := rfl
  rw [hst]
  clear hst
  generalize aTouch A k = B at t hl ⊢
  suffices key : PJ (n + 1) (4 * n + 4) (aGo B k).2 from ⟨(key.put).1.le (Nat.le_refl _) (by omega), (key.put).2⟩
  unfold aGo
  have hrl := rws_len (zow B k)
  have hown := (t.1.2.2.2.2.2 k hk).2.2.2.1
  have hrows : ∀ x ∈ rws (zow B k), x < 64 := rws_lt (fun q hq => (hown q hq).2)
  have hPh := (t.1.2.2.2.2.2 k hk).2.2.2.2.1
  by_cases e2 : ztf B 0 k = 2
  · rw [if_pos e2]
    obtain ⟨hne, d, hd, hdl⟩ := hPh.1 e2
    by_cases e : nI (rws (zow B k)).length ≤ ztf B 4 k
    · rw [if_pos e]
      exact (t.1.dcd hn hk e2 hne)
    · rw [if_neg e]
      have hdl' : d < (rws (zow B k)).length := by
        refine Nat.not_le.mp (fun q => e ?_)
        rw [hd]; exact nI_le q (by omega)
      have hrd : rowD B k = (rws (zow B k))[d] := by
        unfold rowD
        rw [hd, nI_clamp (by omega), List.getD_eq_getElem?_getD, List.getElem?_eq_getElem hdl']
        rfl
      exact ((t.1.lockRow (row := rowD B k) hk e2 hne (by rw [hrd]; exact hrows _ (List.getElem_mem hdl')) hd hdl').le (by omega) (Nat.le_refl _))
  · rw [if_neg e2]
    by_cases e3 : ztf B 0 k = 3
    · rw [if_pos e3]
      obtain ⟨hne, d, hd, hdl⟩ := hPh.2.1 e3
      have hrd : rowD B k = (rws (zow B k))[d] := by
        unfold rowD
        rw [hd, nI_clamp (by omega), List.getD_eq_getElem?_getD, List.getElem?_eq_getElem hdl]
        rfl
      exact ((t.1.settle (row := rowD B k) hk e3 (by rw [hrd]; exact hrows _ (List.getElem_mem hdl)) hd hdl (by omega)).le (by omega) (Nat.le_refl _))
    · rw [if_neg e3]
      by_cases e4 : ztf B 0 k = 4
      · rw [if_pos e4]
        have s0 := ((t.1.2.2.2.2.2 k hk).2.2.1 (by rw [e4]; decide)).1
        exact ((t.1.unrL (fun q => by rw [q] at s0; exact Int32.lt_irrefl s0) _ hrows).le (by omega) (Nat.le_refl _))
      · rw [if_neg e4]
        exact (t.1.le (by omega) (by omega))
theorem PJ.swAL (t : Int32) : ∀ (r c : Nat) (A : AS), PJ n z A → c + r ≤ 256 → PJ n z (swA t r c A) := by
  intro r
  induction r with
  | zero => intro c A h _; exact h
  | succ r ih =>
    intro c A h hc
    unfold swA
    have hP := h.2.2.2.2.1 c (by omega)
    refine ih (c + 1) _ ?_ (by omega)
    obtain ⟨X, s1, s2, s3, s4⟩ := swp_all hP t
    have hPs := hP.sweep t
    have hoth : ∀ x, x < 256 → x ≠ c → Pce (swp c t 0 (zl A (2 * c + 1)) A) x := fun x hx xc => (h.2.2.2.2.1 x hx).sw s1 xc
    generalize swp c t 0 (zl A (2 * c + 1)) A = B at s1 s3 s4 hPs hoth
    obtain ⟨a1, a2, a4, ⟨b1, b2, b3, b4, b5⟩, a6, a7, a8⟩ := s1
    refine h.ce b3 b4 (a6 4 (by decide) (by decide)) (a6 5 (by decide) (by decide)) (by rw [b5]; exact h.2.2.1) (fun d => ?_) (by rw [b2]; exact h.2.2.2.1) (fun x hx => ?_) (fun x _ => Or.inl (by rw [b1]))
    · rw [b5]
      have l1 := h.2.1 d
      by_cases e1 : d = 2 * c + 1
      · subst e1
        have := List.length_filter_le (fun x => !gG (zl A (2 * c + 1)) (zl A (2 * c)) t x) (zl A (2 * c + 1))
        rw [s3]; omega
      · by_cases e2 : d = 2 * c
        · subst e2
          have := s4.length_le
          omega
        · rw [a4 d e2 e1]; exact l1
    · by_cases e : x = c
      · subst e; exact hPs
      · exact hoth x hx e
theorem PI.sweep (h : PI n A) (t : Int32) : PI n (aSweep A t).2 := by
  unfold aSweep
  split
  · exact h
  · split
    · split
      · exact h
      · split
        · exact h
        · have s := PJ.swAL (z := 4 * n) t 256 0 A h.1 (by omega)
          generalize swA t 256 0 A = B at s
          exact ⟨s.put.1, s.put.2⟩
    · exact h
end
