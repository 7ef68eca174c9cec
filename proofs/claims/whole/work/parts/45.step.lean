/-! SETTLING, UNDOING, STEP (class) -/
def stl (k : Nat) : Nat → Nat → AS → AS
  | 0, _, A => A
  | r + 1, c, A => stl k r (c + 1) (if zlk A 0 c = ztf A 1 k then aDropLock (aAdd A (2 * c + 1) (ztf A 3 k) (ztf A 1 k)) c else A)
def aDecide1 (A : AS) (k row : Nat) (t : Int32) : AS := utf (stl k 4 (4 * row) (utf (usc (utf A 3 k t) 2 (zsc A 2 + 1)) 0 k 3)) 4 k 1
def aDecide (A : AS) (k row : Nat) : Int32 × AS :=
  if zlk (aGive A) 0 (prm A k) = ztf A 1 k then (2, if (rws (zow A k)).length = 1 then aEnd (aDecide1 (aGive A) k row (zsc A 4)) k else aDecide1 (aGive A) k row (zsc A 4)) else (4, aLose (aGive A) k)
def aSettle (A : AS) (k row : Nat) : Int32 × AS :=
  if nI (rws (zow A k)).length ≤ ztf (stl k 4 (4 * row) A) 4 k + 1 then (3, aEnd (utf (stl k 4 (4 * row) A) 4 k (ztf (stl k 4 (4 * row) A) 4 k + 1)) k) else (1, utf (stl k 4 (4 * row) A) 4 k (ztf (stl k 4 (4 * row) A) 4 k + 1))
def und (k : Nat) : Nat → Nat → Int32 → AS → Int32 × AS
  | 0, _, f, A => (f, A)
  | r + 1, c, f, A => if zlk A 0 c = ztf A 1 k then und k r (c + 1) 1 (aUndo A c (decide (c = prm A k))) else und k r (c + 1) f A
def unr (k : Nat) : List Nat → AS → Int32 × AS
  | [], A => (0, aEnd A k)
  | row :: L, A => if (und k 4 (4 * row) 0 A).1 = 0 then unr k L (und k 4 (4 * row) 0 A).2 else (1, (und k 4 (4 * row) 0 A).2)
theorem stl_k (k : Nat) : ∀ (r c : Nat) (A : AS), zow (stl k r c A) = zow A ∧ ztf (stl k r c A) = ztf A := by
  intro r
  induction r with
  | zero => intro c A; exact ⟨rfl, rfl⟩
  | succ r ih =>
    intro c A
    unfold stl
    split
    · exact ih _ _
    · exact ih _ _
theorem dd_k (A : AS) (c : Nat) (s : Int32) : zow (aDropData A c s) = zow A ∧ ztf (aDropData A c s) = ztf A ∧ zsc (aDropData A c s) 0 = zsc A 0 := by
  unfold aDropData; split <;> exact ⟨rfl, rfl, rfl⟩
theorem undo_k (A : AS) (c : Nat) (p : Bool) : zow (aUndo A c p) = zow A ∧ ztf (aUndo A c p) = ztf A := by
  unfold aUndo
  have h := dd_k (aDropLock A c) c (zlk A 0 c)
  split
  · exact ⟨h.1, h.2.1⟩
  · exact ⟨h.1, h.2.1⟩
theorem und_k (k : Nat) : ∀ (r c : Nat) (f : Int32) (A : AS), zow (und k r c f A).2 = zow A ∧ ztf (und k r c f A).2 = ztf A := by
  intro r
  induction r with
  | zero => intro c f A; exact ⟨rfl, rfl⟩
  | succ r ih =>
    intro c f A
    unfold und
    split
    · obtain ⟨h1, h2⟩ := ih (c + 1) 1 (aUndo A c (decide (c = prm A k)))
      obtain ⟨h3, h4⟩ := undo_k A c (decide (c = prm A k))
      exact ⟨h1.trans h3, h2.trans h4⟩
    · exact ih _ _ _
theorem und01 (k : Nat) : ∀ (r c : Nat) (f : Int32) (A : AS), f = 0 ∨ f = 1 → (und k r c f A).1 = 0 ∨ (und k r c f A).1 = 1 := by
  intro r
  induction r with
  | zero => intro c f A h; exact h
  | succ r ih =>
    intro c f A h
    unfold und
    split
    · exact ih _ _ _ (Or.inr rfl)
    · exact ih _ _ _ h
theorem Sm.undo {n : Nat} {A : AS} (h : Sm (n + 1) A) {c : Nat} {p : Bool} : Sm n (aUndo A c p) := by
  unfold aUndo
  split
  · exact Sm.add (h.lk.dd)
  · exact (h.lk.dd).le (by omega)
theorem und0 (k : Nat) : ∀ (r c : Nat) (f : Int32) (A : AS), (und k r c f A).1 = 0 → (und k r c f A).2 = A := by
  intro r
  induction r with
  | zero => intro c f A h; rfl
  | succ r ih =>
    intro c f A h
    unfold und at h ⊢
    split
    · rename_i e
      rw [if_pos e] at h
      exfalso
      have : ∀ (r c : Nat) (A : AS), (und k r c 1 A).1 = 1 := by
        intro r
        induction r with
        | zero => intro c A; rfl
        | succ r ih2 => intro c A; unfold und; split <;> exact ih2 _ _
      rw [this] at h
      exact absurd h (by decide)
    · rename_i e
      rw [if_neg e] at h
      exact ih _ _ _ h
section
variable {b n : Nat} {A : AS} {σ : HS}
theorem hasLock_F (h : RC b A σ) {k c : Nat} (hk : k < 8) (hc : c < 256) : F_X4_hasLockIn (b + 262 + 4 * k) (b + 4 + c) σ = some (if zlk A 0 c = ztf A 1 k then 1 else 0, σ) := by
  unfold F_X4_hasLockIn
  rw [if_pos (h.kc hc), if_pos (h.tk hk).2.1, (h.2.2.1 c hc).1, (h.2.2.2.1 k hk).2.1]
  by_cases e : zlk A 0 c = ztf A 1 k
  · rw [if_pos e, if_pos e]; rfl
  · rw [if_neg e, if_neg e]; rfl
theorem settle_L {k : Nat} (hk : k < 8) {row : Nat} (hrow : row < 64) : ∀ (r N j : Nat) (A : AS) (σ : HS), RC b A σ → j + r = 4 → r < N →
    ∃ τ, L_X5_settleCells_2 N (b + 1) (b + 262 + 4 * k) (nI row) (nI j) σ = some ((), τ) ∧ RC b (stl k r (4 * row + j) A) τ ∧ Cst b σ τ := by
  intro r
  induction r with
  | zero =>
    intro N j A σ h hj hN
    obtain ⟨N, rfl⟩ : ∃ M, N = M + 1 := ⟨N - 1, by omega⟩
    simp only [L_X5_settleCells_2, B_X5_settleCells_2, stl]
    rw [if_pos (by rw [show (4 : Int32) = nI 4 from rfl]; exact nI_le (by omega) (by omega))]
    exact ⟨σ, rfl, h, Cst.rf⟩
  | succ r ih =>
    intro N j A σ h hj hN
    obtain ⟨N, rfl⟩ : ∃ M, N = M + 1 := ⟨N - 1, by omega⟩
    have hc : 4 * row + j < 256 := by omega
    obtain ⟨i1, i2⟩ := rc_ix h hc
    simp only [L_X5_settleCells_2, B_X5_settleCells_2, B_X5_settleCells_57, stl, F_X5_cellIndex]
    rw [if_neg (by rw [show (4 : Int32) = nI 4 from rfl]; exact nI_ge (by omega) (by omega)), if_pos h.kx, h.g0, if_pos h.kt, bd_eq rfl, cellIx, h.ca.1, if_pos i1, if_pos (h.tk hk).2.1, i2, bd_eq (hasLock_F h hk hc)]
    by_cases e : zlk A 0 (4 * row + j) = ztf A 1 k
    · obtain ⟨σ1, a1, a2, a3⟩ := rc_addWrite h hc (ztf A 3 k) (ztf A 1 k)
      obtain ⟨σ2, b1, b2, b3⟩ := rc_dropLock a2 hc
      obtain ⟨τ, c1, c2, c3⟩ := ih N (j + 1) _ σ2 b2 (by omega) (by omega)
      rw [if_pos e, if_pos e, if_neg (by decide), if_pos h.kx, if_pos (h.tk hk).2.1, h.g0, if_pos h.kt, (h.2.2.2.1 k hk).2.1, (h.2.2.2.1 k hk).2.2.2.1, bd_eq a1, if_pos a2.kx, a2.g0, if_pos a2.kt, bd_eq b1, nI_1]
      exact ⟨τ, c1, c2, (a3.tr b3).tr c3⟩
    · rw [if_neg e, if_neg e, if_pos rfl, nI_1]
      exact ih N (j + 1) A σ h (by omega) (by omega)
theorem rc_settleCells (h : RC b A σ) {k row : Nat} (hk : k < 8) (hrow : row < 64) : ∃ τ, F_X5_settleCells (b + 1) (b + 262 + 4 * k) (nI row) σ = some ((), τ) ∧ RC b (stl k 4 (4 * row) A) τ ∧ Cst b σ τ := settle_L hk hrow 4 NF 0 A σ h rfl (by decide)
theorem RC.rw (h : RC b A σ) {k d row : Nat} (hk : k < 8) (hr : (rws (zow A k))[d]? = some row) : row < 64 ∧ d < 16 ∧ ai σ (b + 265 + 4 * k) d = nI row := by
  obtain ⟨u1, u2, u3, u4, u5, u6, u7, u8, u9, u10⟩ := h.2.2.2.1 k hk
  have hdl := (List.getElem?_eq_some_iff.mp hr).1
  have hl16 := rws_len (zow A k)
  exact ⟨rws_lt (fun q hq => by
    obtain ⟨i, hi⟩ := List.getElem?_of_mem hq
    exact (u8 i q hi).2.2) row (List.mem_of_getElem? hr), by omega, u10 d row hr⟩
theorem give_k (A : AS) : zow (aGive A) = zow A ∧ ztf (aGive A) = ztf A ∧ zsc (aGive A) 2 = zsc A 2 ∧ zlk (aGive A) = zlk A := by
  unfold aGive; split <;> exact ⟨rfl, rfl, rfl, rfl⟩
theorem rc_decide (h : RC b A σ) {k : Nat} (hk : k < 8) (hne : zow A k ≠ []) {row : Nat} (hr : (rws (zow A k))[0]? = some row) : ∃ τ, F_X5_decide (b + 1) (b + 262 + 4 * k) σ = some ((aDecide A k row).1, τ) ∧ RC b (aDecide A k row).2 τ ∧ Cst b σ τ := by
  obtain ⟨σ1, g1, g2, g3⟩ := rc_give h
  obtain ⟨k1, k2, k3, k4⟩ := give_k A
  obtain ⟨t1, t2, t3, t4, t5, t6, t7, t8, t9, t10, t11⟩ := g2.tk hk
  obtain ⟨u1, u2, u3, u4, u5, u6, u7, u8, u9, u10⟩ := g2.2.2.2.1 k hk
  obtain ⟨m1, m2⟩ := g2.pm hk (by rw [k1]; exact hne)
  have ep : prm (aGive A) k = prm A k := by unfold prm; rw [k1]
  rw [ep] at m1 m2
  obtain ⟨i1, i2⟩ := rc_ix g2 m2
  have m1' : ai σ1 (b + 263 + 4 * k) (0 : Int32).toNatClampNeg = nI (prm A k) := m1
  unfold F_X5_decide aDecide
  rw [if_pos h.kx, h.g1, if_pos h.ko, bd_eq g1, if_pos g2.kx, g2.g0, if_pos g2.kt, if_pos t2, t3, t9, if_pos ⟨t6, ⟨by decide, by decide⟩⟩, m1', g2.ca.1, if_pos i1, i2, if_pos (g2.kc m2), (g2.2.2.1 _ m2).1, u2, k2]
  by_cases e : zlk (aGive A) 0 (prm A k) = ztf A 1 k
  · rw [if_pos e, if_pos e]
    have c205 : gi (si σ1 163 (b + 262 + 4 * k) (zsc A 4)) 205 (b + 1) = zsc (aGive A) 2 := g2.2.1.2.2.1
    have hB := rc_tf0 (rc_sc2 (rc_tf3 g2 hk (zsc A 4)) (zsc (aGive A) 2 + 1)) hk 3
    unfold lt1
    rw [c205]
    obtain ⟨s1, s2, s3, s4, s5, s6, s7, s8, s9, s10, s11⟩ := hB.tk hk
    have hr' : (rws (zow (utf (usc (utf (aGive A) 3 k (zsc A 4)) 2 (zsc (aGive A) 2 + 1)) 0 k 3) k))[0]? = some row := by
      rw [zow_utf, zow_usc, zow_utf, k1]; exact hr
    obtain ⟨r1, r2, r3⟩ := hB.rw hk hr'
    obtain ⟨σ2, l1, l2, l3⟩ := rc_settleCells hB hk r1
    have hC := rc_tf4 l2 hk 1
    obtain ⟨q1, q2⟩ := stl_k k 4 (4 * row) (utf (usc (utf (aGive A) 3 k (zsc A 4)) 2 (zsc (aGive A) 2 + 1)) 0 k 3)
    have e167 : gi (si σ2 169 (b + 262 + 4 * k) 1) 167 (b + 262 + 4 * k) = nI (rws (zow A k)).length := by
      have := (hC.2.2.2.1 k hk).2.2.2.2.2.2.2.2.1
      rw [this, zow_utf, q1, zow_utf, zow_usc, zow_utf, k1]
    have cst0 : Cst b σ (si σ2 169 (b + 262 + 4 * k) 1) := ((g3.tr (((Cst.rf.si (by decide)).si (by decide)).si (by decide))).tr l3).si (by decide)
    have hl16 := rws_len (zow A k)
    have hu7 : (zow A k).length ≤ 16 := by rw [k1] at u7; exact u7
    show ∃ τ, (if kd _ (gr _ 168 _) = 100 ∧ inb 0 (ln _ _) then _ else none) = _ ∧ _
    have r3' : ai (si (si (si σ1 163 (b + 262 + 4 * k) (zsc A 4)) 205 (b + 1) (zsc (aGive A) 2 + 1)) 160 (b + 262 + 4 * k) 3) (b + 265 + 4 * k) (0 : Int32).toNatClampNeg = nI row := r3
    rw [s5, s11, if_pos ⟨s8, ⟨by decide, by decide⟩⟩, r3', bd_eq l1, if_pos (l2.tk hk).2.1, e167]
    by_cases e2 : (rws (zow A k)).length = 1
    · rw [if_pos (by rw [e2]; rfl), if_pos e2]
      obtain ⟨σ3, n1, n2, n3⟩ := rc_end hC hk
      rw [bd_eq n1]
      exact ⟨σ3, rfl, n2, cst0.tr n3⟩
    · rw [if_neg (fun (q : nI (rws (zow A k)).length = 1) => e2 ((nI_eq (b := 1) (by omega) (by decide)).mp q)), if_neg e2]
      exact ⟨_, rfl, hC, cst0⟩
  · rw [if_neg e, if_neg e]
    obtain ⟨σ2, l1, l2, l3⟩ := rc_lose g2 hk
    rw [bd_eq l1]
    exact ⟨σ2, rfl, l2, g3.tr l3⟩
theorem rc_settleRow (h : RC b A σ) {k : Nat} (hk : k < 8) {d row : Nat} (hd : ztf A 4 k = nI d) (hr : (rws (zow A k))[d]? = some row) : ∃ τ, F_X5_settleRow (b + 1) (b + 262 + 4 * k) σ = some ((aSettle A k row).1, τ) ∧ RC b (aSettle A k row).2 τ ∧ Cst b σ τ := by
  obtain ⟨t1, t2, t3, t4, t5, t6, t7, t8, t9, t10, t11⟩ := h.tk hk
  obtain ⟨u1, u2, u3, u4, u5, u6, u7, u8, u9, u10⟩ := h.2.2.2.1 k hk
  obtain ⟨r1, r2, r3⟩ := h.rw hk hr
  have hdl := (List.getElem?_eq_some_iff.mp hr).1
  have hl16 := rws_len (zow A k)
  obtain ⟨σ2, l1, l2, l3⟩ := rc_settleCells h hk r1
  obtain ⟨q1, q2⟩ := stl_k k 4 (4 * row) A
  have hC := rc_tf4 l2 hk (ztf (stl k 4 (4 * row) A) 4 k + 1)
  have e167 : gi (si σ2 169 (b + 262 + 4 * k) (ztf (stl k 4 (4 * row) A) 4 k + 1)) 167 (b + 262 + 4 * k) = nI (rws (zow A k)).length := by
    rw [(hC.2.2.2.1 k hk).2.2.2.2.2.2.2.2.1, zow_utf, q1]
  have e169 : gi (si σ2 169 (b + 262 + 4 * k) (ztf (stl k 4 (4 * row) A) 4 k + 1)) 169 (b + 262 + 4 * k) = ztf (stl k 4 (4 * row) A) 4 k + 1 := if_pos ⟨rfl, rfl⟩
  unfold F_X5_settleRow aSettle B_X5_settleRow_35
  rw [if_pos t2, u9, u5, hd, if_neg (nI_ge hdl (by omega)), t5, t11, if_pos ⟨t8, inb_nI r2 (by omega)⟩, if_pos h.kx, nI_clamp (by omega), r3, bd_eq l1, if_pos (l2.tk hk).2.1, (l2.2.2.2.1 k hk).2.2.2.2.1, if_pos (hC.tk hk).2.1, e167, e169]
  by_cases e : nI (rws (zow A k)).length ≤ ztf (stl k 4 (4 * row) A) 4 k + 1
  · rw [if_pos e, if_pos e]
    obtain ⟨σ3, n1, n2, n3⟩ := rc_end hC hk
    rw [bd_eq n1]
    exact ⟨σ3, rfl, n2, (l3.si (by decide)).tr n3⟩
  · rw [if_neg e, if_neg e]
    exact ⟨_, rfl, hC, l3.si (by decide)⟩
theorem undo_L {k : Nat} (hk : k < 8) {row : Nat} (hrow : row < 64) : ∀ (r N j : Nat) (f : Int32) (A : AS) (σ : HS), RC b A σ → Sm (n + r) A → zow A k ≠ [] → f = 0 ∨ f = 1 → j + r = 4 → r < N →
    ∃ τ, L_X5_undoCells_5 N (b + 1) (b + 262 + 4 * k) (nI row) f (nI j) σ = some ((und k r (4 * row + j) f A).1, τ) ∧ RC b (und k r (4 * row + j) f A).2 τ ∧ Cst b σ τ := by
  intro r
  induction r with
  | zero =>
    intro N j f A σ h hS hne hf hj hN
    obtain ⟨N, rfl⟩ : ∃ M, N = M + 1 := ⟨N - 1, by omega⟩
    simp only [L_X5_undoCells_5, B_X5_undoCells_5, und]
    rw [if_pos (by rw [show (4 : Int32) = nI 4 from rfl]; exact nI_le (by omega) (by omega)), if_pos hf]
    exact ⟨σ, rfl, h, Cst.rf⟩
  | succ r ih =>
    intro N j f A σ h hS hne hf hj hN
    obtain ⟨N, rfl⟩ : ∃ M, N = M + 1 := ⟨N - 1, by omega⟩
    have hc : 4 * row + j < 256 := by omega
    obtain ⟨i1, i2⟩ := rc_ix h hc
    obtain ⟨t1, t2, t3, t4, t5, t6, t7, t8, t9, t10, t11⟩ := h.tk hk
    obtain ⟨m1, m2⟩ := h.pm hk hne
    have m1' : ai σ (b + 263 + 4 * k) (0 : Int32).toNatClampNeg = nI (prm A k) := m1
    simp only [L_X5_undoCells_5, B_X5_undoCells_5, B_X5_undoCells_62, B_X5_undoCells_67, und, F_X5_cellIndex]
    rw [if_neg (by rw [show (4 : Int32) = nI 4 from rfl]; exact nI_ge (by omega) (by omega)), bd_eq rfl, if_pos h.kx, h.g0, if_pos h.kt, cellIx, h.ca.1, if_pos i1, if_pos t2, i2, bd_eq (hasLock_F h hk hc)]
    by_cases e : zlk A 0 (4 * row + j) = ztf A 1 k
    · rw [if_pos e, if_pos e, if_neg (by decide), if_pos h.kx, if_pos t2, t3, t9, if_pos ⟨t6, ⟨by decide, by decide⟩⟩, m1', h.g0]
      have hu := undo_k A (4 * row + j) (decide (4 * row + j = prm A k))
      by_cases e2 : 4 * row + j = prm A k
      · obtain ⟨σ1, a1, a2, a3⟩ := rc_undo h (n := n + r) hS hc 1
        have ed : decide (¬ (1 : Int32) = 0) = decide (4 * row + j = prm A k) := by rw [decide_eq_true e2]; rfl
        rw [ed] at a2
        obtain ⟨τ, c1, c2, c3⟩ := ih N (j + 1) 1 _ σ1 a2 hS.undo (by rw [hu.1]; exact hne) (Or.inr rfl) (by omega) (by omega)
        rw [if_pos (by rw [e2]), if_pos h.kt, bd_eq a1, nI_1]
        exact ⟨τ, c1, c2, a3.tr c3⟩
      · obtain ⟨σ1, a1, a2, a3⟩ := rc_undo h (n := n + r) hS hc 0
        have ed : decide (¬ (0 : Int32) = 0) = decide (4 * row + j = prm A k) := by rw [decide_eq_false e2]; rfl
        rw [ed] at a2
        obtain ⟨τ, c1, c2, c3⟩ := ih N (j + 1) 1 _ σ1 a2 hS.undo (by rw [hu.1]; exact hne) (Or.inr rfl) (by omega) (by omega)
        rw [if_neg (fun q => e2 ((nI_eq (by omega) (by omega)).mp q)), if_pos h.kt, bd_eq a1, nI_1]
        exact ⟨τ, c1, c2, a3.tr c3⟩
    · rw [if_neg e, if_neg e, if_pos rfl, nI_1]
      exact ih N (j + 1) f A σ h (hS.le (by omega)) hne hf (by omega) (by omega)
end
