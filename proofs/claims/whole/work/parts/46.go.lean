/-! STEP (class) -/
def rowD (A : AS) (k : Nat) : Nat := (rws (zow A k)).getD (ztf A 4 k).toNatClampNeg 0
def aGo (A : AS) (k : Nat) : Int32 × AS :=
  if ztf A 0 k = 2 then (if nI (rws (zow A k)).length ≤ ztf A 4 k then aDecide A k ((rws (zow A k)).getD 0 0) else aLockRow A k (rowD A k))
  else if ztf A 0 k = 3 then aSettle A k (rowD A k) else if ztf A 0 k = 4 then unr k (rws (zow A k)) A else (-3, A)
def aStep (A : AS) (k : Nat) : Int32 × AS := ((aGo (aTouch A k) k).1, aPut (aGo (aTouch A k) k).2)
/-- what a client's fields are in its phases -/
def Ph (A : AS) (k : Nat) : Prop := (ztf A 0 k = 2 → zow A k ≠ [] ∧ ∃ d, ztf A 4 k = nI d ∧ d ≤ (rws (zow A k)).length) ∧ (ztf A 0 k = 3 → zow A k ≠ [] ∧ ∃ d, ztf A 4 k = nI d ∧ d < (rws (zow A k)).length) ∧ (ztf A 0 k = 4 → zow A k ≠ [])
theorem touch_k (A : AS) (k : Nat) : zow (aTouch A k) = zow A ∧ ztf (aTouch A k) 0 = ztf A 0 ∧ ztf (aTouch A k) 4 = ztf A 4 := by
  unfold aTouch; split
  · exact ⟨rfl, rfl, rfl⟩
  · refine ⟨rfl, ?_, ?_⟩ <;> (funext x; rw [ztf_utf, if_neg (fun q => absurd q.1 (by decide))])
theorem Ph.tch {A : AS} {k : Nat} (h : Ph A k) : Ph (aTouch A k) k := by
  obtain ⟨h1, h2, h3⟩ := touch_k A k
  unfold Ph
  rw [h1, h2, h3]
  exact h
theorem rws_ne {l : List (Nat × Int32)} (h : l ≠ []) : 0 < (rws l).length := by
  cases l with
  | nil => exact absurd rfl h
  | cons q l =>
    have key : ∀ (l : List (Nat × Int32)) (acc : List Nat), 0 < acc.length → 0 < (l.foldl (fun acc q => if q.1 / 4 ∈ acc then acc else acc ++ [q.1 / 4]) acc).length := by
      intro l
      induction l with
      | nil => intro acc h; exact h
      | cons q l ih =>
        intro acc h
        rw [List.foldl_cons]
        split
        · exact ih acc h
        · exact ih _ (by simp)
    unfold rws
    rw [List.foldl_cons]
    exact key l _ (by simp)
section
variable {b n : Nat} {A : AS} {σ : HS}
theorem undoRow_L {k : Nat} (hk : k < 8) {O : List (Nat × Int32)} (hO : O ≠ []) : ∀ (r N i : Nat) (A : AS) (σ : HS), RC b A σ → Sm (n + 4) A → zow A k = O → i + r = (rws O).length → r < N →
    ∃ τ, L_X5_undoRow_2 N (b + 1) (b + 262 + 4 * k) (nI i) σ = some ((unr k ((rws O).drop i) A).1, τ) ∧ RC b (unr k ((rws O).drop i) A).2 τ ∧ Cst b σ τ := by
  intro r
  induction r with
  | zero =>
    intro N i A σ h hS hz hi hN
    obtain ⟨N, rfl⟩ : ∃ M, N = M + 1 := ⟨N - 1, by omega⟩
    obtain ⟨τ, e1, e2, e3⟩ := rc_end h hk
    have hl16 := rws_len O
    have hu7 := (h.2.2.2.1 k hk).2.2.2.2.2.2.1
    rw [hz] at hu7
    simp only [L_X5_undoRow_2, B_X5_undoRow_2]
    rw [if_pos (h.tk hk).2.1, (h.2.2.2.1 k hk).2.2.2.2.2.2.2.2.1, hz, if_pos (nI_le (by omega) (by omega)), bd_eq e1, List.drop_of_length_le (by omega)]
    exact ⟨τ, rfl, e2, e3⟩
  | succ r ih =>
    intro N i A σ h hS hz hi hN
    obtain ⟨N, rfl⟩ : ∃ M, N = M + 1 := ⟨N - 1, by omega⟩
    obtain ⟨t1, t2, t3, t4, t5, t6, t7, t8, t9, t10, t11⟩ := h.tk hk
    have hil : i < (rws O).length := by omega
    have hg : (rws (zow A k))[i]? = some (rws O)[i] := by rw [hz]; exact List.getElem?_eq_getElem hil
    obtain ⟨r1, r2, r3⟩ := h.rw hk hg
    have hl16 := rws_len O
    have hu7 := (h.2.2.2.1 k hk).2.2.2.2.2.2.1
    rw [hz] at hu7
    obtain ⟨σ1, u1, u2, u3⟩ := undo_L hk r1 4 NF 0 0 A σ h hS (by rw [hz]; exact hO) (Or.inl rfl) rfl (by decide)
    have ef : F_X5_undoCells (b + 1) (b + 262 + 4 * k) (nI (rws O)[i]) σ = some ((und k 4 (4 * (rws O)[i] + 0) 0 A).1, σ1) := u1
    simp only [Nat.add_zero] at ef u2
    simp only [L_X5_undoRow_2, B_X5_undoRow_2]
    rw [if_pos t2, (h.2.2.2.1 k hk).2.2.2.2.2.2.2.2.1, hz, if_neg (nI_ge hil (by omega)), t5, t11, if_pos ⟨t8, inb_nI r2 (by omega)⟩, if_pos h.kx, nI_clamp (by omega), r3, bd_eq ef, List.drop_eq_getElem_cons hil]
    simp only [unr]
    by_cases e : (und k 4 (4 * (rws O)[i]) 0 A).1 = 0
    · rw [if_pos e, if_pos e, nI_1]
      have e0 := und0 k 4 (4 * (rws O)[i]) 0 A e
      rw [e0] at u2 ⊢
      obtain ⟨τ, c1, c2, c3⟩ := ih N (i + 1) A σ1 u2 hS hz (by omega) (by omega)
      exact ⟨τ, c1, c2, u3.tr c3⟩
    · rw [if_neg e, if_neg e]
      exact ⟨σ1, rfl, u2, u3⟩
theorem rc_goOn (h : RC b A σ) (hS : Sm (n + 4) A) {k : Nat} (hk : k < 8) (hP : Ph A k) : ∃ τ, F_X5_goOn (b + 1) (b + 262 + 4 * k) σ = some ((aGo A k).1, τ) ∧ RC b (aGo A k).2 τ ∧ Cst b σ τ := by
  obtain ⟨u1, u2, u3, u4, u5, u6, u7, u8, u9, u10⟩ := h.2.2.2.1 k hk
  have hl16 := rws_len (zow A k)
  unfold F_X5_goOn aGo B_X5_goOn_56
  rw [if_pos (h.tk hk).2.1, u1, u9, u5]
  by_cases e2 : ztf A 0 k = 2
  · obtain ⟨hne, d, hd, hdl⟩ := hP.1 e2
    rw [if_pos e2, if_pos e2]
    by_cases e3 : nI (rws (zow A k)).length ≤ ztf A 4 k
    · have hr : (rws (zow A k))[0]? = some ((rws (zow A k)).getD 0 0) := by
        rw [List.getD_eq_getElem?_getD, List.getElem?_eq_getElem (rws_ne hne)]; rfl
      obtain ⟨τ, c1, c2, c3⟩ := rc_decide h hk hne hr
      rw [if_pos e3, if_pos e3, if_pos h.kx, bd_eq c1]
      exact ⟨τ, rfl, c2, c3⟩
    · have hlt : d < (rws (zow A k)).length := by
        rw [hd] at e3
        rcases Nat.lt_or_ge d (rws (zow A k)).length with q | q
        · exact q
        · exact absurd (nI_le q (by omega)) e3
      have hr : (rws (zow A k))[d]? = some (rowD A k) := by
        unfold rowD
        rw [hd, nI_clamp (by omega), List.getD_eq_getElem?_getD, List.getElem?_eq_getElem hlt]; rfl
      obtain ⟨τ, c1, c2, c3⟩ := rc_lockRow h (n := n + 3) hS hk hne hd hr
      rw [if_neg e3, if_neg e3, if_pos h.kx, bd_eq c1]
      exact ⟨τ, rfl, c2, c3⟩
  · rw [if_neg e2, if_neg e2]
    by_cases e3 : ztf A 0 k = 3
    · obtain ⟨hne, d, hd, hlt⟩ := hP.2.1 e3
      have hr : (rws (zow A k))[d]? = some (rowD A k) := by
        unfold rowD
        rw [hd, nI_clamp (by omega), List.getD_eq_getElem?_getD, List.getElem?_eq_getElem hlt]; rfl
      obtain ⟨τ, c1, c2, c3⟩ := rc_settleRow h hk hd hr
      rw [if_pos e3, if_pos e3, if_pos h.kx, bd_eq c1]
      exact ⟨τ, rfl, c2, c3⟩
    · rw [if_neg e3, if_neg e3]
      by_cases e4 : ztf A 0 k = 4
      · obtain ⟨τ, c1, c2, c3⟩ := undoRow_L hk (hP.2.2 e4) (rws (zow A k)).length NF 0 A σ h hS rfl (by omega) (by have : NF = 100000 := rfl; omega)
        have ef : F_X5_undoRow (b + 1) (b + 262 + 4 * k) σ = some ((unr k ((rws (zow A k)).drop 0) A).1, τ) := c1
        rw [if_pos e4, if_pos e4, if_pos h.kx, bd_eq ef]
        exact ⟨τ, rfl, c2, c3⟩
      · rw [if_neg e4, if_neg e4]
        exact ⟨σ, rfl, h, Cst.rf⟩
theorem rc_step (h : RC b A σ) (hS : Sm (n + 4) A) {k : Nat} (hk : k < 8) (hP : Ph A k) : ∃ τ, F_X5_step (b + 1) (nI k) σ = some ((aStep A k).1, τ) ∧ RC b (aStep A k).2 τ ∧ Cst b σ τ := by
  obtain ⟨r1, c1, -, c2⟩ := isClient_F (nI k) σ
  obtain ⟨q1, q2⟩ := rc_cl h hk
  obtain ⟨σ1, t1, t2, t3⟩ := rc_touch h hk
  obtain ⟨σ2, l1, l2, l3⟩ := rc_goOn t2 (hS.tch k) hk hP.tch
  obtain ⟨σ3, p1, p2, p3⟩ := rc_put l2
  unfold F_X5_step aStep
  rw [bd_eq c1, if_neg (c2 ⟨k, hk, rfl⟩), if_pos h.kx, h.g2, if_pos q1, q2, (h.tk hk).1, if_pos (h.tk hk).2.1, bd_eq t1, if_pos t2.kx, bd_eq l1, if_pos l2.kx, l2.g0, if_pos l2.kt, bd_eq p1]
  exact ⟨σ3, rfl, p2, (t3.tr l3).tr p3⟩
end
