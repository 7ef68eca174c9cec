/-! THE REFERENCE: STEPS -/
def cntO (l : List (Nat × Int32)) : Nat → Nat → Nat
  | 0, _ => 0
  | r + 1, c => (if plc l c = none then 0 else 1) + cntO l r (c + 1)
theorem cntO_s (l : List (Nat × Int32)) (r c : Nat) : cntO l (r + 1) c = (if plc l c = none then 0 else 1) + cntO l r (c + 1) := rfl
theorem as_ext {A B : AS} (h1 : zsc A = zsc B) (h2 : zlk A = zlk B) (h3 : ztf A = ztf B) (h4 : zl A = zl B) (h5 : zow A = zow B) (h6 : zlp A = zlp B) (h7 : zne A = zne B) : A = B := Prod.ext h1 (Prod.ext h2 (Prod.ext h3 (Prod.ext h4 (Prod.ext h5 (Prod.ext h6 h7)))))
theorem dl_0 (A : AS) (c x : Nat) : zlk (aDropLock A c) 0 x = if x = c then 0 else zlk A 0 x := lk_0 A c 0 0 0 x
theorem dl_lk (A : AS) (c : Nat) : zlk (aDropLock A c) = fun x y => if x = 1 ∧ y = c then 0 else if x = 0 ∧ y = c then 0 else zlk A x y := rfl
theorem dl_tf (A : AS) (c : Nat) : ztf (aDropLock A c) = ztf A := rfl
theorem dl_l (A : AS) (c : Nat) : zl (aDropLock A c) = zl A := rfl
theorem dl_ow (A : AS) (c : Nat) : zow (aDropLock A c) = zow A := rfl
theorem dl_lp (A : AS) (c : Nat) : zlp (aDropLock A c) = fun x => if x = c then 0 else zlp A x := rfl
theorem dl_ne (A : AS) (c : Nat) : zne (aDropLock A c) = zne A := rfl
theorem dl_sc (A : AS) (c : Nat) : zsc (aDropLock A c) = fun i => if i = 7 then zsc A 7 + 1 else if i = 6 then zsc A 6 + (-2) else zsc A i := rfl
theorem add_sc (A : AS) (d : Nat) (k i : Int32) : zsc (aAdd A d k i) = fun i => if i = 7 then zsc A 7 + 1 else if i = 6 then zsc A 6 + 1 else zsc A i := rfl
theorem add_lF (A : AS) (d : Nat) (k i : Int32) : zl (aAdd A d k i) = fun x => if x = d then (k, i) :: zl A d else zl A x := rfl
theorem add_nE (A : AS) (d : Nat) (k i : Int32) : zne (aAdd A d k i) = zne A + 1 := rfl
theorem al_lk (A : AS) (c : Nat) (s : Int32) (p : Nat) (t : Int32) : zlk (aAddLock A c s p t) 0 = fun y => if y = c then s else zlk A 0 y := by
  funext y; exact lk_0 A c s p t y
theorem lrA_inr {A : AS} {k : Nat} : ∀ (r c : Nat) (x y : Int32), lrA A k r c x = .inr y → y = x + nI (cntO (zow A k) r c) ∧ ∀ c', c ≤ c' → c' < c + r → plc (zow A k) c' ≠ none → zlk A 0 c' = 0 := by
  intro r
  induction r with
  | zero =>
    intro c x y h
    obtain rfl : x = y := by simpa [lrA] using h
    exact ⟨by rw [show cntO (zow A k) 0 c = 0 from rfl, nI_0, Int32.add_zero], fun c' h1 h2 => by omega⟩
  | succ r ih =>
    intro c x y h
    unfold lrA at h
    cases e : plc (zow A k) c with
    | none =>
      rw [e] at h
      obtain ⟨h1, h2⟩ := ih (c + 1) x y h
      refine ⟨by rw [h1, cntO_s, if_pos e, Nat.zero_add], fun c' g1 g2 g3 => ?_⟩
      by_cases ec : c' = c
      · subst ec; exact absurd e g3
      · exact h2 c' (by omega) (by omega) g3
    | some j =>
      rw [e] at h
      have key : ∀ h0 : (if zlk A 0 c = 0 then lrA A k r (c + 1) (x + 1) else if aFor A c then .inl (5, aClean A c) else .inl (4, aLose A k)) = (Sum.inr y : (Int32 × AS) ⊕ Int32), y = x + nI (cntO (zow A k) (r + 1) c) ∧ ∀ c', c ≤ c' → c' < c + (r + 1) → plc (zow A k) c' ≠ none → zlk A 0 c' = 0 := by
        intro h0
        by_cases e1 : zlk A 0 c = 0
        · rw [if_pos e1] at h0
          obtain ⟨h1, h2⟩ := ih (c + 1) (x + 1) y h0
          refine ⟨?_, fun c' g1 g2 g3 => ?_⟩
          · rw [h1, cntO_s, if_neg (by rw [e]; simp), Int32.add_assoc, ← nI_add]
            rfl
          · by_cases ec : c' = c
            · rw [ec]; exact e1
            · exact h2 c' (by omega) (by omega) g3
        · rw [if_neg e1] at h0
          split at h0 <;> cases h0
      simp only [] at h
      cases ez : zl A (2 * c + 1) with
      | nil => rw [ez] at h; exact key h
      | cons q l =>
        rw [ez] at h
        simp only [] at h
        split at h
        · exact key h
        · cases h
theorem ownV_plc {A : AS} {k c : Nat} : ownV A k c = match plc (zow A k) c with | none => none | some j => ((zow A k)[j]?).map (fun q => q.2) := by
  unfold ownV
  cases e : plc (zow A k) c with
  | none => rw [plc_none e]; rfl
  | some j =>
    obtain ⟨q, q1, q2, q3, q4⟩ := plc_some e
    rw [q3]; simp only [q1]
section
variable {p : Nat → Nat} {m : Nat} {A : AS} {σ : HS} {D : List (Nat × Int32 × Int32)} {V : List (Nat × Int32 × Int32 × Int32)}
theorem RMo.pm (h : RMo p m A σ) {k : Nat} (hk : k < 8) (hp : ¬ ztf A 0 k = 0) (hne : zow A k ≠ []) : ai σ (p 309) (16 * k) = nI (prm A k) ∧ prm A k < 256 := by
  have u6 := ((h.2.2.1 k hk).2 hp).2.2.2.2.1
  unfold prm
  cases e : zow A k with
  | nil => exact absurd e hne
  | cons q l =>
    have := u6 0 q (by rw [e]; rfl)
    exact ⟨this.1, this.2.2⟩
theorem mo_done (h : RMo p m A σ) {k : Nat} {v : Int32} (hk : k < 8) : RMo p m (utf A 4 k v) (sai σ (p 311) k v) := by
  have S := h.1
  refine mo_tr h (by omega) (by omega) (by omega) (by omega) rfl rfl rfl rfl (fun f x q => by rw [ztf_utf, if_neg (by omega)]) (fun x q => rfl) (fun _ => ?_)
  obtain ⟨u1, u2⟩ := h.2.2.1 k hk
  have tj : ∀ j, j ≠ 4 → ztf (utf A 4 k v) j k = ztf A j k := fun j hj => by rw [ztf_utf, if_neg (by omega)]
  have t4 : ztf (utf A 4 k v) 4 k = v := by simp [ztf_utf]
  unfold Mt1
  rw [t4, tj 0 (by decide), tj 1 (by decide), tj 2 (by decide), tj 3 (by decide)]
  rw [ai_eq, ai_ne (S.ne (by decide)), ai_ne (S.ne (by decide)), ai_ne (S.ne (by decide)), ai_ne (S.ne (by decide)), ai_ne (S.ne (by decide))]
  refine ⟨u1, fun hp => ?_⟩
  obtain ⟨u2, u3, u4, u5, u6, u7⟩ := u2 hp
  refine ⟨u2, u3, u4, u5, fun i q hq => ?_, fun _ => rfl, u7.2⟩
  rw [ai_ne (S.ne (by decide)), ai_ne (S.ne (by decide))]; exact u6 i q hq
theorem moLrB_L {k row : Nat} (hk : k < 8) (hr : row < 64) : ∀ (r N c m : Nat) (A : AS) (σ : HS), RMo p m A σ → m + 3 * cntO (zow A k) r c ≤ 3000 → ¬ ztf A 0 k = 0 → ¬ ztf A 0 k = 4 → ¬ ztf A 1 k = 0 → zow A k ≠ [] → (∀ c', c ≤ c' → c' < c + r → plc (zow A k) c' ≠ none → zlk A 0 c' = 0) → c + r = 4 * row + 4 → r < N →
    ∃ τ, L_X6_lockRow_177 N (p 294) (nI k) (nI row) (nI c) σ = some (1, τ) ∧ RMo p 3000 (utf (lrB k r c A) 4 k (ztf (lrB k r c A) 4 k + 1)) τ ∧ Mst p σ τ := by
  have hki : inb (nI k) 8 := inb_nI hk (by decide)
  have hkc : (nI k).toNatClampNeg = k := nI_clamp (by omega)
  intro r
  induction r with
  | zero =>
    intro N c m A σ h hm hp h4 hs hne hu hc hN
    obtain ⟨N, rfl⟩ : ∃ M, N = M + 1 := ⟨N - 1, by omega⟩
    have S := h.1
    have u7 := ((h.2.2.1 k hk).2 hp).2.2.2.2.2.1 h4
    simp only [L_X6_lockRow_177, B_X6_lockRow_177, lt1]
    rw [row4, if_pos (nI_le (by omega) (by omega))]
    simp only [S.km, S.r265, S.k265, S.l265, true_and, if_true, if_pos hki, hkc, u7]
    exact ⟨_, rfl, (mo_done h hk).le (by simp [cntO] at hm; omega), Mst.rf.sai (S.le (by decide))⟩
  | succ r ih =>
    intro N c m A σ h hm hp h4 hs hne hu hc hN
    obtain ⟨N, rfl⟩ : ∃ M, N = M + 1 := ⟨N - 1, by omega⟩
    have S := h.1
    have hc6 : c < 256 := by omega
    have h1 := (h.2.2.1 k hk).2 hp
    obtain ⟨u2, u3, u4, u5, u6, u7⟩ := h1
    simp only [L_X6_lockRow_177, B_X6_lockRow_177, B_X6_lockRow_246]
    rw [row4, if_neg (nI_ge (by omega) (by omega)), if_pos S.km, bd_eq (mo_ownAt h hk hp hc6)]
    unfold lrB
    rw [ownV_plc]
    rw [cntO_s] at hm
    cases e : plc (zow A k) c with
    | none =>
      rw [if_pos e] at hm
      simp only []
      rw [if_pos (by decide), nI_1]
      exact ih N (c + 1) m A σ h (by omega) hp h4 hs hne (fun c' g1 g2 => hu c' (by omega) (by omega)) (by omega) (by omega)
    | some j =>
      rw [if_neg (by rw [e]; simp)] at hm
      obtain ⟨q, q1, q2, q3, q4⟩ := plc_some e
      obtain ⟨y1, y2, y3⟩ := u6 j q q1
      have hji : inb (nI (16 * k + j)) 128 := inb_nI (by omega) (by decide)
      have hjc : (nI (16 * k + j)).toNatClampNeg = 16 * k + j := nI_clamp (by omega)
      have h0i : inb (nI (16 * k)) 128 := inb_nI (by omega) (by decide)
      have h0c : (nI (16 * k)).toNatClampNeg = 16 * k := nI_clamp (by omega)
      simp only [q1, Option.map_some]
      rw [if_neg (Int32.not_lt.mpr (nI_pos' (by omega)))]
      simp only [S.km, S.r260, S.k260, S.l260, S.r264, S.k264, S.l264, true_and, if_true, if_pos hki, hkc, own_ix, if_pos hji, hjc, u2, y2]
      obtain ⟨D, V, hw⟩ := h.wi
      obtain ⟨σ2, a1, a2, a3⟩ := rm_addData hw (by omega) hc6 (ztf A 1 k) q.2
      have S2 := a2.1
      have hA2 := a2.mo
      have hp2 : ¬ ztf (aAdd A (2 * c) (ztf A 1 k) q.2) 0 k = 0 := hp
      obtain ⟨pm1, pm2⟩ := hA2.pm hk hp2 hne
      have u2' := ((hA2.2.2.1 k hk).2 hp2).1
      have u2'' : ai σ2 (p 306) k = ztf A 1 k := u2'
      have pm1' : ai σ2 (p 309) (16 * k) = nI (prm A k) := pm1
      rw [bd_eq a1]
      simp only [S2.km, S2.r260, S2.k260, S2.l260, S2.r263, S2.k263, S2.l263, true_and, if_true, if_pos hki, hkc, own0, if_pos h0i, h0c, u2'', pm1', nI_1]
      obtain ⟨σ3, b1, b2, b3⟩ := mo_addLock hA2 hc6 pm2 hs (hu c (by omega) (by omega) (by rw [e]; simp))
      have b1' : F_X6_addLock (p 294) (nI c) (ztf A 1 k) (nI (prm A k)) σ2 = some ((), σ3) := b1
      rw [bd_eq b1']
      obtain ⟨τ, c1, c2, c3⟩ := ih N (c + 1) (m + 1 + 2) (aAddLock (aAdd A (2 * c) (ztf A 1 k) q.2) c (ztf A 1 k) (prm A k) (zsc A 0)) σ3 b2 (by
        show m + 1 + 2 + 3 * cntO (zow A k) r (c + 1) ≤ 3000
        omega) hp h4 hs hne (fun c' g1 g2 g3 => by
        rw [al_lk, add_lk]
        show (if c' = c then ztf A 1 k else zlk A 0 c') = 0
        rw [if_neg (by omega)]
        exact hu c' (by omega) (by omega) g3) (by omega) (by omega)
      exact ⟨τ, c1, c2, a3.tr (b3.tr c3)⟩
theorem mo_lockRow (h : RMo p 3000 A σ) (hP : ∀ c, c < 256 → Pce A c) (hK : ∀ k, k < 8 → 0 ≤ ztf A 0 k) {k : Nat} (hk : k < 8) (hp : ztf A 0 k = 2) (hs : ¬ ztf A 1 k = 0) (hne : zow A k ≠ []) {row : Nat} (hr : row < 64) :
    ∃ τ, L_X6_lockRow_29 NF (p 294) (nI k) (nI row) 0 (nI (4 * row)) σ = some ((aLockRow A k row).1, τ) ∧ RMo p 3000 (aLockRow A k row).2 τ ∧ Mst p σ τ := by
  have hp0 : ¬ ztf A 0 k = 0 := by rw [hp]; decide
  obtain ⟨g1, g2⟩ := moLrA_L h hP hK hk hp0 hr 4 NF (4 * row) 0 rfl (by decide)
  unfold aLockRow
  cases e : lrA A k 4 (4 * row) 0 with
  | inl q => exact g1 q e
  | inr y =>
    obtain ⟨y1, y2⟩ := lrA_inr 4 (4 * row) 0 y e
    rw [g2 y e]
    simp only []
    rw [Int32.mul_comm y 3]
    obtain ⟨D, V, hw⟩ := h.wi
    have hb := hw.bo
    have e6 := hw.re
    have hcnt : cntO (zow A k) 4 (4 * row) ≤ 4 := by
      have : ∀ r c, cntO (zow A k) r c ≤ r := by
        intro r
        induction r with
        | zero => intro c; exact Nat.le_refl _
        | succ r ih => intro c; unfold cntO; have := ih (c + 1); split <;> omega
      exact this 4 _
    by_cases e3 : zsc A 6 + 3 * y ≤ 3000
    · rw [if_pos e3, if_pos e3]
      have hle : (D.length + V.length + 2 * cntL A) + 3 * cntO (zow A k) 4 (4 * row) ≤ 3000 := by
        rw [e6, y1, Int32.zero_add, show (3 : Int32) = nI 3 from rfl, pk_mul, nI_add, show (3000 : Int32) = nI 3000 from rfl] at e3
        exact Nat.not_lt.mp (fun q => nI_ge q (by omega) e3)
      have hw' : RMo p (D.length + V.length + 2 * cntL A) A σ := by
        obtain ⟨w1, w2, w3, w4, w5, w6⟩ := hw
        obtain ⟨a1, a2, a3, a4, a5, a6, a7, a8, a9, a10, a11, a12, a13, a14, a15⟩ := w4
        exact ⟨w1, w2, w3, D, V, ⟨a1, a2, a3, a4, a5, a6, a7, a8, a9, a10, a11, a12, a13, a14, Nat.le_refl _⟩, w5, w6⟩
      exact moLrB_L hk hr 4 NF (4 * row) _ A σ hw' hle hp0 (by rw [hp]; decide) hs hne y2 rfl (by decide)
    · rw [if_neg e3, if_neg e3]
      exact ⟨σ, rfl, h, Mst.rf⟩
/-- settling with the ticket named -/
def stT (k : Nat) (t : Int32) : Nat → Nat → AS → AS
  | 0, _, A => A
  | r + 1, c, A => stT k t r (c + 1) (if zlk A 0 c = ztf A 1 k then aDropLock (aAdd A (2 * c + 1) t (ztf A 1 k)) c else A)
theorem stT_k (k : Nat) (t : Int32) : ∀ (r c : Nat) (A : AS), zow (stT k t r c A) = zow A ∧ ztf (stT k t r c A) = ztf A := by
  intro r
  induction r with
  | zero => intro c A; exact ⟨rfl, rfl⟩
  | succ r ih =>
    intro c A
    unfold stT
    split
    · exact ih _ _
    · exact ih _ _
theorem stl_T (k : Nat) : ∀ (r c : Nat) (A : AS), stl k r c A = stT k (ztf A 3 k) r c A := by
  intro r
  induction r with
  | zero => intro c A; rfl
  | succ r ih =>
    intro c A
    unfold stl stT
    rw [ih]
    split <;> rfl
def uD (A : AS) (k : Nat) (t v : Int32) : AS := utf (usc (utf A 3 k t) 2 v) 0 k 3
theorem uD_sc (A : AS) (k : Nat) (t v : Int32) : zsc (uD A k t v) = fun i => if i = 2 then v else zsc A i := rfl
theorem uD_lk (A : AS) (k : Nat) (t v : Int32) : zlk (uD A k t v) = zlk A := rfl
theorem uD_tf (A : AS) (k : Nat) (t v : Int32) : ztf (uD A k t v) = fun f x => if f = 0 ∧ x = k then 3 else if f = 3 ∧ x = k then t else ztf A f x := rfl
theorem uD_l (A : AS) (k : Nat) (t v : Int32) : zl (uD A k t v) = zl A := rfl
theorem uD_ow (A : AS) (k : Nat) (t v : Int32) : zow (uD A k t v) = zow A := rfl
theorem uD_lp (A : AS) (k : Nat) (t v : Int32) : zlp (uD A k t v) = zlp A := rfl
theorem uD_ne (A : AS) (k : Nat) (t v : Int32) : zne (uD A k t v) = zne A := rfl
theorem stT_u (k : Nat) (t v : Int32) : ∀ (r c : Nat) (A : AS), stT k t r c (uD A k t v) = uD (stT k t r c A) k t v := by
  intro r
  induction r with
  | zero => intro c A; rfl
  | succ r ih =>
    intro c A
    unfold stT
    have t1 : ztf (uD A k t v) 1 k = ztf A 1 k := by simp [uD, ztf_utf, ztf_usc]
    have z0 : zlk (uD A k t v) 0 c = zlk A 0 c := rfl
    rw [t1, z0]
    by_cases e : zlk A 0 c = ztf A 1 k
    · rw [if_pos e, if_pos e, ← ih]
      congr 1
      refine as_ext ?_ ?_ ?_ ?_ ?_ ?_ ?_
      · rw [dl_sc, add_sc, uD_sc, uD_sc, dl_sc, add_sc]
        funext i
        simp only []
        by_cases i2 : i = 2
        · subst i2; simp
        · simp [i2]
      · rw [uD_lk, dl_lk, dl_lk, add_lk, add_lk, uD_lk]
      · rw [dl_tf, add_tf, uD_tf, uD_tf, dl_tf, add_tf]
      · rw [uD_l, dl_l, dl_l, add_lF, add_lF, uD_l]
      · rw [uD_ow, dl_ow, dl_ow, add_ow, add_ow, uD_ow]
      · rw [uD_lp, dl_lp, dl_lp, add_lp, add_lp, uD_lp]
      · rw [uD_ne, dl_ne, dl_ne, add_nE, add_nE, uD_ne]
    · rw [if_neg e, if_neg e, ← ih]
theorem moSet_L {k row : Nat} (t : Int32) (hk : k < 8) (hr : row < 64) : ∀ (r N c : Nat) (A : AS) (σ : HS), RMo p 3000 A σ → ¬ ztf A 0 k = 0 → ¬ ztf A 1 k = 0 → (∀ c', c' < 256 → zlk A 0 c' = ztf A 1 k → plc (zow A k) c' ≠ none) → c + r = 4 * row + 4 → r < N →
    ∃ τ, L_X6_settleRow_5 N (p 294) (nI k) (nI row) t (nI c) σ = some ((), τ) ∧ RMo p 3000 (stT k t r c A) τ ∧ Mst p σ τ := by
  have hki : inb (nI k) 8 := inb_nI hk (by decide)
  have hkc : (nI k).toNatClampNeg = k := nI_clamp (by omega)
  intro r
  induction r with
  | zero =>
    intro N c A σ h hp hs ho hc hN
    obtain ⟨N, rfl⟩ : ∃ M, N = M + 1 := ⟨N - 1, by omega⟩
    simp only [L_X6_settleRow_5, B_X6_settleRow_5]
    rw [row4, if_pos (nI_le (by omega) (by omega))]
    exact ⟨σ, rfl, h, Mst.rf⟩
  | succ r ih =>
    intro N c A σ h hp hs ho hc hN
    obtain ⟨N, rfl⟩ : ∃ M, N = M + 1 := ⟨N - 1, by omega⟩
    have S := h.1
    have hc6 : c < 256 := by omega
    have hci : inb (nI c) 256 := inb_nI hc6 (by decide)
    have hcc : (nI c).toNatClampNeg = c := nI_clamp (by omega)
    have l1 := (h.2.1 c hc6).1
    obtain ⟨u2, u3, u4, u5, u6, u7⟩ := (h.2.2.1 k hk).2 hp
    simp only [L_X6_settleRow_5, B_X6_settleRow_5, B_X6_settleRow_61]
    rw [row4, if_neg (nI_ge (by omega) (by omega)), if_pos S.km, bd_eq (mo_ownAt h hk hp hc6)]
    unfold stT
    by_cases el : zlk A 0 c = ztf A 1 k
    · rw [if_pos el]
      cases e : plc (zow A k) c with
      | none => exact absurd e (ho c hc6 el)
      | some j =>
        obtain ⟨q, q1, q2, q3, q4⟩ := plc_some e
        simp only []
        rw [if_neg (Int32.not_lt.mpr (nI_pos' (by omega)))]
        simp only [S.km, S.r256, S.k256, S.l256, S.r260, S.k260, S.l260, true_and, if_true, if_pos hki, hkc, if_pos hci, hcc, l1, u2]
        rw [if_pos el]
        have hl : ¬ zlk A 0 c = 0 := by rw [el]; exact hs
        obtain ⟨D, V, hw⟩ := h.wi
        obtain ⟨σ2, a1, a2, a3⟩ := rm_addWrite hw (by have := cntL_pos hc6 hl; omega) hc6 t (ztf A 1 k) (r := 0) (Or.inl rfl) (fun _ => hs)
        rw [if_pos rfl] at a2
        obtain ⟨σ3, b1, b2, b3⟩ := mo_dropLock a2.mo hc6 (by rw [add_lk]; exact hl)
        rw [bd_eq a1, if_pos a2.1.km, bd_eq b1, nI_1]
        obtain ⟨τ, c1, c2, c3⟩ := ih N (c + 1) (aDropLock (aAdd A (2 * c + 1) t (ztf A 1 k)) c) σ3 (b2.le (by omega)) hp hs (fun c' g1 g2 => by
          rw [dl_0, add_lk] at g2
          by_cases ec : c' = c
          · rw [if_pos ec] at g2; exact absurd g2.symm hs
          · rw [if_neg ec] at g2; exact ho c' g1 g2) (by omega) (by omega)
        exact ⟨τ, c1, c2, a3.tr (b3.tr c3)⟩
    · rw [if_neg el]
      obtain ⟨τ, c1, c2, c3⟩ := ih N (c + 1) A σ h hp hs ho (by omega) (by omega)
      refine ⟨τ, ?_, c2, c3⟩
      rw [← c1]
      cases e : plc (zow A k) c with
      | none =>
        simp only []
        rw [if_pos (by decide), nI_1]
      | some j =>
        obtain ⟨q, q1, q2, q3, q4⟩ := plc_some e
        simp only []
        rw [if_neg (Int32.not_lt.mpr (nI_pos' (by omega)))]
        simp only [S.km, S.r256, S.k256, S.l256, S.r260, S.k260, S.l260, true_and, if_true, if_pos hki, hkc, if_pos hci, hcc, l1, u2]
        rw [if_neg el, nI_1]
theorem mo_settleRow (h : RMo p 3000 A σ) {k row : Nat} (t : Int32) (hk : k < 8) (hr : row < 64) (hp : ¬ ztf A 0 k = 0) (hs : ¬ ztf A 1 k = 0) (ho : ∀ c', c' < 256 → zlk A 0 c' = ztf A 1 k → plc (zow A k) c' ≠ none) : ∃ τ, F_X6_settleRow (p 294) (nI k) (nI row) t σ = some ((), τ) ∧ RMo p 3000 (stT k t 4 (4 * row) A) τ ∧ Mst p σ τ := by
  unfold F_X6_settleRow
  rw [row0]
  exact moSet_L t hk hr 4 NF (4 * row) A σ h hp hs ho rfl (by decide)
end
