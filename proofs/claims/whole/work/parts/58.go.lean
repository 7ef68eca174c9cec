/-! THE REFERENCE: DECIDE, SETTLE, UNDO, STEP -/
theorem utf_comm (A : AS) {j j' : Nat} (k : Nat) (v w : Int32) (h : j ≠ j') : utf (utf A j k v) j' k w = utf (utf A j' k w) j k v := by
  refine Prod.ext rfl (Prod.ext rfl (Prod.ext ?_ rfl))
  funext f x
  show (if f = j' ∧ x = k then w else if f = j ∧ x = k then v else ztf A f x) = (if f = j ∧ x = k then v else if f = j' ∧ x = k then w else ztf A f x)
  by_cases e1 : f = j' ∧ x = k
  · rw [if_pos e1, if_neg (fun q => h (q.1.symm.trans e1.1)), if_pos e1]
  · rw [if_neg e1, if_neg e1]
theorem end_utf (A : AS) {j : Nat} (k : Nat) (v : Int32) (h : j ≤ 4) : aEnd (utf A j k v) k = aEnd A k := by
  refine as_ext ?_ ?_ ?_ ?_ ?_ ?_ ?_
  · rw [end_sc, end_sc, utf_sc]
  · rw [end_lk, end_lk, utf_lk]
  · funext f x
    rw [end_tf, end_tf]
    by_cases e : x = k ∧ f ≤ 4
    · rw [if_pos e, if_pos e]
    · rw [if_neg e, if_neg e, ztf_utf, if_neg (fun q => e ⟨q.2, by omega⟩)]
  · rw [end_l, end_l, utf_l]
  · funext x; rw [end_ow, end_ow, utf_ow]
  · rw [end_lp, end_lp, utf_lp]
  · rw [end_ne, end_ne, utf_ne]
theorem stT_sc (k : Nat) (t : Int32) {j : Nat} (h6 : j ≠ 6) (h7 : j ≠ 7) : ∀ (r c : Nat) (A : AS), zsc (stT k t r c A) j = zsc A j := by
  intro r
  induction r with
  | zero => intro c A; rfl
  | succ r ih =>
    intro c A
    unfold stT
    rw [ih]
    split
    · exact (line_ne _ _ h6 h7).trans (line_ne _ _ h6 h7)
    · rfl
section
variable {p : Nat → Nat} {m : Nat} {A : AS} {σ : HS} {D : List (Nat × Int32 × Int32)} {V : List (Nat × Int32 × Int32 × Int32)}
theorem mo_tick (h : RMo p m A σ) {k : Nat} {v : Int32} (hk : k < 8) (h3 : ¬ ztf A 0 k = 3) : RMo p m (utf A 3 k v) (sai σ (p 312) k v) := by
  have S := h.1
  refine mo_tr h (by omega) (by omega) (by omega) (by omega) rfl rfl rfl rfl (fun f x q => by rw [ztf_utf, if_neg (by omega)]) (fun x q => rfl) (fun _ => ?_)
  obtain ⟨u1, u2⟩ := h.2.2.1 k hk
  have tj : ∀ j, j ≠ 3 → ztf (utf A 3 k v) j k = ztf A j k := fun j hj => by rw [ztf_utf, if_neg (by omega)]
  unfold Mt1
  rw [tj 0 (by decide), tj 1 (by decide), tj 2 (by decide), tj 4 (by decide)]
  rw [ai_ne (S.ne (by decide)), ai_ne (S.ne (by decide)), ai_ne (S.ne (by decide)), ai_ne (S.ne (by decide)), ai_ne (S.ne (by decide))]
  refine ⟨u1, fun hp => ?_⟩
  obtain ⟨u2, u3, u4, u5, u6, u7⟩ := u2 hp
  refine ⟨u2, u3, u4, u5, fun i q hq => ?_, u7.1, fun q => absurd q h3⟩
  rw [ai_ne (S.ne (by decide)), ai_ne (S.ne (by decide))]; exact u6 i q hq
theorem mo_ph3 (h : RMo p m A σ) {k : Nat} (hk : k < 8) (hp : ¬ ztf A 0 k = 0) (h4 : ¬ ztf A 0 k = 4) (h3 : ai σ (p 312) k = ztf A 3 k) : RMo p m (utf A 0 k 3) (sai σ (p 305) k 3) := by
  have S := h.1
  refine mo_tr h (by omega) (by omega) (by omega) (by omega) rfl rfl rfl rfl (fun f x q => by rw [ztf_utf, if_neg (by omega)]) (fun x q => rfl) (fun _ => ?_)
  obtain ⟨u1, u2⟩ := h.2.2.1 k hk
  obtain ⟨u2, u3, u4, u5, u6, u7⟩ := u2 hp
  have tj : ∀ j, j ≠ 0 → ztf (utf A 0 k 3) j k = ztf A j k := fun j hj => by rw [ztf_utf, if_neg (by omega)]
  have t0 : ztf (utf A 0 k 3) 0 k = 3 := by simp [ztf_utf]
  unfold Mt1
  rw [t0, tj 1 (by decide), tj 2 (by decide), tj 3 (by decide), tj 4 (by decide)]
  rw [ai_eq, ai_ne (S.ne (by decide)), ai_ne (S.ne (by decide)), ai_ne (S.ne (by decide)), ai_ne (S.ne (by decide)), ai_ne (S.ne (by decide))]
  refine ⟨rfl, fun _ => ⟨u2, u3, u4, u5, fun i q hq => ?_, fun _ => u7.1 h4, fun _ => h3⟩⟩
  rw [ai_ne (S.ne (by decide)), ai_ne (S.ne (by decide))]; exact u6 i q hq
theorem rws0 {k : Nat} (h : zow A k ≠ []) : (rws (zow A k)).getD 0 0 = prm A k / 4 := by
  unfold prm
  cases e : zow A k with
  | nil => exact absurd e h
  | cons q l => exact rws_head
theorem rws1 {l : List (Nat × Int32)} (h : l ≠ []) : (rws l)[1]? = none ↔ (rws l).length = 1 := by
  have := rws_ne h
  rw [List.getElem?_eq_none_iff]
  omega
theorem mo_decide (h : RMo p 3000 A σ) {k : Nat} (hk : k < 8) (hp : ztf A 0 k = 2) (hs : ¬ ztf A 1 k = 0) (hne : zow A k ≠ []) (ho : ∀ c', c' < 256 → zlk A 0 c' = ztf A 1 k → plc (zow A k) c' ≠ none) :
    ∃ τ, F_X6_decide (p 294) (nI k) σ = some ((aDecide A k ((rws (zow A k)).getD 0 0)).1, τ) ∧ RMo p 3000 (aDecide A k ((rws (zow A k)).getD 0 0)).2 τ ∧ Mst p σ τ := by
  have hki : inb (nI k) 8 := inb_nI hk (by decide)
  have hkc : (nI k).toNatClampNeg = k := nI_clamp (by omega)
  have h0i : inb (nI (16 * k)) 128 := inb_nI (by omega) (by decide)
  have h0c : (nI (16 * k)).toNatClampNeg = 16 * k := nI_clamp (by omega)
  have hrow : (rws (zow A k)).getD 0 0 = prm A k / 4 := rws0 hne
  rw [hrow]
  obtain ⟨σ2, a1, a2, a3⟩ := mo_give h
  unfold F_X6_decide aDecide aDecide1
  rw [if_pos h.km, bd_eq a1]
  have zl' := give_lk A
  have zo := give_ow A
  have zt := give_tf A
  have pe : prm (aGive A) k = prm A k := by unfold prm; rw [zo]
  generalize aGive A = A' at a2 zl' zo zt pe ⊢
  have hp' : ztf A' 0 k = 2 := by rw [zt]; exact hp
  have hp0 : ¬ ztf A' 0 k = 0 := by rw [hp']; decide
  have S2 := a2.1
  obtain ⟨pm1, pm2⟩ := a2.pm hk hp0 (by rw [zo]; exact hne)
  rw [pe] at pm1 pm2
  have hpi : inb (nI (prm A k)) 256 := inb_nI pm2 (by decide)
  have hpc : (nI (prm A k)).toNatClampNeg = prm A k := nI_clamp (by omega)
  have l1 := (a2.2.1 _ pm2).1
  have u2 := ((a2.2.2.1 k hk).2 hp0).1
  rw [zt] at u2
  simp only [S2.km, S2.r256, S2.k256, S2.l256, S2.r260, S2.k260, S2.l260, S2.r263, S2.k263, S2.l263, true_and, if_true, if_pos hki, hkc, own0, if_pos h0i, h0c, pm1, if_pos hpi, hpc, l1, u2]
  by_cases e : zlk A' 0 (prm A k) = ztf A 1 k
  · rw [if_pos e, if_pos e, show (4 : Int32) = nI 4 from rfl, pk_div (by omega) (by decide) (by decide)]
    obtain ⟨σ8, b1, b2, b3⟩ := mo_settleRow a2 (row := prm A k / 4) (zsc A 4) hk (by omega) hp0 (by rw [zt]; exact hs) (by rw [zt, zo, zl']; exact ho)
    rw [bd_eq b1]
    obtain ⟨k1, k2⟩ := stT_k k (zsc A 4) 4 (4 * (prm A k / 4)) A'
    have k3 := stT_sc k (zsc A 4) (j := 2) (by decide) (by decide) 4 (4 * (prm A k / 4)) A'
    have cm := stT_u k (zsc A 4) (zsc A' 2 + 1) 4 (4 * (prm A k / 4)) A'
    have ht3 : ztf (uD A' k (zsc A 4) (zsc A' 2 + 1)) 3 k = zsc A 4 := by simp [uD, ztf_utf, ztf_usc]
    rw [show utf (usc (utf A' 3 k (zsc A 4)) 2 (zsc A' 2 + 1)) 0 k 3 = uD A' k (zsc A 4) (zsc A' 2 + 1) from rfl, stl_T, ht3, cm]
    generalize stT k (zsc A 4) 4 (4 * (prm A k / 4)) A' = A8 at b2 k1 k2 k3 ⊢
    have S8 := b2.1
    have hp8 : ztf A8 0 k = 2 := by rw [k2]; exact hp'
    have c1 := mo_tick (v := zsc A 4) b2 hk (by rw [hp8]; decide)
    have m1 : Mst p σ8 (sai σ8 (p 312) k (zsc A 4)) := Mst.rf.sai (S8.le (by decide))
    have s2 := c1.s2
    have c2 := mo_sc2 c1 (zsc A' 2 + 1)
    have c3 := mo_done (v := 1) c2 hk
    have m3 : Mst p σ8 (sai (si (sai σ8 (p 312) k (zsc A 4)) 270 (p 294) (zsc A' 2 + 1)) (p 311) k 1) := (m1.si (by decide)).sai (S8.le (by decide))
    have s2' : gi (sai σ8 (p 312) k (zsc A 4)) 270 (p 294) = zsc A' 2 := s2.trans k3
    simp only [S8.km, S8.r265, S8.k265, S8.l265, S8.r266, S8.k266, S8.l266, true_and, if_true, gr_sai, kd_sai, ln_sai, gr_si, kd_si, ln_si, if_pos hki, hkc, lt1, s2', B_X6_decide_88]
    have e12 : ai (sai (si (sai σ8 (p 312) k (zsc A 4)) 270 (p 294) (zsc A' 2 + 1)) (p 311) k 1) (p 312) k = zsc A 4 := by
      rw [ai_ne (S8.ne (by decide)), ai_si, ai_eq]
    generalize sai (si (sai σ8 (p 312) k (zsc A 4)) 270 (p 294) (zsc A' 2 + 1)) (p 311) k 1 = σ9 at c3 m3 e12 ⊢
    have hp9 : ztf (utf (usc (utf A8 3 k (zsc A 4)) 2 (zsc A' 2 + 1)) 4 k 1) 0 k = 2 := by
      rw [ztf_utf, if_neg (by omega), ztf_usc, ztf_utf, if_neg (by omega)]; exact hp8
    have ro := mo_rowOf (n := 1) c3 hk (by rw [hp9]; decide) (by decide)
    rw [show zow (utf (usc (utf A8 3 k (zsc A 4)) 2 (zsc A' 2 + 1)) 4 k 1) = zow A from k1.trans zo] at ro
    rw [show (1 : Int32) = nI 1 from rfl, bd_eq ro]
    have S9 := c3.1
    by_cases e1 : (rws (zow A k)).length = 1
    · rw [if_pos e1, (rws1 hne).mpr e1]
      simp only []
      rw [if_neg (by decide)]
      simp only [S8.km, S8.r259, S8.k259, S8.l259, true_and, if_true, S9.k259, S9.l259, if_pos hki, hkc]
      refine ⟨_, rfl, ?_, a3.tr (b3.tr (m3.tr (Mst.rf.sai (S9.le (by decide)))))⟩
      have := mo_ph0 c3 hk
      rw [end_utf _ _ _ (by decide)] at this
      unfold uD
      rw [end_utf _ _ _ (by decide), end_utf _ _ _ (by decide)]
      exact this
    · rw [if_neg e1]
      cases er : (rws (zow A k))[1]? with
      | none => exact absurd ((rws1 hne).mp er) e1
      | some x =>
        have hx : x < 64 := rws_lt (fun q hq => by
          obtain ⟨i, hi⟩ := List.getElem?_of_mem hq
          exact ((h.2.2.1 k hk).2 (by rw [hp]; decide)).2.2.2.2.1 i q hi |>.2.2) x (List.mem_of_getElem? er)
        simp only []
        rw [if_pos (nI_pos' (by omega))]
        simp only [S8.km, S8.r259, S8.k259, S8.l259, true_and, if_true, S9.k259, S9.l259, if_pos hki, hkc]
        refine ⟨_, rfl, ?_, a3.tr (b3.tr (m3.tr (Mst.rf.sai (S9.le (by decide)))))⟩
        have := mo_ph3 c3 hk (by rw [hp9]; decide) (by rw [hp9]; decide) (by rw [e12]; simp [ztf_utf, ztf_usc])
        unfold uD
        rw [utf_comm _ _ _ _ (by decide)]
        exact this
  · rw [if_neg e, if_neg e]
    obtain ⟨τ, b1, b2, b3⟩ := mo_lose a2 hk hp0
    rw [bd_eq b1]
    exact ⟨τ, rfl, b2, a3.tr b3⟩
theorem mo_settle (h : RMo p 3000 A σ) {k d row : Nat} (hk : k < 8) (hp : ztf A 0 k = 3) (hs : ¬ ztf A 1 k = 0) (ho : ∀ c', c' < 256 → zlk A 0 c' = ztf A 1 k → plc (zow A k) c' ≠ none) (hd : ztf A 4 k = nI d) (hr : (rws (zow A k))[d]? = some row) :
    ∃ τ, F_X6_settle (p 294) (nI k) σ = some ((aSettle A k row).1, τ) ∧ RMo p 3000 (aSettle A k row).2 τ ∧ Mst p σ τ := by
  have hki : inb (nI k) 8 := inb_nI hk (by decide)
  have hkc : (nI k).toNatClampNeg = k := nI_clamp (by omega)
  have S := h.1
  have hp0 : ¬ ztf A 0 k = 0 := by rw [hp]; decide
  obtain ⟨u2, u3, u4, u5, u6, u7, u8⟩ := (h.2.2.1 k hk).2 hp0
  have u7 := u7 (by rw [hp]; decide)
  have u8 := u8 hp
  have hdl := (List.getElem?_eq_some_iff.mp hr).1
  have hl := rws_len (zow A k)
  have hrows : ∀ x ∈ rws (zow A k), x < 64 := rws_lt (fun q hq => by
    obtain ⟨i, hi⟩ := List.getElem?_of_mem hq
    exact (u6 i q hi).2.2)
  have hrow := hrows row (List.mem_of_getElem? hr)
  have ro := mo_rowOf (n := d) h hk hp0 (by omega)
  rw [hr] at ro
  unfold F_X6_settle aSettle
  simp only [S.km, S.r265, S.k265, S.l265, true_and, if_true, if_pos hki, hkc, u7, hd]
  rw [bd_eq ro]
  simp only [S.km, S.r266, S.k266, S.l266, true_and, if_true, if_pos hki, hkc, u8]
  obtain ⟨σ6, b1, b2, b3⟩ := mo_settleRow h (row := row) (ztf A 3 k) hk hrow hp0 hs ho
  rw [bd_eq b1, stl_T]
  obtain ⟨k1, k2⟩ := stT_k k (ztf A 3 k) 4 (4 * row) A
  generalize stT k (ztf A 3 k) 4 (4 * row) A = A6 at b2 k1 k2 ⊢
  have S6 := b2.1
  have w7 : ai σ6 (p 311) k = nI d := by
    have := ((b2.2.2.1 k hk).2 (by rw [k2]; exact hp0)).2.2.2.2.2.1 (by rw [k2, hp]; decide)
    rw [this, k2, hd]
  simp only [S6.km, S6.r265, S6.k265, S6.l265, true_and, if_true, gr_sai, kd_sai, ln_sai, if_pos hki, hkc, w7, lt1, ai_eq, nI_1]
  have c1 := mo_done (v := nI (d + 1)) b2 hk
  have m1 : Mst p σ6 (sai σ6 (p 311) k (nI (d + 1))) := Mst.rf.sai (S6.le (by decide))
  generalize sai σ6 (p 311) k (nI (d + 1)) = σ7 at c1 m1 ⊢
  have S7 := c1.1
  have hp7 : ztf (utf A6 4 k (nI (d + 1))) 0 k = 3 := by rw [ztf_utf, if_neg (by omega), k2, hp]
  have ro2 := mo_rowOf (n := d + 1) c1 hk (by rw [hp7]; decide) (by omega)
  rw [show zow (utf A6 4 k (nI (d + 1))) = zow A from k1] at ro2
  rw [bd_eq ro2, k2, hd, nI_1]
  cases er : (rws (zow A k))[d + 1]? with
  | none =>
    have hle := List.getElem?_eq_none_iff.mp er
    simp only []
    rw [if_pos (by decide), if_pos (nI_le hle (by omega))]
    simp only [S7.km, S7.r259, S7.k259, S7.l259, true_and, if_true, if_pos hki, hkc]
    exact ⟨_, rfl, mo_ph0 c1 hk, b3.tr (m1.tr (Mst.rf.sai (S7.le (by decide))))⟩
  | some x =>
    have hx := hrows x (List.mem_of_getElem? er)
    have hlt := (List.getElem?_eq_some_iff.mp er).1
    simp only []
    rw [if_neg (Int32.not_lt.mpr (nI_pos' (by omega))), if_neg (nI_ge hlt (by omega))]
    exact ⟨_, rfl, c1, b3.tr m1⟩
end
