/-! THE INVARIANT IS KEPT, CALL BY CALL -/
section
variable {n z : Nat} {A : AS}
theorem Pcl.up2 {A B : AS} {k : Nat} (h : Pcl A k) (e1 : ∀ f, ztf B f k = ztf A f k) (e2 : zow B k = zow A k) (e3 : zsc A 4 ≤ zsc B 4) (hl : ∀ c, c < 256 → zlk B 0 c = zlk A 0 c ∨ zlk B 0 c = 0) (ho : ∀ x, x < 8 → x ≠ k → ¬ ztf B 0 x = 0 → ¬ ztf A 0 k = 0 → ¬ ztf B 1 x = ztf A 1 k) : Pcl B k := by
  obtain ⟨h1, h2, h3, h4, h5, h6, h7, h8, h9, h10⟩ := h
  unfold Pcl Ph
  rw [e1, e1, e1, e1, e1, e2]
  refine ⟨h1, h2, fun z => ⟨(h3 z).1, Int32.lt_of_lt_of_le (h3 z).2 e3⟩, h4, h5, fun z => ⟨(h6 z).1, Int32.lt_of_lt_of_le (h6 z).2 e3⟩, h7, h8, fun z c hc hq => ?_, fun z x hx xk x0 => ho x hx xk x0 z⟩
  rcases hl c hc with q | q
  · exact h9 z c hc (by rw [← q]; exact hq)
  · rw [q] at hq
    exfalso
    have := (h3 z).1
    rw [← hq] at this
    exact Int32.lt_irrefl this
theorem PJ.mono {B : AS} {n' : Nat} (h : PJ n z A) (e1 : zlk B = zlk A) (e2 : zlp B = zlp A) (e3 : ztf B = ztf A) (e4 : zl B = zl A) (e5 : zow B = zow A) (e6 : zne B = zne A) (e7 : ∃ co li : Nat, zsc B 4 = nI co ∧ zsc B 5 = nI li ∧ 0 < co ∧ co ≤ li + 1 ∧ li ≤ 16 * n') (e8 : zsc A 4 ≤ zsc B 4) : PJ n' z B := by
  obtain ⟨-, b1, b2, b3, b4, b5⟩ := h
  refine ⟨e7, by rw [e4, e6]; exact b1, by rw [e6]; exact b2, by rw [e2]; exact b3, fun c hc => ?_, fun k hk => ?_⟩
  · exact (b4 c hc).up (by rw [e4]) (by rw [e4]) e8 (by rw [e1]) (by rw [e2]) (by rw [e1])
  · exact (b5 k hk).up (fun f => by rw [e3]) (by rw [e5]) e8 (fun c _ => Or.inl (by rw [e1])) (fun x _ _ q => by rw [e3] at q ⊢; exact ⟨q, rfl⟩)
theorem give_ne (A : AS) : zne (aGive A) = zne A := by unfold aGive; split <;> rfl
theorem PJ.give (h : PJ n z A) (hn : n < 100000) : PJ (n + 1) z (aGive A) ∧ zsc A 4 < zsc (aGive A) 4 := by
  obtain ⟨co, li, a1, a2, a3, a4, a5⟩ := h.1
  have e4 : zsc (aGive A) 4 = nI (co + 1) := by rw [give_sc, if_pos rfl, a1, nI_1]
  have lt : zsc A 4 < zsc (aGive A) 4 := by rw [a1, e4]; exact i_le_lt (by omega) (by omega)
  refine ⟨h.mono (give_lk A) (give_lp A) (give_tf A) (give_l A) (give_ow A) (give_ne A) ?_ (Int32.le_of_lt lt), lt⟩
  have e5 : zsc (aGive A) 5 = if zsc A 4 ≤ zsc A 5 then zsc A 5 else zsc A 5 + 16 := by rw [give_sc, if_neg (by decide), if_neg (by decide), if_pos rfl]
  by_cases e : zsc A 4 ≤ zsc A 5
  · rw [if_pos e, a2] at e5
    rw [a1, a2] at e
    have : co ≤ li := Nat.not_lt.mp (fun q => nI_ge q (by omega) e)
    exact ⟨co + 1, li, e4, e5, by omega, by omega, by omega⟩
  · rw [if_neg e, a2, nI_16, nI_add] at e5
    exact ⟨co + 1, li + 16, e4, e5, by omega, by omega, by omega⟩
theorem PJ.fallO (h : PJ n z A) (hn : n < 100000) : PJ n z (usc A 4 (zsc A 5 + 1)) := by
  obtain ⟨co, li, a1, a2, a3, a4, a5⟩ := h.1
  have e4 : zsc (usc A 4 (zsc A 5 + 1)) 4 = nI (li + 1) := by rw [zsc_usc, if_pos rfl, a2, nI_1]
  have e5 : zsc (usc A 4 (zsc A 5 + 1)) 5 = nI li := by rw [zsc_usc, if_neg (by decide), a2]
  refine h.mono (usc_lk _ _ _) (usc_lp _ _ _) (usc_tf _ _ _) (usc_l _ _ _) (usc_ow _ _ _) (usc_ne _ _ _) ⟨li + 1, li, e4, e5, by omega, by omega, a5⟩ ?_
  rw [e4, a1]
  exact nI_le (by omega) (by omega)
theorem PI.up {n' : Nat} (h : PI n A) (hn : n ≤ n') : PI n' A := ⟨h.1.le hn (by omega), h.2⟩
theorem PI.begin (h : PI n A) (hn : n < 100000) {k : Nat} (hk : k < 8) : PI (n + 1) (aBegin A k).2 := by
  unfold aBegin
  by_cases e : ztf A 0 k = 0
  · rw [if_pos e]
    obtain ⟨g, lt⟩ := h.1.give hn
    obtain ⟨h1, h2, h3, h4, h5, h6, h7, h8, h9, h10⟩ := h.1.2.2.2.2.2 k hk
    obtain ⟨z1, z2, z3, z4, z5⟩ := h2 e
    have g7 : zsc (aGive A) 7 = zsc A 7 := by rw [give_sc, if_neg (by decide), if_neg (by decide), if_neg (by decide)]
    have gt := give_tf A
    have go := give_ow A
    have gl := give_lk A
    generalize aGive A = B at g lt g7 gt go gl
    have t0 : ztf (utf (utf (utf B 0 k 1) 1 k (zsc A 4)) 2 k (zsc A 0)) 0 k = 1 := by simp [ztf_utf]
    have t1 : ztf (utf (utf (utf B 0 k 1) 1 k (zsc A 4)) 2 k (zsc A 0)) 1 k = zsc A 4 := by simp [ztf_utf]
    have tj : ∀ j, j ≠ 0 → j ≠ 1 → j ≠ 2 → ztf (utf (utf (utf B 0 k 1) 1 k (zsc A 4)) 2 k (zsc A 0)) j k = ztf A j k := fun j j0 j1 j2 => by
      rw [ztf_utf, if_neg (by omega), ztf_utf, if_neg (by omega), ztf_utf, if_neg (by omega), gt]
    have tx : ∀ f x, x ≠ k → ztf (utf (utf (utf B 0 k 1) 1 k (zsc A 4)) 2 k (zsc A 0)) f x = ztf A f x := fun f x q => by
      rw [ztf_utf, if_neg (by omega), ztf_utf, if_neg (by omega), ztf_utf, if_neg (by omega), gt]
    have es : zsc (utf (utf (utf B 0 k 1) 1 k (zsc A 4)) 2 k (zsc A 0)) = zsc B := by rw [utf_sc, utf_sc, utf_sc]
    have el : zlk (utf (utf (utf B 0 k 1) 1 k (zsc A 4)) 2 k (zsc A 0)) = zlk B := by rw [utf_lk, utf_lk, utf_lk]
    have eo : zow (utf (utf (utf B 0 k 1) 1 k (zsc A 4)) 2 k (zsc A 0)) = zow B := by rw [utf_ow, utf_ow, utf_ow]
    have ep : zlp (utf (utf (utf B 0 k 1) 1 k (zsc A 4)) 2 k (zsc A 0)) = zlp B := by rw [utf_lp, utf_lp, utf_lp]
    have ez : zl (utf (utf (utf B 0 k 1) 1 k (zsc A 4)) 2 k (zsc A 0)) = zl B := by rw [utf_l, utf_l, utf_l]
    have en : zne (utf (utf (utf B 0 k 1) 1 k (zsc A 4)) 2 k (zsc A 0)) = zne B := by rw [utf_ne, utf_ne, utf_ne]
    generalize utf (utf (utf B 0 k 1) 1 k (zsc A 4)) 2 k (zsc A 0) = C at t0 t1 tj tx es el eo ep ez en
    obtain ⟨b0, b1, b2, b3, b4, b5⟩ := g
    refine ⟨⟨by rw [es]; exact b0, by rw [ez, en]; exact b1, by rw [en]; omega, by rw [ep]; exact b3, fun c hc => (b4 c hc).cg (by rw [ez]) (by rw [ez]) (by rw [es]) (by rw [el]) (by rw [ep]) (by rw [el]), fun x hx => ?_⟩, by show ¬ 64 ≤ zsc C 7; rw [es, g7]; exact h.2⟩
    obtain ⟨co, li, a1, a2, a3, a4, a5⟩ := h.1.1
    have c0 : 0 < zsc A 4 := by rw [a1]; exact i_le_lt a3 (by omega)
    by_cases q : x = k
    · subst q
      unfold Pcl Ph
      rw [t0, t1, tj 3 (by decide) (by decide) (by decide), tj 4 (by decide) (by decide) (by decide), es, el, eo, go, z5, z3, z4, gl]
      refine ⟨Or.inr (Or.inl rfl), fun q => absurd q (by decide), fun _ => ⟨c0, lt⟩, fun q hq => by simp at hq, ⟨fun q => absurd q (by decide), fun q => absurd q (by decide), fun q => absurd q (by decide)⟩, fun q => absurd q (by decide), fun _ => rfl, fun _ _ => rfl, fun _ c hc hq => ?_, fun _ y hy yk y0 => ?_⟩
      · exfalso
        have hP := h.1.2.2.2.2.1 c hc
        by_cases l0 : zlk A 0 c = 0
        · rw [l0] at hq; rw [← hq] at c0; exact Int32.lt_irrefl c0
        · have := (hP.2.2.2.2.2.2.2.1 l0).2.1
          rw [hq] at this; exact Int32.lt_irrefl this
      · rw [tx _ _ yk] at y0 ⊢
        intro hq
        have := ((h.1.2.2.2.2.2 y hy).2.2.1 y0).2
        rw [hq] at this; exact Int32.lt_irrefl this
    · refine (b5 x hx).up2 (fun f => by rw [tx f x q, gt]) (by rw [eo]) (by rw [es]; exact Int32.le_refl _) (fun c _ => Or.inl (by rw [el])) (fun y hy yx y0 x0 => ?_)
      rw [gt] at x0 ⊢
      by_cases q2 : y = k
      · rw [q2, t1]
        intro hq
        have := ((h.1.2.2.2.2.2 x hx).2.2.1 x0).2
        rw [← hq] at this; exact Int32.lt_irrefl this
      · rw [tx _ _ q2] at y0 ⊢
        exact (h.1.2.2.2.2.2 x hx).2.2.2.2.2.2.2.2.2 x0 y hy yx y0
  · rw [if_neg e]
    refine ⟨(h.1.touch k).le (by omega) (by omega), ?_⟩
    unfold aTouch
    rw [if_neg e]
    exact h.2
theorem plc_set {l : List (Nat × Int32)} {c o c' : Nat} {v : Int32} {q : Nat × Int32} (ho : l[o]? = some q) (hq : q.1 = c) (h : plc l c' ≠ none) : plc (l.set o (c, v)) c' ≠ none := by
  intro hn
  apply h
  unfold plc at hn ⊢
  rw [List.findIdx?_eq_none_iff] at hn ⊢
  intro x hx
  obtain ⟨i, hi⟩ := List.getElem?_of_mem hx
  have hol := (List.getElem?_eq_some_iff.mp ho).1
  by_cases e : o = i
  · subst e
    have hm : (c, v) ∈ l.set o (c, v) := List.mem_of_getElem? (i := o) (by rw [List.getElem?_set, if_pos rfl, if_pos hol])
    have := hn (c, v) hm
    rw [ho] at hi
    injection hi with hi
    rw [← hi, hq]
    exact this
  · exact hn x (List.mem_of_getElem? (i := i) (by rw [List.getElem?_set, if_neg e]; exact hi))
theorem plc_app {l : List (Nat × Int32)} {c' : Nat} {q : Nat × Int32} (h : plc l c' ≠ none) : plc (l ++ [q]) c' ≠ none := by
  intro hn
  apply h
  unfold plc at hn ⊢
  rw [List.findIdx?_eq_none_iff] at hn ⊢
  exact fun x hx => hn x (List.mem_append_left _ hx)
theorem PJ.own (h : PJ n z A) {k : Nat} {l : List (Nat × Int32)} (hp : ztf A 0 k = 1) (hl : ∀ q ∈ l, -1 ≤ q.2 ∧ q.1 < 256) (hm : ∀ c, plc (zow A k) c ≠ none → plc l c ≠ none) : PJ n z (uow A k l) := by
  refine h.cl (k := k) (uow_lk _ _ _) (uow_lp _ _ _) (uow_l _ _ _) (uow_ne _ _ _) (by rw [uow_sc]) (by rw [uow_sc]) (fun f x q => by rw [uow_tf]) (fun x q => by rw [zow_uow, if_neg q]) (fun q => ⟨by rw [hp]; decide, by rw [uow_tf]⟩) (fun hk => ?_)
  obtain ⟨h1, h2, h3, h4, h5, h6, h7, h8, h9, h10⟩ := h.2.2.2.2.2 k hk
  have hp0 : ¬ ztf A 0 k = 0 := by rw [hp]; decide
  unfold Pcl Ph
  rw [uow_tf, uow_sc, uow_lk, zow_uow, if_pos rfl, hp]
  exact ⟨Or.inr (Or.inl rfl), fun q => absurd q (by decide), fun _ => h3 hp0, hl, ⟨fun q => absurd q (by decide), fun q => absurd q (by decide), fun q => absurd q (by decide)⟩, fun q => absurd q (by decide), fun _ => h7 (by rw [hp]; decide), fun _ _ => h8 (by rw [hp]; decide) (by rw [hp]; decide), fun _ c hc hq => hm c (h9 hp0 c hc hq), fun _ => h10 hp0⟩
theorem touch_7 (A : AS) (k : Nat) : zsc (aTouch A k) = zsc A := by unfold aTouch; split <;> rfl
theorem PI.touch (h : PI n A) (k : Nat) : PI n (aTouch A k) := ⟨h.1.touch k, by rw [touch_7]; exact h.2⟩
theorem PI.write (h : PI n A) {k c : Nat} (hk : k < 8) (hc : c < 256) (v : Int32) : PI n (aWrite A k c v).2 := by
  have t := h.touch k
  unfold aWrite
  generalize aTouch A k = B at t
  by_cases e0 : -1 ≤ v
  · rw [if_pos e0]
    by_cases e : ztf B 0 k = 1
    · rw [if_pos e]
      obtain ⟨h1, h2, h3, h4, -⟩ := t.1.2.2.2.2.2 k hk
      unfold aOwn
      cases ep : plc (zow B k) c with
      | some o =>
        obtain ⟨q, q1, q2, q3, q4⟩ := plc_some ep
        refine ⟨t.1.own e (fun x hx => ?_) (fun c' hc' => plc_set q1 q2 hc'), t.2⟩
        rcases List.mem_or_eq_of_mem_set hx with g | g
        · exact h4 x g
        · rw [g]; exact ⟨e0, hc⟩
      | none =>
        simp only []
        by_cases e16 : (zow B k).length < 16
        · rw [if_pos e16]
          refine ⟨t.1.own e (fun x hx => ?_) (fun c' hc' => plc_app hc'), t.2⟩
          rcases List.mem_append.mp hx with g | g
          · exact h4 x g
          · rw [List.mem_singleton.mp g]; exact ⟨e0, hc⟩
        · rw [if_neg e16]; exact t
    · rw [if_neg e]; exact t
  · rw [if_neg e0]; exact t
theorem PI.end' (h : PI n A) (k : Nat) : PI n (aEnd A k) := ⟨h.1.end' k, by rw [end_sc]; exact h.2⟩
theorem PI.commit (h : PI n A) {k : Nat} (hk : k < 8) : PI n (aCommit A k).2 := by
  have t := h.touch k
  unfold aCommit
  generalize aTouch A k = B at t
  by_cases e : ztf B 0 k = 1
  · rw [if_pos e]
    by_cases e2 : (zow B k).length = 0
    · rw [if_pos e2]; exact t.end' k
    · rw [if_neg e2]
      refine ⟨?_, t.2⟩
      have tj : ∀ j, j ≠ 0 → ztf (utf B 0 k 2) j k = ztf B j k := fun j hj => by rw [ztf_utf, if_neg (by omega)]
      have t0 : ztf (utf B 0 k 2) 0 k = 2 := by simp [ztf_utf]
      have tx : ∀ f x, x ≠ k → ztf (utf B 0 k 2) f x = ztf B f x := fun f x q => by rw [ztf_utf, if_neg (by omega)]
      refine t.1.cl (k := k) (utf_lk _ _ _ _) (utf_lp _ _ _ _) (utf_l _ _ _ _) (utf_ne _ _ _ _) (by rw [utf_sc]) (by rw [utf_sc]) tx (fun x q => by rw [utf_ow]) (fun _ => ⟨by rw [e]; decide, tj 1 (by decide)⟩) (fun hk => ?_)
      obtain ⟨h1, h2, h3, h4, h5, h6, h7, h8, h9, h10⟩ := t.1.2.2.2.2.2 k hk
      have hp0 : ¬ ztf B 0 k = 0 := by rw [e]; decide
      unfold Pcl Ph
      rw [t0, tj 1 (by decide), tj 2 (by decide), tj 3 (by decide), tj 4 (by decide), utf_sc, utf_lk, utf_ow, h8 (by rw [e]; decide) (by rw [e]; decide)]
      refine ⟨Or.inr (Or.inr (Or.inl rfl)), fun q => absurd q (by decide), fun _ => h3 hp0, h4, ⟨fun _ => ⟨fun q => e2 (by rw [q]; rfl), 0, nI_0.symm, Nat.zero_le _⟩, fun q => absurd q (by decide), fun q => absurd q (by decide)⟩, fun q => absurd q (by decide), fun _ => h7 (by rw [e]; decide), fun q => absurd rfl q, fun _ => h9 hp0, fun _ x hx xk x0 => ?_⟩
      rw [tx _ _ xk] at x0 ⊢
      exact h10 hp0 x hx xk x0
  · rw [if_neg e]; exact t
theorem PI.crash (h : PI n A) (k : Nat) : PI n (aCrash A k).2 := h.end' k
theorem PJ.look (h : PJ n z A) {k c : Nat} (hc : c < 256) : PJ n (z + 1) (aLook A k c).2 := by
  unfold aLook
  cases e : ownV A k c with
  | some v => exact h.le (Nat.le_refl _) (by omega)
  | none =>
    simp only []
    by_cases e1 : zlk A 0 c = 0 ∨ ztf A 1 k ≤ zlk A 0 c
    · rw [if_pos e1]; exact h.le (Nat.le_refl _) (by omega)
    · rw [if_neg e1]
      by_cases e2 : aFor A c
      · rw [if_pos e2]; exact h.clean hc (fun q => e1 (Or.inl q))
      · rw [if_neg e2]; exact h.le (Nat.le_refl _) (by omega)
theorem PI.read (h : PI n A) {k c : Nat} (hc : c < 256) : PI (n + 1) (aRead A k c).2 := by
  have t := h.touch k
  unfold aRead
  generalize aTouch A k = B at t
  by_cases e : ztf B 0 k = 1
  · rw [if_pos e]
    obtain ⟨p1, p2⟩ := ((t.1.look hc (k := k)).le (show n ≤ n + 1 by omega) (show 4 * n + 1 ≤ 4 * (n + 1) by omega)).put
    exact ⟨p1, p2⟩
  · rw [if_neg e]; exact t.up (by omega)
theorem PJ.from (h : PJ n z A) {k : Nat} : ∀ (r c : Nat), c + r ≤ 256 → PJ n (z + 1) (aFrom A k r c).2 := by
  intro r
  induction r with
  | zero => intro c _; exact h.le (Nat.le_refl _) (by omega)
  | succ r ih =>
    intro c hc
    unfold aFrom
    split
    · split
      · exact ih (c + 1) (by omega)
      · exact h.look (by omega)
    · exact h.look (by omega)
theorem PI.next (h : PI n A) {k i : Nat} (hi : i < 64) : PI (n + 1) (aNext A k i).2 := by
  have t := h.touch k
  unfold aNext
  generalize aTouch A k = B at t
  by_cases e : ztf B 0 k = 1
  · rw [if_pos e]
    obtain ⟨p1, p2⟩ := ((t.1.from (k := k) (256 - 4 * i) (4 * i) (by omega)).le (show n ≤ n + 1 by omega) (show 4 * n + 1 ≤ 4 * (n + 1) by omega)).put
    exact ⟨p1, p2⟩
  · rw [if_neg e]; exact t.up (by omega)
end
