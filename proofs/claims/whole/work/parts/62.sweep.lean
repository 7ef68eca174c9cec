/-! SWEEPING ONE CELL: WHAT GOES -/
def bW (W : List (Int32 × Int32)) (t : Int32) : Option (Int32 × Int32) := W.find? (fun q => decide (q.1 ≤ t ∧ q.2 ≠ 0))
def gG (W D : List (Int32 × Int32)) (t : Int32) (q : Int32 × Int32) : Bool := decide (q.1 ≤ t ∧ (q.2 = 0 ∨ ¬ bW W t = some q ∨ vOf D q.2 = -1))
def nz (X : List (Int32 × Int32)) : List (Int32 × Int32) := X.filter (fun q => decide (¬ q.2 = 0))
/-- B is A, of cell c the writes X gone with their data -/
def SWr (A B : AS) (c : Nat) (X : List (Int32 × Int32)) : Prop :=
  (zl A (2 * c + 1)).Perm (X ++ zl B (2 * c + 1)) ∧ (∃ Y : List (Int32 × Int32), (zl A (2 * c)).Perm (Y ++ zl B (2 * c)) ∧ Y.map (fun q => q.1) = (nz X).map (fun q => q.2)) ∧ (∀ d, d ≠ 2 * c → d ≠ 2 * c + 1 → zl B d = zl A d) ∧
  (zlk B = zlk A ∧ zlp B = zlp A ∧ ztf B = ztf A ∧ zow B = zow A ∧ zne B = zne A) ∧ (∀ j, j ≠ 6 → j ≠ 7 → zsc B j = zsc A j) ∧ zsc B 6 + nI (X.length + (nz X).length) = zsc A 6 ∧ zsc B 7 = zsc A 7 + nI (X.length + (nz X).length)
theorem nI_s1 (x : Int32) (n : Nat) : x + (-1) + nI (n + 1) = x + nI n := by
  rw [Int32.add_assoc, show nI (n + 1) = nI n + 1 from (nI_1 n).symm, Int32.add_comm (nI n) 1, ← Int32.add_assoc (-1) 1, show (-1 : Int32) + 1 = 0 by decide, Int32.zero_add]
theorem SWr.rf {A : AS} {c : Nat} : SWr A A c [] := ⟨List.Perm.refl _, ⟨[], List.Perm.refl _, rfl⟩, fun _ _ _ => rfl, ⟨rfl, rfl, rfl, rfl, rfl⟩, fun _ _ _ => rfl, by rw [show ([] : List (Int32 × Int32)).length + (nz []).length = 0 from rfl, nI_0, Int32.add_zero], by rw [show ([] : List (Int32 × Int32)).length + (nz []).length = 0 from rfl, nI_0, Int32.add_zero]⟩
theorem SWr.st0 {A B B' : AS} {c : Nat} {X l : List (Int32 × Int32)} {q : Int32 × Int32} (h : SWr A B c X) (hq : q.2 = 0) (hl : (zl B (2 * c + 1)).Perm (q :: l)) (h1 : zl B' (2 * c + 1) = l) (h2 : ∀ d, d ≠ 2 * c + 1 → zl B' d = zl B d) (h3 : zlk B' = zlk B ∧ zlp B' = zlp B ∧ ztf B' = ztf B ∧ zow B' = zow B ∧ zne B' = zne B) (h4 : ∀ j, j ≠ 6 → j ≠ 7 → zsc B' j = zsc B j) (h6 : zsc B' 6 = zsc B 6 + (-1)) (h7 : zsc B' 7 = zsc B 7 + 1) : SWr A B' c (q :: X) := by
  obtain ⟨a1, ⟨Y, a2, a3⟩, a4, ⟨b1, b2, b3, b4, b5⟩, a6, a7, a8⟩ := h
  obtain ⟨c1, c2, c3, c4, c5⟩ := h3
  have hn : nz (q :: X) = nz X := List.filter_cons_of_neg (by simpa using hq)
  have hc : (q :: X).length + (nz (q :: X)).length = X.length + (nz X).length + 1 := by rw [hn, List.length_cons]; omega
  refine ⟨?_, ⟨Y, by rw [h2 _ (by omega)]; exact a2, by rw [hn]; exact a3⟩, fun d d1 d2 => by rw [h2 d d2]; exact a4 d d1 d2, ⟨c1.trans b1, c2.trans b2, c3.trans b3, c4.trans b4, c5.trans b5⟩, fun j j1 j2 => (h4 j j1 j2).trans (a6 j j1 j2), ?_, ?_⟩
  · rw [h1]
    refine (a1.trans (hl.append_left X)).trans ?_
    exact List.perm_middle
  · rw [hc, h6, nI_s1]; exact a7
  · rw [hc, h7, a8, Int32.add_assoc, nI_1]
theorem SWr.st1 {A B B' : AS} {c : Nat} {X l : List (Int32 × Int32)} {q : Int32 × Int32} {v : Int32} (h : SWr A B c X) (hq : ¬ q.2 = 0) (hl : (zl B (2 * c + 1)).Perm (q :: l)) (hd : (zl B (2 * c)).Perm ((q.2, v) :: zl B' (2 * c))) (h1 : zl B' (2 * c + 1) = l) (h2 : ∀ d, d ≠ 2 * c + 1 → d ≠ 2 * c → zl B' d = zl B d) (h3 : zlk B' = zlk B ∧ zlp B' = zlp B ∧ ztf B' = ztf B ∧ zow B' = zow B ∧ zne B' = zne B) (h4 : ∀ j, j ≠ 6 → j ≠ 7 → zsc B' j = zsc B j) (h6 : zsc B' 6 = zsc B 6 + (-1) + (-1)) (h7 : zsc B' 7 = zsc B 7 + 1 + 1) : SWr A B' c (q :: X) := by
  obtain ⟨a1, ⟨Y, a2, a3⟩, a4, ⟨b1, b2, b3, b4, b5⟩, a6, a7, a8⟩ := h
  obtain ⟨c1, c2, c3, c4, c5⟩ := h3
  have hn : nz (q :: X) = q :: nz X := List.filter_cons_of_pos (by simpa using hq)
  have hc : (q :: X).length + (nz (q :: X)).length = X.length + (nz X).length + 1 + 1 := by rw [hn, List.length_cons, List.length_cons]; omega
  refine ⟨?_, ⟨(q.2, v) :: Y, ?_, by rw [hn, List.map_cons, List.map_cons, a3]⟩, fun d d1 d2 => by rw [h2 d d2 d1]; exact a4 d d1 d2, ⟨c1.trans b1, c2.trans b2, c3.trans b3, c4.trans b4, c5.trans b5⟩, fun j j1 j2 => (h4 j j1 j2).trans (a6 j j1 j2), ?_, ?_⟩
  · rw [h1]
    refine (a1.trans (hl.append_left X)).trans ?_
    exact List.perm_middle
  · exact (a2.trans (hd.append_left Y)).trans List.perm_middle
  · rw [hc, h6, nI_s1, nI_s1]; exact a7
  · rw [hc, h7, a8, Int32.add_assoc, Int32.add_assoc, show (1 : Int32) + 1 = nI 2 from rfl, nI_add]
theorem del_sc (A : AS) (d : Nat) (l : List (Int32 × Int32)) {j : Nat} (h1 : j ≠ 6) (h2 : j ≠ 7) : zsc (aDel A d l) j = zsc A j := line_ne (ul A d l) (-1) h1 h2
theorem del_nE (A : AS) (d : Nat) (l : List (Int32 × Int32)) : zne (aDel A d l) = zne A := rfl
theorem rmK_mid {F R : List (Int32 × Int32)} {q : Int32 × Int32} (h : ((F ++ q :: R).map (fun q => q.1)).Nodup) : rmK (F ++ q :: R) q.1 = F ++ R := by
  unfold rmK
  have hF : ∀ x ∈ F, ¬ decide (x.1 = q.1) = true := by
    intro x hx e
    have e := of_decide_eq_true e
    rw [List.map_append, List.nodup_append] at h
    exact h.2.2 x.1 (List.mem_map.mpr ⟨x, hx, rfl⟩) q.1 (by simp) e
  rw [List.eraseP_append_right _ hF, List.eraseP_cons_of_pos (by simp)]
section
variable {A B : AS} {c : Nat} {X : List (Int32 × Int32)}
theorem Pce.nw (h : Pce A c) : ((zl A (2 * c + 1)).map (fun q => q.1)).Nodup := by
  rw [List.Nodup, List.pairwise_map]
  exact h.1.imp (fun q => (Int32.ne_of_lt q).symm)
theorem SWr.nodB (h : SWr A B c X) (hP : Pce A c) : ((zl B (2 * c + 1)).map (fun q => q.1)).Nodup := by
  have := (h.1.map (fun q => q.1)).nodup_iff.mp hP.nw
  rw [List.map_append, List.nodup_append] at this
  exact this.2.1
/-- a write that still stands has its data still -/
theorem SWr.dat (h : SWr A B c X) (hP : Pce A c) {q : Int32 × Int32} (hq : q ∈ zl B (2 * c + 1)) (h0 : ¬ q.2 = 0) : (∃ v, (q.2, v) ∈ zl B (2 * c)) ∧ ∀ v, (q.2, v) ∈ zl A (2 * c) → (q.2, v) ∈ zl B (2 * c) := by
  have hA : q ∈ zl A (2 * c + 1) := h.1.mem_iff.mpr (List.mem_append_right _ hq)
  have nd := (h.1.map (fun q => q.1)).nodup_iff.mp hP.nw
  rw [List.map_append, List.nodup_append] at nd
  obtain ⟨Y, y1, y2⟩ := h.2.1
  have key : ∀ v, (q.2, v) ∈ zl A (2 * c) → (q.2, v) ∈ zl B (2 * c) := by
    intro v hv
    rcases List.mem_append.mp (y1.mem_iff.mp hv) with g | g
    · exfalso
      have : q.2 ∈ (nz X).map (fun q => q.2) := by rw [← y2]; exact List.mem_map.mpr ⟨_, g, rfl⟩
      obtain ⟨x, x1, x2⟩ := List.mem_map.mp this
      have x3 := (List.mem_filter.mp x1).1
      have hx : x ∈ zl A (2 * c + 1) := h.1.mem_iff.mpr (List.mem_append_left _ x3)
      have e : x = q := pw_uni hP.2.2.2.2.2.1 hx hA x2 (by rw [x2]; exact h0)
      exact nd.2.2 x.1 (List.mem_map.mpr ⟨x, x3, rfl⟩) q.1 (List.mem_map.mpr ⟨q, hq, rfl⟩) (by rw [e])
    · exact g
  refine ⟨?_, key⟩
  obtain ⟨_, _, v, hv⟩ := hP.2.2.2.2.1 q hA h0
  exact ⟨v, key v hv⟩
theorem vOf_mem {l : List (Int32 × Int32)} (hs : l.Pairwise (fun x y => y.1 < x.1)) {s v : Int32} (h : (s, v) ∈ l) : vOf l s = v := by
  have : l.find? (fun q => decide (q.1 = s)) = some (s, v) := find_max hs h (decide_eq_true rfl) (fun y _ hy => by rw [of_decide_eq_true hy]; exact Int32.le_refl _)
  unfold vOf
  rw [this]
theorem SWr.vo (h : SWr A B c X) (hP : Pce A c) (hs : (zl B (2 * c)).Sublist (zl A (2 * c))) {q : Int32 × Int32} (hq : q ∈ zl B (2 * c + 1)) (h0 : ¬ q.2 = 0) : vOf (zl B (2 * c)) q.2 = vOf (zl A (2 * c)) q.2 := by
  obtain ⟨v, hv⟩ := (h.dat hP hq h0).1
  rw [vOf_mem (hP.2.1.sublist hs) hv, vOf_mem hP.2.1 (hs.subset hv)]
theorem SWr.uni {C : AS} {X' : List (Int32 × Int32)} (h : SWr A B c X) (h' : SWr A C c X') (hP : Pce A c) (G : Int32 × Int32 → Bool) (g1 : ∀ x ∈ X, G x = true) (g2 : ∀ x ∈ X', G x = true) (g3 : ∀ x ∈ zl B (2 * c + 1), G x = false) (g4 : ∀ x ∈ zl C (2 * c + 1), G x = false) : (∀ d, (zl B d).Perm (zl C d)) ∧ zsc C = zsc B := by
  have fil : ∀ {Z : List (Int32 × Int32)} {E : AS}, (zl A (2 * c + 1)).Perm (Z ++ zl E (2 * c + 1)) → (∀ x ∈ Z, G x = true) → (∀ x ∈ zl E (2 * c + 1), G x = false) → ((zl A (2 * c + 1)).filter G).Perm Z ∧ ((zl A (2 * c + 1)).filter (fun x => !G x)).Perm (zl E (2 * c + 1)) := by
    intro Z E hp z1 z2
    have f1 : Z.filter G = Z := List.filter_eq_self.mpr z1
    have f2 : (zl E (2 * c + 1)).filter G = [] := List.filter_eq_nil_iff.mpr (fun x hx => by rw [z2 x hx]; decide)
    have f3 : Z.filter (fun x => !G x) = [] := List.filter_eq_nil_iff.mpr (fun x hx => by rw [z1 x hx]; decide)
    have f4 : (zl E (2 * c + 1)).filter (fun x => !G x) = zl E (2 * c + 1) := List.filter_eq_self.mpr (fun x hx => by rw [z2 x hx]; rfl)
    refine ⟨?_, ?_⟩
    · have := hp.filter G
      rw [List.filter_append, f1, f2, List.append_nil] at this
      exact this
    · have := hp.filter (fun x => !G x)
      rw [List.filter_append, f3, f4, List.nil_append] at this
      exact this
  obtain ⟨p1, p2⟩ := fil h.1 g1 g3
  obtain ⟨p3, p4⟩ := fil h'.1 g2 g4
  have hX : X.Perm X' := p1.symm.trans p3
  have hnz : (nz X).Perm (nz X') := hX.filter _
  have hcnt : X'.length + (nz X').length = X.length + (nz X).length := by rw [hX.length_eq, hnz.length_eq]
  obtain ⟨a1, ⟨Y, a2, a3⟩, a4, a5, a6, a7, a8⟩ := h
  obtain ⟨b1, ⟨Y', b2, b3⟩, b4, b5, b6, b7, b8⟩ := h'
  refine ⟨fun d => ?_, ?_⟩
  · by_cases e1 : d = 2 * c + 1
    · subst e1; exact p2.symm.trans p4
    · by_cases e2 : d = 2 * c
      · subst e2
        have dat : ∀ {Z E : List (Int32 × Int32)}, (zl A (2 * c)).Perm (Z ++ E) → E.Perm ((zl A (2 * c)).filter (fun x => decide (x.1 ∉ Z.map (fun q => q.1)))) := by
          intro Z E hp
          have nd := (hp.map (fun q => q.1)).nodup_iff.mp hP.nd
          rw [List.map_append, List.nodup_append] at nd
          have f1 : Z.filter (fun x => decide (x.1 ∉ Z.map (fun q => q.1))) = [] := List.filter_eq_nil_iff.mpr (fun x hx q => of_decide_eq_true q (List.mem_map.mpr ⟨x, hx, rfl⟩))
          have f2 : E.filter (fun x => decide (x.1 ∉ Z.map (fun q => q.1))) = E := List.filter_eq_self.mpr (fun x hx => decide_eq_true (fun q => nd.2.2 x.1 q x.1 (List.mem_map.mpr ⟨x, hx, rfl⟩) rfl))
          have := hp.filter (fun x => decide (x.1 ∉ Z.map (fun q => q.1)))
          rw [List.filter_append, f1, f2, List.nil_append] at this
          exact this.symm
        refine (dat a2).trans (List.Perm.trans ?_ (dat b2).symm)
        have : (fun x : Int32 × Int32 => decide (x.1 ∉ Y.map (fun q => q.1))) = (fun x => decide (x.1 ∉ Y'.map (fun q => q.1))) := by
          funext x
          have : x.1 ∈ Y.map (fun q => q.1) ↔ x.1 ∈ Y'.map (fun q => q.1) := by
            rw [a3, b3]
            exact (hnz.map (fun q => q.2)).mem_iff
          simp only [this]
        rw [this]
      · rw [a4 d e2 e1, b4 d e2 e1]
  · funext j
    by_cases e6 : j = 6
    · subst e6
      rw [hcnt] at b7
      have := b7.trans a7.symm
      exact (Int32.add_left_inj _).mp this
    · by_cases e7 : j = 7
      · subst e7; rw [a8, b8, hcnt]
      · rw [a6 j e6 e7, b6 j e6 e7]
/-- the class's walk -/
theorem swp_S (hP : Pce A c) (t : Int32) : ∀ (R P : List (Int32 × Int32)) (cov : Int32) (B : AS) (X : List (Int32 × Int32)), zl A (2 * c + 1) = P ++ R → SWr A B c X → (∀ x ∈ X, gG (zl A (2 * c + 1)) (zl A (2 * c)) t x = true) → zl B (2 * c + 1) = P.filter (fun x => !gG (zl A (2 * c + 1)) (zl A (2 * c)) t x) ++ R → (cov = 0 ↔ ∀ q ∈ P, ¬ (q.1 ≤ t ∧ q.2 ≠ 0)) → (zl B (2 * c)).Sublist (zl A (2 * c)) →
    ∃ X', SWr A (swp c t cov R B) c X' ∧ (∀ x ∈ X', gG (zl A (2 * c + 1)) (zl A (2 * c)) t x = true) ∧ zl (swp c t cov R B) (2 * c + 1) = (zl A (2 * c + 1)).filter (fun x => !gG (zl A (2 * c + 1)) (zl A (2 * c)) t x) ∧ (zl (swp c t cov R B) (2 * c)).Sublist (zl A (2 * c)) := by
  intro R
  induction R with
  | nil =>
    intro P cov B X hW hS hX hB hcov hsub
    rw [List.append_nil] at hW hB
    exact ⟨X, hS, hX, by rw [show swp c t cov [] B = B from rfl, hB, hW], hsub⟩
  | cons q R ih =>
    intro P cov B X hW hS hX hB hcov hsub
    have hW' : zl A (2 * c + 1) = (P ++ [q]) ++ R := by rw [hW]; simp
    have nodB := hS.nodB hP
    have hqB : q ∈ zl B (2 * c + 1) := by rw [hB]; simp
    have hmid : rmK (zl B (2 * c + 1)) q.1 = P.filter (fun x => !gG (zl A (2 * c + 1)) (zl A (2 * c)) t x) ++ R := by
      rw [hB] at nodB ⊢
      exact rmK_mid nodB
    have hperm : (zl B (2 * c + 1)).Perm (q :: rmK (zl B (2 * c + 1)) q.1) := rmK_perm (s := q.1) (v := q.2) nodB hqB
    have stay : gG (zl A (2 * c + 1)) (zl A (2 * c)) t q = false → zl B (2 * c + 1) = (P ++ [q]).filter (fun x => !gG (zl A (2 * c + 1)) (zl A (2 * c)) t x) ++ R := by
      intro hg
      rw [hB, List.filter_append, List.filter_cons_of_pos (by rw [hg]; rfl), List.filter_nil]; simp
    have gone : gG (zl A (2 * c + 1)) (zl A (2 * c)) t q = true → rmK (zl B (2 * c + 1)) q.1 = (P ++ [q]).filter (fun x => !gG (zl A (2 * c + 1)) (zl A (2 * c)) t x) ++ R := by
      intro hg
      rw [hmid, List.filter_append, List.filter_cons_of_neg (by rw [hg]; decide), List.filter_nil, List.append_nil]
    have hXq : gG (zl A (2 * c + 1)) (zl A (2 * c)) t q = true → ∀ x ∈ q :: X, gG (zl A (2 * c + 1)) (zl A (2 * c)) t x = true := by
      intro hg x hx
      rcases List.mem_cons.mp hx with e | e
      · rw [e]; exact hg
      · exact hX x e
    have covS : ∀ {cov' : Int32}, ¬ cov' = 0 → (q.1 ≤ t ∧ q.2 ≠ 0) → (cov' = 0 ↔ ∀ x ∈ P ++ [q], ¬ (x.1 ≤ t ∧ x.2 ≠ 0)) := fun h0 hq => ⟨fun z => absurd z h0, fun z => absurd hq (z q (by simp))⟩
    have covK : ¬ (q.1 ≤ t ∧ q.2 ≠ 0) → (cov = 0 ↔ ∀ x ∈ P ++ [q], ¬ (x.1 ≤ t ∧ x.2 ≠ 0)) := by
      intro hq
      rw [hcov]
      constructor
      · intro z x hx
        rcases List.mem_append.mp hx with e | e
        · exact z x e
        · rw [List.mem_singleton.mp e]; exact hq
      · intro z x hx; exact z x (List.mem_append_left _ hx)
    unfold swp
    by_cases e1 : q.1 ≤ t
    · rw [if_pos e1]
      by_cases e2 : q.2 = 0
      · rw [if_pos e2]
        have hg : gG (zl A (2 * c + 1)) (zl A (2 * c)) t q = true := decide_eq_true ⟨e1, Or.inl e2⟩
        refine ih (P ++ [q]) cov _ (q :: X) hW' ?_ (hXq hg) ?_ (covK (fun z => z.2 e2)) ?_
        · refine hS.st0 e2 hperm (by rw [del_l, if_pos rfl]) (fun d hd => by rw [del_l, if_neg hd]) ⟨del_lk _ _ _, del_lp _ _ _, del_tf _ _ _, del_ow _ _ _, del_nE _ _ _⟩ (fun j j1 j2 => del_sc _ _ _ j1 j2) (del_6 _ _ _) (del_7 _ _ _)
        · rw [del_l, if_pos rfl]; exact gone hg
        · rw [del_l, if_neg (by omega)]; exact hsub
      · rw [if_neg e2]
        have hvo := hS.vo hP hsub hqB e2
        obtain ⟨v, hv⟩ := (hS.dat hP hqB e2).1
        have ndD : ((zl B (2 * c)).map (fun q => q.1)).Nodup := hP.nd.sublist (hsub.map _)
        have drop : gG (zl A (2 * c + 1)) (zl A (2 * c)) t q = true → ∃ X', SWr A (swp c t 1 R (aDropData (aDel B (2 * c + 1) (rmK (zl B (2 * c + 1)) q.1)) c q.2)) c X' ∧ (∀ x ∈ X', gG (zl A (2 * c + 1)) (zl A (2 * c)) t x = true) ∧ zl (swp c t 1 R (aDropData (aDel B (2 * c + 1) (rmK (zl B (2 * c + 1)) q.1)) c q.2)) (2 * c + 1) = (zl A (2 * c + 1)).filter (fun x => !gG (zl A (2 * c + 1)) (zl A (2 * c)) t x) ∧ (zl (swp c t 1 R (aDropData (aDel B (2 * c + 1) (rmK (zl B (2 * c + 1)) q.1)) c q.2)) (2 * c)).Sublist (zl A (2 * c)) := by
          intro hg
          have hk : hasK (zl (aDel B (2 * c + 1) (rmK (zl B (2 * c + 1)) q.1)) (2 * c)) q.2 = true := by
            rw [del_l, if_neg (by omega)]; exact hasK_iff.mpr ⟨v, hv⟩
          have ed : aDropData (aDel B (2 * c + 1) (rmK (zl B (2 * c + 1)) q.1)) c q.2 = aDel (aDel B (2 * c + 1) (rmK (zl B (2 * c + 1)) q.1)) (2 * c) (rmK (zl B (2 * c)) q.2) := by
            unfold aDropData
            rw [if_pos hk, show zl (aDel B (2 * c + 1) (rmK (zl B (2 * c + 1)) q.1)) (2 * c) = zl B (2 * c) from by rw [del_l, if_neg (by omega)]]
          rw [ed]
          refine ih (P ++ [q]) 1 _ (q :: X) hW' ?_ (hXq hg) ?_ (covS (by decide) ⟨e1, e2⟩) ?_
          · refine hS.st1 (v := v) e2 hperm ?_ ?_ (fun d d1 d2 => ?_) ⟨?_, ?_, ?_, ?_, ?_⟩ (fun j j1 j2 => ?_) ?_ ?_
            · rw [del_l, if_pos rfl]; exact rmK_perm ndD hv
            · rw [del_l, if_neg (by omega), del_l, if_pos rfl]
            · rw [del_l, if_neg d2, del_l, if_neg d1]
            · rw [del_lk, del_lk]
            · rw [del_lp, del_lp]
            · rw [del_tf, del_tf]
            · rw [del_ow, del_ow]
            · rw [del_nE, del_nE]
            · rw [del_sc _ _ _ j1 j2, del_sc _ _ _ j1 j2]
            · rw [del_6, del_6]
            · rw [del_7, del_7]
          · rw [del_l, if_neg (by omega), del_l, if_pos rfl]; exact gone hg
          · rw [del_l, if_pos rfl]; exact (List.eraseP_sublist).trans hsub
        by_cases e3 : cov = 0
        · rw [if_pos e3]
          have hb : bW (zl A (2 * c + 1)) t = some q := by
            unfold bW
            rw [hW, List.find?_append, List.find?_eq_none.mpr (fun x hx => by simpa using hcov.mp e3 x hx), Option.none_or, List.find?_cons, decide_eq_true ⟨e1, e2⟩]
          by_cases e4 : vOf (zl B (2 * c)) q.2 = -1
          · rw [if_pos e4]
            exact drop (decide_eq_true ⟨e1, Or.inr (Or.inr (by rw [← hvo]; exact e4))⟩)
          · rw [if_neg e4]
            have hg : gG (zl A (2 * c + 1)) (zl A (2 * c)) t q = false := decide_eq_false (fun z => z.2.elim e2 (fun z => z.elim (fun z => z hb) (fun z => e4 (by rw [hvo]; exact z))))
            exact ih (P ++ [q]) 1 B X hW' hS hX (stay hg) (covS (by decide) ⟨e1, e2⟩) hsub
        · rw [if_neg e3]
          refine drop (decide_eq_true ⟨e1, Or.inr (Or.inl (fun hb => ?_))⟩)
          apply e3
          rw [hcov]
          intro x hx hxx
          unfold bW at hb
          rw [hW, List.find?_append] at hb
          cases hf : P.find? (fun q => decide (q.1 ≤ t ∧ q.2 ≠ 0)) with
          | none => exact absurd (decide_eq_true hxx) (List.find?_eq_none.mp hf x hx)
          | some y =>
            rw [hf, Option.some_or] at hb
            injection hb with hb
            have hy := List.mem_of_find?_eq_some hf
            have nd := hP.nw
            rw [hW, List.map_append, List.nodup_append] at nd
            exact nd.2.2 y.1 (List.mem_map.mpr ⟨y, hy, rfl⟩) q.1 (by simp) (by rw [hb])
    · rw [if_neg e1]
      have hg : gG (zl A (2 * c + 1)) (zl A (2 * c)) t q = false := decide_eq_false (fun z => e1 z.1)
      exact ih (P ++ [q]) cov B X hW' hS hX (stay hg) (covK (fun z => e1 z.1)) hsub
theorem swp_all (hP : Pce A c) (t : Int32) : ∃ X', SWr A (swp c t 0 (zl A (2 * c + 1)) A) c X' ∧ (∀ x ∈ X', gG (zl A (2 * c + 1)) (zl A (2 * c)) t x = true) ∧ zl (swp c t 0 (zl A (2 * c + 1)) A) (2 * c + 1) = (zl A (2 * c + 1)).filter (fun x => !gG (zl A (2 * c + 1)) (zl A (2 * c)) t x) ∧ (zl (swp c t 0 (zl A (2 * c + 1)) A) (2 * c)).Sublist (zl A (2 * c)) :=
  swp_S hP t (zl A (2 * c + 1)) [] 0 A [] rfl SWr.rf (fun x hx => by cases hx) rfl ⟨fun _ x hx => (by cases hx), fun _ => rfl⟩ (List.Sublist.refl _)
end
