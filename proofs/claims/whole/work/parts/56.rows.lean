/-! THE REFERENCE: ROWS, LOCKING A ROW -/
theorem row4 (row : Nat) : (4 : Int32) * nI row + (4 : Int32) = nI (4 * row + 4) := cellIx row 4
theorem row0 (row : Nat) : (4 : Int32) * nI row = nI (4 * row) := by rw [show (4 : Int32) = nI 4 from rfl, pk_mul]
theorem own0 (k : Nat) : (16 : Int32) * nI k = nI (16 * k) := by rw [nI_16, pk_mul]
theorem rws_mem (l : List (Nat × Int32)) : ∀ (acc : List Nat) (r : Nat), (r ∈ acc ∨ ∃ q ∈ l, q.1 / 4 = r) → r ∈ l.foldl (fun acc q => if q.1 / 4 ∈ acc then acc else acc ++ [q.1 / 4]) acc := by
  induction l with
  | nil => intro acc r h; exact h.resolve_right (fun ⟨q, hq, _⟩ => by cases hq)
  | cons x l ih =>
    intro acc r h
    rw [List.foldl_cons]
    apply ih
    rcases h with h | ⟨q, hq, e⟩
    · left; split
      · exact h
      · exact List.mem_append_left _ h
    · rcases List.mem_cons.mp hq with e2 | e2
      · left; subst e2; split
        · rw [← e]; assumption
        · rw [← e]; exact List.mem_append_right _ (List.mem_singleton.mpr rfl)
      · exact Or.inr ⟨q, e2, e⟩
theorem rws_iff {l : List (Nat × Int32)} {r : Nat} : r ∈ rws l ↔ ∃ q ∈ l, q.1 / 4 = r := by
  constructor
  · intro h
    rcases (rws_gen l []).2 r h with h1 | ⟨q, h1, h2⟩
    · cases h1
    · exact ⟨q, h1, h2.symm⟩
  · intro h; exact rws_mem l [] r (Or.inr h)
theorem rws_app (l : List (Nat × Int32)) (q : Nat × Int32) : rws (l ++ [q]) = if q.1 / 4 ∈ rws l then rws l else rws l ++ [q.1 / 4] := rws_add l q.1 q.2
theorem rws_pre (l : List (Nat × Int32)) : ∀ l', rws l <+: rws (l ++ l') := by
  intro l'
  induction l' generalizing l with
  | nil => rw [List.append_nil]; exact List.prefix_refl _
  | cons q l' ih =>
    rw [show l ++ q :: l' = (l ++ [q]) ++ l' by simp]
    refine List.IsPrefix.trans ?_ (ih (l ++ [q]))
    rw [rws_app]; split
    · exact List.prefix_refl _
    · exact List.prefix_append _ _
theorem rws_nd (l : List (Nat × Int32)) : (rws l).Nodup := by
  have : ∀ (l : List (Nat × Int32)) (acc : List Nat), acc.Nodup → (l.foldl (fun acc q => if q.1 / 4 ∈ acc then acc else acc ++ [q.1 / 4]) acc).Nodup := by
    intro l
    induction l with
    | nil => intro acc h; exact h
    | cons q l ih =>
      intro acc h
      rw [List.foldl_cons]
      apply ih
      split
      · exact h
      · rename_i hn
        rw [List.nodup_append]
        refine ⟨h, by simp, fun a ha b hb => ?_⟩
        rw [List.mem_singleton.mp hb]
        intro e; subst e; exact hn ha
  exact this l [] List.nodup_nil
theorem rws_head {q : Nat × Int32} {l : List (Nat × Int32)} : (rws (q :: l)).getD 0 0 = q.1 / 4 := by
  obtain ⟨t, ht⟩ := rws_pre [q] l
  rw [show q :: l = [q] ++ l from rfl, ← ht]
  rfl
def bI (f : Bool) : Int32 := if f = true then 1 else 0
section
variable {p : Nat → Nat} {m : Nat} {A : AS} {σ : HS} {D : List (Nat × Int32 × Int32)} {V : List (Nat × Int32 × Int32 × Int32)}
theorem moRow38 (h : RMo p m A σ) {k i lf row : Nat} (hk : k < 8) (hp : ¬ ztf A 0 k = 0) (hi : i < (zow A k).length) (hr : row < 64) (k5 : Nat → Int32 → Int32 → Int32 → HS → Option (Int32 × HS)) : ∀ (r N j : Nat) (f : Bool), j + r = i → r < N →
    L_X6_rowOf_38 k5 N (p 294) (nI k) (nI lf) (nI i) (nI row) (bI f) (nI j) σ = (if (f && (((zow A k).take i).drop j).all (fun q => decide (¬ q.1 / 4 = row))) = true then (if nI lf = 0 then some (nI row, σ) else k5 (p 294) (nI k) (nI lf - 1) (nI i + 1) σ) else k5 (p 294) (nI k) (nI lf - 0) (nI i + 1) σ) := by
  have S := h.1
  obtain ⟨u1, u2⟩ := h.2.2.1 k hk
  obtain ⟨u2, u3, u4, u5, u6, u7⟩ := u2 hp
  intro r
  induction r with
  | zero =>
    intro N j f hj hN
    obtain ⟨N, rfl⟩ : ∃ M, N = M + 1 := ⟨N - 1, by omega⟩
    simp only [L_X6_rowOf_38, B_X6_rowOf_38, B_X6_rowOf_94, B_X6_rowOf_105]
    rw [if_pos (nI_le (by omega) (by omega)), List.drop_of_length_le (by rw [List.length_take]; omega)]
    cases f with
    | true =>
      have b1 : ¬ bI true = 0 := by decide
      rw [if_neg b1, if_neg b1]
      simp
    | false =>
      have b1 : bI false = 0 := rfl
      rw [if_pos b1, if_pos b1]
      simp
  | succ r ih =>
    intro N j f hj hN
    obtain ⟨N, rfl⟩ : ∃ M, N = M + 1 := ⟨N - 1, by omega⟩
    have hjl : j < (zow A k).length := by omega
    have hg : (zow A k)[j]? = some (zow A k)[j] := List.getElem?_eq_getElem hjl
    obtain ⟨v1, v2, v3⟩ := u6 j _ hg
    have hji : inb (nI (16 * k + j)) 128 := inb_nI (by omega) (by decide)
    have hjc : (nI (16 * k + j)).toNatClampNeg = 16 * k + j := nI_clamp (by omega)
    have hdr : ((zow A k).take i).drop j = (zow A k)[j] :: ((zow A k).take i).drop (j + 1) := by
      rw [List.drop_eq_getElem_cons (by rw [List.length_take]; omega), List.getElem_take]
    simp only [L_X6_rowOf_38, B_X6_rowOf_38, B_X6_rowOf_73, B_X6_rowOf_74]
    rw [if_neg (nI_ge (by omega) (by omega)), nI_1, hdr, List.all_cons]
    have n1 := ih N (j + 1) true (by omega) (by omega)
    have n0 := ih N (j + 1) false (by omega) (by omega)
    rw [show bI true = (1 : Int32) from rfl] at n1
    rw [show bI false = (0 : Int32) from rfl] at n0
    cases f with
    | false =>
      rw [if_pos (show bI false = 0 from rfl), n0]
      simp
    | true =>
      rw [if_neg (show ¬ bI true = 0 by decide)]
      simp only [S.km, S.r263, S.k263, S.l263, true_and, if_true, own_ix, if_pos hji, hjc, v1]
      rw [show (4 : Int32) = nI 4 from rfl, pk_div (by omega) (by decide) (by decide)]
      by_cases e : (zow A k)[j].1 / 4 = row
      · rw [if_pos (by rw [e]), n0]
        simp [e]
      · rw [if_neg (fun q => e ((nI_eq (by omega) (by omega)).mp q)), n1, show decide (¬ (zow A k)[j].1 / 4 = row) = true from decide_eq_true e, Bool.true_and (List.all _ _)]
        simp only [Int32.sub_zero, Bool.true_and]
theorem moRow_L (h : RMo p m A σ) {k n : Nat} (hk : k < 8) (hp : ¬ ztf A 0 k = 0) (hn : n < 1000) : ∀ (r N i lf : Nat), i + r = (zow A k).length → r < N → (rws ((zow A k).take i)).length + lf = n →
    L_X6_rowOf_5 N (p 294) (nI k) (nI lf) (nI i) σ = some (match (rws (zow A k))[n]? with | none => -1 | some x => nI x, σ) := by
  have S := h.1
  have hki : inb (nI k) 8 := inb_nI hk (by decide)
  have hkc : (nI k).toNatClampNeg = k := nI_clamp (by omega)
  obtain ⟨u1, u2⟩ := h.2.2.1 k hk
  obtain ⟨u2, u3, u4, u5, u6, u7⟩ := u2 hp
  intro r
  induction r with
  | zero =>
    intro N i lf hi hN hl
    obtain ⟨N, rfl⟩ : ∃ M, N = M + 1 := ⟨N - 1, by omega⟩
    simp only [L_X6_rowOf_5, B_X6_rowOf_5, S.km, S.r262, S.k262, S.l262, true_and, if_true, if_pos hki, hkc, u4]
    rw [if_pos (nI_le (by omega) (by omega))]
    rw [List.take_of_length_le (by omega)] at hl
    rw [List.getElem?_eq_none (by omega)]
  | succ r ih =>
    intro N i lf hi hN hl
    obtain ⟨N, rfl⟩ : ∃ M, N = M + 1 := ⟨N - 1, by omega⟩
    have hil : i < (zow A k).length := by omega
    have hg : (zow A k)[i]? = some (zow A k)[i] := List.getElem?_eq_getElem hil
    obtain ⟨v1, v2, v3⟩ := u6 i _ hg
    have hji : inb (nI (16 * k + i)) 128 := inb_nI (by omega) (by decide)
    have hjc : (nI (16 * k + i)).toNatClampNeg = 16 * k + i := nI_clamp (by omega)
    have htk : (zow A k).take (i + 1) = (zow A k).take i ++ [(zow A k)[i]] := by
      rw [List.take_succ, hg]; rfl
    have hpre := rws_pre ((zow A k).take (i + 1)) ((zow A k).drop (i + 1))
    rw [List.take_append_drop, htk, rws_app] at hpre
    simp only [L_X6_rowOf_5, B_X6_rowOf_5, S.km, S.r262, S.k262, S.l262, S.r263, S.k263, S.l263, true_and, if_true, if_pos hki, hkc, u4, own_ix, if_pos hji, hjc, v1]
    rw [if_neg (nI_ge (by omega) (by omega)), show (4 : Int32) = nI 4 from rfl, pk_div (by omega) (by decide) (by decide)]
    have in1 := moRow38 h (lf := lf) hk hp hil (show (zow A k)[i].1 / 4 < 64 by omega) (L_X6_rowOf_5 N) i NF 0 true (by omega) (by have : NF = 100000 := rfl; omega)
    rw [nI_0, show bI true = (1 : Int32) from rfl, List.drop_zero, Bool.true_and] at in1
    rw [in1]
    have hall : (((zow A k).take i).all (fun q => decide (¬ q.1 / 4 = (zow A k)[i].1 / 4)) = true) ↔ (zow A k)[i].1 / 4 ∉ rws ((zow A k).take i) := by
      rw [List.all_eq_true, rws_iff]
      constructor
      · rintro h1 ⟨q, hq, e⟩
        exact absurd e (of_decide_eq_true (h1 q hq))
      · intro h1 q hq
        exact decide_eq_true (fun e => h1 ⟨q, hq, e⟩)
    by_cases e : (zow A k)[i].1 / 4 ∈ rws ((zow A k).take i)
    · rw [if_neg (fun q => absurd e (hall.mp q)), nI_1, Int32.sub_zero]
      refine ih N (i + 1) lf (by omega) (by omega) ?_
      rw [htk, rws_app, if_pos e]; exact hl
    · rw [if_pos (hall.mpr e)]
      rw [if_neg e] at hpre
      by_cases e0 : lf = 0
      · subst e0
        rw [if_pos nI_0]
        obtain ⟨t, ht⟩ := hpre
        have : (rws (zow A k))[n]? = some ((zow A k)[i].1 / 4) := by
          rw [← ht, List.getElem?_append_left (by rw [List.length_append, List.length_singleton]; omega), List.getElem?_append_right (by omega), show n - (rws ((zow A k).take i)).length = 0 by omega]
          rfl
        rw [this]
      · rw [if_neg (nI_ne0 (by omega) (by omega)), nI_1]
        obtain ⟨lf', rfl⟩ : ∃ x, lf = x + 1 := ⟨lf - 1, by omega⟩
        rw [nI_pred]
        refine ih N (i + 1) lf' (by omega) (by omega) ?_
        rw [htk, rws_app, if_neg e, List.length_append, List.length_singleton]
        omega
theorem mo_rowOf (h : RMo p m A σ) {k n : Nat} (hk : k < 8) (hp : ¬ ztf A 0 k = 0) (hn : n < 1000) : F_X6_rowOf (p 294) (nI k) (nI n) σ = some (match (rws (zow A k))[n]? with | none => -1 | some x => nI x, σ) := by
  have := moRow_L h hk hp hn (zow A k).length NF 0 n (by omega) (by have := ((h.2.2.1 k hk).2 hp).2.2.2.1; have : NF = 100000 := rfl; omega) (by simp [rws])
  rw [nI_0] at this
  exact this
theorem mo_lose (h : RMo p m A σ) {k : Nat} (hk : k < 8) (hp : ¬ ztf A 0 k = 0) : ∃ τ, F_X6_undoing (p 294) (nI k) σ = some (4, τ) ∧ RMo p m (aLose A k) τ ∧ Mst p σ τ := by
  have S := h.1
  have hki : inb (nI k) 8 := inb_nI hk (by decide)
  have hkc : (nI k).toNatClampNeg = k := nI_clamp (by omega)
  unfold F_X6_undoing
  simp only [S.km, S.r259, S.k259, S.l259, true_and, if_true, if_pos hki, hkc]
  refine ⟨_, rfl, ?_, Mst.rf.sai (S.le (by decide))⟩
  refine mo_tr h (by omega) (by omega) (by omega) (by omega) rfl rfl rfl rfl (fun f x q => ?_) (fun x q => rfl) (fun _ => ?_)
  · unfold aLose
    rw [ztf_utf, if_neg (by omega), ztf_utf, if_neg (by omega)]
  · obtain ⟨u1, u2⟩ := h.2.2.1 k hk
    obtain ⟨u2, u3, u4, u5, u6, u7⟩ := u2 hp
    have t0 : ztf (aLose A k) 0 k = 4 := by simp [aLose, ztf_utf]
    have tj : ∀ j, j ≠ 0 → j ≠ 4 → ztf (aLose A k) j k = ztf A j k := fun j hj h4 => by
      unfold aLose
      rw [ztf_utf, if_neg (by omega), ztf_utf, if_neg (by omega)]
    unfold Mt1
    rw [t0, tj 1 (by decide) (by decide), tj 2 (by decide) (by decide)]
    rw [show zow (aLose A k) = zow A from rfl]
    rw [ai_eq, ai_ne (S.ne (by decide)), ai_ne (S.ne (by decide)), ai_ne (S.ne (by decide)), ai_ne (S.ne (by decide)), ai_ne (S.ne (by decide))]
    refine ⟨rfl, fun _ => ⟨u2, u3, u4, u5, fun i q hq => ?_, fun q => absurd rfl q, fun q => absurd q (by decide)⟩⟩
    rw [ai_ne (S.ne (by decide)), ai_ne (S.ne (by decide))]; exact u6 i q hq
def wGe (c : Nat) (s : Int32) : Nat × Int32 × Int32 × Int32 → Bool := fun q => decide (q.1 = c ∧ ¬ q.2.1 < s)
theorem moLrW (h : RMw p m A σ D V) (hV : V.length ≤ 3000) {k c : Nat} (hk : k < 8) (hp : ¬ ztf A 0 k = 0) (hc : c < 256) (x2 x3 : Int32) (k29 : Nat → Int32 → Int32 → Int32 → Int32 → HS → Option (Int32 × HS)) : ∀ (r N i : Nat), i + r = V.length → r < N →
    L_X6_lockRow_58 k29 N (p 294) (nI k) x2 x3 (nI c) (nI i) σ = (if (V.drop i).any (wGe c (ztf A 1 k)) = true then bd (F_X6_undoing (p 294) (nI k) σ) (fun r17 σ17 => some (r17, σ17)) else L_X6_lockRow_58 k29 1 (p 294) (nI k) x2 x3 (nI c) (nI V.length) σ) := by
  have S := h.1
  have e0 := h.nv
  obtain ⟨u1, u2⟩ := h.2.2.1 k hk
  obtain ⟨u2, -⟩ := u2 hp
  have hki : inb (nI k) 8 := inb_nI hk (by decide)
  have hkc : (nI k).toNatClampNeg = k := nI_clamp (by omega)
  intro r
  induction r with
  | zero =>
    intro N i hi hN
    obtain ⟨N, rfl⟩ : ∃ M, N = M + 1 := ⟨N - 1, by omega⟩
    obtain rfl : i = V.length := by omega
    rw [List.drop_of_length_le (by omega)]
    simp only [List.any_nil, Bool.false_eq_true, if_false, L_X6_lockRow_58, B_X6_lockRow_58]
    rw [e0, if_pos (nI_le (by omega) (by omega)), if_pos (nI_le (by omega) (by omega))]
  | succ r ih =>
    intro N i hi hN
    obtain ⟨N, rfl⟩ : ∃ M, N = M + 1 := ⟨N - 1, by omega⟩
    have hil : i < V.length := by omega
    obtain ⟨v1, v2, v3, v4, v5, v6, v7, v8⟩ := h.vr hil hV
    have next := ih N (i + 1) (by omega) (by omega)
    rw [List.drop_eq_getElem_cons hil, List.any_cons]
    have step : L_X6_lockRow_58 k29 (N + 1) (p 294) (nI k) x2 x3 (nI c) (nI i) σ = (if nI V[i].1 = nI c then (if V[i].2.1 < ztf A 1 k then L_X6_lockRow_58 k29 N (p 294) (nI k) x2 x3 (nI c) (nI (i + 1)) σ else bd (F_X6_undoing (p 294) (nI k) σ) (fun r17 σ17 => some (r17, σ17))) else L_X6_lockRow_58 k29 N (p 294) (nI k) x2 x3 (nI c) (nI (i + 1)) σ) := by
      rw [L_X6_lockRow_58]
      unfold B_X6_lockRow_58
      rw [if_pos S.km, e0, if_neg (nI_ge hil (by omega))]
      simp only [S.r251, S.k251, S.l251, S.r252, S.k252, S.l252, S.r260, S.k260, S.l260, true_and, if_true, v1, v2, if_pos v8, if_pos hki, hkc, u2, B_X6_lockRow_101, nI_1]
    rw [step, next]
    by_cases e1 : V[i].1 = c
    · rw [if_pos (by rw [e1])]
      by_cases e2 : V[i].2.1 < ztf A 1 k
      · rw [if_pos e2, show wGe c (ztf A 1 k) V[i] = false from decide_eq_false (fun q => q.2 e2), Bool.false_or]
      · rw [if_neg e2, show wGe c (ztf A 1 k) V[i] = true from decide_eq_true ⟨e1, e2⟩, Bool.true_or, if_pos rfl]
    · rw [if_neg (fun q => e1 ((nI_eq (by omega) (by omega)).mp q)), show wGe c (ztf A 1 k) V[i] = false from decide_eq_false (fun q => e1 q.1), Bool.false_or]
theorem wGe_top (h : Mwr p A σ V) {c : Nat} (hc : c < 256) (hP : Pce A c) (s : Int32) : V.any (wGe c s) = true ↔ topW (zl A (2 * c + 1)) s := by
  rw [List.any_eq_true]
  constructor
  · rintro ⟨q, h1, h2⟩
    obtain ⟨h3, h4⟩ := of_decide_eq_true h2
    have hm : wv q ∈ zl A (2 * c + 1) := (h.mem hc).mpr ⟨q, h1, h3, rfl⟩
    have hs := hP.1
    unfold topW
    cases e : zl A (2 * c + 1) with
    | nil => rw [e] at hm; cases hm
    | cons x l =>
      rw [e] at hm hs
      show ¬ x.1 < s
      rcases List.mem_cons.mp hm with g | g
      · rw [← g]; exact h4
      · intro g2
        exact h4 (Int32.lt_trans ((List.pairwise_cons.mp hs).1 _ g) g2)
  · intro h1
    unfold topW at h1
    cases e : zl A (2 * c + 1) with
    | nil => rw [e] at h1; exact absurd h1 id
    | cons x l =>
      rw [e] at h1
      have hm : x ∈ zl A (2 * c + 1) := by rw [e]; exact List.mem_cons_self
      obtain ⟨q, g1, g2, g3⟩ := (h.mem hc).mp hm
      exact ⟨q, g1, decide_eq_true ⟨g2, by rw [← g3] at h1; exact h1⟩⟩
theorem moLrA_L (h : RMo p 3000 A σ) (hP : ∀ c, c < 256 → Pce A c) (hK : ∀ k, k < 8 → 0 ≤ ztf A 0 k) {k row : Nat} (hk : k < 8) (hp : ¬ ztf A 0 k = 0) (hr : row < 64) : ∀ (r N c : Nat) (x : Int32), c + r = 4 * row + 4 → r < N →
    (∀ q, lrA A k r c x = .inl q → ∃ τ, L_X6_lockRow_29 N (p 294) (nI k) (nI row) x (nI c) σ = some (q.1, τ) ∧ RMo p 3000 q.2 τ ∧ Mst p σ τ) ∧
    (∀ y, lrA A k r c x = .inr y → L_X6_lockRow_29 N (p 294) (nI k) (nI row) x (nI c) σ = (if zsc A 6 + (3 : Int32) * y ≤ 3000 then L_X6_lockRow_177 NF (p 294) (nI k) (nI row) (nI (4 * row)) σ else some (-4, σ))) := by
  have S := h.1
  obtain ⟨D, V, hw⟩ := h.wi
  have hb := hw.bo
  have e0 := hw.nv
  intro r
  induction r with
  | zero =>
    intro N c x hc hN
    obtain ⟨N, rfl⟩ : ∃ M, N = M + 1 := ⟨N - 1, by omega⟩
    refine ⟨fun q hq => by simp [lrA] at hq, fun y hy => ?_⟩
    obtain rfl : x = y := by simpa [lrA] using hy
    simp only [L_X6_lockRow_29, B_X6_lockRow_29]
    rw [row4, if_pos (nI_le (by omega) (by omega)), if_pos S.km, bd_eq (mo_records h), row0]
  | succ r ih =>
    intro N c x hc hN
    obtain ⟨N, rfl⟩ : ∃ M, N = M + 1 := ⟨N - 1, by omega⟩
    have hc6 : c < 256 := by omega
    have hci : inb (nI c) 256 := inb_nI hc6 (by decide)
    have hcc : (nI c).toNatClampNeg = c := nI_clamp (by omega)
    have l1 := (h.2.1 c hc6).1
    have start : L_X6_lockRow_29 (N + 1) (p 294) (nI k) (nI row) x (nI c) σ = (match plc (zow A k) c with
        | none => L_X6_lockRow_29 N (p 294) (nI k) (nI row) x (nI (c + 1)) σ
        | some _ => L_X6_lockRow_58 (L_X6_lockRow_29 N) NF (p 294) (nI k) (nI row) (x + 1) (nI c) (nI 0) σ) := by
      rw [L_X6_lockRow_29]
      unfold B_X6_lockRow_29 B_X6_lockRow_149
      rw [row4, if_neg (nI_ge (by omega) (by omega)), if_pos S.km, bd_eq (mo_ownAt h hk hp hc6)]
      cases e : plc (zow A k) c with
      | none =>
        simp only []
        rw [if_neg (by decide), nI_1]
      | some j =>
        obtain ⟨_, _, _, _, q4⟩ := plc_some e
        have := ((h.2.2.1 k hk).2 hp).2.2.2.1
        simp only []
        rw [if_pos (nI_pos' (by omega)), nI_0]
    rw [start]
    unfold lrA
    cases e : plc (zow A k) c with
    | none => exact ih N (c + 1) x (by omega) (by omega)
    | some j =>
      simp only []
      have scan := moLrW hw (by omega) hk hp hc6 (nI row) (x + 1) (L_X6_lockRow_29 N) V.length NF 0 (by omega) (by have : NF = 100000 := rfl; omega)
      rw [List.drop_zero] at scan
      rw [scan]
      obtain ⟨ih1, ih2⟩ := ih N (c + 1) (x + 1) (by omega) (by omega)
      obtain ⟨τ, a1, a2, a3⟩ := mo_lose h hk hp
      have lose : ∃ τ, bd (F_X6_undoing (p 294) (nI k) σ) (fun r17 σ17 => some (r17, σ17)) = some ((4, aLose A k).1, τ) ∧ RMo p 3000 (4, aLose A k).2 τ ∧ Mst p σ τ := ⟨τ, by rw [bd_eq a1], a2, a3⟩
      have rest : ∀ (h0 : ¬ V.any (wGe c (ztf A 1 k)) = true), (∀ q, (if zlk A 0 c = 0 then lrA A k r (c + 1) (x + 1) else if aFor A c then .inl (5, aClean A c) else .inl (4, aLose A k)) = Sum.inl q → ∃ τ, (if V.any (wGe c (ztf A 1 k)) = true then bd (F_X6_undoing (p 294) (nI k) σ) (fun r17 σ17 => some (r17, σ17)) else L_X6_lockRow_58 (L_X6_lockRow_29 N) 1 (p 294) (nI k) (nI row) (x + 1) (nI c) (nI V.length) σ) = some (q.1, τ) ∧ RMo p 3000 q.2 τ ∧ Mst p σ τ) ∧
          (∀ y, (if zlk A 0 c = 0 then lrA A k r (c + 1) (x + 1) else if aFor A c then .inl (5, aClean A c) else .inl (4, aLose A k)) = Sum.inr y → (if V.any (wGe c (ztf A 1 k)) = true then bd (F_X6_undoing (p 294) (nI k) σ) (fun r17 σ17 => some (r17, σ17)) else L_X6_lockRow_58 (L_X6_lockRow_29 N) 1 (p 294) (nI k) (nI row) (x + 1) (nI c) (nI V.length) σ) = (if zsc A 6 + (3 : Int32) * y ≤ 3000 then L_X6_lockRow_177 NF (p 294) (nI k) (nI row) (nI (4 * row)) σ else some (-4, σ))) := by
        intro h0
        rw [if_neg h0]
        simp only [L_X6_lockRow_58, B_X6_lockRow_58, B_X6_lockRow_149]
        rw [if_pos S.km, e0, if_pos (nI_le (by omega) (by omega))]
        simp only [S.r256, S.k256, S.l256, true_and, if_true, if_pos hci, hcc, l1, i_pos0 (hP c hc6).l0, nI_1]
        by_cases e1 : zlk A 0 c = 0
        · rw [if_pos e1, if_pos e1]
          exact ⟨ih1, ih2⟩
        · rw [if_neg e1, if_neg e1, bd_eq (mo_isDecided h hc6 e1)]
          have fin : ∃ τ, B_X6_lockRow_141 (p 294) (nI c) σ = some ((5, aClean A c).1, τ) ∧ RMo p 3000 (5, aClean A c).2 τ ∧ Mst p σ τ := by
            obtain ⟨τ, b1, b2, b3⟩ := mo_clean h hP hc6 e1
            refine ⟨τ, ?_, b2, b3⟩
            unfold B_X6_lockRow_141
            rw [if_pos S.km, bd_eq b1]
          by_cases e3 : zlk A 0 (zlp A c) = zlk A 0 c
          · rw [if_pos e3, if_pos rfl, if_pos S.km, bd_eq (mo_isLate h hK hc6 e1)]
            by_cases e4 : aLate A c = 0
            · rw [if_pos e4, if_neg (fun q => q.elim (fun q => q e3) (fun q => q e4)), if_pos S.km]
              refine ⟨fun q hq => ?_, fun y hy => by cases hy⟩
              injection hq with hq; subst hq; exact lose
            · rw [if_neg e4, if_pos (Or.inr e4)]
              refine ⟨fun q hq => ?_, fun y hy => by cases hy⟩
              injection hq with hq; subst hq; exact fin
          · rw [if_neg e3, if_neg (show ¬ (1 : Int32) = 0 by decide), if_pos (Or.inl e3)]
            refine ⟨fun q hq => ?_, fun y hy => by cases hy⟩
            injection hq with hq; subst hq; exact fin
      have ht := wGe_top hw.2.2.2.2.2 hc6 (hP c hc6) (ztf A 1 k)
      unfold topW at ht
      cases ez : zl A (2 * c + 1) with
      | nil =>
        rw [ez] at ht
        exact rest (fun q => ht.mp q)
      | cons q0 l0 =>
        rw [ez] at ht
        simp only []
        by_cases e5 : q0.1 < ztf A 1 k
        · rw [if_pos e5]
          exact rest (fun q => ht.mp q e5)
        · rw [if_neg e5]
          refine ⟨fun q hq => ?_, fun y hy => by cases hy⟩
          injection hq with hq; subst hq
          rw [if_pos (ht.mpr e5)]
          exact lose
end
