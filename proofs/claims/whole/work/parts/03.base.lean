/-! THE HEAP BY FIELDS. References: 0 is null, a + 1 is the cell a. Every method is a function F_.. on HS that answers 'none' where the machine would throw or run out of the function's own fuel; its contract: where F_.. answers, the machine does the same. -/
def vr (n : Nat) : Value := match n with
  | 0 => .null
  | a + 1 => .ref a
def ro (n : Nat) : Option Nat := match n with
  | 0 => none
  | a + 1 => some a
theorem vr_ro (n : Nat) : va_rf (ro n) = vr n := by cases n <;> rfl
theorem ro_inj {a b : Nat} (h : ro a = ro b) : a = b := by cases a <;> cases b <;> simp_all [ro]
theorem ro_iff {a b : Nat} : ro a = ro b ↔ a = b := ⟨ro_inj, fun h => by rw [h]⟩
theorem vr_cat (n : Nat) : (vr n).category = 1 := by cases n <;> rfl
theorem vr_or (n : Nat) : vr n = .null ∨ ∃ a, vr n = .ref a := by
  cases n with
  | zero => exact Or.inl rfl
  | succ a => exact Or.inr ⟨a, rfl⟩
abbrev HS : Type := (Nat → Nat) × (Nat → Nat) × (Nat → Nat → Int32) × (Nat → Nat → Nat) × (Nat → Nat → Int32) × (Nat → Nat → Nat) × Nat × Nat
def kd (σ : HS) : Nat → Nat := σ.1
def ln (σ : HS) : Nat → Nat := σ.2.1
def gi (σ : HS) : Nat → Nat → Int32 := σ.2.2.1
def gr (σ : HS) : Nat → Nat → Nat := σ.2.2.2.1
def ai (σ : HS) : Nat → Nat → Int32 := σ.2.2.2.2.1
def ar (σ : HS) : Nat → Nat → Nat := σ.2.2.2.2.2.1
def hs (σ : HS) : Nat := σ.2.2.2.2.2.2.1
def ns (σ : HS) : Nat := σ.2.2.2.2.2.2.2
def up2 {α : Type} (f : Nat → Nat → α) (k n : Nat) (v : α) : Nat → Nat → α := fun g m => if g = k ∧ m = n then v else f g m
def si (σ : HS) (f n : Nat) (v : Int32) : HS := (kd σ, ln σ, up2 (gi σ) f n v, gr σ, ai σ, ar σ, hs σ, ns σ)
def sr (σ : HS) (f n : Nat) (v : Nat) : HS := (kd σ, ln σ, gi σ, up2 (gr σ) f n v, ai σ, ar σ, hs σ, ns σ)
def sai (σ : HS) (n i : Nat) (v : Int32) : HS := (kd σ, ln σ, gi σ, gr σ, up2 (ai σ) n i v, ar σ, hs σ, ns σ)
def sar (σ : HS) (n i : Nat) (v : Nat) : HS := (kd σ, ln σ, gi σ, gr σ, ai σ, up2 (ar σ) n i v, hs σ, ns σ)
/-- a new cell of kind k, of L slots: all its fields and elements are 0; its reference is hs σ + 1 -/
def nw (σ : HS) (k L : Nat) : HS :=
  (fun n => if n = hs σ + 1 then k else kd σ n, fun n => if n = hs σ + 1 then L else ln σ n,
   fun f n => if n = hs σ + 1 then 0 else gi σ f n, fun f n => if n = hs σ + 1 then 0 else gr σ f n,
   fun n i => if n = hs σ + 1 then 0 else ai σ n i, fun n i => if n = hs σ + 1 then 0 else ar σ n i, hs σ + 1, ns σ + L)
theorem kd_nw_self (σ : HS) (k L : Nat) : kd (nw σ k L) (hs σ + 1) = k := if_pos rfl
/-- which fields of a class are references -/
def FB (c : Nat) : List Bool := match c with
  | 0 => [true, true, false, false, false]
  | 1 => [false, false, true]
  | 2 => [false, false, false]
  | 3 => [true, false, false, false, false, false]
  | 4 => [false, false, false, false, false, true, true, false, true, false]
  | 5 => [true, true, true, false, false, false]
  | 6 => [false, false, false, false, false, false, false, true, true, true, false, true, true, true, true, false, true, true, true, true, true, true, true, true, true, true, true, false, false, false, false, false]
  | _ => []
def mkf (σ : HS) (c n k : Nat) (b : Bool) : Value := if b = true then vr (gr σ (40 * c + k) n) else .int (gi σ (40 * c + k) n)
/-- what a cell holds, by its kind: c + 1 an object of class c; 100 an array of ints, 101 of booleans, 100 + j of references -/
def mk (dA : Nat → ClassId) (σ : HS) (n : Nat) : va_E :=
  if kd σ n < 100 then .inr (kd σ n - 1, (FB (kd σ n - 1)).mapIdx (mkf σ (kd σ n - 1) n))
  else if kd σ n < 102 then .inl (dA (kd σ n - 100), (ln σ n, .inl (fun i => ai σ n i)))
  else .inl (dA (kd σ n - 100), (ln σ n, .inr (.inr (.inr (.inr (fun i => ro (ar σ n i)))))))
/-- the heap H holds σ: every cell of a kind lies at or behind base -/
def WP (D : va_G) (dA : Nat → ClassId) (base : Nat) (σ : HS) (H : Heap) : Prop :=
  H.size = hs σ ∧ base ≤ hs σ ∧ ∀ n, kd σ n ≠ 0 → base < n ∧ va_at D vwCl (n - 1, mk dA σ n) H
def Wd (D : va_G) (dA : Nat → ClassId) (base : Nat) (σ : HS) (s : State) (H : Heap) (locs : List Loc) : Prop := WP D dA base σ H ∧ va_S (fun q => base ≤ q) s.heap H locs
theorem WP.ref {D : va_G} {dA : Nat → ClassId} {base : Nat} {σ : HS} {H : Heap} (h : WP D dA base σ H) {n k : Nat} (hk : kd σ n = k) (h0 : k ≠ 0) : ∃ a, n = a + 1 ∧ base ≤ a ∧ a < H.size ∧ va_at D vwCl (a, mk dA σ n) H := by
  obtain ⟨h1, h2⟩ := h.2.2 n (by rw [hk]; exact h0)
  cases n with
  | zero => omega
  | succ a => exact ⟨a, rfl, by omega, h2.lt, h2⟩
theorem mk_obj {dA : Nat → ClassId} {σ : HS} {n c : Nat} (h : kd σ n = c + 1) (hc : c < 99) : mk dA σ n = .inr (c, (FB c).mapIdx (mkf σ c n)) := by
  unfold mk; rw [h, if_pos (by omega)]; rfl
theorem mk_ia {dA : Nat → ClassId} {σ : HS} {n j : Nat} (h : kd σ n = 100 + j) (hj : j < 2) : mk dA σ n = .inl (dA j, (ln σ n, .inl (fun i => ai σ n i))) := by
  unfold mk; rw [h, if_neg (by omega), if_pos (by omega), show 100 + j - 100 = j by omega]
theorem mk_ra {dA : Nat → ClassId} {σ : HS} {n j : Nat} (h : kd σ n = 100 + j) (hj : 2 ≤ j) : mk dA σ n = .inl (dA j, (ln σ n, .inr (.inr (.inr (.inr (fun i => ro (ar σ n i))))))) := by
  unfold mk; rw [h, if_neg (by omega), if_neg (by omega), show 100 + j - 100 = j by omega]
theorem mk_si_ne {dA : Nat → ClassId} {σ : HS} {f n m : Nat} {v : Int32} (h : m ≠ n) : mk dA (si σ f n v) m = mk dA σ m := by
  have e : ∀ g, gi (si σ f n v) g m = gi σ g m := fun g => if_neg (fun q => h q.2)
  have hm : ∀ c, mkf (si σ f n v) c m = mkf σ c m := fun c => by
    funext k b; unfold mkf; rw [e]; rfl
  unfold mk; rw [hm]; rfl
theorem mk_sr_ne {dA : Nat → ClassId} {σ : HS} {f n m : Nat} {v : Nat} (h : m ≠ n) : mk dA (sr σ f n v) m = mk dA σ m := by
  have e : ∀ g, gr (sr σ f n v) g m = gr σ g m := fun g => if_neg (fun q => h q.2)
  have hm : ∀ c, mkf (sr σ f n v) c m = mkf σ c m := fun c => by
    funext k b; unfold mkf; rw [e]; rfl
  unfold mk; rw [hm]; rfl
theorem mk_sai_ne {dA : Nat → ClassId} {σ : HS} {i n m : Nat} {v : Int32} (h : m ≠ n) : mk dA (sai σ n i v) m = mk dA σ m := by
  have e : ∀ j, ai (sai σ n i v) m j = ai σ m j := fun j => if_neg (fun q => h q.1)
  unfold mk
  simp only [e]; rfl
theorem mk_sar_ne {dA : Nat → ClassId} {σ : HS} {i n m : Nat} {v : Nat} (h : m ≠ n) : mk dA (sar σ n i v) m = mk dA σ m := by
  have e : ∀ j, ar (sar σ n i v) m j = ar σ m j := fun j => if_neg (fun q => h q.1)
  unfold mk
  simp only [e]; rfl
theorem mk_nw_ne {dA : Nat → ClassId} {σ : HS} {k L m : Nat} (h : m ≠ hs σ + 1) : mk dA (nw σ k L) m = mk dA σ m := by
  have e1 : kd (nw σ k L) m = kd σ m := if_neg h
  have e2 : ln (nw σ k L) m = ln σ m := if_neg h
  have e3 : ∀ g, gi (nw σ k L) g m = gi σ g m := fun g => if_neg h
  have e4 : ∀ g, gr (nw σ k L) g m = gr σ g m := fun g => if_neg h
  have e5 : ∀ g, ai (nw σ k L) m g = ai σ m g := fun g => if_neg h
  have e6 : ∀ g, ar (nw σ k L) m g = ar σ m g := fun g => if_neg h
  have hm : ∀ c, mkf (nw σ k L) c m = mkf σ c m := fun c => by
    funext k b; unfold mkf; rw [e3, e4]
  unfold mk
  simp only [e1, e2, e5, e6, hm]
theorem mk_si_set {σ : HS} {c k n : Nat} {v : Int32} (hk : (FB c)[k]? = some false) : (FB c).mapIdx (mkf (si σ (40 * c + k) n v) c n) = ((FB c).mapIdx (mkf σ c n)).set k (.int v) := by
  apply List.ext_getElem?
  intro j
  rw [List.getElem?_set, List.getElem?_mapIdx, List.getElem?_mapIdx]
  by_cases hj : k = j
  · subst hj
    rw [if_pos rfl, if_pos (by rw [List.length_mapIdx]; exact (List.getElem?_eq_some_iff.mp hk).1), hk]
    simp [mkf, gi, si, up2]
  · rw [if_neg hj]
    congr 1
    funext b
    unfold mkf
    have e : gi (si σ (40 * c + k) n v) (40 * c + j) n = gi σ (40 * c + j) n := if_neg (fun q => hj (by omega))
    rw [e]; rfl
theorem mk_sr_set {σ : HS} {c k n : Nat} {v : Nat} (hk : (FB c)[k]? = some true) : (FB c).mapIdx (mkf (sr σ (40 * c + k) n v) c n) = ((FB c).mapIdx (mkf σ c n)).set k (vr v) := by
  apply List.ext_getElem?
  intro j
  rw [List.getElem?_set, List.getElem?_mapIdx, List.getElem?_mapIdx]
  by_cases hj : k = j
  · subst hj
    rw [if_pos rfl, if_pos (by rw [List.length_mapIdx]; exact (List.getElem?_eq_some_iff.mp hk).1), hk]
    simp [mkf, gr, sr, up2]
  · rw [if_neg hj]
    congr 1
    funext b
    unfold mkf
    have e : gr (sr σ (40 * c + k) n v) (40 * c + j) n = gr σ (40 * c + j) n := if_neg (fun q => hj (by omega))
    rw [e]; rfl
/-- one cell has changed -/
theorem WP.set {D : va_G} {dA : Nat → ClassId} {base : Nat} {σ σ' : HS} {H H1 : Heap} (h : WP D dA base σ H) {a : Nat} (hkd : kd σ' = kd σ) (hhs : hs σ' = hs σ) (hz : H1.size = H.size) (oq : ∀ q : Nat, q ≠ a → H1[q]? = H[q]?)
    (ho : ∀ n, n ≠ a + 1 → mk dA σ' n = mk dA σ n) (hat : va_at D vwCl (a, mk dA σ' (a + 1)) H1) : WP D dA base σ' H1 := by
  refine ⟨by rw [hz, hhs]; exact h.1, by rw [hhs]; exact h.2.1, fun n hn => ?_⟩
  rw [hkd] at hn
  obtain ⟨h1, h2⟩ := h.2.2 n hn
  refine ⟨h1, ?_⟩
  by_cases e : n = a + 1
  · subst e; exact hat
  · rw [ho n e]
    exact h2.kept (oq _ (by show n - 1 ≠ a; omega))
/-- one cell has come -/
theorem WP.push {D : va_G} {dA : Nat → ClassId} {base : Nat} {σ : HS} {H H1 : Heap} {k L : Nat} (h : WP D dA base σ H) (hz : H1.size = H.size + 1) (oq : ∀ q : Nat, q < H.size → H1[q]? = H[q]?)
    (hat : va_at D vwCl (H.size, mk dA (nw σ k L) (hs σ + 1)) H1) : WP D dA base (nw σ k L) H1 := by
  refine ⟨by rw [hz, h.1]; rfl, Nat.le_succ_of_le h.2.1, fun n hn => ?_⟩
  by_cases e : n = hs σ + 1
  · subst e
    refine ⟨by have := h.2.1; omega, ?_⟩
    rw [show hs σ + 1 - 1 = H.size from by rw [h.1]; rfl]
    exact hat
  · rw [show kd (nw σ k L) n = kd σ n from if_neg e] at hn
    obtain ⟨h1, h2⟩ := h.2.2 n hn
    rw [mk_nw_ne e]
    exact ⟨h1, h2.kept (oq _ h2.lt)⟩
