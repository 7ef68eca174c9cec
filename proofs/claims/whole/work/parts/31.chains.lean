/-! CHAINS OF ENTRIES (class SnapRows$Entry: key 40, info 41, below 42; kind 2) -/
def ch (σ : HS) : Nat → List Nat → Prop
  | p, [] => p = 0
  | p, a :: L => p = a ∧ a ≠ 0 ∧ kd σ a = 2 ∧ ch σ (gr σ 42 a) L
def kv (σ : HS) (a : Nat) : Int32 × Int32 := (gi σ 40 a, gi σ 41 a)
theorem NF_big {n : Nat} (h : n < 100000) : n < NF := h
/-- a chain is the same where its cells are -/
theorem ch_same {σ τ : HS} : ∀ (L : List Nat) (p : Nat), (∀ a ∈ L, kd τ a = kd σ a ∧ gr τ 42 a = gr σ 42 a) → ch σ p L → ch τ p L
  | [], _, _, h => h
  | a :: L, p, hs, ⟨h1, h2, h3, h4⟩ => by
    obtain ⟨e1, e2⟩ := hs a List.mem_cons_self
    refine ⟨h1, h2, by rw [e1]; exact h3, ?_⟩
    rw [e2]
    exact ch_same L _ (fun x hx => hs x (List.mem_cons_of_mem _ hx)) h4
theorem kv_same {σ τ : HS} {L : List Nat} (h : ∀ a ∈ L, gi τ 40 a = gi σ 40 a ∧ gi τ 41 a = gi σ 41 a) : L.map (kv τ) = L.map (kv σ) := by
  apply List.map_congr_left
  intro a ha
  unfold kv
  rw [(h a ha).1, (h a ha).2]
theorem withKey_L : ∀ (L : List Nat) (N p : Nat) (key : Int32) (σ : HS), ch σ p L → L.length < N → L_X1_withKey_2 N key p σ = some ((L.find? (fun a => decide (gi σ 40 a = key))).getD 0, σ) := by
  intro L
  induction L with
  | nil =>
    intro N p key σ h hN
    obtain ⟨N, rfl⟩ : ∃ M, N = M + 1 := ⟨N - 1, by simp at hN; omega⟩
    have h : p = 0 := h
    simp [L_X1_withKey_2, B_X1_withKey_2, h]
  | cons a L ih =>
    intro N p key σ h hN
    obtain ⟨N, rfl⟩ : ∃ M, N = M + 1 := ⟨N - 1, by simp at hN; omega⟩
    obtain ⟨rfl, h2, h3, h4⟩ := h
    have hN : L.length < N := by simp at hN; omega
    simp only [L_X1_withKey_2, B_X1_withKey_2, if_neg h2, if_pos h3, List.find?_cons]
    by_cases e : gi σ 40 p = key
    · simp [e]
    · simp only [e, if_false, decide_false]
      exact ih N _ key σ h4 hN
theorem withKey_F {L : List Nat} {p : Nat} {key : Int32} {σ : HS} (h : ch σ p L) (hN : L.length < NF) : F_X1_withKey p key σ = some ((L.find? (fun a => decide (gi σ 40 a = key))).getD 0, σ) := withKey_L L NF p key σ h hN
theorem withInfo_L : ∀ (L : List Nat) (N p : Nat) (key : Int32) (σ : HS), ch σ p L → L.length < N → L_X1_withInfo_2 N key p σ = some ((L.find? (fun a => decide (gi σ 41 a = key))).getD 0, σ) := by
  intro L
  induction L with
  | nil =>
    intro N p key σ h hN
    obtain ⟨N, rfl⟩ : ∃ M, N = M + 1 := ⟨N - 1, by simp at hN; omega⟩
    have h : p = 0 := h
    simp [L_X1_withInfo_2, B_X1_withInfo_2, h]
  | cons a L ih =>
    intro N p key σ h hN
    obtain ⟨N, rfl⟩ : ∃ M, N = M + 1 := ⟨N - 1, by simp at hN; omega⟩
    obtain ⟨rfl, h2, h3, h4⟩ := h
    have hN : L.length < N := by simp at hN; omega
    simp only [L_X1_withInfo_2, B_X1_withInfo_2, if_neg h2, if_pos h3, List.find?_cons]
    by_cases e : gi σ 41 p = key
    · simp [e]
    · simp only [e, if_false, decide_false]
      exact ih N _ key σ h4 hN
theorem withInfo_F {L : List Nat} {p : Nat} {key : Int32} {σ : HS} (h : ch σ p L) (hN : L.length < NF) : F_X1_withInfo p key σ = some ((L.find? (fun a => decide (gi σ 41 a = key))).getD 0, σ) := withInfo_L L NF p key σ h hN
theorem count_L : ∀ (L : List Nat) (N p : Nat) (n : Nat) (σ : HS), ch σ p L → L.length < N → L_X1_count_4 N (nI n) p σ = some (nI (n + L.length), σ) := by
  intro L
  induction L with
  | nil =>
    intro N p n σ h hN
    obtain ⟨N, rfl⟩ : ∃ M, N = M + 1 := ⟨N - 1, by simp at hN; omega⟩
    have h : p = 0 := h
    simp [L_X1_count_4, B_X1_count_4, h]
  | cons a L ih =>
    intro N p n σ h hN
    obtain ⟨N, rfl⟩ : ∃ M, N = M + 1 := ⟨N - 1, by simp at hN; omega⟩
    obtain ⟨rfl, h2, h3, h4⟩ := h
    have hN : L.length < N := by simp at hN; omega
    simp only [L_X1_count_4, B_X1_count_4, if_neg h2, if_pos h3]
    rw [nI_1, ih N _ (n + 1) σ h4 hN, List.length_cons, show n + 1 + L.length = n + (L.length + 1) by omega]
theorem count_F {L : List Nat} {p : Nat} {σ : HS} (h : ch σ p L) (hN : L.length < NF) : F_X1_count p σ = some (nI L.length, σ) := by
  have := count_L L NF p 0 σ h hN
  rw [nI_0, Nat.zero_add] at this
  exact this
theorem atPlace_L : ∀ (L : List Nat) (N p n : Nat) (i : Int32) (σ : HS), ch σ p L → L.length < N → n + L.length < 2 ^ 31 → L_X1_atPlace_4 N i (nI n) p σ = some (if nI n ≤ i then L.getD (i.toNatClampNeg - n) 0 else 0, σ) := by
  intro L
  induction L with
  | nil =>
    intro N p n i σ h hN hn
    obtain ⟨N, rfl⟩ : ∃ M, N = M + 1 := ⟨N - 1, by simp at hN; omega⟩
    have h : p = 0 := h
    simp [L_X1_atPlace_4, B_X1_atPlace_4, h]
  | cons a L ih =>
    intro N p n i σ h hN hn
    obtain ⟨N, rfl⟩ : ∃ M, N = M + 1 := ⟨N - 1, by simp at hN; omega⟩
    obtain ⟨rfl, h2, h3, h4⟩ := h
    have hN : L.length < N := by simp at hN; omega
    have hn' : n + 1 + L.length < 2 ^ 31 := by simp at hn; omega
    simp only [L_X1_atPlace_4, B_X1_atPlace_4, if_neg h2, if_pos h3]
    by_cases e : nI n = i
    · rw [if_pos e, if_pos (by rw [e]; exact Int32.le_refl _), ← e, nI_clamp (by omega)]
      simp
    · rw [if_neg e, nI_1, ih N _ (n + 1) i σ h4 hN hn']
      congr 2
      have ne : (nI n).toInt ≠ i.toInt := fun q => e (Int32.toInt_inj.mp q)
      rw [nI_toInt (by omega)] at ne
      simp only [Int32.le_iff_toInt_le]
      rw [nI_toInt (by omega), nI_toInt (by omega)]
      by_cases c : (n : Int) ≤ i.toInt
      · rw [if_pos c, if_pos (by omega)]
        have hc : (i.toNatClampNeg : Int) = i.toInt := by
          show ((i.toInt.toNat : Nat) : Int) = i.toInt
          omega
        rw [show i.toNatClampNeg - n = (i.toNatClampNeg - (n + 1)) + 1 by omega]
        simp
      · rw [if_neg c, if_neg (by omega)]
theorem atPlace_F {L : List Nat} {p : Nat} {i : Int32} {σ : HS} (h : ch σ p L) (hN : L.length < NF) : F_X1_atPlace p i σ = some (if 0 ≤ i then L.getD i.toNatClampNeg 0 else 0, σ) := by
  have := atPlace_L L NF p 0 i σ h hN (by have : NF = 100000 := rfl; omega)
  rw [nI_0, Nat.sub_zero] at this
  exact this

def vOf (l : List (Int32 × Int32)) (s : Int32) : Int32 := match l.find? (fun q => decide (q.1 = s)) with
  | none => -1
  | some q => q.2
def vAt (ws vs : List (Int32 × Int32)) (t : Int32) : Int32 := match ws.find? (fun q => decide (q.1 ≤ t ∧ q.2 ≠ 0)) with
  | none => -1
  | some q => vOf vs q.2
theorem find_ch {σ : HS} : ∀ {L : List Nat} {p : Nat}, ch σ p L → ∀ {P : Nat → Bool} {a : Nat}, L.find? P = some a → a ≠ 0 ∧ kd σ a = 2 ∧ a ∈ L
  | [], _, _, P, a, h => by cases h
  | x :: L, p, ⟨h1, h2, h3, h4⟩, P, a, h => by
    rw [List.find?_cons] at h
    cases e : P x with
    | true => rw [e] at h; cases h; exact ⟨h2, h3, List.mem_cons_self⟩
    | false =>
      rw [e] at h
      obtain ⟨q1, q2, q3⟩ := find_ch h4 h
      exact ⟨q1, q2, List.mem_cons_of_mem _ q3⟩
theorem valueOf_F {σ : HS} {C : Nat} {key : Int32} {L : List Nat} (hC : kd σ C = 1) (h : ch σ (gr σ 0 C) L) (hN : L.length < NF) : F_X0_valueOf C key σ = some (vOf (L.map (kv σ)) key, σ) := by
  unfold F_X0_valueOf
  rw [if_pos hC, bd_eq (withKey_F h hN)]
  unfold vOf
  rw [List.find?_map]
  show _ = some ((match ((L.find? (fun a => decide (gi σ 40 a = key))).map (kv σ)) with | none => (-1 : Int32) | some q => q.2), σ)
  cases e : L.find? (fun a => decide (gi σ 40 a = key)) with
  | none => simp [B_X0_valueOf_21]
  | some a =>
    obtain ⟨q1, q2, -⟩ := find_ch h e
    simp [q1, q2, B_X0_valueOf_21, kv]
theorem valueAt_L : ∀ (L : List Nat) (N p C : Nat) (t : Int32) (V : List Nat) (σ : HS), kd σ C = 1 → ch σ (gr σ 0 C) V → V.length < NF → ch σ p L → L.length < N → L_X0_valueAt_5 N C t p σ = some (vAt (L.map (kv σ)) (V.map (kv σ)) t, σ) := by
  intro L
  induction L with
  | nil =>
    intro N p C t V σ hC hV hVN h hN
    obtain ⟨N, rfl⟩ : ∃ M, N = M + 1 := ⟨N - 1, by simp at hN; omega⟩
    have h : p = 0 := h
    simp [L_X0_valueAt_5, B_X0_valueAt_5, h, vAt]
  | cons a L ih =>
    intro N p C t V σ hC hV hVN h hN
    obtain ⟨N, rfl⟩ : ∃ M, N = M + 1 := ⟨N - 1, by simp at hN; omega⟩
    obtain ⟨rfl, h2, h3, h4⟩ := h
    have hN : L.length < N := by simp at hN; omega
    have next := ih N _ C t V σ hC hV hVN h4 hN
    simp only [L_X0_valueAt_5, B_X0_valueAt_5, B_X0_valueAt_33, if_neg h2, if_pos h3, if_pos hC]
    have hd : ∀ b : Bool, decide ((kv σ p).1 ≤ t ∧ (kv σ p).2 ≠ 0) = b → vAt (List.map (kv σ) (p :: L)) (V.map (kv σ)) t = (match b with | true => vOf (V.map (kv σ)) (gi σ 41 p) | false => vAt (L.map (kv σ)) (V.map (kv σ)) t) := by
      intro b hb
      unfold vAt
      rw [List.map_cons, List.find?_cons, hb]
      cases b <;> rfl
    by_cases e : t < gi σ 40 p
    · rw [if_pos e, next, hd false (decide_eq_false (fun q => absurd q.1 (Int32.not_le.mpr e)))]
    · rw [if_neg e]
      by_cases e2 : gi σ 41 p = 0
      · rw [if_pos e2, next, hd false (by simp [kv, e2])]
      · rw [if_neg e2, bd_eq (valueOf_F hC hV hVN), hd true (decide_eq_true ⟨Int32.not_lt.mp e, e2⟩)]
theorem valueAt_F {σ : HS} {C : Nat} {t : Int32} {V L : List Nat} (hC : kd σ C = 1) (hV : ch σ (gr σ 0 C) V) (hVN : V.length < NF) (h : ch σ (gr σ 1 C) L) (hN : L.length < NF) : F_X0_valueAt C t σ = some (vAt (L.map (kv σ)) (V.map (kv σ)) t, σ) := by
  unfold F_X0_valueAt
  rw [if_pos hC]
  exact valueAt_L L NF _ C t V σ hC hV hVN h hN
/-- a chain without one of its entries: the walk from an entry x before it -/
theorem without_L : ∀ (L : List Nat) (N top x gone : Nat) (σ : HS), ch σ x (x :: L) → gone ∈ L → (x :: L).Nodup → L.length + 1 < N →
    ∃ a, a ∈ x :: L ∧ a ≠ gone ∧ L_X1_without_12 N top gone x σ = some (top, sr σ 42 a (gr σ 42 gone)) ∧ ch (sr σ 42 a (gr σ 42 gone)) x ((x :: L).erase gone) := by
  intro L
  induction L with
  | nil => intro N top x gone σ h hg; cases hg
  | cons y L ih =>
    intro N top x gone σ h hg hn hN
    obtain ⟨N, rfl⟩ : ∃ M, N = M + 1 := ⟨N - 1, by simp at hN; omega⟩
    obtain ⟨-, h2, h3, h4⟩ := h
    obtain ⟨e1, y2, y3, y4⟩ := h4
    have hxy : x ∉ y :: L := (List.nodup_cons.mp hn).1
    have hyL : y ∉ L := (List.nodup_cons.mp (List.nodup_cons.mp hn).2).1
    have hxg : x ≠ gone := fun q => hxy (q ▸ hg)
    by_cases e : y = gone
    · subst e
      refine ⟨x, List.mem_cons_self, hxg, ?_, ?_⟩
      · simp only [L_X1_without_12, B_X1_without_12, if_neg h2, if_pos h3, e1, if_true, if_pos y3]
      · rw [List.erase_cons_tail (by simpa using hxg), List.erase_cons_head]
        refine ⟨rfl, h2, h3, ?_⟩
        rw [show gr (sr σ 42 x (gr σ 42 y)) 42 x = gr σ 42 y from if_pos ⟨rfl, rfl⟩]
        refine ch_same (σ := σ) L _ (fun a ha => ⟨rfl, if_neg (fun q => ?_)⟩) y4
        rw [q.2] at ha
        exact hxy (List.mem_cons_of_mem _ ha)
    · have hgL : gone ∈ L := (List.mem_cons.mp hg).resolve_left (fun q => e q.symm)
      obtain ⟨a, a1, a2, a3, a4⟩ := ih N top y gone σ ⟨rfl, y2, y3, y4⟩ hgL (List.nodup_cons.mp hn).2 (by simp at hN ⊢; omega)
      refine ⟨a, List.mem_cons_of_mem _ a1, a2, ?_, ?_⟩
      · simp only [L_X1_without_12, B_X1_without_12, if_neg h2, if_pos h3, e1, if_neg e]
        exact a3
      · rw [List.erase_cons_tail (by simpa using hxg)]
        refine ⟨rfl, h2, h3, ?_⟩
        have hxa : x ≠ a := fun q => hxy (q ▸ a1)
        rw [show gr (sr σ 42 a (gr σ 42 gone)) 42 x = gr σ 42 x from if_neg (fun q => hxa q.2), e1]
        exact a4
theorem without_F {σ : HS} {L : List Nat} {p gone : Nat} (h : ch σ p L) (hg : gone ∈ L) (hn : L.Nodup) (hN : L.length < NF) :
    ∃ (r : Nat) (τ : HS), F_X1_without p gone σ = some (r, τ) ∧ ch τ r (L.erase gone) ∧ (τ = σ ∨ ∃ a ∈ L, a ≠ gone ∧ τ = sr σ 42 a (gr σ 42 gone)) := by
  cases L with
  | nil => cases hg
  | cons x L =>
    obtain ⟨rfl, h2, h3, h4⟩ := h
    unfold F_X1_without
    by_cases e : p = gone
    · subst e
      refine ⟨gr σ 42 p, σ, by rw [if_pos rfl, if_pos h3], ?_, Or.inl rfl⟩
      rw [List.erase_cons_head]; exact h4
    · have hgL : gone ∈ L := (List.mem_cons.mp hg).resolve_left (fun q => e q.symm)
      obtain ⟨a, a1, a2, a3, a4⟩ := without_L L NF p p gone σ ⟨rfl, h2, h3, h4⟩ hgL hn hN
      exact ⟨p, _, by rw [if_neg e]; exact a3, a4, Or.inr ⟨a, a1, a2, rfl⟩⟩
