/-! THE ROWS OF THE MACHINE over HS. -/
theorem ifs {α : Type} {c : Prop} [Decidable c] {a : Option α} {y : α} (e : (if c then a else none) = some y) : c ∧ a = some y := by
  by_cases h : c
  · rw [if_pos h] at e; exact ⟨h, e⟩
  · rw [if_neg h] at e; cases e
theorem ifp {α : Type} {c : Prop} [Decidable c] {a b : Option α} {y : α} (h : c) (e : (if c then a else b) = some y) : a = some y := by rw [if_pos h] at e; exact e
theorem ifn {α : Type} {c : Prop} [Decidable c] {a b : Option α} {y : α} (h : ¬ c) (e : (if c then a else b) = some y) : b = some y := by rw [if_neg h] at e; exact e
/-- a call inside a function on HS -/
def bd {α β : Type} (x : Option (α × HS)) (f : α → HS → Option β) : Option β := match x with
  | none => none
  | some (a, s) => f a s
theorem bds {α β : Type} {x : Option (α × HS)} {f : α → HS → Option β} {y : β} (e : bd x f = some y) : ∃ (a : α) (s : HS), x = some (a, s) ∧ f a s = some y := by
  cases x with
  | none => cases e
  | some q => exact ⟨q.1, q.2, rfl, e⟩
theorem bd_eq {α β : Type} {x : Option (α × HS)} {f : α → HS → Option β} {a : α} {s : HS} (e : x = some (a, s)) : bd x f = f a s := by rw [e]; rfl
theorem rts {α : Type} {a b : α} {s t : HS} (e : some (a, s) = some (b, t)) : a = b ∧ s = t := by cases e; exact ⟨rfl, rfl⟩
/-- cells and slots only come -/
def LE (σ τ : HS) : Prop := hs σ ≤ hs τ ∧ ns σ ≤ ns τ
def Mo {α : Type} (σ : HS) (x : Option (α × HS)) : Prop := ∀ (r : α) (τ : HS), x = some (r, τ) → LE σ τ
theorem LE.rf {σ : HS} : LE σ σ := ⟨Nat.le_refl _, Nat.le_refl _⟩
theorem LE.tr {σ τ υ : HS} (a : LE σ τ) (b : LE τ υ) : LE σ υ := ⟨Nat.le_trans a.1 b.1, Nat.le_trans a.2 b.2⟩
theorem LE.nw {σ : HS} {k L : Nat} : LE σ (nw σ k L) := ⟨Nat.le_succ _, Nat.le_add_right _ _⟩
theorem mo_none {α : Type} {σ : HS} : Mo σ (none : Option (α × HS)) := fun _ _ h => by cases h
theorem mo_ite {α : Type} {σ : HS} {c : Prop} [Decidable c] {a b : Option (α × HS)} (ha : Mo σ a) (hb : Mo σ b) : Mo σ (if c then a else b) := by
  by_cases h : c
  · rw [if_pos h]; exact ha
  · rw [if_neg h]; exact hb
theorem mo_ret {α : Type} {σ : HS} {r : α} : Mo σ (some (r, σ)) := fun _ _ h => by cases h; exact LE.rf
theorem mo_bd {α β : Type} {σ : HS} {x : Option (α × HS)} {f : α → HS → Option (β × HS)} (hx : Mo σ x) (hf : ∀ a s, Mo s (f a s)) : Mo σ (bd x f) := by
  intro r τ h
  obtain ⟨a, s, e1, e2⟩ := bds h
  exact (hx a s e1).tr (hf a s r τ e2)
theorem mo_le {α : Type} {σ τ : HS} {x : Option (α × HS)} (h : LE σ τ) (hx : Mo τ x) : Mo σ x := fun r υ e => h.tr (hx r υ e)
-- words
def lw_good : List Cond := lw_tbl.filter goodWord
theorem lg_mem {w : Cond} (i : Nat) (h : lw_tbl[i]? = some w) (hg : goodWord w = true) : w ∈ lw_good := List.mem_filter.mpr ⟨List.mem_of_getElem? h, hg⟩
theorem lg_good {w0 : Cond} (h0 : w0 ∈ lw_good) : GoodIn lw_good (w0 :: lw_good) := by
  intro w hw
  rcases List.mem_cons.mp hw with rfl | h
  · exact ⟨h0, good_of_word (List.mem_filter.mp h0).2⟩
  · exact ⟨h, good_of_word (List.mem_filter.mp h).2⟩
def isNest (w : Cond) : Bool := match w with
  | .fieldLinkNest _ _ _ _ _ _ => true
  | .methodLinkNest _ _ _ _ => true
  | _ => false
def nestW : List Cond := lw_tbl.filter isNest
theorem nk_mem {w : Cond} (i : Nat) (h : lw_tbl[i]? = some w) (hg : isNest w = true) : w ∈ nestW := List.mem_filter.mpr ⟨List.mem_of_getElem? h, hg⟩
def NK (U : State) : Prop := ∀ w ∈ nestW, va_Nw w U
theorem NK.warm {s U : State} (hW : s.WarmedH U.vm) (h : NK s) : NK U := by
  intro w hw
  have h1 := h w hw
  have hn := (List.mem_filter.mp hw).2
  cases w <;> first | (cases hn; done) | exact va_Nw.warmF hW h1 | exact va_Nw.warmM hW h1
theorem NK.same {u U : State} (e : u.vm = U.vm) (h : NK u) : NK U := by
  intro w hw
  have h1 := h w hw
  have hn := (List.mem_filter.mp hw).2
  cases w <;> first | (cases hn; done) | exact va_Nw.same rfl e h1
abbrev tysA (dA : Nat → ClassId) : List (ClassId × FieldType) := [(dA 0, .int), (dA 1, .boolean), (dA 2, .object "SnapRows$Cell"), (dA 3, .object "SnapRows$Transaction")]
def KK (D : va_G) (dA : Nat → ClassId) (U : State) : Prop := va_K D vwCl (tysA dA) U ∧ NK U ∧ va_AO "SnapRows$Cell" U ∧ va_AO "SnapRows$Transaction" U
theorem KK.warm {D : va_G} {dA : Nat → ClassId} {s U : State} (hW : s.WarmedH U.vm) (h : KK D dA s) : KK D dA U := ⟨va_K.moved hW.alike h.1, NK.warm hW h.2.1, va_AO.moved hW.alike h.2.2.1, va_AO.moved hW.alike h.2.2.2⟩
theorem KK.same {D : va_G} {dA : Nat → ClassId} {u U : State} (e : u.vm = U.vm) (h : KK D dA u) : KK D dA U := by
  have ha : u.vm.Alike U.vm := by rw [e]; exact Vm.Alike.refl _
  exact ⟨va_K.moved ha h.1, NK.same e h.2.1, va_AO.moved ha h.2.2.1, va_AO.moved ha h.2.2.2⟩
-- contracts
def PC (D : va_G) (dA : Nat → ClassId) (base : Nat) (σ : HS) (av : List Value) : Array Value → State → Prop := va_Pc av (fun U => WP D dA base σ U.heap ∧ KK D dA U)
def QC (D : va_G) (dA : Nat → ClassId) (base : Nat) (v : Option Value) (τ : HS) : Array Value → State → Outcome → State → Prop := fun _ st oc t => oc = .returned v ∧ WP D dA base τ t.heap ∧ va_F (fun q => base ≤ q) st t
abbrev RM (fr lo : Nat) (σ τ : HS) : Room := { frames := fr, cells := hs τ - hs σ, slots := ns τ - ns σ, locals := lo }
def CT (l : Launch) (y : MethodName) (cc : ByteArray) (nL : Nat) (rt : Option FieldType) (fr lo : Nat) (D : va_G) (dA : Nat → ClassId) (base : Nat) (av : List Value) (v : Option Value) (σ τ : HS) : Prop :=
  Met l y (Cond.code y cc nL rt :: lw_good) (RM fr lo σ τ) (PC D dA base σ av) (QC D dA base v τ) (hs τ - hs σ) (ns τ - ns σ) (fun q => base ≤ q)
theorem pc_blind {D : va_G} {dA : Nat → ClassId} {base : Nat} {σ : HS} {av : List Value} : FrameBlind (PC D dA base σ av) := fun a U g mk h => ⟨h.1, h.2.1, KK.same (u := U) (U := U.calling g mk a) rfl h.2.2⟩
theorem pc_at {D : va_G} {dA : Nat → ClassId} {base : Nat} {σ : HS} {av : List Value} {s : State} {H : Heap} {locs : List Loc} (h : Wd D dA base σ s H locs) (hK : KK D dA s) : PreS s H (PC D dA base σ av) av :=
  ⟨pc_blind, fun U hU hW => ⟨rfl, by show WP D dA base σ U.heap; rw [hU]; exact h.1, KK.warm hW hK⟩⟩
/-- what holds in a method's body -/
def CX (p : Program) (s : State) (m : MethodId) (args : Array Value) (meth : Method) (c : Code) (cc : ByteArray) (nL : Nat) (rt : Option FieldType) (own nm : String) (D : va_G) (dA : Nat → ClassId) (base : Nat) : Prop :=
  p.tables.exec = Jvm.exec ∧ c.code = cc ∧ c.maxLocals = nL ∧ s.vm.findClass own = some m.cls ∧ (∀ w ∈ lw_good, w.before args s = true) ∧ meth.sig.returnType = rt ∧ meth.locks = false ∧ meth.name = nm ∧ KK D dA s ∧ base ≤ s.heap.size
theorem all_cat1 {av : List Value} (h : ∀ v ∈ av, v.category = 1) : ∀ i, lv_args i av = av.mapIdx (fun k v => (i + k, v)) := by
  induction av with
  | nil => intro i; rfl
  | cons v t ih =>
    intro i
    have hv := h v List.mem_cons_self
    rw [List.mapIdx_cons]
    show (i, v) :: lv_args (if v.category = 2 then i + 2 else i + 1) t = _
    rw [if_neg (by omega), ih (fun w hw => h w (List.mem_cons_of_mem _ hw))]
    congr 2
    funext k w
    rw [show i + 1 + k = i + (k + 1) by omega]
theorem sl_cat1 {av : List Value} (h : ∀ v ∈ av, v.category = 1) : (lg_sl av).length = av.length := by
  induction av with
  | nil => rfl
  | cons v t ih =>
    have hv := h v List.mem_cons_self
    have e : lg_sl (v :: t) = (if v.category = 2 then [.val v, .second] else [.val v]) ++ lg_sl t := by simp [lg_sl]
    rw [e, if_neg (by omega), List.length_append, ih (fun w hw => h w (List.mem_cons_of_mem _ hw))]
    simp; omega
theorem CT.of {l : Launch} {y : MethodName} {cc : ByteArray} {nL : Nat} {rt : Option FieldType} {fr lo : Nat} {D : va_G} {dA : Nat → ClassId} {base : Nat} {av : List Value} {v : Option Value} {σ τ : HS}
    (hy : plainName y.cls = true) (hc : ∀ v ∈ av, v.category = 1) (hn : av.length ≤ nL) {lv : List (Nat × Value)} (hlv : av.mapIdx (fun k v => (0 + k, v)) = lv)
    (body : ∀ (p : Program) (e : Env) (s : State) (m : MethodId) (args : Array Value) (below : List Frame) (meth : Method) (c : Code) (ls : Array Slot), CX p s m args meth c cc nL rt y.cls y.name D dA base → lv_has ls nL lv → Wd D dA base σ s s.heap [] →
      W p l e (RM fr lo σ τ) s m args below meth c s.heap [] (hs σ - hs σ) (ns σ - ns σ) (MQ below (QC D dA base v τ) args s (hs τ - hs σ) (ns τ - ns σ) (fun q => base ≤ q)) (F0 m 0 ls [])) : CT l y cc nL rt fr lo D dA base av v σ τ := by
  refine Met.ofW (cc := cc) (maxL := nL) (ret := rt) hy rfl ?_
  intro p e s m args below meth c s₁ B hml hv
  obtain ⟨rfl, hP, hK⟩ := hv
  have hts := atoms_spec (ws := Cond.code y cc nL rt :: lw_good) B.pre
  have hl := lv_entry av (n := nL) (by rw [sl_cat1 hc]; exact hn)
  rw [all_cat1 hc, hlv] at hl
  rw [lg_entry_eq]
  generalize (lg_sl av ++ List.replicate (nL - (lg_sl av).length) Slot.unset).toArray = ls at hl ⊢
  have hz : hs σ - hs σ = 0 := Nat.sub_self _
  have hz2 : ns σ - ns σ = 0 := Nat.sub_self _
  have K := body p e s m av.toArray below meth c ls ⟨B.exec, B.bytes, hml, findClass_of_methodNamed B.named, fun w h => hts w (List.mem_cons_of_mem _ h), B.returns, B.notSynchronized, (name_of_methodNamed B.named B.method).1, hK, by rw [hP.1]; exact hP.2.1⟩ hl ⟨hP, va_S.rf⟩
  rw [hz, hz2] at K
  exact K
