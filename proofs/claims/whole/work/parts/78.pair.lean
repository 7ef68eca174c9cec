/-! CALL BY CALL: the class and the reference answer the same -/
def pp (b : Nat) : Nat → Nat := fun j => b + j
def GO (b n : Nat) (A : AS) (σ : HS) : Prop := RC b A σ ∧ RMo (pp b) 3000 A σ ∧ PI n A
def PR (b n : Nat) (σ : HS) (F5 : Option (Int32 × HS)) (F6 : HS → Option (Int32 × HS)) : Prop := ∃ (r : Int32) (σ1 σ2 : HS) (A' : AS), F5 = some (r, σ1) ∧ RC b A' σ1 ∧ hs σ ≤ hs σ1 ∧ kd σ1 (pp b 294) = 7 ∧ F6 σ1 = some (r, σ2) ∧ hs σ2 = hs σ1 ∧ ns σ2 = ns σ1 ∧ GO b (n + 1) A' σ2
section
variable {b n : Nat} {A : AS} {σ : HS}
theorem pr_fin (G : GO b n A σ) {r : Int32} {τ1 : HS} {A' : AS} {F5 : Option (Int32 × HS)} {F6 : HS → Option (Int32 × HS)} (e5 : F5 = some (r, τ1)) (c : RC b A' τ1) (k : Cst b σ τ1) (mo : RMo (pp b) 3000 A τ1 → ∃ τ2, F6 τ1 = some (r, τ2) ∧ RMo (pp b) 3000 A' τ2 ∧ Mst (pp b) τ1 τ2) (pi : PI (n + 1) A') : PR b n σ F5 F6 := by
  obtain ⟨τ2, a1, a2, a3⟩ := mo (G.2.1.keep rfl k)
  exact ⟨r, τ1, τ2, A', e5, c, k.1, (G.2.1.keep rfl k).km, a1, a3.2.2.2.2.1, a3.2.2.2.2.2.1, c.keepM rfl a3, a2, pi⟩
/-- nothing changes: an answer alone -/
theorem pr_ans (G : GO b n A σ) {r : Int32} {F5 : Option (Int32 × HS)} {F6 : HS → Option (Int32 × HS)} (e5 : F5 = some (r, σ)) (mo : ∃ τ2, F6 σ = some (r, τ2) ∧ RMo (pp b) 3000 A τ2 ∧ Mst (pp b) σ τ2) : PR b n σ F5 F6 :=
  pr_fin G e5 G.1 Cst.rf (fun _ => mo) (G.2.2.up (by omega))
theorem GO.sm (G : GO b n A σ) (hn : n < 600) {m : Nat} (hm : m < 1000) : Sm m A := fun d => by
  have := G.2.2.1.2.1 d
  have := G.2.2.1.2.2.1
  have : NF = 100000 := rfl
  omega
theorem GO.pc (G : GO b n A σ) : ∀ c, c < 256 → Pce A c := G.2.2.1.2.2.2.2.1
theorem GO.cl (G : GO b n A σ) : ∀ k, k < 8 → Pcl A k := G.2.2.1.2.2.2.2.2
theorem noC5 {x : Int32} (h : ¬ ∃ k, k < 8 ∧ x = nI k) (σ : HS) : F_X5_isClient x σ = some (0, σ) := by
  obtain ⟨r, c1, c2, -⟩ := isClient_F x σ
  rw [c1, c2.resolve_right h]
theorem noR5 {x : Int32} (h : ¬ ∃ k, k < 64 ∧ x = nI k) (σ : HS) : F_X5_isRow x σ = some (0, σ) := by
  obtain ⟨r, c1, c2, -⟩ := isRow_F x σ
  rw [c1, c2.resolve_right h]
theorem noE5 {x y : Int32} (h : ¬ okCell x y) (σ : HS) : F_X5_isCell x y σ = some (0, σ) := by
  obtain ⟨r, c1, c2, -⟩ := isCell_F x y σ
  rw [c1, c2.resolve_right h]
theorem okC5 {k : Nat} (h : k < 8) (σ : HS) : ∃ r, F_X5_isClient (nI k) σ = some (r, σ) ∧ ¬ r = 0 := by
  obtain ⟨r, c1, -, c2⟩ := isClient_F (nI k) σ
  exact ⟨r, c1, c2 ⟨k, h, rfl⟩⟩
theorem pr_begin (G : GO b n A σ) (hn : n < 600) (x : Int32) : PR b n σ (F_X5_begin (b + 1) x σ) (fun τ => F_X6_begin (pp b 294) x τ) := by
  by_cases h : ∃ k, k < 8 ∧ x = nI k
  · obtain ⟨k, hk, rfl⟩ := h
    obtain ⟨τ1, a1, a2, a3⟩ := rc_begin G.1 hk
    refine pr_fin G a1 a2 a3 (fun h => mo_begin h G.2.2.1.kp hk (fun z => ?_)) (G.2.2.begin (by omega) hk)
    obtain ⟨-, h2, -⟩ := G.cl k hk
    exact ⟨(h2 z).2.2.2.2, (h2 z).2.2.2.1⟩
  · refine pr_ans (r := -1) G ?_ ?_
    · unfold F_X5_begin
      rw [bd_eq (noC5 h σ), if_pos rfl]
    · refine ⟨_, ?_, (mo_noC G.2.1).1, (mo_noC G.2.1).2⟩
      show F_X6_begin (pp b 294) x σ = _
      unfold F_X6_begin
      rw [if_pos G.2.1.km, bd_eq (noClient_no h _), if_neg (show ¬ (1 : Int32) = 0 by decide)]
theorem pr_commit (G : GO b n A σ) (hn : n < 600) (x : Int32) : PR b n σ (F_X5_commit (b + 1) x σ) (fun τ => F_X6_commit (pp b 294) x τ) := by
  by_cases h : ∃ k, k < 8 ∧ x = nI k
  · obtain ⟨k, hk, rfl⟩ := h
    obtain ⟨τ1, a1, a2, a3⟩ := rc_commit G.1 hk
    exact pr_fin G a1 a2 a3 (fun h => mo_commit h hk) ((G.2.2.commit hk).up (by omega))
  · refine pr_ans (r := -1) G ?_ ?_
    · unfold F_X5_commit
      rw [bd_eq (noC5 h σ), if_pos rfl]
    · refine ⟨_, ?_, (mo_noC G.2.1).1, (mo_noC G.2.1).2⟩
      show F_X6_commit (pp b 294) x σ = _
      unfold F_X6_commit
      rw [if_pos G.2.1.km, bd_eq (noClient_no h _), if_neg (show ¬ (1 : Int32) = 0 by decide)]
theorem pr_crash (G : GO b n A σ) (hn : n < 600) (x : Int32) : PR b n σ (F_X5_crash (b + 1) x σ) (fun τ => F_X6_crash (pp b 294) x τ) := by
  by_cases h : ∃ k, k < 8 ∧ x = nI k
  · obtain ⟨k, hk, rfl⟩ := h
    obtain ⟨τ1, a1, a2, a3⟩ := rc_crash G.1 hk
    exact pr_fin G a1 a2 a3 (fun h => mo_crash h G.2.2.1.kp hk) ((G.2.2.crash k).up (by omega))
  · refine pr_ans (r := -1) G ?_ ?_
    · unfold F_X5_crash
      rw [bd_eq (noC5 h σ), if_pos rfl]
    · refine ⟨_, ?_, (mo_noC G.2.1).1, (mo_noC G.2.1).2⟩
      show F_X6_crash (pp b 294) x σ = _
      unfold F_X6_crash
      rw [if_pos G.2.1.km, bd_eq (noClient_no h _), if_neg (show ¬ (1 : Int32) = 0 by decide)]
theorem pr_step (G : GO b n A σ) (hn : n < 600) (x : Int32) : PR b n σ (F_X5_step (b + 1) x σ) (fun τ => F_X6_step (pp b 294) x τ) := by
  by_cases h : ∃ k, k < 8 ∧ x = nI k
  · obtain ⟨k, hk, rfl⟩ := h
    obtain ⟨h1, h2, h3, h4, h5, h6, h7, h8, h9, h10⟩ := G.cl k hk
    obtain ⟨τ1, a1, a2, a3⟩ := rc_step (n := 10) G.1 (G.sm hn (by omega)) hk h5
    refine pr_fin G a1 a2 a3 (fun h => mo_step h G.pc G.2.2.1.kp G.2.2.2 hk h5 (fun z q => ?_) h9) (G.2.2.step (by omega) hk (G.1.2.2.2.1 k hk).2.2.2.2.2.2.1)
    have := (h3 z).1
    rw [q] at this
    exact Int32.lt_irrefl this
  · refine pr_ans (r := -1) G ?_ ?_
    · unfold F_X5_step
      rw [bd_eq (noC5 h σ), if_pos rfl]
    · refine ⟨_, ?_, (mo_noC G.2.1).1, (mo_noC G.2.1).2⟩
      show F_X6_step (pp b 294) x σ = _
      unfold F_X6_step
      rw [if_pos G.2.1.km, bd_eq (noClient_no h _), if_neg (show ¬ (1 : Int32) = 0 by decide)]
theorem pr_state (G : GO b n A σ) (hn : n < 600) (x w : Int32) : PR b n σ (F_X5_state (b + 1) x w σ) (fun τ => F_X6_state (pp b 294) x w τ) := by
  by_cases h : ∃ k, k < 8 ∧ x = nI k
  · obtain ⟨k, hk, rfl⟩ := h
    obtain ⟨h1, h2, h3, h4, h5, h6, h7, h8, h9, h10⟩ := G.cl k hk
    exact pr_ans G (rc_state G.1 hk w) (mo_state G.2.1 hk w h2 h8 h7)
  · refine pr_ans (r := -1) G ?_ ?_
    · unfold F_X5_state
      rw [bd_eq (noC5 h σ), if_pos rfl]
    · refine ⟨_, ?_, (mo_noC G.2.1).1, (mo_noC G.2.1).2⟩
      show F_X6_state (pp b 294) x w σ = _
      unfold F_X6_state
      rw [if_pos G.2.1.km, bd_eq (noClient_no h _), if_neg (show ¬ (1 : Int32) = 0 by decide)]
theorem pr_read (G : GO b n A σ) (hn : n < 600) (x y z : Int32) : PR b n σ (F_X5_read (b + 1) x y z σ) (fun τ => F_X6_read (pp b 294) x y z τ) := by
  by_cases h : ∃ k, k < 8 ∧ x = nI k
  · obtain ⟨k, hk, rfl⟩ := h
    by_cases h2 : okCell y z
    · obtain ⟨i, j, hi, hj, rfl, rfl⟩ := h2
      obtain ⟨-, -, -, h4, -⟩ := G.cl k hk
      obtain ⟨τ1, a1, a2, a3⟩ := rc_read (n := 10) G.1 (G.sm hn (by omega)) hk hi hj
      exact pr_fin G a1 a2 a3 (fun h => mo_read h G.pc G.2.2.1.kp hk (fun q hq => (h4 q hq).1) hi hj) (G.2.2.read (by omega))
    · refine pr_ans (r := -1) G ?_ ?_
      · obtain ⟨r, c1, c2⟩ := okC5 hk σ
        unfold F_X5_read
        rw [bd_eq c1, if_neg c2, bd_eq (noE5 h2 σ), if_pos rfl]
        rfl
      · refine ⟨_, ?_, (mo_noC G.2.1).1, (mo_noC G.2.1).2⟩
        show F_X6_read (pp b 294) (nI k) y z σ = _
        unfold F_X6_read
        rw [if_pos G.2.1.km, bd_eq (noClient_ok hk _), if_pos rfl, bd_eq (noCell_no h2 _), if_neg (show ¬ (1 : Int32) = 0 by decide)]
        rfl
  · refine pr_ans (r := -1) G ?_ ?_
    · unfold F_X5_read
      rw [bd_eq (noC5 h σ), if_pos rfl]
      rfl
    · refine ⟨_, ?_, (mo_noC G.2.1).1, (mo_noC G.2.1).2⟩
      show F_X6_read (pp b 294) x y z σ = _
      unfold F_X6_read
      rw [if_pos G.2.1.km, bd_eq (noClient_no h _), if_neg (show ¬ (1 : Int32) = 0 by decide)]
      rfl
theorem pr_write (G : GO b n A σ) (hn : n < 600) (x y z v : Int32) : PR b n σ (F_X5_write (b + 1) x y z v σ) (fun τ => F_X6_write (pp b 294) x y z v τ) := by
  by_cases h : ∃ k, k < 8 ∧ x = nI k
  · obtain ⟨k, hk, rfl⟩ := h
    by_cases h2 : okCell y z
    · obtain ⟨i, j, hi, hj, rfl, rfl⟩ := h2
      obtain ⟨τ1, a1, a2, a3⟩ := rc_write G.1 hk hi hj v
      exact pr_fin G a1 a2 a3 (fun h => mo_write h hk hi hj v) ((G.2.2.write hk (by omega) v).up (by omega))
    · refine pr_ans (r := -1) G ?_ ?_
      · obtain ⟨r, c1, c2⟩ := okC5 hk σ
        unfold F_X5_write
        rw [bd_eq c1, if_neg c2, bd_eq (noE5 h2 σ), if_pos rfl]
        rfl
      · refine ⟨_, ?_, (mo_noC G.2.1).1, (mo_noC G.2.1).2⟩
        show F_X6_write (pp b 294) (nI k) y z v σ = _
        unfold F_X6_write
        rw [if_pos G.2.1.km, bd_eq (noClient_ok hk _), if_pos rfl, bd_eq (noCell_no h2 _), if_neg (show ¬ (1 : Int32) = 0 by decide)]
        rfl
  · refine pr_ans (r := -1) G ?_ ?_
    · unfold F_X5_write
      rw [bd_eq (noC5 h σ), if_pos rfl]
      rfl
    · refine ⟨_, ?_, (mo_noC G.2.1).1, (mo_noC G.2.1).2⟩
      show F_X6_write (pp b 294) x y z v σ = _
      unfold F_X6_write
      rw [if_pos G.2.1.km, bd_eq (noClient_no h _), if_neg (show ¬ (1 : Int32) = 0 by decide)]
      rfl
theorem pr_next (G : GO b n A σ) (hn : n < 600) (x y : Int32) : PR b n σ (F_X5_next (b + 1) x y σ) (fun τ => F_X6_next (pp b 294) x y τ) := by
  by_cases h : ∃ k, k < 8 ∧ x = nI k
  · obtain ⟨k, hk, rfl⟩ := h
    by_cases h2 : ∃ i, i < 64 ∧ y = nI i
    · obtain ⟨i, hi, rfl⟩ := h2
      obtain ⟨-, -, -, h4, -⟩ := G.cl k hk
      obtain ⟨τ1, a1, a2, a3⟩ := rc_next (n := 10) G.1 (G.sm hn (by omega)) hk hi
      exact pr_fin G a1 a2 a3 (fun h => mo_next h G.pc G.2.2.1.kp G.2.2.2 hk (fun q hq => (h4 q hq).1) hi) (G.2.2.next hi)
    · refine pr_ans (r := -1) G ?_ ?_
      · obtain ⟨r, c1, c2⟩ := okC5 hk σ
        unfold F_X5_next
        rw [bd_eq c1, if_neg c2, bd_eq (noR5 h2 σ), if_pos rfl]
        rfl
      · refine ⟨_, ?_, (mo_noC G.2.1).1, (mo_noC G.2.1).2⟩
        show F_X6_next (pp b 294) (nI k) y σ = _
        unfold F_X6_next
        rw [if_pos G.2.1.km, bd_eq (noClient_ok hk _), if_pos rfl, show (63 : Int32) = nI 63 from rfl, bd_eq (in_no (by decide) h2 _), if_pos rfl]
        rfl
  · refine pr_ans (r := -1) G ?_ ?_
    · unfold F_X5_next
      rw [bd_eq (noC5 h σ), if_pos rfl]
      rfl
    · refine ⟨_, ?_, (mo_noC G.2.1).1, (mo_noC G.2.1).2⟩
      show F_X6_next (pp b 294) x y σ = _
      unfold F_X6_next
      rw [if_pos G.2.1.km, bd_eq (noClient_no h _), if_neg (show ¬ (1 : Int32) = 0 by decide)]
      rfl
theorem pr_lock (G : GO b n A σ) (hn : n < 600) (y z w : Int32) : PR b n σ (F_X5_lock (b + 1) y z w σ) (fun τ => F_X6_lock (pp b 294) y z w τ) := by
  by_cases h2 : okCell y z
  · obtain ⟨i, j, hi, hj, rfl, rfl⟩ := h2
    have hP := G.pc (4 * i + j) (by omega)
    exact pr_ans G (rc_lockQ G.1 hi hj w) (mo_lockQ G.2.1 G.2.2.1.kp hi hj hP w)
  · refine pr_ans (r := -1) G ?_ ?_
    · unfold F_X5_lock
      rw [bd_eq (noE5 h2 σ), if_pos rfl]
    · refine ⟨_, ?_, (mo_noC G.2.1).1, (mo_noC G.2.1).2⟩
      show F_X6_lock (pp b 294) y z w σ = _
      unfold F_X6_lock
      rw [if_pos G.2.1.km, bd_eq (noCell_no h2 _), if_neg (show ¬ (1 : Int32) = 0 by decide)]
theorem pr_versions (G : GO b n A σ) (hn : n < 600) (y z : Int32) : PR b n σ (F_X5_versions (b + 1) y z σ) (fun τ => F_X6_versions (pp b 294) y z τ) := by
  by_cases h2 : okCell y z
  · obtain ⟨i, j, hi, hj, rfl, rfl⟩ := h2
    have hP := G.pc (4 * i + j) (by omega)
    exact pr_ans G (rc_versions (n := 10) G.1 (G.sm hn (by omega)) hi hj) (mo_versions G.2.1 hi hj)
  · refine pr_ans (r := -1) G ?_ ?_
    · unfold F_X5_versions
      rw [bd_eq (noE5 h2 σ), if_pos rfl]
    · refine ⟨_, ?_, (mo_noC G.2.1).1, (mo_noC G.2.1).2⟩
      show F_X6_versions (pp b 294) y z σ = _
      unfold F_X6_versions
      rw [if_pos G.2.1.km, bd_eq (noCell_no h2 _), if_neg (show ¬ (1 : Int32) = 0 by decide)]
theorem pr_version (G : GO b n A σ) (hn : n < 600) (y z u w : Int32) : PR b n σ (F_X5_version (b + 1) y z u w σ) (fun τ => F_X6_version (pp b 294) y z u w τ) := by
  by_cases h2 : okCell y z
  · obtain ⟨i, j, hi, hj, rfl, rfl⟩ := h2
    have hP := G.pc (4 * i + j) (by omega)
    exact pr_ans G (rc_version (n := 10) G.1 (G.sm hn (by omega)) hi hj u w) (mo_version G.2.1 hi hj hP u w)
  · refine pr_ans (r := -1) G ?_ ?_
    · unfold F_X5_version
      rw [bd_eq (noE5 h2 σ), if_pos rfl]
    · refine ⟨_, ?_, (mo_noC G.2.1).1, (mo_noC G.2.1).2⟩
      show F_X6_version (pp b 294) y z u w σ = _
      unfold F_X6_version
      rw [if_pos G.2.1.km, bd_eq (noCell_no h2 _), if_neg (show ¬ (1 : Int32) = 0 by decide)]
      rfl
theorem pr_data (G : GO b n A σ) (hn : n < 600) (y z w : Int32) : PR b n σ (F_X5_data (b + 1) y z w σ) (fun τ => F_X6_data (pp b 294) y z w τ) := by
  by_cases h2 : okCell y z
  · obtain ⟨i, j, hi, hj, rfl, rfl⟩ := h2
    have hP := G.pc (4 * i + j) (by omega)
    exact pr_ans G (rc_data (n := 10) G.1 (G.sm hn (by omega)) hi hj w) (mo_data G.2.1 hi hj hP w)
  · refine pr_ans (r := -1) G ?_ ?_
    · unfold F_X5_data
      rw [bd_eq (noE5 h2 σ), if_pos rfl]
    · refine ⟨_, ?_, (mo_noC G.2.1).1, (mo_noC G.2.1).2⟩
      show F_X6_data (pp b 294) y z w σ = _
      unfold F_X6_data
      rw [if_pos G.2.1.km, bd_eq (noCell_no h2 _), if_neg (show ¬ (1 : Int32) = 0 by decide)]
theorem pr_tick (G : GO b n A σ) (hn : n < 600) (x : Int32) : PR b n σ (F_X5_tick (b + 1) x σ) (fun τ => F_X6_tick (pp b 294) x τ) := by
  by_cases h : okT x ∧ x ≤ 2147483647 - zsc A 0
  · obtain ⟨τ1, a1, a2, a3⟩ := rc_tick1 G.1 h
    exact pr_fin G a1 a2 a3 (fun z => mo_tick1 z h) (PI.up ⟨G.2.2.1.sc _ (by decide) (by decide), G.2.2.2⟩ (by omega))
  · exact pr_ans G (rc_tick0 G.1 h) (mo_tick0 G.2.1 h)
theorem pr_timeout (G : GO b n A σ) (hn : n < 600) (x : Int32) : PR b n σ (F_X5_timeout (b + 1) x σ) (fun τ => F_X6_timeout (pp b 294) x τ) := by
  by_cases h : okT x
  · obtain ⟨τ1, a1, a2, a3⟩ := rc_time1 G.1 h
    exact pr_fin G a1 a2 a3 (fun z => mo_time1 z h) (PI.up ⟨G.2.2.1.sc _ (by decide) (by decide), G.2.2.2⟩ (by omega))
  · exact pr_ans G (rc_time0 h) (mo_time0 G.2.1 h)
theorem pr_fallOracle (G : GO b n A σ) (hn : n < 600) : PR b n σ (F_X5_fallOracle (b + 1) σ) (fun τ => F_X6_fallOracle (pp b 294) τ) := by
  obtain ⟨τ1, a1, a2, a3⟩ := rc_fallO G.1
  exact pr_fin G a1 a2 a3 (fun z => mo_fallO z) (PI.up ⟨G.2.2.1.fallO (by omega), G.2.2.2⟩ (by omega))
theorem pr_fall (G : GO b n A σ) (hn : n < 600) : PR b n σ (F_X5_fall (b + 1) σ) (fun τ => F_X6_fall (pp b 294) τ) := pr_ans G (rc_fall G.1) (mo_fall G.2.1)
theorem pr_told (G : GO b n A σ) (hn : n < 600) (w : Int32) : PR b n σ (F_X5_told (b + 1) w σ) (fun τ => F_X6_told (pp b 294) w τ) := pr_ans G (rc_told G.1 w) (mo_told G.2.1 w)
theorem pr_sweep (G : GO b n A σ) (hn : n < 600) (t : Int32) : PR b n σ (F_X5_sweep (b + 1) t σ) (fun τ => F_X6_sweep (pp b 294) t τ) := by
  obtain ⟨τ1, a1, a2, a3⟩ := rc_sweep (n := 10) G.1 (G.sm hn (by omega)) t (fun d hd => (G.pc d hd).nw)
  exact pr_fin G a1 a2 a3 (fun z => mo_sweep z G.pc G.2.2.1.kp t) ((G.2.2.sweep t).up (by omega))
end
