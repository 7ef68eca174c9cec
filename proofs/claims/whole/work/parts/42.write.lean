/-! OWN WRITES, WRITE, COMMIT, CRASH, BEGIN (class) -/
section
variable {b n : Nat} {A : AS} {σ : HS}
theorem rc_tput (h : RC b A σ) {k c : Nat} (hk : k < 8) (hc : c < 256) (v : Int32) : ∃ τ, F_X4_put (b + 262 + 4 * k) (nI c) v σ = some (if (aOwn A k c v).isSome then 1 else 0, τ) ∧ RC b ((aOwn A k c v).getD A) τ ∧ Cst b σ τ := by
  obtain ⟨t1, t2, t3, t4, t5, t6, t7, t8, t9, t10, t11⟩ := h.tk hk
  obtain ⟨u1, u2, u3, u4, u5, u6, u7, u8, u9, u10⟩ := h.2.2.2.1 k hk
  have hz := h.sz
  unfold F_X4_put aOwn
  rw [if_pos t2, bd_eq (rc_placeOf h hk hc)]
  cases e : plc (zow A k) c with
  | some j =>
    obtain ⟨q, p1, p2, p3, p4⟩ := plc_some e
    refine ⟨sai σ (b + 264 + 4 * k) j v, ?_, rc_put1 h hk hc p1 p2, Cst.rf.sai (by omega)⟩
    show (if nI j < 0 then _ else _) = _
    rw [if_neg (nI_pos (by omega)), if_pos t2, t4, t10, if_pos ⟨t7, inb_nI (by omega) (by omega)⟩, nI_clamp (by omega)]
    rfl
  | none =>
    show ∃ τ, (if (-1 : Int32) < 0 then _ else _) = _ ∧ _
    rw [if_pos (by decide), if_pos t2, u6]
    by_cases e2 : (zow A k).length < 16
    · rw [if_pos (by rw [nI_16]; exact nI_lt e2 (by decide))]
      simp only [if_pos e2, Option.isSome_some, if_true, Option.getD_some, lt1]
      have hb : ∀ q ∈ zow A k, q.1 < 256 := fun q hq => by
        obtain ⟨i, hi⟩ := List.getElem?_of_mem hq
        exact (u8 i q hi).2.2
      have hrl : (rws (zow A k)).length < 16 := Nat.lt_of_le_of_lt (rws_len _) e2
      rw [t3, t9, if_pos ⟨t6, inb_nI e2 (by decide)⟩, nI_clamp (by omega)]
      have c2 : kd (sai σ (b + 263 + 4 * k) (zow A k).length (nI c)) (gr (sai σ (b + 263 + 4 * k) (zow A k).length (nI c)) 166 (b + 262 + 4 * k)) = 100 ∧ inb (gi (sai σ (b + 263 + 4 * k) (zow A k).length (nI c)) 164 (b + 262 + 4 * k)) (ln (sai σ (b + 263 + 4 * k) (zow A k).length (nI c)) (gr (sai σ (b + 263 + 4 * k) (zow A k).length (nI c)) 166 (b + 262 + 4 * k))) := by
        show kd σ (gr σ 166 (b + 262 + 4 * k)) = 100 ∧ inb (gi σ 164 (b + 262 + 4 * k)) (ln σ (gr σ 166 (b + 262 + 4 * k)))
        rw [t4, t10, u6]; exact ⟨t7, inb_nI e2 (by decide)⟩
      have s8 : sai (sai σ (b + 263 + 4 * k) (zow A k).length (nI c)) (gr (sai σ (b + 263 + 4 * k) (zow A k).length (nI c)) 166 (b + 262 + 4 * k)) (gi (sai σ (b + 263 + 4 * k) (zow A k).length (nI c)) 164 (b + 262 + 4 * k)).toNatClampNeg v = sai (sai σ (b + 263 + 4 * k) (zow A k).length (nI c)) (b + 264 + 4 * k) (zow A k).length v := by
        show sai _ (gr σ 166 (b + 262 + 4 * k)) (gi σ 164 (b + 262 + 4 * k)).toNatClampNeg v = _
        rw [t4, u6, nI_clamp (by omega)]
      have g8 : gi (sai (sai σ (b + 263 + 4 * k) (zow A k).length (nI c)) (b + 264 + 4 * k) (zow A k).length v) 164 (b + 262 + 4 * k) = nI (zow A k).length := u6
      rw [if_pos c2, s8, g8, nI_1, show (4 : Int32) = nI 4 from rfl, pk_div (by omega) (by decide) (by decide)]
      have hsh : ShC b (si (sai (sai σ (b + 263 + 4 * k) (zow A k).length (nI c)) (b + 264 + 4 * k) (zow A k).length v) 164 (b + 262 + 4 * k) (nI ((zow A k).length + 1))) := h.1.keep (((Cst.rf.sai (by omega)).sai (by omega)).si (by decide))
      have hp := putRow_L hsh hk (row := c / 4) (by omega) (L := rws (zow A k)) hrl (by simp only [gi_si, gi_sr, gi_sai, gi_sar, gr_si, gr_sr, gr_sai, gr_sar, ai_si, ai_sr, ai_sai, ai_sar, ar_si, ar_sr, ar_sai, ar_sar, kd_si, kd_sr, kd_sai, kd_sar, ln_si, ln_sr, ln_sai, ln_sar, hs_si, hs_sr, hs_sai, hs_sar, ns_si, ns_sr, ns_sai, ns_sar]; simp [u9]) (fun i r hr => by simp only [gi_si, gi_sr, gi_sai, gi_sar, gr_si, gr_sr, gr_sai, gr_sar, ai_si, ai_sr, ai_sai, ai_sar, ar_si, ar_sr, ar_sai, ar_sar, kd_si, kd_sr, kd_sai, kd_sar, ln_si, ln_sr, ln_sai, ln_sar, hs_si, hs_sr, hs_sai, hs_sar, ns_si, ns_sr, ns_sai, ns_sar]; rw [if_neg (by omega), if_neg (by omega)]; exact u10 i r hr) (rws_lt hb) (rws (zow A k)).length NF 0 (by omega) (by have : NF = 100000 := rfl; omega)
      rw [nI_0, List.drop_zero] at hp
      have hp' : F_X4_putRow (b + 262 + 4 * k) (nI (c / 4)) (si (sai (sai σ (b + 263 + 4 * k) (zow A k).length (nI c)) (b + 264 + 4 * k) (zow A k).length v) 164 (b + 262 + 4 * k) (nI ((zow A k).length + 1))) = _ := hp
      rw [bd_eq hp']
      refine ⟨_, rfl, ?_, ?_⟩
      · obtain ⟨h1, h2, h3, h4, h5⟩ := h
        have cst : ∀ τ, τ = (if c / 4 ∈ rws (zow A k) then (si (sai (sai σ (b + 263 + 4 * k) (zow A k).length (nI c)) (b + 264 + 4 * k) (zow A k).length v) 164 (b + 262 + 4 * k) (nI ((zow A k).length + 1))) else si (sai (si (sai (sai σ (b + 263 + 4 * k) (zow A k).length (nI c)) (b + 264 + 4 * k) (zow A k).length v) 164 (b + 262 + 4 * k) (nI ((zow A k).length + 1))) (b + 265 + 4 * k) (rws (zow A k)).length (nI (c / 4))) 167 (b + 262 + 4 * k) (nI ((rws (zow A k)).length + 1))) → RC b (uow A k (zow A k ++ [(c, v)])) τ := by
          intro τ hτ
          have er := rws_add (zow A k) c v
          have hlen : (zow A k ++ [(c, v)]).length = (zow A k).length + 1 := by simp
          have look : ∀ i q, (zow A k ++ [(c, v)])[i]? = some q → (i < (zow A k).length ∧ (zow A k)[i]? = some q) ∨ (i = (zow A k).length ∧ q = (c, v)) := by
            intro i q hq
            by_cases hi : i < (zow A k).length
            · rw [List.getElem?_append_left hi] at hq; exact Or.inl ⟨hi, hq⟩
            · rw [List.getElem?_append_right (by omega)] at hq
              have hz1 : i - (zow A k).length < 1 := (List.getElem?_eq_some_iff.mp hq).1
              rw [show i - (zow A k).length = 0 by omega] at hq
              cases hq
              exact Or.inr ⟨by omega, rfl⟩
          by_cases em : c / 4 ∈ rws (zow A k)
          · rw [if_pos em] at hτ er
            subst hτ
            refine ⟨hsh, h2.keep hz (Ag.rf.sai.sai.si (by decide)) rfl rfl, h3.keep hz (Ag.rf.sai.sai.si (by decide)), fun x hx => ?_, h5.keep hz (Ag.rf.sai.sai.si (by decide)) (fun _ _ => rfl) (fun _ _ _ _ => rfl)⟩
            obtain ⟨a1, a2, a3, a4, a5, a6, a7, a8, a9, a10⟩ := h4 x hx
            by_cases ex : x = k
            · subst ex
              simp only [zsc_usc, zlk_usc, ztf_usc, zl_usc, zow_usc, zlp_usc, zne_usc, zsc_ulk, zlk_ulk, ztf_ulk, zl_ulk, zow_ulk, zlp_ulk, zne_ulk, zsc_utf, zlk_utf, ztf_utf, zl_utf, zow_utf, zlp_utf, zne_utf, zsc_ul, zlk_ul, ztf_ul, zl_ul, zow_ul, zlp_ul, zne_ul, zsc_uow, zlk_uow, ztf_uow, zl_uow, zow_uow, zlp_uow, zne_uow, zsc_ulp, zlk_ulp, ztf_ulp, zl_ulp, zow_ulp, zlp_ulp, zne_ulp, zsc_une, zlk_une, ztf_une, zl_une, zow_une, zlp_une, zne_une, if_true, hlen, er]
              refine ⟨a1, a2, a3, a4, a5, by simp only [gi_si, gi_sr, gi_sai, gi_sar, gr_si, gr_sr, gr_sai, gr_sar, ai_si, ai_sr, ai_sai, ai_sar, ar_si, ar_sr, ar_sai, ar_sar, kd_si, kd_sr, kd_sai, kd_sar, ln_si, ln_sr, ln_sai, ln_sar, hs_si, hs_sr, hs_sai, hs_sar, ns_si, ns_sr, ns_sai, ns_sar]; simp, by omega, fun i q hq => ?_, a9, fun i r hr => ?_⟩
              · simp only [gi_si, gi_sr, gi_sai, gi_sar, gr_si, gr_sr, gr_sai, gr_sar, ai_si, ai_sr, ai_sai, ai_sar, ar_si, ar_sr, ar_sai, ar_sar, kd_si, kd_sr, kd_sai, kd_sar, ln_si, ln_sr, ln_sai, ln_sar, hs_si, hs_sr, hs_sai, hs_sar, ns_si, ns_sr, ns_sai, ns_sar]
                rcases look i q hq with ⟨w1, w2⟩ | ⟨rfl, rfl⟩
                · rw [if_neg (by omega), if_neg (by omega), if_neg (by omega), if_neg (by omega)]
                  exact a8 i q w2
                · exact ⟨by rw [if_neg (by omega)]; simp, by simp, hc⟩
              · simp only [gi_si, gi_sr, gi_sai, gi_sar, gr_si, gr_sr, gr_sai, gr_sar, ai_si, ai_sr, ai_sai, ai_sar, ar_si, ar_sr, ar_sai, ar_sar, kd_si, kd_sr, kd_sai, kd_sar, ln_si, ln_sr, ln_sai, ln_sar, hs_si, hs_sr, hs_sai, hs_sar, ns_si, ns_sr, ns_sai, ns_sar]; rw [if_neg (by omega), if_neg (by omega)]; exact a10 i r hr
            · have e4 : ¬ 4 * x = 4 * k := by omega
              simp only [zsc_usc, zlk_usc, ztf_usc, zl_usc, zow_usc, zlp_usc, zne_usc, zsc_ulk, zlk_ulk, ztf_ulk, zl_ulk, zow_ulk, zlp_ulk, zne_ulk, zsc_utf, zlk_utf, ztf_utf, zl_utf, zow_utf, zlp_utf, zne_utf, zsc_ul, zlk_ul, ztf_ul, zl_ul, zow_ul, zlp_ul, zne_ul, zsc_uow, zlk_uow, ztf_uow, zl_uow, zow_uow, zlp_uow, zne_uow, zsc_ulp, zlk_ulp, ztf_ulp, zl_ulp, zow_ulp, zlp_ulp, zne_ulp, zsc_une, zlk_une, ztf_une, zl_une, zow_une, zlp_une, zne_une, if_neg ex]
              refine ⟨a1, a2, a3, a4, a5, by simp only [gi_si, gi_sr, gi_sai, gi_sar, gr_si, gr_sr, gr_sai, gr_sar, ai_si, ai_sr, ai_sai, ai_sar, ar_si, ar_sr, ar_sai, ar_sar, kd_si, kd_sr, kd_sai, kd_sar, ln_si, ln_sr, ln_sai, ln_sar, hs_si, hs_sr, hs_sai, hs_sar, ns_si, ns_sr, ns_sai, ns_sar]; simp [e4, a6], a7, fun i q hq => ?_, a9, fun i r hr => ?_⟩
              · simp only [gi_si, gi_sr, gi_sai, gi_sar, gr_si, gr_sr, gr_sai, gr_sar, ai_si, ai_sr, ai_sai, ai_sar, ar_si, ar_sr, ar_sai, ar_sar, kd_si, kd_sr, kd_sai, kd_sar, ln_si, ln_sr, ln_sai, ln_sar, hs_si, hs_sr, hs_sai, hs_sar, ns_si, ns_sr, ns_sai, ns_sar]; rw [if_neg (by omega), if_neg (by omega), if_neg (by omega), if_neg (by omega)]; exact a8 i q hq
              · simp only [gi_si, gi_sr, gi_sai, gi_sar, gr_si, gr_sr, gr_sai, gr_sar, ai_si, ai_sr, ai_sai, ai_sar, ar_si, ar_sr, ar_sai, ar_sar, kd_si, kd_sr, kd_sai, kd_sar, ln_si, ln_sr, ln_sai, ln_sar, hs_si, hs_sr, hs_sai, hs_sar, ns_si, ns_sr, ns_sai, ns_sar]; rw [if_neg (by omega), if_neg (by omega)]; exact a10 i r hr
          · rw [if_neg em] at hτ er
            subst hτ
            refine ⟨hsh.keep ((Cst.rf.sai (by omega)).si (by decide)), h2.keep hz ((Ag.rf.sai.sai.si (by decide)).sai.si (by decide)) rfl rfl, h3.keep hz ((Ag.rf.sai.sai.si (by decide)).sai.si (by decide)), fun x hx => ?_, h5.keep hz ((Ag.rf.sai.sai.si (by decide)).sai.si (by decide)) (fun _ _ => rfl) (fun _ _ _ _ => rfl)⟩
            obtain ⟨a1, a2, a3, a4, a5, a6, a7, a8, a9, a10⟩ := h4 x hx
            by_cases ex : x = k
            · subst ex
              simp only [zsc_usc, zlk_usc, ztf_usc, zl_usc, zow_usc, zlp_usc, zne_usc, zsc_ulk, zlk_ulk, ztf_ulk, zl_ulk, zow_ulk, zlp_ulk, zne_ulk, zsc_utf, zlk_utf, ztf_utf, zl_utf, zow_utf, zlp_utf, zne_utf, zsc_ul, zlk_ul, ztf_ul, zl_ul, zow_ul, zlp_ul, zne_ul, zsc_uow, zlk_uow, ztf_uow, zl_uow, zow_uow, zlp_uow, zne_uow, zsc_ulp, zlk_ulp, ztf_ulp, zl_ulp, zow_ulp, zlp_ulp, zne_ulp, zsc_une, zlk_une, ztf_une, zl_une, zow_une, zlp_une, zne_une, if_true, hlen, er]
              refine ⟨a1, a2, a3, a4, a5, by simp only [gi_si, gi_sr, gi_sai, gi_sar, gr_si, gr_sr, gr_sai, gr_sar, ai_si, ai_sr, ai_sai, ai_sar, ar_si, ar_sr, ar_sai, ar_sar, kd_si, kd_sr, kd_sai, kd_sar, ln_si, ln_sr, ln_sai, ln_sar, hs_si, hs_sr, hs_sai, hs_sar, ns_si, ns_sr, ns_sai, ns_sar]; simp, by omega, fun i q hq => ?_, by simp only [gi_si, gi_sr, gi_sai, gi_sar, gr_si, gr_sr, gr_sai, gr_sar, ai_si, ai_sr, ai_sai, ai_sar, ar_si, ar_sr, ar_sai, ar_sar, kd_si, kd_sr, kd_sai, kd_sar, ln_si, ln_sr, ln_sai, ln_sar, hs_si, hs_sr, hs_sai, hs_sar, ns_si, ns_sr, ns_sai, ns_sar]; simp, fun i r hr => ?_⟩
              · simp only [gi_si, gi_sr, gi_sai, gi_sar, gr_si, gr_sr, gr_sai, gr_sar, ai_si, ai_sr, ai_sai, ai_sar, ar_si, ar_sr, ar_sai, ar_sar, kd_si, kd_sr, kd_sai, kd_sar, ln_si, ln_sr, ln_sai, ln_sar, hs_si, hs_sr, hs_sai, hs_sar, ns_si, ns_sr, ns_sai, ns_sar]
                rcases look i q hq with ⟨w1, w2⟩ | ⟨rfl, rfl⟩
                · rw [if_neg (by omega), if_neg (by omega), if_neg (by omega), if_neg (by omega), if_neg (by omega), if_neg (by omega)]
                  exact a8 i q w2
                · exact ⟨by rw [if_neg (by omega), if_neg (by omega)]; simp, by rw [if_neg (by omega)]; simp, hc⟩
              · simp only [gi_si, gi_sr, gi_sai, gi_sar, gr_si, gr_sr, gr_sai, gr_sar, ai_si, ai_sr, ai_sai, ai_sar, ar_si, ar_sr, ar_sai, ar_sar, kd_si, kd_sr, kd_sai, kd_sar, ln_si, ln_sr, ln_sai, ln_sar, hs_si, hs_sr, hs_sai, hs_sar, ns_si, ns_sr, ns_sai, ns_sar]
                by_cases hi : i < (rws (zow A x)).length
                · rw [List.getElem?_append_left hi] at hr
                  rw [if_neg (by omega), if_neg (by omega), if_neg (by omega)]; exact a10 i r hr
                · rw [List.getElem?_append_right (by omega)] at hr
                  have hz1 : i - (rws (zow A x)).length < 1 := (List.getElem?_eq_some_iff.mp hr).1
                  rw [show i - (rws (zow A x)).length = 0 by omega] at hr
                  cases hr
                  have hi2 : i = (rws (zow A x)).length := by omega
                  rw [if_pos ⟨trivial, hi2⟩]
            · have e4 : ¬ 4 * x = 4 * k := by omega
              simp only [zsc_usc, zlk_usc, ztf_usc, zl_usc, zow_usc, zlp_usc, zne_usc, zsc_ulk, zlk_ulk, ztf_ulk, zl_ulk, zow_ulk, zlp_ulk, zne_ulk, zsc_utf, zlk_utf, ztf_utf, zl_utf, zow_utf, zlp_utf, zne_utf, zsc_ul, zlk_ul, ztf_ul, zl_ul, zow_ul, zlp_ul, zne_ul, zsc_uow, zlk_uow, ztf_uow, zl_uow, zow_uow, zlp_uow, zne_uow, zsc_ulp, zlk_ulp, ztf_ulp, zl_ulp, zow_ulp, zlp_ulp, zne_ulp, zsc_une, zlk_une, ztf_une, zl_une, zow_une, zlp_une, zne_une, if_neg ex]
              refine ⟨a1, a2, a3, a4, a5, by simp only [gi_si, gi_sr, gi_sai, gi_sar, gr_si, gr_sr, gr_sai, gr_sar, ai_si, ai_sr, ai_sai, ai_sar, ar_si, ar_sr, ar_sai, ar_sar, kd_si, kd_sr, kd_sai, kd_sar, ln_si, ln_sr, ln_sai, ln_sar, hs_si, hs_sr, hs_sai, hs_sar, ns_si, ns_sr, ns_sai, ns_sar]; simp [e4, a6], a7, fun i q hq => ?_, by simp only [gi_si, gi_sr, gi_sai, gi_sar, gr_si, gr_sr, gr_sai, gr_sar, ai_si, ai_sr, ai_sai, ai_sar, ar_si, ar_sr, ar_sai, ar_sar, kd_si, kd_sr, kd_sai, kd_sar, ln_si, ln_sr, ln_sai, ln_sar, hs_si, hs_sr, hs_sai, hs_sar, ns_si, ns_sr, ns_sai, ns_sar]; simp [e4, a9], fun i r hr => ?_⟩
              · simp only [gi_si, gi_sr, gi_sai, gi_sar, gr_si, gr_sr, gr_sai, gr_sar, ai_si, ai_sr, ai_sai, ai_sar, ar_si, ar_sr, ar_sai, ar_sar, kd_si, kd_sr, kd_sai, kd_sar, ln_si, ln_sr, ln_sai, ln_sar, hs_si, hs_sr, hs_sai, hs_sar, ns_si, ns_sr, ns_sai, ns_sar]; rw [if_neg (by omega), if_neg (by omega), if_neg (by omega), if_neg (by omega), if_neg (by omega), if_neg (by omega)]; exact a8 i q hq
              · simp only [gi_si, gi_sr, gi_sai, gi_sar, gr_si, gr_sr, gr_sai, gr_sar, ai_si, ai_sr, ai_sai, ai_sar, ar_si, ar_sr, ar_sai, ar_sar, kd_si, kd_sr, kd_sai, kd_sar, ln_si, ln_sr, ln_sai, ln_sar, hs_si, hs_sr, hs_sai, hs_sar, ns_si, ns_sr, ns_sai, ns_sar]; rw [if_neg (by omega), if_neg (by omega), if_neg (by omega)]; exact a10 i r hr
        exact cst _ rfl
      · split
        · exact ((Cst.rf.sai (by omega)).sai (by omega)).si (by decide)
        · exact ((((Cst.rf.sai (by omega)).sai (by omega)).si (by decide)).sai (by omega)).si (by decide)
    · rw [if_neg (by rw [nI_16]; exact nI_nlt (by omega) (by omega))]
      simp only [if_neg e2]
      exact ⟨σ, rfl, h, Cst.rf⟩
def aWrite (A : AS) (k c : Nat) (v : Int32) : Int32 × AS :=
  if -1 ≤ v then (if ztf (aTouch A k) 0 k = 1 then (match aOwn (aTouch A k) k c v with | some B => (nI (zow B k).length, B) | none => (-4, aTouch A k)) else (-3, aTouch A k)) else (-2, aTouch A k)
theorem rc_write (h : RC b A σ) {k i j : Nat} (hk : k < 8) (hi : i < 64) (hj : j < 4) (v : Int32) : ∃ τ, F_X5_write (b + 1) (nI k) (nI i) (nI j) v σ = some ((aWrite A k (4 * i + j) v).1, τ) ∧ RC b (aWrite A k (4 * i + j) v).2 τ ∧ Cst b σ τ := by
  obtain ⟨r1, c1, -, c2⟩ := isClient_F (nI k) σ
  obtain ⟨r2, d1, -, d2⟩ := isCell_F (nI i) (nI j) σ
  obtain ⟨q1, q2⟩ := rc_cl h hk
  obtain ⟨σ1, t1, t2, t3⟩ := rc_touch h hk
  obtain ⟨σ2, l1, l2, l3⟩ := rc_tput t2 hk (c := 4 * i + j) (by omega) v
  unfold F_X5_write aWrite
  rw [bd_eq c1, if_neg (c2 ⟨k, hk, rfl⟩), bd_eq d1, if_neg (d2 ⟨i, j, hi, hj, rfl, rfl⟩), if_pos h.kx, h.g2, if_pos q1, q2, (h.tk hk).1, if_pos (h.tk hk).2.1, bd_eq t1]
  by_cases e0 : -1 ≤ v
  · rw [if_pos e0, if_pos e0, if_pos (t2.tk hk).2.1, (t2.2.2.2.1 k hk).1]
    by_cases e : ztf (aTouch A k) 0 k = 1
    · rw [if_pos e, if_pos e]
      unfold F_X5_cellIndex
      rw [bd_eq rfl, cellIx, if_pos (t2.tk hk).2.1, bd_eq l1]
      cases eo : aOwn (aTouch A k) k (4 * i + j) v with
      | some B =>
        rw [eo] at l2
        rw [if_neg (by simp), if_pos (l2.tk hk).2.1, (l2.2.2.2.1 k hk).2.2.2.2.2.1]
        exact ⟨σ2, rfl, l2, t3.tr l3⟩
      | none =>
        rw [eo] at l2
        rw [if_pos (by simp)]
        exact ⟨σ2, rfl, l2, t3.tr l3⟩
    · rw [if_neg e, if_neg e]; exact ⟨σ1, rfl, t2, t3⟩
  · rw [if_neg e0, if_neg e0]; exact ⟨σ1, rfl, t2, t3⟩
def aCommit (A : AS) (k : Nat) : Int32 × AS :=
  if ztf (aTouch A k) 0 k = 1 then (if (zow (aTouch A k) k).length = 0 then (3, aEnd (aTouch A k) k) else (1, utf (aTouch A k) 0 k 2)) else (-3, aTouch A k)
theorem rc_commit (h : RC b A σ) {k : Nat} (hk : k < 8) : ∃ τ, F_X5_commit (b + 1) (nI k) σ = some ((aCommit A k).1, τ) ∧ RC b (aCommit A k).2 τ ∧ Cst b σ τ := by
  obtain ⟨r1, c1, -, c2⟩ := isClient_F (nI k) σ
  obtain ⟨q1, q2⟩ := rc_cl h hk
  obtain ⟨σ1, t1, t2, t3⟩ := rc_touch h hk
  obtain ⟨σ2, l1, l2, l3⟩ := rc_end t2 hk
  obtain ⟨u1, u2, u3, u4, u5, u6, u7, u8, u9, u10⟩ := t2.2.2.2.1 k hk
  unfold F_X5_commit aCommit
  rw [bd_eq c1, if_neg (c2 ⟨k, hk, rfl⟩), if_pos h.kx, h.g2, if_pos q1, q2, (h.tk hk).1, if_pos (h.tk hk).2.1, bd_eq t1, if_pos (t2.tk hk).2.1, u1]
  by_cases e : ztf (aTouch A k) 0 k = 1
  · rw [if_pos e, if_pos e, u6]
    by_cases e2 : (zow (aTouch A k) k).length = 0
    · rw [if_pos e2, if_pos (by rw [e2]; rfl), bd_eq l1]
      exact ⟨σ2, rfl, l2, t3.tr l3⟩
    · rw [if_neg e2, if_neg (nI_ne0 (by omega) (by omega))]
      exact ⟨_, rfl, rc_tf0 t2 hk 2, t3.tr (Cst.rf.si (by decide))⟩
  · rw [if_neg e, if_neg e]; exact ⟨σ1, rfl, t2, t3⟩
def aCrash (A : AS) (k : Nat) : Int32 × AS := (if ztf A 0 k = 0 then 0 else 1, aEnd A k)
theorem rc_crash (h : RC b A σ) {k : Nat} (hk : k < 8) : ∃ τ, F_X5_crash (b + 1) (nI k) σ = some ((aCrash A k).1, τ) ∧ RC b (aCrash A k).2 τ ∧ Cst b σ τ := by
  obtain ⟨r1, c1, -, c2⟩ := isClient_F (nI k) σ
  obtain ⟨q1, q2⟩ := rc_cl h hk
  obtain ⟨σ2, l1, l2, l3⟩ := rc_end h hk
  unfold F_X5_crash aCrash B_X5_crash_28
  rw [bd_eq c1, if_neg (c2 ⟨k, hk, rfl⟩), if_pos h.kx, h.g2, if_pos q1, q2, (h.tk hk).1, if_pos (h.tk hk).2.1, (h.2.2.2.1 k hk).1, if_pos (h.tk hk).2.1]
  rw [bd_eq l1, bd_eq l1]
  by_cases e : ztf A 0 k = 0
  · rw [if_pos e]; exact ⟨σ2, by simp [e, (h.tk hk).2.1], l2, l3⟩
  · rw [if_neg e]; exact ⟨σ2, by simp [e, (h.tk hk).2.1], l2, l3⟩
end
