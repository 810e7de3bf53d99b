/-! adopt, the reference's side; adopt answers alike -/
section ZMD
variable {r r' : zTier} {T O : zSheet} {n i : Nat} {H : Nat → zSheet} {M : zMem} {σ : zSt} {ρ : Int64 × Nat}
theorem adL_tAd {k : Nat} : adL (tAd r r' k) r' k = adL r r' k := by
  unfold adL
  rw [tAd_k]
  rfl
theorem m_ad1 {t u : Nat} (h : mRow σ.1 31 t r) (h' : mRow σ.1 32 u r') (ht : t < 6) (hu : u < 6) (hl : zLb r') : ∀ d k c, k + d = rct r → c + d ≤ 40 → zX zP zK_X6_adopt (33, [zR 16 i, zI (nI t), zI (nI u), zI (nI c), zI (nI k)], []) σ = (if c + nAd r r' k d = 0 then zok 0 σ else zcV (zrun zP 188 [zR 16 i] σ) (fun s3 => zX zP zK_X6_adopt (81, [zR 16 i, zI (nI t), zI (nI u), zI (nI (c + nAd r r' k d)), zI 0], []) s3)) := by
  have h4 := h.2.2.2.2.1
  intro d
  induction d with
  | zero =>
    intro k c hk hc
    rw [e_X6_adopt_33, m_many h ht, zcI_ok, if_neg (nI_nlt (by omega) (by omega))]
    show (if nI c = 0 then _ else _) = (if c + 0 = 0 then _ else _)
    by_cases e : c = 0
    · rw [if_pos (show nI c = 0 by rw [e]; rfl), if_pos (show c + 0 = 0 from e)]
    · rw [if_neg (show ¬ nI c = 0 from fun q => e ((nI_eq (b := 0) (by omega) (by omega)).mp q)), if_neg (show ¬ c + 0 = 0 from e)]
      rfl
  | succ d ih =>
    intro k c hk hc
    rw [e_X6_adopt_33, m_many h ht, zcI_ok, if_pos (nI_lt (by omega) (by omega)), m_adopted h h' ht hu (by omega), zcI_ok, nI_1, nI_1, nAd_s]
    by_cases q : adL r r' k = 0
    · rw [if_neg (fun e => (adL_nn hl k).mp e q), Int32.add_zero, ih (k + 1) c (by omega) (by omega), ind_f (fun e => e q), Nat.zero_add]
    · rw [if_pos ((adL_nn hl k).mpr q), ih (k + 1) (c + 1) (by omega) (by omega), ind_t q, ← Nat.add_assoc]
theorem m_ad2 (hl : zLb r') {t u : Nat} (ht : t < T.1) (hu : u < O.1) (hr' : O.2 u = r') (hn : rct r ≤ 40) (x3 : Int32) : ∀ d k M', k + d = rct r → mSheet M' 31 (sUp T t (tAd r r' k)) → mSheet M' 32 O → ∃ M'', zX zP zK_X6_adopt (81, [zR 16 i, zI (nI t), zI (nI u), zI x3, zI (nI k)], []) (M', ρ) = zok x3 (M'', ρ) ∧ mSheet M'' 31 (sUp T t (tAd r r' (rct r))) ∧ oFr M' M'' := by
  intro d
  induction d with
  | zero =>
    intro k M' hk h ho
    have h6 : T.1 ≤ 6 := h.2.1
    have hR : mRow M' 31 t (tAd r r' k) := by have := h.2.2 t ht; rwa [sUp_eq] at this
    refine ⟨M', ?_, by rw [show rct r = k by omega]; exact h, oFr_rf⟩
    rw [e_X6_adopt_81, m_many (σ := (M', ρ)) hR (by omega), zcI_ok, show rct (tAd r r' k) = rct r from rfl, if_neg (nI_nlt (show rct r ≤ k by omega) (by omega))]
  | succ d ih =>
    intro k M' hk h ho
    have h6 : T.1 ≤ 6 := h.2.1
    have o6 := ho.2.1
    have hR : mRow M' 31 t (tAd r r' k) := by have := h.2.2 t ht; rwa [sUp_eq] at this
    have hO : mRow M' 32 u r' := hr' ▸ ho.2.2 u hu
    have ad : zrun zP 212 [zR 16 i, zI (nI t), zI (nI k), zI (nI u)] (M', ρ) = zok (adL r r' k) (M', ρ) := by
      rw [m_adopted (σ := (M', ρ)) hR hO (by omega) (by omega) (show k < rct r by omega), adL_tAd]
    rw [e_X6_adopt_81, m_many (σ := (M', ρ)) hR (by omega), zcI_ok, show rct (tAd r r' k) = rct r from rfl, if_pos (nI_lt (show k < rct r by omega) (by omega)), ad, zcI_ok, nI_1]
    by_cases q : adL r r' k = 0
    · rw [if_neg (fun e => (adL_nn hl k).mp e q)]
      exact ih (k + 1) M' (by omega) (tAd_n q ▸ h) ho
    · have c1 := nIk (k := 7 + 124 * t + 3 * k) (N := 745) (by omega) (by omega)
      have d1 := nI_clamp (n := 7 + 124 * t + 3 * k) (by omega)
      have hf : mFr M' (zms M' 31 0 (7 + 124 * t + 3 * k) (adL r r' k)) t := mse_fr (c := 2) (by omega) (by omega)
      have hup := mSheet_up h (show t < (sUp T t (tAd r r' k)).1 from ht) (ms_lab (m := k) hR (adL r r' k)) hf
      rw [sUp_sUp, tAd_s q] at hup
      obtain ⟨M2, g1, g2, g3⟩ := ih (k + 1) (zms M' 31 0 (7 + 124 * t + 3 * k) (adL r r' k)) (by omega) hup (mSheet_congr (fun q hq => zms_ne (by omega)) ho)
      refine ⟨M2, ?_, g2, oFr_tr (mFr_o hf) g3⟩
      rw [if_pos ((adL_nn hl k).mpr q), m_cell2, zcI_ok, ad, zcI_ok]
      simp only [c1, d1, if_false]
      exact g1
theorem ok_ad (h : zOk T) (h6 : T.1 ≤ 6) {t : Nat} {r' : zTier} (hl : zLb r') {k : Nat} : zOk (sUp T t (tAd (T.2 t) r' k)) := by
  have he : ∀ u f g, inR ((sUp T t (tAd (T.2 t) r' k)).2 u) f g ↔ inR (T.2 u) f g := fun u f g => by
    by_cases c : u = t
    · rw [c, sUp_eq]; exact Iff.rfl
    · rw [sUp_ne c]
  refine zOk_of h h6 (sEq_up sEq_rf rfl rfl rfl) (fun u hu => ?_) (fun u hu hp f g hi => ?_)
  · by_cases c : u = t
    · rw [c, sUp_eq]
      obtain ⟨s, q, lb⟩ := h.2.2.2.1 u hu
      rw [c] at s q lb
      refine ⟨s, q, fun j hj => ?_⟩
      show ∃ v, v < 2 ^ 31 ∧ zif (j < k ∧ ¬ adL (T.2 t) r' j = 0) (adL (T.2 t) r' j) (rlb (T.2 t) j) = nI v
      by_cases e : j < k ∧ ¬ adL (T.2 t) r' j = 0
      · rw [zif_t e]; exact adL_ok hl j
      · rw [zif_f e]; exact lb j hj
    · rw [sUp_ne c]; exact h.2.2.2.1 u hu
  · obtain ⟨F, G, a, b⟩ := h.2.2.2.2 u hu hp f g ((he u f g).mp hi)
    exact ⟨F, G, (he _ F G).mpr a, b⟩
theorem nAd_le : ∀ d k, nAd r r' k d ≤ d := by
  intro d
  induction d with
  | zero => intro k; exact Nat.le_refl _
  | succ d ih =>
    intro k
    rw [nAd_s]
    have := ih (k + 1)
    by_cases q : ¬ adL r r' k = 0
    · rw [ind_t q]; omega
    · rw [ind_f q]; omega
theorem a_adopt (h : zRel M) (x : Int32) : zAg 102 211 [zI x] cdF M := by
  obtain ⟨T, n, H, hR⟩ := h
  have hS := hR.1.1
  have h6 := hS.2.1
  have ok := hR.1.2.2
  by_cases c : pTr T x
  · have c' := c
    obtain ⟨t, ht, rfl⟩ := pTr_n h6 c'
    obtain ⟨q1, q2, q3⟩ := s_in (σ := (M, (0, 0))) hS ht
    have h40 := Rs_40 hR t ht
    have hn1 : M 12 (6 * 0 + t) 0 = rnm (T.2 t) := (hS.2.2 t ht).1.1
    have pc : ∀ ρ, zrun zP 102 [zR 15 0, zI (nI t)] (M, ρ) = zcR (zrun zP 132 [zR 15 0, zR 12 (6 * 0 + t)] (M, ρ)) (fun p2 q2 s2 => zX zP zK_X5_adopt (21, [zR 15 0, zI (nI t), zR 12 (6 * 0 + t), zR p2 q2, zJunk, zJunk, zJunk], []) s2) := fun ρ => by
      rw [e_X5_adopt, (n_tier (σ := (M, ρ)) hS _).1 c, zcV_ok]
      simp only [q2, q1, if_false]
    have pm : ∀ M1 ρ', mSheet M1 31 T → zrun zP 211 [zR 16 0, zI (nI t)] (M1, ρ') = zcI (zrun zP 236 [zR 16 0, zI (nI t)] (zms M1 16 0 0 0, ρ')) (fun r2 s2 => if r2 = (-1) then zok (-1) s2 else (zX zP zK_X6_adopt (33, [zR 16 0, zI (nI t), zI r2, zI 0, zI 0], []) s2)) := fun M1 ρ' hm1 => by
      rw [e_X6_adopt, (m_isTier (σ := (zms M1 16 0 0 0, ρ')) (mSheet_z hm1) zms_eq _).1 c, zcI_ok, if_neg (by decide)]
    rcases twin_or hR.2.2.1 (rnm (T.2 t)) with ⟨w1, w2⟩ | ⟨O, u, hu, o1, o2, o3, w1, w2⟩
    · refine ag_rd hR (x := -1) (fun ρ => ?_) (fun ρ' => ?_)
      · refine (pc ρ).trans ?_
        rw [w1 ρ _ hn1, zcR_ok]
        exact e_X5_adopt_21n 0 (nI t) _ _ _ _ _
      · have hz := mSheet_z (i := 0) hR.1.2.1
        rw [pm M ρ' hR.1.2.1, w2 _ ρ' t twF_z (by omega) (hz.2.2 t ht).2.2.2.1, zcI_ok, if_pos rfl]
    · have u6 := o1.2.1
      have rO := o3.2.2.2.1 u hu
      have cA := fun ρ => c_adopt (i := 0) (ρ := ρ) h40 ht hu rfl rfl (nI t) hS o1 hR.2.1.1 (rct (T.2 t)) 0 zJunk (by omega) (fun j hj => by omega)
      have cc : ∀ ρ, zrun zP 102 [zR 15 0, zI (nI t)] (M, ρ) = zX zP zK_X5_adopt (33, [zR 15 0, zI (nI t), zR 12 (6 * 0 + t), zR 12 (6 * 1 + u), zI 0, zI (nI 0), zJunk], []) (M, ρ) := fun ρ => by
        refine (pc ρ).trans ?_
        rw [w1 ρ _ hn1, zcR_ok, e_X5_adopt_21r]
        rfl
      have mm : ∀ M1 ρ', mSheet M1 31 T → mSheet M1 32 O → zrun zP 236 [zR 16 0, zI (nI t)] (zms M1 16 0 0 0, ρ') = zok (nI u) (zms M1 16 0 0 0, ρ') → zrun zP 211 [zR 16 0, zI (nI t)] (M1, ρ') = (if 0 + nAd (T.2 t) (O.2 u) 0 (rct (T.2 t)) = 0 then zok 0 (zms M1 16 0 0 0, ρ') else zcV (zrun zP 188 [zR 16 0] (zms M1 16 0 0 0, ρ')) (fun s3 => zX zP zK_X6_adopt (81, [zR 16 0, zI (nI t), zI (nI u), zI (nI (0 + nAd (T.2 t) (O.2 u) 0 (rct (T.2 t)))), zI 0], []) s3)) := fun M1 ρ' hm1 ho1 hot => by
        have hz := mSheet_z (i := 0) hm1
        have oz : mSheet (zms M1 16 0 0 0) 32 O := mSheet_congr (fun q hq => zms_ne (by omega)) ho1
        rw [pm M1 ρ' hm1, hot, zcI_ok, if_neg (nI_m1 _ (by omega))]
        exact m_ad1 (i := 0) (σ := (zms M1 16 0 0 0, ρ')) (hz.2.2 t ht) (oz.2.2 u hu) (by omega) (by omega) rO.2.2 (rct (T.2 t)) 0 0 (by omega) (by omega)
      by_cases cn : nAd (T.2 t) (O.2 u) 0 (rct (T.2 t)) = 0
      · refine ag_rd hR (x := 0) (fun ρ => (cc ρ).trans ((cA ρ).1 cn)) (fun ρ' => ?_)
        have hz := mSheet_z (i := 0) hR.1.2.1
        rw [mm M ρ' hR.1.2.1 o2 (w2 _ ρ' t twF_z (by omega) (hz.2.2 t ht).2.2.2.1), if_pos (by omega)]
      · intro ρ ρ'
        obtain ⟨M1, e1, e2, e3, e4⟩ := cEd_x ((cA ρ).2 cn)
        have m1 : mSheet M1 31 T := mSheet_congr (fun q hq => e4.2 _ _ _ (by omega)) hR.1.2.1
        have mO : mSheet M1 32 O := mSheet_congr (fun q hq => e4.1 _ _ _ (by omega)) o2
        have mh : mHist M1 0 n H := mHist_congr (e4.2 _ _ _ (by omega)) (fun q => e4.2 _ _ _ (by omega)) hR.2.1.2.1
        have hk1 := reKept e4.1 hR.2.2.1
        have hot : zrun zP 236 [zR 16 0, zI (nI t)] (zms M1 16 0 0 0, ρ') = zok (nI u) (zms M1 16 0 0 0, ρ') := by
          have hz := mSheet_z (i := 0) m1
          have p1 := nIk (k := 4 + 124 * t) (N := 745) (by omega) (by omega)
          have p2 := nI_clamp (n := 4 + 124 * t) (by omega)
          have q := w2 (zms M 16 0 0 0) ρ' t twF_z (by omega) ((mSheet_z (i := 0) hR.1.2.1).2.2 t ht).2.2.2.1
          have oz : mSheet (zms M1 16 0 0 0) 32 O := mSheet_congr (fun q hq => zms_ne (by omega)) mO
          have oz0 : mSheet (zms M 16 0 0 0) 32 O := mSheet_congr (fun q hq => zms_ne (by omega)) o2
          have hz0 := mSheet_z (i := 0) hR.1.2.1
          have e7 : zms M1 16 0 0 0 16 0 7 = zms M 16 0 0 0 16 0 7 := by rw [zms_ne (by omega), zms_ne (by omega)]; exact e4.2 _ _ _ (by omega)
          rw [e_X6_otherTier] at q ⊢
          rw [show (zms M1 16 0 0 0, ρ').1 16 0 7 = zms M 16 0 0 0 16 0 7 from e7]
          by_cases cz : zms M 16 0 0 0 16 0 7 = 0
          · rw [if_pos cz] at q
            exact absurd (congrArg (fun z => match z with | some (.inl (some (.inl x)), _) => x | _ => 0) q) (fun z => nI_m1 u (by omega) z.symm)
          · rw [if_neg cz, m_pos3, zcI_ok] at q ⊢
            simp only [p1, p2, if_false] at q ⊢
            rw [(hz0.2.2 t ht).2.2.2.1, m_tierNamed (a := 31) (σ := (zms M 16 0 0 0, ρ')) rfl oz0, zcI_ok] at q
            rw [(hz.2.2 t ht).2.2.2.1, m_tierNamed (a := 31) (σ := (zms M1 16 0 0 0, ρ')) rfl oz, zcI_ok]
            have := congrArg (fun z => match z with | some (.inl (some (.inl x)), _) => x | _ => 0) q
            exact congrArg (fun x => zok x (zms M1 16 0 0 0, ρ')) this
        obtain ⟨M2, f1, f2, f3⟩ := m_edit (i := 0) (ρ := ρ') m1 mh
        have fO : mSheet M2 32 O := by
          have q := (f3 M2 oFr_rf).2.2
          exact mSheet_congr (fun p hp => q _ _ _ (by omega) (by omega) (by omega)) mO
        obtain ⟨M3, g1, g2, g3⟩ := m_ad2 (i := 0) (ρ := ρ') (r := T.2 t) (T := T) rO.2.2 ht hu rfl h40 (nI (0 + nAd (T.2 t) (O.2 u) 0 (rct (T.2 t)))) (rct (T.2 t)) 0 M2 (by omega) (by rw [tAd_0 (fun j hj => by omega), sUp_self]; exact f2) fO
        obtain ⟨l1, l2, l3⟩ := f3 M3 g3
        refine Or.inl ⟨nI (nAd (T.2 t) (O.2 u) 0 (rct (T.2 t))), M1, M3, (cc ρ).trans e1, ?_, l2, R_edit hR (ok_ad ok h6 rO.2.2) e2 e3 e4 g2 l1 l3⟩
        rw [nI_0, Nat.zero_add] at g1
        rw [mm M1 ρ' m1 mO hot, if_neg (by omega), f1, zcV_ok, Nat.zero_add, g1]
  · refine ag_ref hR (e := 0) (by omega) (fun ρ => ?_) (fun ρ' => ?_)
    · rw [e_X5_adopt, (n_tier (σ := (M, ρ)) hS _).2 c, zcV_cTh]
    · rw [e_X6_adopt, (m_isTier (σ := (zms (rfM M 0) 16 0 0 0, ρ')) (mSheet_z (rfM_m hR.1.2.1)) zms_eq _).2 c, zcI_ok, if_pos rfl]
      rfl
end ZMD
