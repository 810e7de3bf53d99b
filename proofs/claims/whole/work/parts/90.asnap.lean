/-! snap answers alike -/
section ZAS
variable {T O S : zSheet} {n i : Nat} {H : Nat → zSheet} {M : zMem} {σ : zSt} {ρ : Int64 × Nat}
theorem sn_tail_loop {c : Nat} (hc : c < 12) (x1 x2 x3 x4 x5 x6 : Int32) (v : zAV) : ∀ d q M', q + d = 745 → M' 16 i 6 = nI (c + 1) → ∃ M'', zX zP zK_X6_snap (215, [zR 16 i, zI x1, zI x2, zI x3, zI x4, zI x5, zI x6, zI (nI q), v], []) (M', ρ) = zok x6 (M'', ρ) ∧ (∀ p, q ≤ p → p < 745 → M'' 34 0 (745 * c + p) = M' 33 0 p) ∧ ∀ k j z, ¬ (k = 34 ∧ j = 0 ∧ 745 * c + q ≤ z ∧ z < 745 * c + 745) → M'' k j z = M' k j z := by
  intro d
  induction d with
  | zero =>
    intro q M' hq h6
    refine ⟨M', ?_, fun p h1 h2 => by omega, fun _ _ _ _ => rfl⟩
    rw [show q = 745 by omega, e_X6_snap_215, if_neg (show ¬ nI 745 < 745 by decide)]
  | succ d ih =>
    intro q M' hq h6
    have c1 := nIk (k := q) (N := 745) (by omega) (by omega)
    have c2 := nI_clamp (n := q) (by omega)
    have c3 := nIk (k := 745 * c + q) (N := 8940) (by omega) (by omega)
    have c4 := nI_clamp (n := 745 * c + q) (by omega)
    have e1 : nI (c + 1) - 1 = nI c := by rw [← nI_1]; exact Int32.add_sub_cancel _ _
    obtain ⟨M2, g1, g2, g3⟩ := ih (q + 1) (zms M' 34 0 (745 * c + q) (M' 33 0 q)) (by omega) ((zms_ne (by omega)).trans h6)
    refine ⟨M2, ?_, fun p h1 h2 => ?_, fun k j z h => ?_⟩
    · rw [e_X6_snap_215, if_pos (show nI q < 745 from (nI_lt (by omega) (by omega) : nI q < nI 745)), show (M', ρ).1 16 i 6 = _ from h6, e1, nI_fr, nI_1]
      simp only [c1, c2, c3, c4, if_false]
      exact g1
    · by_cases e : p = q
      · rw [g3 _ _ _ (by omega), e, zms_eq]
      · rw [g2 p (by omega) h2, zms_ne (by omega)]
    · rw [g3 _ _ _ (by omega), zms_ne (by omega)]
theorem sn_tail (hS : mSheet M 31 S) (hH : mHist M 0 n H) (hT : mSheet M 33 T) (x1 x2 x3 x4 x5 x6 : Int32) (v : zAV) : ∃ M', zcV (zrun zP 188 [zR 16 0] (M, ρ)) (fun s6 => zX zP zK_X6_snap (215, [zR 16 0, zI x1, zI x2, zI x3, zI x4, zI x5, zI x6, zI 0, v], []) s6) = zok x6 (M', ρ) ∧ mSheet M' 31 S ∧ mHist M' 0 (min (n + 1) 12) (hPush T H) ∧ ∀ k j z, ¬ (k = 16 ∧ j = 0 ∧ z = 6) → ¬ (k = 34 ∧ j = 0) → M' k j z = M k j z := by
  have hn := hH.1
  obtain ⟨M1, e1, e2, e3⟩ := m_keeps (i := 0) (ρ := ρ) hS hH
  obtain ⟨q1, q2, q3⟩ := e2
  obtain ⟨c, hc⟩ : ∃ c, min (n + 1) 12 = c + 1 := ⟨min (n + 1) 12 - 1, by omega⟩
  rw [hc] at q2 q3
  obtain ⟨M2, g1, g2, g3⟩ := sn_tail_loop (i := 0) (ρ := ρ) (c := c) (by omega) x1 x2 x3 x4 x5 x6 v 745 0 M1 (by omega) q2
  rw [nI_0] at g1
  refine ⟨M2, ?_, ?_, ?_, fun k j z a b => ?_⟩
  · rw [e1, zcV_ok, g1]
  · exact mSheet_congr (fun q hq => (g3 _ _ _ (by omega)).trans (e3 _ _ _ (by omega) (by omega))) hS
  · rw [hc]
    refine ⟨by omega, (g3 _ _ _ (by omega)).trans q2, fun j hj => ?_⟩
    cases j with
    | zero =>
      refine mSheet_congr (M := M) (a := 33) (fun q hq => ?_) hT
      show M2 34 0 (745 * (c + 1 - 1 - 0) + q) = _
      rw [show c + 1 - 1 - 0 = c by omega, g2 q (by omega) hq]
      exact e3 _ _ _ (by omega) (by omega)
    | succ j =>
      refine mSheet_congr (fun q hq => ?_) (q3 (j + 1) hj)
      show M2 34 0 (745 * (c + 1 - 1 - (j + 1)) + q) = M1 34 0 (745 * (c + 1 - 1 - (j + 1)) + q)
      exact g3 _ _ _ (by omega)
  · rw [g3 _ _ _ (by omega), e3 _ _ _ a b]
/-- as scFr, the reference's row aside -/
def sc2 (M M' : zMem) : Prop := ∀ k j q, (k < 14 ∨ k = 15 ∨ (k = 16 ∧ q ≠ 0) ∨ (17 ≤ k ∧ k ≤ 22) ∨ k = 27 ∨ k = 30 ∨ k = 32 ∨ k = 34 ∨ k = 35) → M' k j q = M k j q
theorem Rs_sc2 {M1 : zMem} (hR : Rs M T n H) (hm : mSheet M1 31 T) (hf : sc2 M M1) : Rs M1 T n H := by
  obtain ⟨⟨a1, a2, a3⟩, ⟨b1, b2, b3⟩, k1, k2, k3⟩ := hR
  have hr : reFr M M1 := fun k j q e => hf k j q (by omega)
  exact ⟨⟨cSheet_congr (fun k j q e => hf k j q (by omega)) a1, hm, a3⟩, ⟨cHist_congr (fun k j q e => hf k j q (by omega)) b1, mHist_congr (hf _ _ _ (by omega)) (fun q => hf _ _ _ (by omega)) b2, b3⟩, reKept hr k1, reTape hr k2, reRefu hr k3⟩
theorem a_snap (h : zRel M) (x ap : Int32) : zAg 103 216 [zI x, zI ap] cdL M := by
  obtain ⟨T, n, H, hR⟩ := h
  have hS := hR.1.1
  have h6 := hS.2.1
  have ok := hR.1.2.2
  by_cases c : pTr T x
  · by_cases cr : pLn ap
    · have c' := c
      obtain ⟨t, ht, rfl⟩ := pTr_n h6 c'
      obtain ⟨q1, q2, q3⟩ := s_in (σ := (M, (0, 0))) hS ht
      have hn1 : M 12 (6 * 0 + t) 0 = rnm (T.2 t) := (hS.2.2 t ht).1.1
      have pc : ∀ ρ, zrun zP 103 [zR 15 0, zI (nI t), zI ap] (M, ρ) = zcR (zrun zP 132 [zR 15 0, zR 12 (6 * 0 + t)] (M, ρ)) (fun p3 q3 s3 => zX zP zK_X5_snap (31, [zR 15 0, zI (nI t), zI ap, zR 12 (6 * 0 + t), zR p3 q3, zJunk, zJunk, zJunk, zJunk], []) s3) := fun ρ => by
        rw [e_X5_snap, (n_tier (σ := (M, ρ)) hS _).1 c, zcV_ok, (n_range (σ := (M, ρ)) ap 1 999).1 cr, zcV_ok]
        simp only [q2, q1, if_false]
      have pm : ∀ M1 ρ', mSheet M1 31 T → zrun zP 216 [zR 16 0, zI (nI t), zI ap] (M1, ρ') = zcI (zrun zP 236 [zR 16 0, zI (nI t)] (zms M1 16 0 0 0, ρ')) (fun r4 s4 => if r4 = (-1) then zok (-1) s4 else (zcI (zrun zP 239 [zR 31 0, zI (nI t), zR 37 0] s4) (fun r5 s5 => zcI (zrun zP 239 [zR 32 0, zI r4, zR 38 0] s5) (fun r6 s6 => zcV (zrun zP 147 [zR 31 0, zR 33 0] s6) (fun s7 => zX zP zK_X6_snap (90, [zR 16 0, zI (nI t), zI ap, zI r4, zI r5, zI r6, zI 0, zI 0, zJunk], []) s7))))) := fun M1 ρ' hm1 => by
        rw [e_X6_snap, (m_isTier (σ := (zms M1 16 0 0 0, ρ')) (mSheet_z hm1) zms_eq _).1 c, zcI_ok, if_neg (by decide), m_isLn, zcI_ok, zb_t cr, m_f1, zcI_ok, if_neg (by decide)]
      rcases twin_or hR.2.2.1 (rnm (T.2 t)) with ⟨w1, w2⟩ | ⟨O, u, hu, o1, o2, o3, w1, w2⟩
      · refine ag_rd hR (x := -1) (fun ρ => ?_) (fun ρ' => ?_)
        · refine (pc ρ).trans ?_
          rw [w1 ρ _ hn1, zcR_ok]
          exact e_X5_snap_31n 0 (nI t) ap _ _ _ _ _ _
        · have hz := mSheet_z (i := 0) hR.1.2.1
          rw [pm M ρ' hR.1.2.1, w2 _ ρ' t twF_z (by omega) (hz.2.2 t ht).2.2.2.1, zcI_ok, if_pos rfl]
      · intro ρ ρ'
        have u6 := o1.2.1
        have ro := ok.2.2.2.1 t ht
        have rO := o3.2.2.2.1 u hu
        obtain ⟨A, a1, a2, a3⟩ := r_listTimes (i := 1) (ρ := ρ) (hS.2.2 t ht).1 ro.2.1
        obtain ⟨B, b1, b2, b3⟩ := r_listTimes (i := 2) (ρ := ρ) (tFr_sh a3 o1 |>.2.2 u hu).1 rO.2.1
        have aB : cTimes B 1 (pEndR (T.2 t)) := ⟨(b3 _ _ _ (by omega) (by omega)).trans a2.1, a2.2.1, fun y y1 y2 => (b3 _ _ _ (by omega) (by omega)).trans (a2.2.2 y y1 y2)⟩
        have cx : cxFr M B := cxFr_tr (tFr_cx a3) (tFr_cx b3)
        have hsc : scFr M B := scFr_tr (scFr_t a3) (scFr_t b3)
        have hSB : cSheet B 0 T := tFr_sh b3 (tFr_sh a3 hS)
        have hHB : cHist B n H := cHist_congr (fun k j q e => hsc k j q (by omega)) hR.2.1.1
        obtain ⟨N, g1, g2, g3⟩ := c_sn (i := 0) (j := 6 * 1 + u) (ρ := ρ) h6 hSB hHB aB b2 ht (nI t) ap (cnt (pEndR (T.2 t)) 1000) 0 (T, 0) B zJunk zJunk (by omega) (Nat.le_refl _) ⟨ok, sEq_rf, fun _ => rfl⟩ (Or.inl ⟨rfl, rfl⟩)
        have cc : zrun zP 103 [zR 15 0, zI (nI t), zI ap] (M, ρ) = zok (nI (zfold (snF (pRoot T t) (pEndR (T.2 t)) (pEndR (O.2 u)) ap) 0 (cnt (pEndR (T.2 t)) 1000) (T, 0)).2) (N, ρ) := by
          refine (pc ρ).trans ?_
          rw [w1 ρ _ hn1, zcR_ok, e_X5_snap_31r, a1, zcV_ok, b1, zcV_ok]
          exact g1
        have nx : cxFr M N := by
          rcases g2 with ⟨-, e⟩ | ⟨-, -, -, e⟩
          · rw [e]; exact cx
          · exact cxFr_tr cx (edFr_cx e)
        have mT : mSheet N 31 T := mSheet_congr (fun q hq => nx.2 _ _ _ (by omega)) hR.1.2.1
        have mO : mSheet N 32 O := mSheet_congr (fun q hq => nx.1 _ _ _ (by omega)) o2
        have mH : mHist N 0 n H := mHist_congr (nx.2 _ _ _ (by omega)) (fun q => nx.2 _ _ _ (by omega)) hR.2.1.2.1
        have hz := mSheet_z (i := 0) mT
        have tw : twF M (zms N 16 0 0 0) := ⟨fun q hq => (zms_ne (by omega)).trans (nx.1 _ _ _ (by omega)), (zms_ne (by omega)).trans (nx.2 _ _ _ (by omega))⟩
        obtain ⟨N1, t1, t2, t3⟩ := m_times (a := 30) (b := 36) (ρ := ρ') (by omega) rfl rfl (hz.2.2 t ht) (by omega) ro.2.1
        have oz : mSheet N1 32 O := mSheet_congr (fun q hq => (t3 _ _ _ (by omega)).trans (zms_ne (by omega))) mO
        obtain ⟨N2, s1, s2, s3⟩ := m_times (a := 31) (b := 37) (ρ := ρ') (by omega) rfl rfl (oz.2.2 u hu) (by omega) rO.2.1
        obtain ⟨N3, r1, r2, r3⟩ := m_copies (ρ := ρ') (a := 30) (b := 32) (by omega) rfl rfl 745 0 N2 (by omega)
        rw [nI_0] at r1
        have r1' : zrun zP 147 [zR 31 0, zR 33 0] (N2, ρ') = zvd (N3, ρ') := (e_X6_copies 30 0 32 0 _).trans r1
        have f3 : ∀ k j q, ¬ (k = 33 ∨ k = 37 ∨ k = 38) → ¬ (k = 16 ∧ j = 0 ∧ q = 0) → N3 k j q = N k j q := fun k j q h1 h2 => by
          rw [r3 k j q (by omega), s3 k j q (by omega), t3 k j q (by omega), zms_ne (by omega)]
        have mT3 : mSheet N3 31 T := mSheet_congr (fun q hq => f3 _ _ _ (by omega) (by omega)) mT
        have mP3 : mTimes N3 37 (pEndR (T.2 t)) := fun y y1 y2 => by
          rw [r3 _ _ _ (by omega), s3 _ _ _ (by omega)]; exact t2 y y1 y2
        have mQ3 : mTimes N3 38 (pEndR (O.2 u)) := fun y y1 y2 => by
          rw [r3 _ _ _ (by omega)]; exact s2 y y1 y2
        have p80 := pEndR_c ro.2.1 (Rs_40 hR t ht)
        have q80 := pEndR_c rO.2.1 (o1.2.2 u hu).1.2.2.2.2.1
        obtain ⟨N4, v', l1, l2, l3⟩ := m_sn (i := 0) (ρ := ρ') h6 mP3 mQ3 p80 q80 ht ap (nI u) (cnt (pEndR (T.2 t)) 1000) 0 (T, 0) N3 zJunk (by omega) (Nat.le_refl _) ⟨ok, sEq_rf, fun _ => rfl⟩ mT3 oFr_rf
        have mm : zrun zP 216 [zR 16 0, zI (nI t), zI ap] (N, ρ') = zX zP zK_X6_snap (90, [zR 16 0, zI (nI t), zI ap, zI (nI u), zI (nI (cnt (pEndR (T.2 t)) 1000)), zI (nI (cnt (pEndR (O.2 u)) 1000)), zI (nI 0), zI (nI 0), zJunk], []) (N3, ρ') := by
          rw [pm N ρ' mT, w2 _ ρ' t tw (by omega) (hz.2.2 t ht).2.2.2.1, zcI_ok, if_neg (nI_m1 _ (by omega)), show zrun zP 239 [zR 31 0, zI (nI t), zR 37 0] (zms N 16 0 0 0, ρ') = _ from t1, zcI_ok, show zrun zP 239 [zR 32 0, zI (nI u), zR 38 0] (N1, ρ') = _ from s1, zcI_ok, r1', zcV_ok]
          rfl
        generalize hfd : zfold (snF (pRoot T t) (pEndR (T.2 t)) (pEndR (O.2 u)) ap) 0 (cnt (pEndR (T.2 t)) 1000) (T, 0) = fs at cc g2 g3 l1 l2
        rcases g2 with ⟨z, e⟩ | ⟨z, e1, e2, e3⟩
        · have eT := g3.2.2 z
          rw [z] at cc
          rw [if_pos z] at l1
          rw [eT] at l2
          refine Or.inl ⟨0, N, N4, cc, mm.trans l1, ?_, T, n, H, Rs_sc2 hR l2 (fun k j q hk => ?_)⟩
          · rw [l3 _ _ _ (by omega), r3 _ _ _ (by omega), s3 _ _ _ (by omega), t3 _ _ _ (by omega), zms_eq]
          · rw [l3 _ _ _ (by omega), f3 _ _ _ (by omega) (by omega), e]
            exact hsc k j q (by omega)
        · rw [if_neg (by omega)] at l1
          have mH4 : mHist N4 0 n H := mHist_congr ((l3 _ _ _ (by omega)).trans (f3 _ _ _ (by omega) (by omega))) (fun q => (l3 _ _ _ (by omega)).trans (f3 _ _ _ (by omega) (by omega))) mH
          have m33 : mSheet N4 33 T := mSheet_congr (M := N) (a := 31) (fun q hq => by
            rw [l3 _ _ _ (by omega), r2 q (by omega) hq, s3 _ _ _ (by omega), t3 _ _ _ (by omega), zms_ne (by omega)]) mT
          obtain ⟨N5, k1, k2, k3, k4⟩ := sn_tail (ρ := ρ') l2 mH4 m33 (nI t) ap (nI u) (nI (cnt (pEndR (T.2 t)) 1000)) (nI (cnt (pEndR (O.2 u)) 1000)) (nI fs.2) v'
          have f5 : ∀ k j q, ¬ (k = 33 ∨ k = 37 ∨ k = 38) → ¬ (k = 16 ∧ j = 0 ∧ (q = 0 ∨ q = 6)) → ¬ (k = 34 ∧ j = 0) → ¬ (k = 31 ∧ j = 0) → N5 k j q = N k j q := fun k j q h1 h2 h3 h4 => by
            rw [k4 k j q (by omega) h3, l3 k j q h4, f3 k j q h1 (by omega)]
          have fK : ∀ k j q, ¬ (k = 33 ∨ k = 37 ∨ k = 38) → (fun k j q => if k = 33 ∨ k = 37 ∨ k = 38 then N5 k j q else N k j q : zMem) k j q = N k j q := fun k j q h1 => if_neg h1
          refine Or.inl ⟨nI fs.2, N, N5, cc, mm.trans (l1.trans k1), ?_, R_edit (M1 := fun k j q => if k = 33 ∨ k = 37 ∨ k = 38 then N5 k j q else N k j q) hR g3.1 (cSheet_congr (fun k j q h => fK k j q (by omega)) e1) (cHist_congr (fun k j q h => fK k j q (by omega)) e2) (cxFr_tr nx ⟨fun k j q h => fK k j q (by omega), fun k j q h => fK k j q (by omega)⟩) k2 k3 (fun k j q h1 h2 h3 => ?_)⟩
          · rw [k4 _ _ _ (by omega) (by omega), l3 _ _ _ (by omega), r3 _ _ _ (by omega), s3 _ _ _ (by omega), t3 _ _ _ (by omega), zms_eq]
          · by_cases c5 : k = 33 ∨ k = 37 ∨ k = 38
            · exact (if_pos c5).symm
            · exact (f5 k j q c5 (by omega) (by omega) (by omega)).trans (if_neg c5).symm
    · refine ag_ref hR (e := 1) (by omega) (fun ρ => ?_) (fun ρ' => ?_)
      · rw [e_X5_snap, (n_tier (σ := (M, ρ)) hS _).1 c, zcV_ok, (n_range (σ := (M, ρ)) ap 1 999).2 cr, zcV_cTh]
      · rw [e_X6_snap, (m_isTier (σ := (zms (rfM M 1) 16 0 0 0, ρ')) (mSheet_z (rfM_m hR.1.2.1)) zms_eq _).1 c, zcI_ok, if_neg (by decide), m_isLn, zcI_ok, zb_f cr, m_fineA zms_eq 2 (by decide), zcI_ok, if_pos rfl]
        rfl
  · refine ag_ref hR (e := 0) (by omega) (fun ρ => ?_) (fun ρ' => ?_)
    · rw [e_X5_snap, (n_tier (σ := (M, ρ)) hS _).2 c, zcV_cTh]
    · rw [e_X6_snap, (m_isTier (σ := (zms (rfM M 0) 16 0 0 0, ρ')) (mSheet_z (rfM_m hR.1.2.1)) zms_eq _).2 c, zcI_ok, if_pos rfl]
      rfl
end ZAS
