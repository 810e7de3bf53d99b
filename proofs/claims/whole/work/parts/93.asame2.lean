/-! same, the loops -/
section ZSB
variable {P Q : Nat → Prop} {i n : Nat} {H : Nat → zSheet} {M : zMem} {σ : zSt} {ρ : Int64 × Nat}
def tbl (M : zMem) (P Q : Nat → Prop) (ap a b : Nat) : Prop := ∀ a' b', b' ≤ cnt Q 1000 → (a' < a ∨ (a' = a ∧ b' < b)) → cel M (81 * a' + b') (pa ap (dPQ P Q) a' b')
def tbFr (M M' : zMem) : Prop := ∀ k j q, ¬ ((k = 39 ∨ k = 40) ∧ j = 0) → M' k j q = M k j q
theorem sm_in {ap a : Nat} (hap : ap ≤ 999) (p80 : cnt P 1000 ≤ 80) (q80 : cnt Q 1000 ≤ 80) (ha : a ≤ cnt P 1000) (x1 x3 x4 : Int32) : ∀ d b M', b + d = cnt Q 1000 + 1 → mTimes M' 37 P → mTimes M' 38 Q → tbl M' P Q ap a b → ∃ M'' v, zX zP zK_X6_same (106, [zR 16 i, zI x1, zI (nI ap), zI x3, zI x4, zI (nI (cnt P 1000)), zI (nI (cnt Q 1000)), zI (nI a), zI (nI b)], []) (M', ρ) = zX zP zK_X6_same (96, [zR 16 i, zI x1, zI (nI ap), zI x3, zI x4, zI (nI (cnt P 1000)), zI (nI (cnt Q 1000)), zI (nI (a + 1)), v], []) (M'', ρ) ∧ tbl M'' P Q ap (a + 1) 0 ∧ tbFr M' M'' := by
  intro d
  induction d with
  | zero =>
    intro b M' hb hP hQ ht
    refine ⟨M', zI (nI b), ?_, fun a' b' h1 h2 => ht a' b' h1 (by omega), fun _ _ _ _ => rfl⟩
    rw [e_X6_same_106, if_pos (nI_lt (by omega) (by omega)), nI_1]
  | succ d ih =>
    intro b M' hb hP hQ ht
    obtain ⟨M1, g1, g2, g3⟩ := m_pairsOf (i := i) (ρ := ρ) (ap := ap) (a := a) (b := b) hap hP hQ p80 q80 ha (by omega) (fun a' b' e1 e2 => ⟨ht a' b (by omega) (by omega), ht a b' (by omega) (by omega), ht a' b' (by omega) (by omega)⟩)
    have tP : mTimes M1 37 P := fun y y1 y2 => (g3 _ _ _ (by omega)).trans (hP y y1 y2)
    have tQ : mTimes M1 38 Q := fun y y1 y2 => (g3 _ _ _ (by omega)).trans (hQ y y1 y2)
    obtain ⟨M2, v, k1, k2, k3⟩ := ih (b + 1) M1 (by omega) tP tQ (fun a' b' h1 h2 => by
      by_cases e : a' = a ∧ b' = b
      · rw [e.1, e.2]; exact g2
      · have o := ht a' b' h1 (by omega)
        exact ⟨(g3 _ _ _ (by omega)).trans o.1, (g3 _ _ _ (by omega)).trans o.2⟩)
    refine ⟨M2, v, ?_, k2, fun k j q h => (k3 k j q h).trans (g3 k j q (by omega))⟩
    rw [e_X6_same_106, if_neg (nI_nlt (by omega) (by omega)), g1, zcV_ok, nI_1, k1]
theorem sm_out {ap : Nat} (hap : ap ≤ 999) (p80 : cnt P 1000 ≤ 80) (q80 : cnt Q 1000 ≤ 80) (x1 x3 x4 : Int32) : ∀ d a M' v, a + d = cnt P 1000 + 1 → mTimes M' 37 P → mTimes M' 38 Q → tbl M' P Q ap a 0 → ∃ M'', zX zP zK_X6_same (96, [zR 16 i, zI x1, zI (nI ap), zI x3, zI x4, zI (nI (cnt P 1000)), zI (nI (cnt Q 1000)), zI (nI a), v], []) (M', ρ) = zok (if x3 = 0 then nI (pa ap (dPQ P Q) (cnt P 1000) (cnt Q 1000)).1 else nI (pa ap (dPQ P Q) (cnt P 1000) (cnt Q 1000)).2) (M'', ρ) ∧ tbFr M' M'' := by
  intro d
  induction d with
  | zero =>
    intro a M' v ha hP hQ ht
    have c1 := nIk (k := 81 * cnt P 1000 + cnt Q 1000) (N := 6561) (by omega) (by omega)
    have c2 := nI_clamp (n := 81 * cnt P 1000 + cnt Q 1000) (by omega)
    have o := ht (cnt P 1000) (cnt Q 1000) (Nat.le_refl _) (by omega)
    refine ⟨M', ?_, fun _ _ _ _ => rfl⟩
    rw [e_X6_same_96, if_pos (nI_lt (by omega) (by omega)), nI_81]
    simp only [c1, c2, if_false]
    rw [o.1, o.2]
    by_cases c : x3 = 0
    · rw [if_pos c, if_pos c]
    · rw [if_neg c, if_neg c]
  | succ d ih =>
    intro a M' v ha hP hQ ht
    obtain ⟨M1, v1, g1, g2, g3⟩ := sm_in (i := i) (ρ := ρ) hap p80 q80 (show a ≤ cnt P 1000 by omega) x1 x3 x4 (cnt Q 1000 + 1) 0 M' (by omega) hP hQ ht
    have tP : mTimes M1 37 P := fun y y1 y2 => (g3 _ _ _ (by omega)).trans (hP y y1 y2)
    have tQ : mTimes M1 38 Q := fun y y1 y2 => (g3 _ _ _ (by omega)).trans (hQ y y1 y2)
    obtain ⟨M2, k1, k2⟩ := ih (a + 1) M1 v1 (by omega) tP tQ g2
    refine ⟨M2, ?_, fun k j q h => (k2 k j q h).trans (g3 k j q h)⟩
    rw [nI_0] at g1
    rw [e_X6_same_96, if_neg (nI_nlt (by omega) (by omega)), g1, k1]
theorem nI_div100k {v : Nat} (hv : v < 2 ^ 31) : nI v / 100000 = nI (v / 100000) := by
  apply Int32.toInt_inj.mp
  rw [Int32.toInt_div, nI_toInt hv, nI_toInt (show v / 100000 < 2 ^ 31 by omega), show (100000 : Int32).toInt = ((100000 : Nat) : Int) from by decide, ← Int.ofNat_tdiv]
  rw [Int.bmod_def]
  have : ((v / 100000 : Nat) : Int) % ((2 ^ 32 : Nat) : Int) = ((v / 100000 : Nat) : Int) := Int.emod_eq_of_lt (by omega) (by omega)
  rw [this, if_pos (by omega)]
theorem ag_read2 {c m : Nat} {args : List zAV} {cd : Nat → Int32} {T : zSheet} (hR : Rs M T n H) {x : Int32} (hc : ∀ ρ, ∃ M1, zrun zP c (zR 15 0 :: args) (M, ρ) = zok x (M1, ρ) ∧ scFr M M1) (hm : ∀ M1 ρ', scFr M M1 → Rs M1 T n H → ∃ M2, zrun zP m (zR 16 0 :: args) (M1, ρ') = zok x (M2, ρ') ∧ scFr M1 M2 ∧ M2 16 0 0 = 0) : zAg c m args cd M := by
  intro ρ ρ'
  obtain ⟨M1, h1, h2⟩ := hc ρ
  have hR1 := Rs_sc hR h2
  obtain ⟨M2, g1, g2, g3⟩ := hm M1 ρ' h2 hR1
  exact Or.inl ⟨x, M1, M2, h1, g1, g3, T, n, H, Rs_sc hR1 g2⟩
theorem a_same (h : zRel M) (x ap y : Int32) : zAg 119 242 [zI x, zI ap, zI y] cdL M := by
  obtain ⟨T, n, H, hR⟩ := h
  have hS := hR.1.1
  have h6 := hS.2.1
  have ok := hR.1.2.2
  by_cases c : pTr T x
  · by_cases cr : pTm ap ∧ (¬ y < 0 ∧ ¬ (1 : Int32) < y)
    · have c' := c
      obtain ⟨t, ht, rfl⟩ := pTr_n h6 c'
      obtain ⟨ca, cy⟩ := cr
      obtain ⟨a0, ha9, rfl⟩ := pTm_n ca
      obtain ⟨q1, q2, q3⟩ := s_in (σ := (M, (0, 0))) hS ht
      have hn1 : M 12 (6 * 0 + t) 0 = rnm (T.2 t) := (hS.2.2 t ht).1.1
      have pc : ∀ ρ, zrun zP 119 [zR 15 0, zI (nI t), zI (nI a0), zI y] (M, ρ) = zcR (zrun zP 132 [zR 15 0, zR 12 (6 * 0 + t)] (M, ρ)) (fun p4 q4 s4 => zX zP zK_X5_same (40, [zR 15 0, zI (nI t), zI (nI a0), zI y, zR 12 (6 * 0 + t), zR p4 q4, zJunk, zJunk], []) s4) := fun ρ => by
        rw [e_X5_same, (n_tier (σ := (M, ρ)) hS _).1 c, zcV_ok, (n_range (σ := (M, ρ)) (nI a0) 0 999).1 ca, zcV_ok, (n_range (σ := (M, ρ)) y 0 1).1 cy, zcV_ok]
        simp only [q2, q1, if_false]
      have pm : ∀ M1 ρ', mSheet M1 31 T → zrun zP 242 [zR 16 0, zI (nI t), zI (nI a0), zI y] (M1, ρ') = zcI (zrun zP 236 [zR 16 0, zI (nI t)] (zms M1 16 0 0 0, ρ')) (fun r13 s13 => if r13 = (-1) then zok (-1) s13 else (zcI (zrun zP 239 [zR 31 0, zI (nI t), zR 37 0] s13) (fun r14 s14 => zcI (zrun zP 239 [zR 32 0, zI r13, zR 38 0] s14) (fun r15 s15 => zX zP zK_X6_same (96, [zR 16 0, zI (nI t), zI (nI a0), zI y, zI r13, zI r14, zI r15, zI 0, zJunk], []) s15)))) := fun M1 ρ' hm1 => by
        rw [e_X6_same, (m_isTier (σ := (zms M1 16 0 0 0, ρ')) (mSheet_z hm1) zms_eq _).1 c, zcI_ok, if_neg (by decide), m_isTm, zcI_ok, zb_t ca, if_neg (by decide), m_isIn, zcI_ok, zb_t cy, if_neg (by decide), m_f1, zcI_ok, if_neg (by decide)]
      rcases twin_or hR.2.2.1 (rnm (T.2 t)) with ⟨w1, w2⟩ | ⟨O, u, hu, o1, o2, o3, w1, w2⟩
      · refine ag_rd hR (x := -1) (fun ρ => ?_) (fun ρ' => ?_)
        · refine (pc ρ).trans ?_
          rw [w1 ρ _ hn1, zcR_ok]
          exact e_X5_same_40n 0 (nI t) (nI a0) y _ _ _ _
        · have hz := mSheet_z (i := 0) hR.1.2.1
          rw [pm M ρ' hR.1.2.1, w2 _ ρ' t twF_z (by omega) (hz.2.2 t ht).2.2.2.1, zcI_ok, if_pos rfl]
      · have u6 := o1.2.1
        have ro := ok.2.2.2.1 t ht
        have rO := o3.2.2.2.1 u hu
        have p80 := pEndR_c ro.2.1 (Rs_40 hR t ht)
        have q80 := pEndR_c rO.2.1 (o1.2.2 u hu).1.2.2.2.2.1
        have pok := pa_ok (ap := a0) (fun i j => dPQ_le (P := pEndR (T.2 t)) (Q := pEndR (O.2 u)) i j) (cnt (pEndR (T.2 t)) 1000) (cnt (pEndR (O.2 u)) 1000)
        have wle := wt_le pok
        obtain ⟨wp1, wp2⟩ := wt_p (by omega) pok
        have pok1 := pok.1
        refine ag_read2 hR (x := if y = 0 then nI (pa a0 (dPQ (pEndR (T.2 t)) (pEndR (O.2 u))) (cnt (pEndR (T.2 t)) 1000) (cnt (pEndR (O.2 u)) 1000)).1 else nI (pa a0 (dPQ (pEndR (T.2 t)) (pEndR (O.2 u))) (cnt (pEndR (T.2 t)) 1000) (cnt (pEndR (O.2 u)) 1000)).2) (fun ρ => ?_) (fun M1 ρ' hf1 hR1 => ?_)
        · obtain ⟨A, a1, a2, a3⟩ := r_listTimes (i := 1) (ρ := ρ) (hS.2.2 t ht).1 ro.2.1
          obtain ⟨B, b1, b2, b3⟩ := r_listTimes (i := 2) (ρ := ρ) (tFr_sh a3 o1 |>.2.2 u hu).1 rO.2.1
          have aB : cTimes B 1 (pEndR (T.2 t)) := ⟨(b3 _ _ _ (by omega) (by omega)).trans a2.1, a2.2.1, fun y y1 y2 => (b3 _ _ _ (by omega) (by omega)).trans (a2.2.2 y y1 y2)⟩
          obtain ⟨C, d1, d2⟩ := c_weigh (i := 0) (ρ := ρ) ha9 aB b2
          refine ⟨C, ?_, scFr_tr (scFr_tr (scFr_t a3) (scFr_t b3)) (fun k j q hk => d2 k j q (by omega))⟩
          refine (pc ρ).trans ?_
          rw [w1 ρ _ hn1, zcR_ok, e_X5_same_40r, a1, zcV_ok, b1, zcV_ok, d1, zcI_ok, if_neg (by decide)]
          generalize wt (pa a0 (dPQ (pEndR (T.2 t)) (pEndR (O.2 u))) (cnt (pEndR (T.2 t)) 1000) (cnt (pEndR (O.2 u)) 1000)) = W at wle wp1 wp2
          have e1 : (nI W + 100000 - 1) / 100000 = nI (pa a0 (dPQ (pEndR (T.2 t)) (pEndR (O.2 u))) (cnt (pEndR (T.2 t)) 1000) (cnt (pEndR (O.2 u)) 1000)).1 := by
            rw [show (100000 : Int32) = nI 100000 from rfl, nI_add, show (1 : Int32) = nI 1 from rfl, nI_sub (by omega), show nI 100000 = (100000 : Int32) from rfl, nI_div100k (by omega), wp1]
          rw [e1, show (100000 : Int32) = nI 100000 from rfl, pk_mul]
          by_cases cy0 : y = 0
          · rw [if_pos cy0, if_pos cy0]
          · rw [if_neg cy0, if_neg cy0]
            by_cases cw : W ≤ (pa a0 (dPQ (pEndR (T.2 t)) (pEndR (O.2 u))) (cnt (pEndR (T.2 t)) 1000) (cnt (pEndR (O.2 u)) 1000)).1 * 100000
            · rw [nI_sub cw, wp2]
            · exfalso
              omega
        · have mT := hR1.1.2.1
          have hz := mSheet_z (i := 0) mT
          have mO : mSheet M1 32 O := mSheet_congr (fun q hq => hf1 _ _ _ (by omega)) o2
          have tw : twF M (zms M1 16 0 0 0) := ⟨fun q hq => (zms_ne (by omega)).trans (hf1 _ _ _ (by omega)), (zms_ne (by omega)).trans (hf1 _ _ _ (by omega))⟩
          obtain ⟨N1, t1, t2, t3⟩ := m_times (a := 30) (b := 36) (ρ := ρ') (by omega) rfl rfl (hz.2.2 t ht) (by omega) ro.2.1
          have oz : mSheet N1 32 O := mSheet_congr (fun q hq => (t3 _ _ _ (by omega)).trans (zms_ne (by omega))) mO
          obtain ⟨N2, s1, s2, s3⟩ := m_times (a := 31) (b := 37) (ρ := ρ') (by omega) rfl rfl (oz.2.2 u hu) (by omega) rO.2.1
          have mP2 : mTimes N2 37 (pEndR (T.2 t)) := fun y y1 y2 => (s3 _ _ _ (by omega)).trans (t2 y y1 y2)
          obtain ⟨N3, r1, r2⟩ := sm_out (i := 0) (ρ := ρ') ha9 p80 q80 (nI t) y (nI u) (cnt (pEndR (T.2 t)) 1000 + 1) 0 N2 zJunk (by omega) mP2 s2 (fun a' b' h1 h2 => by omega)
          refine ⟨N3, ?_, fun k j q hk => ?_, ?_⟩
          · rw [pm M1 ρ' mT, w2 _ ρ' t tw (by omega) (hz.2.2 t ht).2.2.2.1, zcI_ok, if_neg (nI_m1 _ (by omega)), show zrun zP 239 [zR 31 0, zI (nI t), zR 37 0] (zms M1 16 0 0 0, ρ') = _ from t1, zcI_ok, show zrun zP 239 [zR 32 0, zI (nI u), zR 38 0] (N1, ρ') = _ from s1, zcI_ok]
            exact r1
          · rw [r2 k j q (by omega), s3 k j q (by omega), t3 k j q (by omega), zms_ne (by omega)]
          · rw [r2 _ _ _ (by omega), s3 _ _ _ (by omega), t3 _ _ _ (by omega), zms_eq]
    · refine ag_ref hR (e := 1) (by omega) (fun ρ => ?_) (fun ρ' => ?_)
      · rw [e_X5_same, (n_tier (σ := (M, ρ)) hS _).1 c, zcV_ok]
        by_cases ca : pTm ap
        · rw [(n_range (σ := (M, ρ)) ap 0 999).1 ca, zcV_ok, (n_range (σ := (M, ρ)) y 0 1).2 (fun e => cr ⟨ca, e⟩), zcV_cTh]
        · rw [(n_range (σ := (M, ρ)) ap 0 999).2 ca, zcV_cTh]
      · have fa := m_fineA (i := 0) (M := zms (rfM M 1) 16 0 0 0) (ρ := ρ') zms_eq 2 (by decide)
        rw [e_X6_same, (m_isTier (σ := (zms (rfM M 1) 16 0 0 0, ρ')) (mSheet_z (rfM_m hR.1.2.1)) zms_eq _).1 c, zcI_ok, if_neg (by decide), m_isTm, zcI_ok]
        by_cases ca : pTm ap
        · rw [zb_t ca, if_neg (by decide), m_isIn, zcI_ok, zb_f (fun e => cr ⟨ca, e⟩), if_pos rfl, fa, zcI_ok, if_pos rfl]
          rfl
        · rw [zb_f ca, if_pos rfl, fa, zcI_ok, if_pos rfl]
          rfl
  · refine ag_ref hR (e := 0) (by omega) (fun ρ => ?_) (fun ρ' => ?_)
    · rw [e_X5_same, (n_tier (σ := (M, ρ)) hS _).2 c, zcV_cTh]
    · rw [e_X6_same, (m_isTier (σ := (zms (rfM M 0) 16 0 0 0, ρ')) (mSheet_z (rfM_m hR.1.2.1)) zms_eq _).2 c, zcI_ok, if_pos rfl]
      rfl
end ZSB
