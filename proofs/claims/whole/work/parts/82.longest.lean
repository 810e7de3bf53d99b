/-! questions: within, longest, gaps, print -/
section ZLO
variable {T : zSheet} {n i : Nat} {H : Nat → zSheet} {M : zMem} {σ : zSt} {ρ : Int64 × Nat} {r : zTier}
theorem m_inT (h : mSheet σ.1 31 T) (x : Int32) : zrun zP 137 [zI x, zI 0, zI (nI T.1 - 1)] σ = zok (zb (pTr T x)) σ := by
  have h6 := h.2.1
  rw [m_isIn, zb_congr (in_iff (x := x) (n := T.1) (by omega))]
  rfl
theorem m_inK {t : Nat} (h : mRow σ.1 31 t r) (x : Int32) : zrun zP 137 [zI x, zI 0, zI (nI (rct r) - 1)] σ = zok (zb (¬ x < 0 ∧ x < nI (rct r))) σ := by
  have h4 := h.2.2.2.2.1
  rw [m_isIn, zb_congr (in_iff (x := x) (n := rct r) (by omega))]
theorem a_within (h : zRel M) (x k o y : Int32) : zAg 111 230 [zI x, zI k, zI o, zI y] cdL M := by
  obtain ⟨T, n, H, hR⟩ := h
  have hS := hR.1.1
  have h6 := hS.2.1
  by_cases c : pMk T x k ∧ pTr T o
  · obtain ⟨cm, co⟩ := c
    have cm' := cm
    obtain ⟨t, j, ht, hj, rfl, rfl⟩ := cm'
    have co' := co
    obtain ⟨u, hu, rfl⟩ := pTr_n h6 co'
    have ct : pTr T (nI t) := pTr_i h6 ht
    have cj : ¬ nI j < 0 ∧ nI j < nI (rct (T.2 t)) := ⟨nI_pos (by have := Rs_40 hR t ht; omega), nI_lt hj (by have := Rs_40 hR t ht; omega)⟩
    have pre : ∀ M1, mSheet M1 31 T → ∀ ρ', zrun zP 230 [zR 16 0, zI (nI t), zI (nI j), zI (nI u), zI y] (M1, ρ') = (zcI (zrun zP 137 [zI y, zI 0, zI 2] (zms M1 16 0 0 0, ρ')) (fun r17 s17 => zcI (zrun zP 136 [zR 16 0, zI r17, zI 2, zI 1] s17) (fun r18 s18 => if r18 = 0 then zok 0 s18 else (zX zP zK_X6_within (92, [zR 16 0, zI (nI t), zI (nI j), zI (nI u), zI y, zI 0, zI (-1), zI 0, zI 0], []) s18)))) := fun M1 hm1 ρ' => by
      have hz := mSheet_z (i := 0) hm1
      rw [e_X6_within, m_tiers' (σ := (zms M1 16 0 0 0, ρ')) hz, zcI_ok, m_inT (σ := (zms M1 16 0 0 0, ρ')) hz, zcI_ok, zb_t ct, if_neg (by decide), m_tiers' (σ := (zms M1 16 0 0 0, ρ')) hz, zcI_ok, m_inT (σ := (zms M1 16 0 0 0, ρ')) hz, zcI_ok, zb_t co, if_neg (by decide), m_many (σ := (zms M1 16 0 0 0, ρ')) (hz.2.2 t ht) (by omega), zcI_ok, m_inK (σ := (zms M1 16 0 0 0, ρ')) (hz.2.2 t ht), zcI_ok, zb_t cj, if_neg (by decide), m_f1, zcI_ok, if_neg (by decide)]
    by_cases cr : ¬ y < 0 ∧ ¬ (2 : Int32) < y
    · obtain ⟨q1, q2, q3⟩ := s_in (σ := (M, (0, 0))) hS ht
      obtain ⟨p1, p2, p3⟩ := s_in (σ := (M, (0, 0))) hS hu
      have h40 := Rs_40 hR t ht
      have ein := nIk (k := j) (N := 40) (by omega) (by omega)
      have ecl := nI_clamp (n := j) (by omega)
      have f := (hS.2.2 t ht).1.2.2.2.2.2 j hj
      refine ag_rd hR (x := out3 y (zfold (gWi (T.2 u) (rfr (T.2 t) j) (rto (T.2 t) j)) 0 (rct (T.2 u)) (0, -1, 0))) (fun ρ => ?_) (fun ρ' => ?_)
      · rw [e_X5_within, (n_mark (σ := (M, ρ)) hS _ _).1 cm, zcV_ok, (n_tier (σ := (M, ρ)) hS _).1 co, zcV_ok, (n_range (σ := (M, ρ)) y 0 2).1 cr, zcV_ok]
        simp only [q2, q1, p2, p1, ecl, ein, if_false]
        rw [f.1, f.2.1]
        exact c_within (σ := (M, ρ)) (hS.2.2 u hu).1 _ _ _ y _ _
      · have hz := mSheet_z (i := 0) hR.1.2.1
        rw [pre M hR.1.2.1 ρ', m_isIn, zcI_ok, zb_t cr, m_f1, zcI_ok, if_neg (by decide)]
        exact m_within (σ := (zms M 16 0 0 0, ρ')) hz ht hj hu y
    · refine ag_ref hR (e := 1) (by omega) (fun ρ => ?_) (fun ρ' => ?_)
      · rw [e_X5_within, (n_mark (σ := (M, ρ)) hS _ _).1 cm, zcV_ok, (n_tier (σ := (M, ρ)) hS _).1 co, zcV_ok, (n_range (σ := (M, ρ)) y 0 2).2 cr, zcV_cTh]
      · rw [pre _ (rfM_m hR.1.2.1) ρ', m_isIn, zcI_ok, zb_f cr, m_fineA zms_eq 2 (by decide), zcI_ok, if_pos rfl]
        rfl
  · refine ag_ref hR (e := 0) (by omega) (fun ρ => ?_) (fun ρ' => ?_)
    · rw [e_X5_within]
      by_cases cm : pMk T x k
      · rw [(n_mark (σ := (M, ρ)) hS _ _).1 cm, zcV_ok, (n_tier (σ := (M, ρ)) hS _).2 (fun e => c ⟨cm, e⟩), zcV_cTh]
      · rw [(n_mark (σ := (M, ρ)) hS _ _).2 cm, zcV_cTh]
    · have hz := mSheet_z (i := 0) (rfM_m (e := 0) hR.1.2.1)
      have fn := m_fineN (i := 0) (M := zms (rfM M 0) 16 0 0 0) (ρ := ρ') zms_eq 1 (by decide)
      rw [e_X6_within, m_tiers' (σ := (zms (rfM M 0) 16 0 0 0, ρ')) hz, zcI_ok, m_inT (σ := (zms (rfM M 0) 16 0 0 0, ρ')) hz, zcI_ok]
      by_cases ct : pTr T x
      · rw [zb_t ct, if_neg (by decide), m_tiers' (σ := (zms (rfM M 0) 16 0 0 0, ρ')) hz, zcI_ok, m_inT (σ := (zms (rfM M 0) 16 0 0 0, ρ')) hz, zcI_ok]
        by_cases co : pTr T o
        · obtain ⟨t, ht, rfl⟩ := pTr_n h6 ct
          have hk := pMk_iff (x := nI t) (y := k) ht h6 (Rs_40 hR t ht) rfl
          rw [zb_t co, if_neg (by decide), m_many (σ := (zms (rfM M 0) 16 0 0 0, ρ')) (hz.2.2 t ht) (by omega), zcI_ok, m_inK (σ := (zms (rfM M 0) 16 0 0 0, ρ')) (hz.2.2 t ht), zcI_ok, zb_f (fun e => c ⟨hk.mpr e, co⟩), if_pos rfl, fn, zcI_ok, if_pos rfl]
          rfl
        · rw [zb_f co, if_pos rfl, fn, zcI_ok, if_pos rfl]
          rfl
      · rw [zb_f ct, if_pos rfl, fn, zcI_ok, if_pos rfl]
        rfl
/-! longest -/
def fLo (r : zTier) (x : Int32) (k : Nat) (s : Int32 × Int32 × Int32 × Int32) : Int32 × Int32 × Int32 × Int32 := if rlb r k = x then (if s.1 = -1 ∨ s.2.1 < rto r k - rfr r k then (nI k, rto r k - rfr r k, s.2.2.1 + 1, s.2.2.2 + (rto r k - rfr r k)) else (s.1, s.2.1, s.2.2.1 + 1, s.2.2.2 + (rto r k - rfr r k))) else s
def out4 (y : Int32) (s : Int32 × Int32 × Int32 × Int32) : Int32 := if y = 0 then s.1 else if y = 1 then s.2.1 else if y = 2 then s.2.2.1 else s.2.2.2
theorem c_longest {j : Nat} (h : cRow σ.1 j r) (x1 x y : Int32) : zX zP zK_X5_longest (38, [zR 15 i, zI x1, zI x, zI y, zR 12 j, zI (-1), zI 0, zI 0, zI 0, zI 0], []) σ = zok (out4 y (zfold (fLo r x) 0 (rct r) (-1, 0, 0, 0))) σ := by
  have h4 := h.2.2.2.2.1
  have L := zfold_loopN (X := fun k (s : Int32 × Int32 × Int32 × Int32) => zX zP zK_X5_longest (38, [zR 15 i, zI x1, zI x, zI y, zR 12 j, zI s.1, zI s.2.1, zI s.2.2.1, zI s.2.2.2, zI (nI k)], []) σ) (w := fun s => zok (out4 y s) σ) (f := fLo r x) (n := rct r) (fun k s hk => by
    have ein := nIk (k := k) (N := 40) (by omega) (by omega)
    have ecl := nI_clamp (n := k) (by omega)
    rw [e_X5_longest_38, h.2.2.2.1, if_pos (nI_lt hk (by omega))]
    simp only [ecl, ein, if_false]
    rw [(h.2.2.2.2.2 k hk).2.2, nI_1]
    simp only [r_length h hk, zcI_ok]
    unfold fLo
    by_cases c : rlb r k = x
    · rw [if_pos c, if_pos c]
      by_cases c2 : s.1 = -1
      · rw [if_pos c2, if_pos (Or.inl c2)]
      · rw [if_neg c2]
        by_cases c3 : s.2.1 < rto r k - rfr r k
        · rw [if_pos c3, if_pos (Or.inr c3)]
        · rw [if_neg c3, if_neg (fun e => e.elim c2 c3)]
    · rw [if_neg c, if_neg c]) (fun s => by
    rw [e_X5_longest_38, h.2.2.2.1, if_neg (nI_nlt (Nat.le_refl _) (by omega))]
    unfold out4
    repeat' split
    all_goals rfl) (rct r) 0 (-1, 0, 0, 0) (by omega)
  exact L
theorem m_longest {t : Nat} (h : mRow σ.1 31 t r) (ht : t < 6) (x y : Int32) : zX zP zK_X6_longest (42, [zR 16 i, zI (nI t), zI x, zI y, zI (-1), zI 0, zI 0, zI 0], []) σ = zok (out4 y (zfold (fLo r x) 0 (rct r) (-1, 0, 0, 0))) σ := by
  have h4 := h.2.2.2.2.1
  have L := zfold_loop (X := fun k (s : Int32 × Int32 × Int32 × Int32) => zX zP zK_X6_longest (42, [zR 16 i, zI (nI t), zI x, zI y, zI s.1, zI s.2.2.1, zI s.2.2.2, zI (nI k)], []) σ) (w := fun s => zok (out4 y s) σ) (f := fLo r x) (n := rct r) (fun _ s => (s.1 = -1 ∧ s.2.1 = 0) ∨ ∃ j, j < rct r ∧ s.1 = nI j ∧ s.2.1 = rto r j - rfr r j) (fun k s hk hI => by
    unfold fLo
    by_cases c : rlb r k = x
    · rw [if_pos c]
      by_cases c2 : s.1 = -1 ∨ s.2.1 < rto r k - rfr r k
      · rw [if_pos c2]; exact Or.inr ⟨k, hk, rfl, rfl⟩
      · rw [if_neg c2]; exact hI
    · rw [if_neg c]; exact hI) (fun k s hk hI => by
    have fr := m_from (i := i) h ht hk
    have to := m_to (i := i) h ht hk
    rw [e_X6_longest_42, m_many h ht, zcI_ok, if_pos (nI_lt hk (by omega)), m_labelOf h ht hk, zcI_ok, nI_1]
    unfold fLo
    by_cases c : rlb r k = x
    · rw [if_pos c, if_pos c, to, zcI_ok, fr, zcI_ok]
      rcases hI with ⟨e1, e2⟩ | ⟨j, j1, j2, j3⟩
      · rw [if_pos e1, if_pos (Or.inl e1)]
      · have hne : ¬ s.1 = -1 := by rw [j2]; exact nI_m1 _ (by omega)
        rw [if_neg hne, to, zcI_ok, fr, zcI_ok, j2, m_to (i := i) h ht j1, zcI_ok, m_from (i := i) h ht j1, zcI_ok, j3]
        rw [j2] at hne
        by_cases c3 : rto r j - rfr r j < rto r k - rfr r k
        · rw [if_pos c3, if_pos (Or.inr c3)]
        · rw [if_neg c3, if_neg (fun e => e.elim hne c3)]
    · rw [if_neg c, if_neg c]) (fun s hI => by
    rw [e_X6_longest_42, m_many h ht, zcI_ok, if_neg (nI_nlt (Nat.le_refl _) (by omega))]
    unfold out4
    by_cases c0 : y = 0
    · rw [if_pos c0, if_pos c0]
    · rw [if_neg c0, if_neg c0]
      by_cases c1 : y = 1
      · rw [if_pos c1, if_pos c1]
        rcases hI with ⟨e1, e2⟩ | ⟨j, j1, j2, j3⟩
        · rw [if_pos e1, e2]
        · rw [j2, if_neg (nI_m1 _ (by omega)), m_to (i := i) h ht j1, zcI_ok, m_from (i := i) h ht j1, zcI_ok, j3]
      · rw [if_neg c1, if_neg c1]
        by_cases c2 : y = 2
        · rw [if_pos c2, if_pos c2]
        · rw [if_neg c2, if_neg c2]) (rct r) 0 (-1, 0, 0, 0) (by omega) (Or.inl ⟨rfl, rfl⟩)
  exact L.1
theorem a_longest (h : zRel M) (x l y : Int32) : zAg 114 233 [zI x, zI l, zI y] cdL M := by
  obtain ⟨T, n, H, hR⟩ := h
  have hS := hR.1.1
  have h6 := hS.2.1
  have hz := mSheet_z (i := 0) hR.1.2.1
  by_cases c : pTr T x
  · by_cases cr : ¬ y < 0 ∧ ¬ (3 : Int32) < y
    · have c' := c
      obtain ⟨t, ht, rfl⟩ := pTr_n h6 c'
      obtain ⟨q1, q2, q3⟩ := s_in (σ := (M, (0, 0))) hS ht
      refine ag_rd hR (x := out4 y (zfold (fLo (T.2 t) l) 0 (rct (T.2 t)) (-1, 0, 0, 0))) (fun ρ => ?_) (fun ρ' => ?_)
      · rw [e_X5_longest, (n_tier (σ := (M, ρ)) hS _).1 c, zcV_ok, (n_range (σ := (M, ρ)) y 0 3).1 cr, zcV_ok]
        simp only [q2, q1, if_false]
        exact c_longest (σ := (M, ρ)) (hS.2.2 t ht).1 _ l y
      · rw [e_X6_longest, (m_isTier (σ := (zms M 16 0 0 0, ρ')) hz zms_eq _).1 c, zcI_ok, if_neg (by decide), m_isIn, zcI_ok, zb_t cr, m_f1, zcI_ok, if_neg (by decide)]
        exact m_longest (σ := (zms M 16 0 0 0, ρ')) (hz.2.2 t ht) (by omega) l y
    · refine ag_ref hR (e := 1) (by omega) (fun ρ => ?_) (fun ρ' => ?_)
      · rw [e_X5_longest, (n_tier (σ := (M, ρ)) hS _).1 c, zcV_ok, (n_range (σ := (M, ρ)) y 0 3).2 cr, zcV_cTh]
      · rw [e_X6_longest, (m_isTier (σ := (zms (rfM M 1) 16 0 0 0, ρ')) (mSheet_z (rfM_m hR.1.2.1)) zms_eq _).1 c, zcI_ok, if_neg (by decide), m_isIn, zcI_ok, zb_f cr, m_fineA zms_eq 2 (by decide), zcI_ok, if_pos rfl]
        rfl
  · refine ag_ref hR (e := 0) (by omega) (fun ρ => ?_) (fun ρ' => ?_)
    · rw [e_X5_longest, (n_tier (σ := (M, ρ)) hS _).2 c, zcV_cTh]
    · rw [e_X6_longest, (m_isTier (σ := (zms (rfM M 0) 16 0 0 0, ρ')) (mSheet_z (rfM_m hR.1.2.1)) zms_eq _).2 c, zcI_ok, if_pos rfl]
      rfl
/-! gaps -/
noncomputable def pGap (T : zSheet) (t k : Nat) : Int32 := @ite _ (¬ rkd (T.2 t) = 3 ∧ k + 1 < rct (T.2 t) ∧ pPM T t k = pPM T t (k + 1)) (Classical.propDecidable _) (rfr (T.2 t) (k + 1) - rto (T.2 t) k) 0
noncomputable def fGa (T : zSheet) (t k : Nat) (s : Int32 × Int32 × Int32 × Int32) : Int32 × Int32 × Int32 × Int32 := if 0 < pGap T t k then (if s.2.2.1 < pGap T t k then (s.1 + 1, nI k, pGap T t k, s.2.2.2 + pGap T t k) else (s.1 + 1, s.2.1, s.2.2.1, s.2.2.2 + pGap T t k)) else s
theorem gap_nn {t : Nat} (hs : zSrt (T.2 t)) (hr : zRt (T.2 t)) {k : Nat} (hk : k + 1 < rct (T.2 t)) : (rfr (T.2 t) (k + 1) - rto (T.2 t) k = 0 ∨ 0 < rfr (T.2 t) (k + 1) - rto (T.2 t) k) ∧ ¬ rfr (T.2 t) (k + 1) - rto (T.2 t) k < 0 := by
  obtain ⟨⟨a, a1, a2⟩, -⟩ := hr (k + 1) hk
  obtain ⟨-, b, b1, b2⟩ := hr k (by omega)
  have s := hs.2 k (k + 1) (by omega) hk
  rw [a2, b2] at s ⊢
  rw [nI_lp (by omega) (by omega)] at s
  rw [nI_sub (by omega), nI_0l (by omega), nI_l0 (by omega)]
  refine ⟨?_, fun e => e⟩
  by_cases c : 0 < a - b
  · exact Or.inr c
  · rw [show a - b = 0 by omega]; exact Or.inl rfl
theorem pGap_nn {t : Nat} (hs : zSrt (T.2 t)) (hr : zRt (T.2 t)) (k : Nat) : (pGap T t k = 0 ∨ 0 < pGap T t k) := by
  unfold pGap
  by_cases c : ¬ rkd (T.2 t) = 3 ∧ k + 1 < rct (T.2 t) ∧ pPM T t k = pPM T t (k + 1)
  · rw [@if_pos _ (Classical.propDecidable _) c]
    exact (gap_nn hs hr c.2.1).1
  · rw [@if_neg _ (Classical.propDecidable _) c]
    exact Or.inl rfl
def out4g (y : Int32) (s : Int32 × Int32 × Int32 × Int32) : Int32 := if y = 0 then s.1 else if y = 1 then s.2.1 else if y = 2 then s.2.2.1 else s.2.2.2
theorem c_gaps (h : cSheet σ.1 0 T) (hw : zwp T) {t : Nat} (ht : t < T.1) (hs : zSrt (T.2 t)) (hr : zRt (T.2 t)) (y : Int32) : zX zP zK_X5_gaps (26, [zR 15 i, zI (nI t), zI y, zI 0, zI (-1), zI 0, zI 0, zI 0, zJunk], []) σ = zok (out4g y (zfold (fGa T t) 0 (rct (T.2 t)) (0, -1, 0, 0))) σ := by
  have h4 := (h.2.2 t ht).1.2.2.2.2.1
  obtain ⟨q1, q2, q3⟩ := s_in h ht
  have key : ∀ d k (s : Int32 × Int32 × Int32 × Int32) (v : zAV), k + d = rct (T.2 t) → ¬ s.2.2.1 < 0 → zX zP zK_X5_gaps (26, [zR 15 i, zI (nI t), zI y, zI s.1, zI s.2.1, zI s.2.2.1, zI s.2.2.2, zI (nI k), v], []) σ = zok (out4g y (zfold (fGa T t) k d s)) σ := by
    intro d
    induction d with
    | zero =>
      intro k s v hk hb
      rw [show k = rct (T.2 t) by omega, e_X5_gaps_26]
      simp only [q2, q1, if_false]
      rw [(h.2.2 t ht).1.2.2.2.1, if_neg (nI_nlt (Nat.le_refl _) (by omega))]
      show _ = zok (out4g y s) σ
      unfold out4g
      repeat' split
      all_goals rfl
    | succ d ih =>
      intro k s v hk hb
      have g : zrun zP 76 [zR 13 0, zI (nI t), zI (nI k)] σ = zok (pGap T t k) σ := s_gapBehind h hw ht (by omega)
      rw [e_X5_gaps_26]
      simp only [q2, q1, if_false]
      rw [(h.2.2 t ht).1.2.2.2.1, if_pos (nI_lt (by omega) (by omega)), g, zcI_ok, nI_1]
      show _ = zok (out4g y (zfold (fGa T t) (k + 1) d (fGa T t k s))) σ
      unfold fGa
      by_cases c : 0 < pGap T t k
      · rw [if_pos c, if_pos c]
        by_cases c2 : s.2.2.1 < pGap T t k
        · rw [if_pos c2, if_pos c2]
          refine ih (k + 1) (_, _, _, _) _ (by omega) ?_
          show ¬ pGap T t k < 0
          rw [iI_lt] at c ⊢
          omega
        · rw [if_neg c2, if_neg c2]
          exact ih (k + 1) (s.1 + 1, s.2.1, s.2.2.1, s.2.2.2 + pGap T t k) _ (by omega) hb
      · have c2 : ¬ s.2.2.1 < pGap T t k := by
          rcases pGap_nn hs hr k with e | e
          · rw [e]; exact hb
          · exact absurd e c
        rw [if_neg c, if_neg c, if_neg c2]
        exact ih (k + 1) s _ (by omega) hb
  exact key (rct (T.2 t)) 0 (0, -1, 0, 0) zJunk (by omega) (by show ¬ (0 : Int32) < 0; decide)
theorem zfold_id {α : Type} {f : Nat → α → α} {a : α} : ∀ d k, (∀ j, k ≤ j → f j a = a) → zfold f k d a = a := by
  intro d
  induction d with
  | zero => intro k _; rfl
  | succ d ih =>
    intro k h
    show zfold f (k + 1) d (f k a) = a
    rw [h k (Nat.le_refl _)]
    exact ih (k + 1) (fun j hj => h j (by omega))
theorem m_gaps (h : mSheet σ.1 31 T) (hw : zwp T) {t : Nat} (ht : t < T.1) (hs : zSrt (T.2 t)) (hr : zRt (T.2 t)) (y : Int32) : zX zP zK_X6_gaps (44, [zR 16 i, zI (nI t), zI y, zI 0, zI (-1), zI 0, zI 0, zI 0, zJunk], []) σ = zok (out4g y (zfold (fGa T t) 0 (rct (T.2 t)) (0, -1, 0, 0))) σ := by
  have h6 := h.2.1
  have hm := h.2.2 t ht
  have h4 := hm.2.2.2.2.1
  have stop : ∀ k, (rkd (T.2 t) = 3 ∨ ¬ k + 1 < rct (T.2 t)) → ∀ s, fGa T t k s = s := fun k hk s => by
    unfold fGa
    have e : pGap T t k = 0 := @if_neg _ (Classical.propDecidable _) (fun q => hk.elim q.1 (fun z => z q.2.1)) _ _ _
    rw [e, if_neg (by decide)]
  have key : ∀ d k (s : Int32 × Int32 × Int32 × Int32) (v : zAV), k + d = rct (T.2 t) → zX zP zK_X6_gaps (44, [zR 16 i, zI (nI t), zI y, zI s.1, zI s.2.1, zI s.2.2.1, zI s.2.2.2, zI (nI k), v], []) σ = zok (out4g y (zfold (fGa T t) k d s)) σ := by
    intro d
    induction d with
    | zero =>
      intro k s v hk
      rw [show k = rct (T.2 t) by omega, e_X6_gaps_44, m_many hm (by omega), zcI_ok, nI_1, if_neg (nI_nlt (by omega) (by omega))]
      show _ = zok (out4g y s) σ
      unfold out4g
      repeat' split
      all_goals rfl
    | succ d ih =>
      intro k s v hk
      rw [e_X6_gaps_44, m_many hm (by omega), zcI_ok, nI_1]
      by_cases c : k + 1 < rct (T.2 t)
      · rw [if_pos (nI_lt c (by omega)), m_kind hm (by omega), zcI_ok]
        by_cases c3 : rkd (T.2 t) = 3
        · rw [if_pos c3, zfold_id (f := fGa T t) (a := s) _ _ (fun j _ => stop j (Or.inl c3) s)]
          unfold out4g
          repeat' split
          all_goals rfl
        · have g := gap_nn hs hr c
          rw [if_neg c3, m_from hm (by omega) c, zcI_ok, m_to hm (by omega) (by omega), zcI_ok]
          show _ = zok (out4g y (zfold (fGa T t) (k + 1) d (fGa T t k s))) σ
          by_cases c4 : rfr (T.2 t) (k + 1) - rto (T.2 t) k = 0
          · have e : fGa T t k s = s := by
              unfold fGa
              rw [if_neg]
              unfold pGap
              by_cases q : ¬ rkd (T.2 t) = 3 ∧ k + 1 < rct (T.2 t) ∧ pPM T t k = pPM T t (k + 1)
              · rw [@if_pos _ (Classical.propDecidable _) q, c4]; decide
              · rw [@if_neg _ (Classical.propDecidable _) q]; decide
            rw [if_pos c4, e]
            exact ih (k + 1) s _ (by omega)
          · rw [if_neg c4, m_parentsOf h hw ht (by omega), zcI_ok, m_parentsOf h hw ht c, zcI_ok]
            by_cases c5 : pPM T t k = pPM T t (k + 1)
            · have eg : pGap T t k = rfr (T.2 t) (k + 1) - rto (T.2 t) k := @if_pos _ (Classical.propDecidable _) ⟨c3, c, c5⟩ _ _ _
              have pos : 0 < pGap T t k := by rw [eg]; exact g.1.resolve_left c4
              rw [if_pos c5, ← eg]
              unfold fGa
              rw [if_pos pos]
              by_cases c6 : s.2.2.1 < pGap T t k
              · rw [if_pos c6, if_pos c6]
                exact ih (k + 1) (_, _, _, _) _ (by omega)
              · rw [if_neg c6, if_neg c6]
                exact ih (k + 1) (s.1 + 1, s.2.1, s.2.2.1, s.2.2.2 + pGap T t k) _ (by omega)
            · have e : fGa T t k s = s := by
                unfold fGa
                rw [show pGap T t k = 0 from @if_neg _ (Classical.propDecidable _) (fun q => c5 q.2.2) _ _ _, if_neg (by decide)]
              rw [if_neg c5, e]
              exact ih (k + 1) s _ (by omega)
      · rw [if_neg (nI_nlt (by omega) (by omega)), zfold_id (f := fGa T t) (a := s) _ _ (fun j hj => stop j (Or.inr (by omega)) s)]
        unfold out4g
        repeat' split
        all_goals rfl
  exact key (rct (T.2 t)) 0 (0, -1, 0, 0) zJunk (by omega)
theorem a_gaps (h : zRel M) (x y : Int32) : zAg 115 217 [zI x, zI y] cdL M := by
  obtain ⟨T, n, H, hR⟩ := h
  have hS := hR.1.1
  have h6 := hS.2.1
  have ok := hR.1.2.2
  have hz := mSheet_z (i := 0) hR.1.2.1
  by_cases c : pTr T x
  · by_cases cr : ¬ y < 0 ∧ ¬ (3 : Int32) < y
    · have c' := c
      obtain ⟨t, ht, rfl⟩ := pTr_n h6 c'
      have ro := ok.2.2.2.1 t ht
      refine ag_rd hR (x := out4g y (zfold (fGa T t) 0 (rct (T.2 t)) (0, -1, 0, 0))) (fun ρ => ?_) (fun ρ' => ?_)
      · rw [e_X5_gaps, (n_tier (σ := (M, ρ)) hS _).1 c, zcV_ok, (n_range (σ := (M, ρ)) y 0 3).1 cr, zcV_ok]
        exact c_gaps (σ := (M, ρ)) hS ok.1 ht ro.1 ro.2.1 y
      · rw [e_X6_gaps, (m_isTier (σ := (zms M 16 0 0 0, ρ')) hz zms_eq _).1 c, zcI_ok, if_neg (by decide), m_isIn, zcI_ok, zb_t cr, m_f1, zcI_ok, if_neg (by decide)]
        exact m_gaps (σ := (zms M 16 0 0 0, ρ')) hz ok.1 ht ro.1 ro.2.1 y
    · refine ag_ref hR (e := 1) (by omega) (fun ρ => ?_) (fun ρ' => ?_)
      · rw [e_X5_gaps, (n_tier (σ := (M, ρ)) hS _).1 c, zcV_ok, (n_range (σ := (M, ρ)) y 0 3).2 cr, zcV_cTh]
      · rw [e_X6_gaps, (m_isTier (σ := (zms (rfM M 1) 16 0 0 0, ρ')) (mSheet_z (rfM_m hR.1.2.1)) zms_eq _).1 c, zcI_ok, if_neg (by decide), m_isIn, zcI_ok, zb_f cr, m_fineA zms_eq 2 (by decide), zcI_ok, if_pos rfl]
        rfl
  · refine ag_ref hR (e := 0) (by omega) (fun ρ => ?_) (fun ρ' => ?_)
    · rw [e_X5_gaps, (n_tier (σ := (M, ρ)) hS _).2 c, zcV_cTh]
    · rw [e_X6_gaps, (m_isTier (σ := (zms (rfM M 0) 16 0 0 0, ρ')) (mSheet_z (rfM_m hR.1.2.1)) zms_eq _).2 c, zcI_ok, if_pos rfl]
      rfl
/-! print -/
abbrev zokL (y : Int64) (σ : zSt) : zRes := some (.inl (some (zL y)), σ)
def fPm (r : zTier) (k : Nat) (y : Int64) : Int64 := ((lN 31) * (((lN 31) * (((lN 31) * y) + (Int32.toInt64 (rfr r k)))) + (Int32.toInt64 (rto r k)))) + (Int32.toInt64 (rlb r k))
def fPt (T : zSheet) (t : Nat) (y : Int64) : Int64 := (lN 31) * zfold (fPm (T.2 t)) 0 (rct (T.2 t)) y
theorem c_print (h : cSheet σ.1 0 T) : zrun zP 120 [zR 15 i] σ = zokL (zfold (fPt T) 0 T.1 (lN 0)) σ := by
  have h6 := h.2.1
  have L := zfold_loopV (X := fun t (y : Int64) (v : zAV × zAV × zAV) => zX zP zK_X5_print (4, [zR 15 i, zL y, v.1, zI (nI t), v.2.1, v.2.2], []) σ) (w := fun y => zokL y σ) (f := fPt T) (n := T.1) (fun t y v ht => by
    obtain ⟨q1, q2, q3⟩ := s_in h ht
    have hr := (h.2.2 t ht).1
    have h4 := hr.2.2.2.2.1
    have K := zfold_loopV (X := fun k (y : Int64) (w : zAV) => zX zP zK_X5_print (29, [zR 15 i, zL y, w, zI (nI t), zR 12 (6 * 0 + t), zI (nI k)], []) σ) (w := fun y => zX zP zK_X5_print (4, [zR 15 i, zL ((lN 31) * y), zJunk, zI (nI (t + 1)), zR 12 (6 * 0 + t), zI (nI (rct (T.2 t)))], []) σ) (f := fPm (T.2 t)) (n := rct (T.2 t)) (fun k y w hk => by
      have ein := nIk (k := k) (N := 40) (by omega) (by omega)
      have ecl := nI_clamp (n := k) (by omega)
      have f := hr.2.2.2.2.2 k hk
      rw [e_X5_print_29, hr.2.2.2.1, if_pos (nI_lt hk (by omega))]
      simp only [ecl, ein, if_false]
      rw [f.1, f.2.1, f.2.2, nI_1]
      exact ⟨_, rfl⟩) (fun y w => by
      rw [e_X5_print_29, hr.2.2.2.1, if_neg (nI_nlt (Nat.le_refl _) (by omega)), nI_1]) (rct (T.2 t)) 0 y v.1 (by omega)
    rw [nI_0] at K
    rw [e_X5_print_4, h.1, if_pos q3]
    simp only [q2, q1, if_false]
    rw [K]
    exact ⟨(_, _, _), rfl⟩) (fun y v => by
    rw [e_X5_print_4, h.1, if_neg (nI_nlt (Nat.le_refl _) (by omega))]) T.1 0 (lN 0) (zJunk, zJunk, zJunk) (by omega)
  rw [nI_0] at L
  exact (e_X5_print i σ).trans L
theorem m_print3 {t : Nat} (h : mRow σ.1 31 t r) (ht : t < 6) {k : Nat} (hk : k < rct r) (y : Int64) (v : zAV) : zX zP zK_X6_print (33, [zR 16 i, zL y, v, zI (nI t), zI (nI k), zI 0], []) σ = zX zP zK_X6_print (20, [zR 16 i, zL (fPm r k y), zJunk, zI (nI t), zI (nI (k + 1)), zI 3], []) σ := by
  have h4 := h.2.2.2.2.1
  have f := h.2.2.2.2.2 k hk
  have c1 := nIk (k := 5 + 124 * t + 3 * k) (N := 745) (by omega) (by omega)
  have d1 := nI_clamp (n := 5 + 124 * t + 3 * k) (by omega)
  have c2 := nIk (k := 6 + 124 * t + 3 * k) (N := 745) (by omega) (by omega)
  have d2 := nI_clamp (n := 6 + 124 * t + 3 * k) (by omega)
  have c3 := nIk (k := 7 + 124 * t + 3 * k) (N := 745) (by omega) (by omega)
  have d3 := nI_clamp (n := 7 + 124 * t + 3 * k) (by omega)
  have z1 : (0 : Int32) + 1 = 1 := by decide
  have z2 : (1 : Int32) + 1 = 2 := by decide
  have z3 : (2 : Int32) + 1 = 3 := by decide
  rw [e_X6_print_33, if_pos (by decide), m_cell0, zcI_ok]
  simp only [c1, d1, if_false]
  rw [f.1, z1, e_X6_print_33, if_pos (by decide), m_cell1, zcI_ok]
  simp only [c2, d2, if_false]
  rw [f.2.1, z2, e_X6_print_33, if_pos (by decide), m_cell2, zcI_ok]
  simp only [c3, d3, if_false]
  rw [f.2.2, z3, e_X6_print_33, if_neg (by decide), nI_1]
  rfl
theorem m_print (h : mSheet σ.1 31 T) : zX zP zK_X6_print (9, [zR 16 i, zL (lN 0), zJunk, zI 0, zJunk, zJunk], []) σ = zokL (zfold (fPt T) 0 T.1 (lN 0)) σ := by
  have h6 := h.2.1
  have L := zfold_loopV (X := fun t (y : Int64) (v : zAV × zAV × zAV) => zX zP zK_X6_print (9, [zR 16 i, zL y, v.1, zI (nI t), v.2.1, v.2.2], []) σ) (w := fun y => zokL y σ) (f := fPt T) (n := T.1) (fun t y v ht => by
    have hr := h.2.2 t ht
    have h4 := hr.2.2.2.2.1
    have K : ∀ d k y (w : zAV × zAV), k + d = rct (T.2 t) → ∃ w' : zAV × zAV × zAV, zX zP zK_X6_print (20, [zR 16 i, zL y, w.1, zI (nI t), zI (nI k), w.2], []) σ = zX zP zK_X6_print (9, [zR 16 i, zL ((lN 31) * zfold (fPm (T.2 t)) k d y), w'.1, zI (nI (t + 1)), w'.2.1, w'.2.2], []) σ := by
      intro d
      induction d with
      | zero =>
        intro k y w hk
        refine ⟨(zJunk, zI (nI k), w.2), ?_⟩
        rw [e_X6_print_20, m_many hr (by omega), zcI_ok, if_neg (nI_nlt (by omega) (by omega)), nI_1]
        rfl
      | succ d ih =>
        intro k y w hk
        obtain ⟨w', e⟩ := ih (k + 1) (fPm (T.2 t) k y) (zJunk, zI 3) (by omega)
        refine ⟨w', ?_⟩
        rw [e_X6_print_20, m_many hr (by omega), zcI_ok, if_pos (nI_lt (by omega) (by omega)), m_print3 hr (by omega) (by omega)]
        exact e
    obtain ⟨w', e⟩ := K (rct (T.2 t)) 0 y (v.1, v.2.2) (by omega)
    rw [nI_0] at e
    rw [e_X6_print_9, m_tiers, zcI_ok, h.1, if_pos (nI_lt ht (by omega))]
    exact ⟨w', e⟩) (fun y v => by
    rw [e_X6_print_9, m_tiers, zcI_ok, h.1, if_neg (nI_nlt (Nat.le_refl _) (by omega))]) T.1 0 (lN 0) (zJunk, zJunk, zJunk) (by omega)
  rw [nI_0] at L
  exact L
theorem a_print (h : zRel M) (ρ ρ' : Int64 × Nat) : ∃ y M1 M2, zrun zP 120 [zR 15 0] (M, ρ) = zokL y (M1, ρ) ∧ zrun zP 243 [zR 16 0] (M1, ρ') = zokL y (M2, ρ') ∧ M2 16 0 0 = 0 ∧ zRel M2 := by
  obtain ⟨T, n, H, hR⟩ := h
  refine ⟨zfold (fPt T) 0 T.1 (lN 0), M, zms M 16 0 0 0, c_print (σ := (M, ρ)) hR.1.1, ?_, zms_eq, T, n, H, Rs_sc hR scFr_z⟩
  exact (e_X6_print 0 _).trans (m_print (σ := (zms M 16 0 0 0, ρ')) (mSheet_z hR.1.2.1))
end ZLO
