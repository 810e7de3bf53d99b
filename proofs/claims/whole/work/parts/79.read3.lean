/-! mark, keep, feed -/
section ZQ3
variable {T : zSheet} {n i : Nat} {H : Nat → zSheet} {M : zMem} {σ : zSt} {ρ : Int64 × Nat}
noncomputable def pMark (T : zSheet) (t k : Nat) (y : Int32) : Int32 := if y = 0 then rfr (T.2 t) k else if y = (0 + 1) then rto (T.2 t) k else if y = ((0 + 1) + 1) then rlb (T.2 t) k else if y = (((0 + 1) + 1) + 1) then pPM T t k else if y = ((((0 + 1) + 1) + 1) + 1) then zsum (pHeld T t (nI k) (pPM T)) (t + 1) (T.1 - (t + 1)) else if y = (((((0 + 1) + 1) + 1) + 1) + 1) then zsum (pEndsS T (pRoot T t) (rfr (T.2 t) k)) 0 T.1 else zsum (pEndsS T (pRoot T t) (rto (T.2 t) k)) 0 T.1
theorem a_mark (h : zRel M) (x y z : Int32) : zAg 108 227 [zI x, zI y, zI z] cdL M := by
  obtain ⟨T, n, H, hR⟩ := h
  have hS := hR.1.1
  have h6 := hS.2.1
  have ok := hR.1.2.2
  by_cases c : pMk T x y
  · by_cases cr : ¬ z < 0 ∧ ¬ (6 : Int32) < z
    · have c' := c
      obtain ⟨t, k, ht, hk, rfl, rfl⟩ := c'
      have hro := pRoot_lt ok.1 h6 ht
      obtain ⟨q1, q2, q3⟩ := s_in (σ := (M, (0, 0))) hS ht
      have hr := hS.2.2 t ht
      have h40 := hr.1.2.2.2.2.1
      have f := hr.1.2.2.2.2.2 k hk
      have ein := nIk (k := k) (N := 40) (by omega) (by omega)
      have ecl := nI_clamp (n := k) (by omega)
      refine ag_rd hR (x := pMark T t k z) (fun ρ => ?_) (fun ρ' => ?_)
      · rw [e_X5_mark, (n_mark (σ := (M, ρ)) hS _ _).1 c, zcV_ok, (n_range (σ := (M, ρ)) z 0 6).1 cr, zcV_ok]
        simp only [q2, q1, ecl, ein, if_false]
        rw [s_parentMark (σ := (M, ρ)) hS ok.1 ht hk, zcI_ok, s_countHeld (σ := (M, ρ)) hS ok.1 ht, zcI_ok, hr.2.1, f.1, f.2.1, f.2.2, s_countEnds (σ := (M, ρ)) hS ok.1 _ hro, zcI_ok, s_countEnds (σ := (M, ρ)) hS ok.1 _ hro, zcI_ok]
        unfold pMark
        repeat' split
        all_goals rfl
      · have hz := mSheet_z (i := 0) hR.1.2.1
        have hm := hz.2.2 t ht
        rw [e_X6_mark, (m_isMark (σ := (zms M 16 0 0 0, ρ')) hz zms_eq _ _).1 c, zcI_ok, if_neg (by decide), m_isIn, zcI_ok, zb_t cr, m_f1, zcI_ok, if_neg (by decide), m_from (σ := (zms M 16 0 0 0, ρ')) hm (by omega) hk, zcI_ok, m_to (σ := (zms M 16 0 0 0, ρ')) hm (by omega) hk, zcI_ok, m_labelOf (σ := (zms M 16 0 0 0, ρ')) hm (by omega) hk, zcI_ok, m_parentsOf (σ := (zms M 16 0 0 0, ρ')) hz ok.1 ht hk, zcI_ok, m_lieIn (σ := (zms M 16 0 0 0, ρ')) hz ok.1 ht, zcI_ok, m_topOf (σ := (zms M 16 0 0 0, ρ')) hz ok.1 ht, zcI_ok]
        simp only [zcI_ok, m_from (σ := (zms M 16 0 0 0, ρ')) hm (show t < 6 by omega) hk, m_to (σ := (zms M 16 0 0 0, ρ')) hm (show t < 6 by omega) hk, m_endsAt (σ := (zms M 16 0 0 0, ρ')) hz ok.1 _ hro]
        unfold pMark
        repeat' split
        all_goals rfl
    · refine ag_ref hR (e := 1) (by omega) (fun ρ => ?_) (fun ρ' => ?_)
      · rw [e_X5_mark, (n_mark (σ := (M, ρ)) hS _ _).1 c, zcV_ok, (n_range (σ := (M, ρ)) z 0 6).2 cr, zcV_cTh]
      · rw [e_X6_mark, (m_isMark (σ := (zms (rfM M 1) 16 0 0 0, ρ')) (mSheet_z (rfM_m hR.1.2.1)) zms_eq _ _).1 c, zcI_ok, if_neg (by decide), m_isIn, zcI_ok, zb_f cr, m_fineA zms_eq 2 (by decide), zcI_ok, if_pos rfl]
        rfl
  · refine ag_ref hR (e := 0) (by omega) (fun ρ => ?_) (fun ρ' => ?_)
    · rw [e_X5_mark, (n_mark (σ := (M, ρ)) hS _ _).2 c, zcV_cTh]
    · rw [e_X6_mark, (m_isMark (σ := (zms (rfM M 0) 16 0 0 0, ρ')) (mSheet_z (rfM_m hR.1.2.1)) zms_eq _ _).2 c, zcI_ok, if_pos rfl]
      rfl
/-! keep -/
theorem m_copies {a b : Nat} (hne : a ≠ b) (hl : zlenI (a + 1) 0 = 745) (hl2 : zlenI (b + 1) 0 = 745) : ∀ d q M', q + d = 745 → ∃ M'', zX zP zK_X6_copies (2, [zR (a + 1) 0, zR (b + 1) 0, zI (nI q)], []) (M', ρ) = zvd (M'', ρ) ∧ (∀ p, q ≤ p → p < 745 → M'' (b + 1) 0 p = M' (a + 1) 0 p) ∧ ∀ k j p, ¬ (k = b + 1 ∧ j = 0 ∧ q ≤ p ∧ p < 745) → M'' k j p = M' k j p := by
  intro d
  induction d with
  | zero =>
    intro q M' hq
    refine ⟨M', ?_, fun p h1 h2 => by omega, fun _ _ _ _ => rfl⟩
    rw [show q = 745 by omega, e_X6_copies_2, if_neg (show ¬ nI 745 < 745 by decide)]
  | succ d ih =>
    intro q M' hq
    have ein := nIk (k := q) (N := 745) (by omega) (by omega)
    have ecl := nI_clamp (n := q) (by omega)
    obtain ⟨M2, g1, g2, g3⟩ := ih (q + 1) (zms M' (b + 1) 0 q (M' (a + 1) 0 q)) (by omega)
    refine ⟨M2, ?_, fun p h1 h2 => ?_, fun k j p h => ?_⟩
    · rw [e_X6_copies_2, if_pos (show nI q < 745 from (nI_lt (by omega) (by omega) : nI q < nI 745)), nI_1]
      simp only [hl, hl2, ecl, ein, if_false]
      exact g1
    · by_cases e : p = q
      · rw [g3 _ _ _ (by omega), e, zms_eq]
      · rw [g2 p (by omega) h2, zms_ne (by omega)]
    · rw [g3 _ _ _ (by omega), zms_ne (by omega)]
theorem a_keep (h : zRel M) : zAg 105 219 [] cdN M := by
  obtain ⟨T, n, H, hR⟩ := h
  intro ρ ρ'
  obtain ⟨⟨a1, a2, a3⟩, ⟨b1, b2, b3⟩, k1, k2, k3⟩ := hR
  obtain ⟨M1, e1, e2, e3⟩ := s_copyFrom (ρ := ρ) (s0 := 1) (s1 := 0) (by omega) a1
  have s1 : cSheet (zms M1 15 0 2 1) 1 T := cSheet_congr (fun k j q e => zms_ne (by omega)) e2
  have f1 : ∀ k j q, ¬ (k = 15 ∧ j = 0 ∧ q = 2) → ¬ ((k = 13 ∧ j = 1 ∧ q = 0) ∨ (6 ≤ j ∧ j < 12 ∧ (k = 12 ∨ k = 20 ∨ k = 21 ∨ k = 22))) → zms M1 15 0 2 1 k j q = M k j q := fun k j q h1 h2 => (zms_ne (by omega)).trans (e3 k j q (by omega))
  obtain ⟨M2, g1, g2, g3⟩ := m_copies (ρ := ρ') (a := 30) (b := 31) (by omega) rfl rfl 745 0 (zms (zms M1 15 0 2 1) 16 0 0 0) (by omega)
  have f2 : ∀ k j q, ¬ (k = 16 ∧ j = 0 ∧ (q = 0 ∨ q = 7)) → ¬ (k = 32 ∧ j = 0) → zms M2 16 0 7 1 k j q = zms M1 15 0 2 1 k j q := fun k j q h1 h2 => by
    rw [zms_ne (by omega), g3 k j q (by omega), zms_ne (by omega)]
  have f3 : ∀ k j q, ¬ (k = 16 ∧ j = 0 ∧ (q = 0 ∨ q = 7)) → ¬ (k = 32 ∧ j = 0) → ¬ (k = 15 ∧ j = 0 ∧ q = 2) → ¬ ((k = 13 ∧ j = 1 ∧ q = 0) ∨ (6 ≤ j ∧ j < 12 ∧ (k = 12 ∨ k = 20 ∨ k = 21 ∨ k = 22))) → zms M2 16 0 7 1 k j q = M k j q := fun k j q h1 h2 h3 h4 => (f2 k j q h1 h2).trans (f1 k j q h3 h4)
  have m31 : mSheet (zms M2 16 0 7 1) 31 T := mSheet_congr (fun q hq => f3 _ _ _ (by omega) (by omega) (by omega) (by omega)) a2
  refine Or.inl ⟨zsum (fun t => nI (rct (T.2 t))) 0 T.1, zms M1 15 0 2 1, zms M2 16 0 7 1, ?_, ?_, ?_, T, n, H, ⟨?_, m31, a3⟩, ⟨?_, ?_, b3⟩, ?_, ?_, ?_⟩
  · rw [e_X5_keep, e1, zcV_ok]
    show zcI (zrun zP 53 [zR 13 1] (zms M1 15 0 2 1, ρ)) _ = _
    rw [s_countMarks (σ := (zms M1 15 0 2 1, ρ)) s1, zcI_ok]
  · rw [nI_0] at g1
    have q1 : zrun zP 147 [zR 31 0, zR 32 0] (zms (zms M1 15 0 2 1) 16 0 0 0, ρ') = zvd (M2, ρ') := (e_X6_copies 30 0 31 0 _).trans g1
    rw [e_X6_keep, q1, zcV_ok]
    show zcI (zrun zP 185 [zR 16 0, zR 31 0] (zms M2 16 0 7 1, ρ')) _ = _
    rw [m_allMarks (a := 30) (σ := (zms M2 16 0 7 1, ρ')) rfl m31, zcI_ok]
  · rw [zms_ne (by omega), g3 _ _ _ (by omega), zms_eq]
  · exact cSheet_lo (fun k j q e => f3 k j q (by omega) (by omega) (by omega) (by omega)) a1
  · obtain ⟨hn, N, hN, h1, h2, h3⟩ := b1
    exact ⟨hn, N, hN, (f3 _ _ _ (by omega) (by omega) (by omega) (by omega)).trans h1, (f3 _ _ _ (by omega) (by omega) (by omega) (by omega)).trans h2, fun j hj => cSheet_lo (fun k j q e => f3 k j q (by omega) (by omega) (by omega) (by omega)) (h3 j hj)⟩
  · exact mHist_congr (f3 _ _ _ (by omega) (by omega) (by omega) (by omega)) (fun q => f3 _ _ _ (by omega) (by omega) (by omega) (by omega)) b2
  · refine Or.inr ⟨?_, zms_eq, T, ?_, ?_, a3⟩
    · rw [f2 _ _ _ (by omega) (by omega), zms_eq]
    · exact cSheet_congr (fun k j q e => f2 k j q (by omega) (by omega)) s1
    · refine mSheet_congr (fun q hq => ?_) a2
      rw [zms_ne (by omega), g2 q (by omega) hq, zms_ne (by omega), f1 _ _ _ (by omega) (by omega)]
  · obtain ⟨c, c1, c2, c3, c4, c5⟩ := k2
    refine ⟨c, c1, (f3 _ _ _ (by omega) (by omega) (by omega) (by omega)).trans c2, (f3 _ _ _ (by omega) (by omega) (by omega) (by omega)).trans c3, fun q hq => ?_, ?_⟩
    · rw [f3 _ _ _ (by omega) (by omega) (by omega) (by omega), f3 _ _ _ (by omega) (by omega) (by omega) (by omega)]; exact c4 q hq
    · rw [f3 _ _ _ (by omega) (by omega) (by omega) (by omega), f3 _ _ _ (by omega) (by omega) (by omega) (by omega)]; exact c5
  · intro e he
    rw [f3 _ _ _ (by omega) (by omega) (by omega) (by omega), f3 _ _ _ (by omega) (by omega) (by omega) (by omega)]
    exact k3 e he
/-! feed -/
def bt (x s : Int32) : Int32 := Int8.toInt32 (Int32.toInt8 (Int8.toInt32 (Int32.toInt8 (x >>> (s &&& 31)))))
def bs (x : Int32) : List Int32 := [bt x 24, bt x 16, bt x 8, bt x 0]
def stL (kt ko so : Nat) : zMem → Nat → List Int32 → zMem
  | M, _, [] => M
  | M, c, v :: vs => stL kt ko so (zms (zms M kt 0 c v) ko 0 so (nI (c + 1))) (c + 1) vs
theorem stL_app {kt ko so : Nat} : ∀ (us vs : List Int32) (M : zMem) (c : Nat), stL kt ko so M c (us ++ vs) = stL kt ko so (stL kt ko so M c us) (c + us.length) vs := by
  intro us
  induction us with
  | nil => intro vs M c; rfl
  | cons u us ih =>
    intro vs M c
    show stL kt ko so _ (c + 1) (us ++ vs) = _
    rw [ih]
    show _ = stL kt ko so _ (c + (us.length + 1)) vs
    rw [show c + (us.length + 1) = c + 1 + us.length by omega]
    rfl
theorem stL_fr {kt ko so : Nat} : ∀ (us : List Int32) (M : zMem) (c k j q : Nat), ¬ (k = kt ∧ j = 0 ∧ c ≤ q ∧ q < c + us.length) → ¬ (k = ko ∧ j = 0 ∧ q = so) → stL kt ko so M c us k j q = M k j q := by
  intro us
  induction us with
  | nil => intro M c k j q _ _; rfl
  | cons u us ih =>
    intro M c k j q h1 h2
    have hl : (u :: us).length = us.length + 1 := rfl
    show stL kt ko so _ (c + 1) us k j q = _
    rw [ih _ _ _ _ _ (by omega) h2, zms_ne (by omega), zms_ne (by omega)]
theorem stL_ct {kt ko so : Nat} (hne : kt ≠ ko) : ∀ (us : List Int32) (M : zMem) (c : Nat), M ko 0 so = nI c → stL kt ko so M c us ko 0 so = nI (c + us.length) := by
  intro us
  induction us with
  | nil => intro M c h; exact h
  | cons u us ih =>
    intro M c h
    have hl : (u :: us).length = us.length + 1 := rfl
    show stL kt ko so _ (c + 1) us ko 0 so = _
    rw [ih _ _ zms_eq, hl]
    congr 1
    omega
theorem stL_at {kt ko so : Nat} (hne : kt ≠ ko) : ∀ (us : List Int32) (M : zMem) (c p : Nat) (hp : p < us.length), stL kt ko so M c us kt 0 (c + p) = us[p] := by
  intro us
  induction us with
  | nil => intro M c p hp; exact absurd hp (Nat.not_lt_zero _)
  | cons u us ih =>
    intro M c p hp
    have hl : (u :: us).length = us.length + 1 := rfl
    show stL kt ko so _ (c + 1) us kt 0 (c + p) = _
    cases p with
    | zero =>
      rw [stL_fr _ _ _ _ _ _ (by omega) (by omega), zms_ne (by omega)]
      show zms M kt 0 c u kt 0 c = u
      rw [zms_eq]
    | succ p =>
      have := ih (zms (zms M kt 0 c u) ko 0 so (nI (c + 1))) (c + 1) p (by omega)
      rw [show c + (p + 1) = c + 1 + p by omega, this]
      rfl
theorem r_append {x : Int32} {c : Nat} (hc : c + 4 ≤ 400) (h : M 11 0 1 = nI c) : zrun zP 3 [zR 11 0, zI x] (M, ρ) = zvd (stL 27 11 1 M c (bs x), ρ) := by
  have step : ∀ (s : Int32) (p : Nat) (M : zMem), ¬ s < 0 → p < 400 → M 11 0 1 = nI p → zX zP zK_X1_appendNumber (3, [zR 11 0, zI x, zI s], []) (M, ρ) = zX zP zK_X1_appendNumber (3, [zR 11 0, zI x, zI (s + (-8))], []) (zms (zms M 27 0 p (bt x s)) 11 0 1 (nI (p + 1)), ρ) := fun s p M hs hp hM => by
    have ein := nIk (k := p) (N := 400) (by omega) (by omega)
    have ecl := nI_clamp (n := p) (by omega)
    rw [e_X1_appendNumber_3, if_neg hs, show (M, ρ).1 11 0 1 = nI p from hM, if_pos (show nI p < 400 from (nI_lt hp (by omega) : nI p < nI 400))]
    simp only [ecl, ein, if_false, nI_1]
    rfl
  rw [e_X1_appendNumber, step 24 c M (by decide) (by omega) h, step (24 + (-8)) (c + 1) _ (by decide) (by omega) zms_eq, step (24 + (-8) + (-8)) (c + 1 + 1) _ (by decide) (by omega) zms_eq, step (24 + (-8) + (-8) + (-8)) (c + 1 + 1 + 1) _ (by decide) (by omega) zms_eq, e_X1_appendNumber_3, if_pos (by decide)]
  rfl
theorem m_append {x : Int32} {c : Nat} (hc : c + 4 ≤ 400) (h : M 16 0 10 = nI c) : zrun zP 167 [zR 16 0, zI x] (M, ρ) = zvd (stL 35 16 10 M c (bs x), ρ) := by
  have step : ∀ (s : Int32) (p : Nat) (M : zMem), ¬ s < 0 → p < 400 → M 16 0 10 = nI p → zX zP zK_X6_puts_ (3, [zR 16 0, zI x, zI s], []) (M, ρ) = zX zP zK_X6_puts_ (3, [zR 16 0, zI x, zI (s + (-8))], []) (zms (zms M 35 0 p (bt x s)) 16 0 10 (nI (p + 1)), ρ) := fun s p M hs hp hM => by
    have ein := nIk (k := p) (N := 400) (by omega) (by omega)
    have ecl := nI_clamp (n := p) (by omega)
    rw [e_X6_puts__3, if_neg hs, show (M, ρ).1 16 0 10 = nI p from hM]
    simp only [ecl, ein, if_false, nI_1]
    rfl
  rw [e_X6_puts_, step 24 c M (by decide) (by omega) h, step (24 + (-8)) (c + 1) _ (by decide) (by omega) zms_eq, step (24 + (-8) + (-8)) (c + 1 + 1) _ (by decide) (by omega) zms_eq, step (24 + (-8) + (-8) + (-8)) (c + 1 + 1 + 1) _ (by decide) (by omega) zms_eq, e_X6_puts__3, if_pos (by decide)]
  rfl
end ZQ3
