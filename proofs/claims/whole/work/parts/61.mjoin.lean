/-! the call join, the reference's side -/
section ZMJ
variable {i n : Nat} {T : zSheet} {H : Nat → zSheet} {M : zMem} {ρ : Int64 × Nat}
theorem mHist_z (hh : mHist M i n H) : mHist (zms M 16 i 0 0) i n H := by
  obtain ⟨hn, h1, h2⟩ := hh
  exact ⟨hn, (zms_ne (by omega)).trans h1, fun j hj => mSheet_congr (fun q hq => zms_ne (by omega)) (h2 j hj)⟩
theorem mSheet_z (h : mSheet M 31 T) : mSheet (zms M 16 i 0 0) 31 T := mSheet_congr (fun q hq => zms_ne (by omega)) h
theorem m_join_1 (h : mSheet M 31 T) {x y : Int32} (hm : ¬ pMk T x y) : zrun zP 200 [zR 16 i, zI x, zI y] (M, ρ) = zok 0 (mTh i 1 0 (zms M 16 i 0 0, ρ)) := by
  rw [e_X6_join, (m_isMark (σ := (zms M 16 i 0 0, ρ)) (mSheet_z h) zms_eq x y).2 hm, zcI_ok, if_pos rfl]
theorem m_join_2 (h : mSheet M 31 T) (hw : zwp T) {t k : Nat} (ht : t < T.1) (hk : k < rct (T.2 t)) (hj : ¬ pMayJoin T t k) : zrun zP 200 [zR 16 i, zI (nI t), zI (nI k)] (M, ρ) = zok 0 (mTh i 2 2 (zms M 16 i 0 0, ρ)) := by
  have h6 := h.2.1
  have h0 : mSheet (zms M 16 i 0 0) 31 T := mSheet_z h
  have hr := h0.2.2 t ht
  have h40 := hr.2.2.2.2.1
  have f := m_fine0 (i := i) (σ := (zms M 16 i 0 0, ρ)) zms_eq (c := 2) (by decide) (w := 2) (by omega)
  rw [show nI 2 = 2 from rfl] at f
  rw [e_X6_join, (m_isMark (σ := (zms M 16 i 0 0, ρ)) h0 zms_eq _ _).1 ⟨t, k, ht, hk, rfl, rfl⟩, zcI_ok, if_neg (by decide), m_kind (σ := (zms M 16 i 0 0, ρ)) hr (by omega), zcI_ok]
  by_cases c1 : rkd (T.2 t) = 3
  · rw [if_pos c1, f, zcI_ok, if_pos rfl]
  · rw [if_neg c1, m_many (σ := (zms M 16 i 0 0, ρ)) hr (by omega), zcI_ok, nI_1]
    by_cases c2 : k + 1 < rct (T.2 t)
    · rw [if_pos (nI_lt c2 (by omega)), m_from (σ := (zms M 16 i 0 0, ρ)) hr (by omega) c2, zcI_ok, m_to (σ := (zms M 16 i 0 0, ρ)) hr (by omega) hk, zcI_ok]
      by_cases c3 : rto (T.2 t) k = rfr (T.2 t) (k + 1)
      · rw [if_pos c3.symm, m_parentsOf (σ := (zms M 16 i 0 0, ρ)) h0 hw ht hk, zcI_ok, m_parentsOf (σ := (zms M 16 i 0 0, ρ)) h0 hw ht c2, zcI_ok, if_neg (fun e => hj ⟨c1, c2, c3, e⟩), f, zcI_ok, if_pos rfl]
      · rw [if_neg (fun e => c3 e.symm), f, zcI_ok, if_pos rfl]
    · rw [if_neg (nI_nlt (by omega) (by omega)), f, zcI_ok, if_pos rfl]
theorem m_join_3 (h : mSheet M 31 T) (hw : zwp T) (hh : mHist M i n H) {t k : Nat} (ht : t < T.1) (hk : k < rct (T.2 t)) (hj : pMayJoin T t k) : ∃ M', zrun zP 200 [zR 16 i, zI (nI t), zI (nI k)] (M, ρ) = zok (rto (T.2 t) (k + 1)) (M', ρ) ∧ mSheet M' 31 (sUp T t (tJoin (T.2 t) k)) ∧ mHist M' i (min (n + 1) 12) (hPush T H) ∧ M' 16 i 0 = 0 ∧ emFr M M' i := by
  have h6 := h.2.1
  obtain ⟨j1, j2, j3, j4⟩ := hj
  have h0 : mSheet (zms M 16 i 0 0) 31 T := mSheet_z h
  have hr0 := h0.2.2 t ht
  obtain ⟨M1, e1, e2, e3⟩ := m_keeps (i := i) (ρ := ρ) h0 (mHist_z hh)
  have hS1 : mSheet M1 31 T := mSheet_congr (fun q hq => e3 _ _ _ (by omega) (by omega)) h0
  have hr := hS1.2.2 t ht
  have h40 := hr.2.2.2.2.1
  have c1 := nIk (k := 6 + 124 * t + 3 * k) (N := 745) (by omega) (by omega)
  have d1 := nI_clamp (n := 6 + 124 * t + 3 * k) (by omega)
  have g1 := ms_to (m := k) hr (rto (T.2 t) (k + 1))
  obtain ⟨M2, f1, f2, f3⟩ := m_removes (i := i) (ρ := ρ) g1 (by omega) (m := k + 1) j2
  have hfr := mFr_tr (mse_fr (M := M1) (t := t) (m := k) (c := 1) (x := rto (T.2 t) (k + 1)) (by omega) (by omega)) f3
  have hv : rto (tJoin (T.2 t) k) k = rto (T.2 t) (k + 1) := by
    show (if k < k + 1 then (if k = k then rto (T.2 t) (k + 1) else rto (T.2 t) k) else _) = _
    rw [if_pos (by omega), if_pos rfl]
  refine ⟨M2, ?_, mSheet_up hS1 ht f2 hfr, mHist_o (mFr_o hfr) e2, ?_, fun k' j z a b c => ?_⟩
  · rw [e_X6_join, (m_isMark (σ := (zms M 16 i 0 0, ρ)) h0 zms_eq _ _).1 ⟨t, k, ht, hk, rfl, rfl⟩, zcI_ok, if_neg (by decide), m_kind (σ := (zms M 16 i 0 0, ρ)) hr0 (by omega), zcI_ok, if_neg j1, m_many (σ := (zms M 16 i 0 0, ρ)) hr0 (by omega), zcI_ok, nI_1, if_pos (nI_lt j2 (by omega)), m_from (σ := (zms M 16 i 0 0, ρ)) hr0 (by omega) j2, zcI_ok, m_to (σ := (zms M 16 i 0 0, ρ)) hr0 (by omega) hk, zcI_ok, if_pos j3.symm, m_parentsOf (σ := (zms M 16 i 0 0, ρ)) h0 hw ht hk, zcI_ok, m_parentsOf (σ := (zms M 16 i 0 0, ρ)) h0 hw ht j2, zcI_ok, if_pos j4, m_fine1 zms_eq, zcI_ok, if_neg (by decide), e1, zcV_ok, m_cell1, zcI_ok, m_to (σ := (M1, ρ)) hr (by omega) j2, zcI_ok]
    simp only [c1, d1, if_false]
    rw [f1, zcV_ok, m_to (σ := (M2, ρ)) f2 (by omega) (show k < rct (T.2 t) - 1 by omega), zcI_ok]
    exact congrArg (fun x => zok x (M2, ρ)) hv
  · rw [hfr _ _ _ (by omega), e3 _ _ _ (by omega) (by omega), zms_eq]
  · rw [hfr _ _ _ (by omega), e3 _ _ _ (by omega) b, zms_ne (by omega)]
end ZMJ
