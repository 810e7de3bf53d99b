/-! is there such a tier, such a mark: both sides -/
def pMk (T : zSheet) (x y : Int32) : Prop := ∃ t k, t < T.1 ∧ k < rct (T.2 t) ∧ x = nI t ∧ y = nI k
theorem in_iff {x : Int32} {n : Nat} (hn : n < 2 ^ 31) : (¬ x < 0 ∧ ¬ (nI n - 1) < x) ↔ (¬ x < 0 ∧ x < nI n) := by
  refine ⟨fun e => ⟨e.1, ?_⟩, fun e => ⟨e.1, ?_⟩⟩
  · obtain ⟨j, j1, rfl⟩ := nI_of e.1
    cases n with
    | zero =>
      exfalso
      refine e.2 ?_
      rw [nI_0m1]
      refine Int32.lt_iff_toInt_lt.mpr ?_
      have p2 := Int32.le_iff_toInt_le.mp (nI_pos' j1)
      have p3 : (0 : Int32).toInt = 0 := by decide
      have p4 : (-1 : Int32).toInt = -1 := by decide
      omega
    | succ m =>
      have e2 := e.2
      rw [nI_pred] at e2
      have := nI_lp (a := m) (b := j) (by omega) j1
      rw [this] at e2
      exact nI_lt (by omega) hn
  · obtain ⟨j, j1, j2⟩ := zI_of e.1 e.2 hn
    rw [j2]
    obtain ⟨m, rfl⟩ : ∃ m, n = m + 1 := ⟨n - 1, by omega⟩
    rw [nI_pred]
    exact nI_nlt (by omega) (by omega)
section ZND
variable {i : Nat} {T : zSheet} {M : zMem} {ρ : Int64 × Nat} {σ : zSt}
theorem pMk_iff {x y : Int32} {t : Nat} (ht : t < T.1) (h6 : T.1 ≤ 6) (h40 : rct (T.2 t) ≤ 40) (hx : x = nI t) : pMk T x y ↔ (¬ y < 0 ∧ y < nI (rct (T.2 t))) := by
  refine ⟨fun ⟨t', k, a1, a2, a3, a4⟩ => ?_, fun e => ?_⟩
  · have : t' = t := (nI_ne (by omega) (by omega)).mp (a3.symm.trans hx)
    subst this
    rw [a4]
    exact ⟨nI_pos (by omega), nI_lt a2 (by omega)⟩
  · obtain ⟨k, k1, k2⟩ := zI_of e.1 e.2 (by omega)
    exact ⟨t, k, ht, k1, hx, k2⟩
theorem pMk_t {x y : Int32} (h6 : T.1 ≤ 6) (h : pMk T x y) : ¬ x < 0 ∧ x < nI T.1 := by
  obtain ⟨t, k, a1, a2, a3, a4⟩ := h
  rw [a3]
  exact ⟨nI_pos (by omega), nI_lt a1 (by omega)⟩
theorem n_mark (h : cSheet σ.1 0 T) (x y : Int32) : (pMk T x y → zrun zP 126 [zR 15 i, zI x, zI y] σ = zvd σ) ∧ (¬ pMk T x y → zrun zP 126 [zR 15 i, zI x, zI y] σ = cTh 0 i σ) := by
  have h6 := h.2.1
  rw [e_X5_needMark]
  by_cases c : ¬ x < 0 ∧ x < nI T.1
  · obtain ⟨t, t1, t2⟩ := zI_of c.1 c.2 (by omega)
    obtain ⟨q1, q2, q3⟩ := s_in h t1
    have hr := (h.2.2 t t1).1
    have h40 := hr.2.2.2.2.1
    have hm := pMk_iff (y := y) t1 h6 h40 t2
    rw [(n_tier h x).1 c, zcV_ok, t2]
    simp only [q2, q1, if_false]
    rw [r_hasMark hr, zcI_ok, ← t2]
    refine ⟨fun e => ?_, fun e => ?_⟩
    · rw [zb_t (hm.mp e), if_neg (by decide)]
    · rw [zb_f (fun q => e (hm.mpr q)), if_pos rfl, n_missing, zcV_cTh]
  · rw [(n_tier h x).2 c, zcV_cTh]
    exact ⟨fun e => (c (pMk_t h6 e)).elim, fun _ => rfl⟩
theorem m_isTier (h : mSheet σ.1 31 T) (hz : σ.1 16 i 0 = 0) (x : Int32) : (¬ x < 0 ∧ x < nI T.1 → zrun zP 189 [zR 16 i, zI x] σ = zok 1 σ) ∧ (¬ (¬ x < 0 ∧ x < nI T.1) → zrun zP 189 [zR 16 i, zI x] σ = zok 0 (mTh i 1 0 σ)) := by
  have h6 := h.2.1
  have f := m_fine (σ := σ) hz (¬ x < 0 ∧ x < nI T.1) (c := 1) (by decide) (w := 0) (by omega)
  rw [nI_0] at f
  rw [e_X6_isTier, m_tiers, zcI_ok, h.1, m_isIn, zcI_ok, zb_congr (in_iff (by omega))]
  refine ⟨fun c => ?_, fun c => ?_⟩
  · rw [f.1 c, zcI_ok, if_pos (by decide)]
  · rw [f.2 c, zcI_ok, if_pos (by decide)]
theorem m_isMark (h : mSheet σ.1 31 T) (hz : σ.1 16 i 0 = 0) (x y : Int32) : (pMk T x y → zrun zP 190 [zR 16 i, zI x, zI y] σ = zok 1 σ) ∧ (¬ pMk T x y → zrun zP 190 [zR 16 i, zI x, zI y] σ = zok 0 (mTh i 1 0 σ)) := by
  have h6 := h.2.1
  have f0 := m_fine0 (σ := σ) hz (c := 1) (by decide) (w := 0) (by omega)
  have f1 := m_fine1 (σ := σ) hz 1 0
  rw [nI_0] at f0
  rw [e_X6_isMark, m_tiers, zcI_ok, h.1, m_isIn, zcI_ok, zb_congr (in_iff (by omega)), f0, zcI_ok, if_pos (show (0 : Int32) = 0 ∨ (0 : Int32) = 1 by decide)]
  by_cases c : ¬ x < 0 ∧ x < nI T.1
  · obtain ⟨t, t1, t2⟩ := zI_of c.1 c.2 (by omega)
    have hr := h.2.2 t t1
    have h40 := hr.2.2.2.2.1
    have hm := pMk_iff (y := y) t1 h6 h40 t2
    rw [zb_t c, if_neg (by decide), t2, m_many hr (by omega), zcI_ok, m_isIn, zcI_ok, zb_congr (in_iff (by omega)), ← t2, f0, f1, zcI_ok, zcI_ok, if_pos (show (0 : Int32) = 0 ∨ (0 : Int32) = 1 by decide), if_pos (show (1 : Int32) = 0 ∨ (1 : Int32) = 1 by decide)]
    refine ⟨fun e => ?_, fun e => ?_⟩
    · rw [zb_t (hm.mp e), if_neg (by decide)]
    · rw [zb_f (fun q => e (hm.mpr q)), if_pos rfl]
  · rw [zb_f c, if_pos rfl]
    exact ⟨fun e => (c (pMk_t h6 e)).elim, fun _ => rfl⟩
end ZND
