/-! the call label, both sides -/
/-- what an edit of the class may change -/
def edFr (M M' : zMem) : Prop := ∀ k j q, ¬ (k = 10 ∧ j = 0) → ¬ (k = 13 ∧ (j = 0 ∨ (2 ≤ j ∧ j < 14))) → ¬ ((j < 6 ∨ (12 ≤ j ∧ j < 84)) ∧ (k = 12 ∨ k = 20 ∨ k = 21 ∨ k = 22)) → M' k j q = M k j q
theorem edFr_tr {M M1 M2 : zMem} (h1 : edFr M M1) (h2 : edFr M1 M2) : edFr M M2 := fun k j q a b c => (h2 k j q a b c).trans (h1 k j q a b c)
theorem rgFr_ed {M M' : zMem} (h : rgFr M M') : edFr M M' := fun k j q a b c => h k j q a (by omega) (by omega)
theorem sFr_ed {M M' : zMem} (h : sFr M M' 0) : edFr M M' := fun k j q a b c => h k j q (by omega)
theorem cHist_s {M M' : zMem} {n : Nat} {H : Nat → zSheet} (h : sFr M M' 0) (hh : cHist M n H) : cHist M' n H := by
  obtain ⟨hn, N, hN, h1, h2, h3⟩ := hh
  exact ⟨hn, N, hN, (h _ _ _ (by omega)).trans h1, (h _ _ _ (by omega)).trans h2, fun j hj => wsFr_ot (by omega) (sFr_ws h) (h3 j hj)⟩
/-- what an edit of the reference may change -/
def emFr (M M' : zMem) (i : Nat) : Prop := ∀ k j z, ¬ (k = 16 ∧ j = i ∧ (z = 0 ∨ z = 6)) → ¬ (k = 34 ∧ j = 0) → ¬ (k = 31 ∧ j = 0) → M' k j z = M k j z
theorem mHist_o {M M' : zMem} {i n : Nat} {H : Nat → zSheet} (h : oFr M M') (hh : mHist M i n H) : mHist M' i n H := by
  obtain ⟨hn, h1, h2⟩ := hh
  refine ⟨hn, (h _ _ _ (by omega)).trans h1, fun j hj => mSheet_congr (fun q hq => ?_) (h2 j hj)⟩
  exact h _ _ _ (by omega)
section ZLC
variable {i n : Nat} {T : zSheet} {H : Nat → zSheet} {M : zMem} {ρ : Int64 × Nat}
theorem c_label_1 (h : cSheet M 0 T) {x y l : Int32} (hm : ¬ pMk T x y) : zrun zP 101 [zR 15 i, zI x, zI y, zI l] (M, ρ) = cTh 0 i (M, ρ) := by
  rw [e_X5_label, (n_mark (σ := (M, ρ)) h x y).2 hm, zcV_cTh]
theorem c_label_2 (h : cSheet M 0 T) {x y l : Int32} (hm : pMk T x y) (hl : ¬ pLabel l) : zrun zP 101 [zR 15 i, zI x, zI y, zI l] (M, ρ) = cTh 1 i (M, ρ) := by
  rw [e_X5_label, (n_mark (σ := (M, ρ)) h x y).1 hm, zcV_ok, c_isLabel, zcI_ok, zb_f hl, if_pos rfl, n_argument, zcV_cTh]
theorem c_label_3 (h : cSheet M 0 T) (hh : cHist M n H) {t k : Nat} (ht : t < T.1) (hk : k < rct (T.2 t)) {l : Int32} (hl : pLabel l) : ∃ M', zrun zP 101 [zR 15 i, zI (nI t), zI (nI k), zI l] (M, ρ) = zok (rlb (T.2 t) k) (M', ρ) ∧ cSheet M' 0 (sUp T t (tLab (T.2 t) k l)) ∧ cHist M' (min (n + 1) 12) (hPush T H) ∧ edFr M M' := by
  have h6 := h.2.1
  obtain ⟨M1, e1, e2, e3, e4⟩ := h_remember (ρ := ρ) h hh
  obtain ⟨q1, q2, q3⟩ := s_in (σ := (M1, ρ)) e2 ht
  have hr := (e2.2.2 t ht).1
  have h40 := hr.2.2.2.2.1
  have hin := nIk (k := k) (N := 40) (by omega) (by omega)
  have hcl := nI_clamp (n := k) (by omega)
  have hfr : rowFr M1 (zms M1 22 (6 * 0 + t) k l) (6 * 0 + t) := zm_fr22
  have hs : sFr M1 (zms M1 22 (6 * 0 + t) k l) 0 := rowFr_s (by omega) hfr
  refine ⟨zms M1 22 (6 * 0 + t) k l, ?_, cSheet_up e2 ht (c_lab hr k l) hfr rfl, cHist_s hs e3, edFr_tr (rgFr_ed e4) (sFr_ed hs)⟩
  rw [e_X5_label, (n_mark (σ := (M, ρ)) h _ _).1 ⟨t, k, ht, hk, rfl, rfl⟩, zcV_ok, c_isLabel, zcI_ok, zb_t hl, if_neg (by decide), e1, zcV_ok]
  simp only [q2, q1, hin, hcl, if_false]
  rw [(hr.2.2.2.2.2 k hk).2.2]
theorem m_label_1 (h : mSheet M 31 T) {x y l : Int32} (hm : ¬ pMk T x y) : zrun zP 210 [zR 16 i, zI x, zI y, zI l] (M, ρ) = zok 0 (mTh i 1 0 (zms M 16 i 0 0, ρ)) := by
  have h0 : mSheet (zms M 16 i 0 0) 31 T := mSheet_congr (fun q hq => zms_ne (by omega)) h
  rw [e_X6_label, (m_isMark (σ := (zms M 16 i 0 0, ρ)) h0 zms_eq x y).2 hm, zcI_ok, if_pos rfl]
theorem m_label_2 (h : mSheet M 31 T) {x y l : Int32} (hm : pMk T x y) (hl : ¬ pLabel l) : zrun zP 210 [zR 16 i, zI x, zI y, zI l] (M, ρ) = zok 0 (mTh i 2 1 (zms M 16 i 0 0, ρ)) := by
  have h0 : mSheet (zms M 16 i 0 0) 31 T := mSheet_congr (fun q hq => zms_ne (by omega)) h
  have f := m_fine0 (i := i) (σ := (zms M 16 i 0 0, ρ)) zms_eq (c := 2) (by decide) (w := 1) (by omega)
  rw [show nI 1 = 1 from rfl] at f
  rw [e_X6_label, (m_isMark (σ := (zms M 16 i 0 0, ρ)) h0 zms_eq x y).1 hm, zcI_ok, if_neg (by decide), m_areLetters, zcI_ok, zb_f hl, f, zcI_ok, if_pos rfl]
theorem m_label_3 (h : mSheet M 31 T) (hh : mHist M i n H) {t k : Nat} (ht : t < T.1) (hk : k < rct (T.2 t)) {l : Int32} (hl : pLabel l) : ∃ M', zrun zP 210 [zR 16 i, zI (nI t), zI (nI k), zI l] (M, ρ) = zok (rlb (T.2 t) k) (M', ρ) ∧ mSheet M' 31 (sUp T t (tLab (T.2 t) k l)) ∧ mHist M' i (min (n + 1) 12) (hPush T H) ∧ M' 16 i 0 = 0 ∧ emFr M M' i := by
  have h6 := h.2.1
  have h0 : mSheet (zms M 16 i 0 0) 31 T := mSheet_congr (fun q hq => zms_ne (by omega)) h
  have hh0 : mHist (zms M 16 i 0 0) i n H := by
    obtain ⟨hn, h1, h2⟩ := hh
    exact ⟨hn, (zms_ne (by omega)).trans h1, fun j hj => mSheet_congr (fun q hq => zms_ne (by omega)) (h2 j hj)⟩
  obtain ⟨M1, e1, e2, e3⟩ := m_keeps (i := i) (ρ := ρ) h0 hh0
  have hS1 : mSheet M1 31 T := mSheet_congr (fun q hq => e3 _ _ _ (by omega) (by omega)) h0
  have hr := hS1.2.2 t ht
  have h40 := hr.2.2.2.2.1
  have c1 := nIk (k := 7 + 124 * t + 3 * k) (N := 745) (by omega) (by omega)
  have d1 := nI_clamp (n := 7 + 124 * t + 3 * k) (by omega)
  have hfr : mFr M1 (zms M1 31 0 (7 + 124 * t + 3 * k) l) t := mse_fr (c := 2) (by omega) (by omega)
  refine ⟨zms M1 31 0 (7 + 124 * t + 3 * k) l, ?_, mSheet_up hS1 ht (ms_lab (m := k) hr l) hfr, mHist_o (mFr_o hfr) e2, ?_, fun k' j z a b c => ?_⟩
  · rw [e_X6_label, (m_isMark (σ := (zms M 16 i 0 0, ρ)) h0 zms_eq _ _).1 ⟨t, k, ht, hk, rfl, rfl⟩, zcI_ok, if_neg (by decide), m_areLetters, zcI_ok, zb_t hl, m_fine1 zms_eq, zcI_ok, if_neg (by decide), e1, zcV_ok, m_labelOf (σ := (M1, ρ)) hr (by omega) hk, zcI_ok, m_cell2, zcI_ok]
    simp only [c1, d1, if_false]
  · rw [zms_ne (by omega), e3 _ _ _ (by omega) (by omega), zms_eq]
  · rw [zms_ne (by omega), e3 _ _ _ (by omega) b, zms_ne (by omega)]
end ZLC
