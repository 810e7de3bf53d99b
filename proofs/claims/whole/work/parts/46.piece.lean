/-! a piece is taken, two marks are joined -/
def pHb (T : zSheet) (t k : Nat) : Prop := 0 < k ∧ pPM T t (k - 1) = pPM T t k
def pHa (T : zSheet) (t k : Nat) : Prop := k + 1 < rct (T.2 t) ∧ pPM T t k = pPM T t (k + 1)
noncomputable def pHeir (T : zSheet) (t k : Nat) : Int32 := @ite _ (pHb T t k) (Classical.propDecidable _) (nI (k - 1)) (@ite _ (pHa T t k) (Classical.propDecidable _) (nI (k + 1)) (-1))
noncomputable def tPc (T : zSheet) (t k : Nat) : zTier := @ite _ (pHb T t k) (Classical.propDecidable _) (tRem (tTo (T.2 t) (k - 1) (rto (T.2 t) k)) k) (tRem (tFrom (T.2 t) (k + 1) (rfr (T.2 t) k)) k)
theorem pHeir_b {T : zSheet} {t k : Nat} (h : pHb T t k) : pHeir T t k = nI (k - 1) := @if_pos _ (Classical.propDecidable _) h _ _ _
theorem pHeir_a {T : zSheet} {t k : Nat} (h : ¬ pHb T t k) (h2 : pHa T t k) : pHeir T t k = nI (k + 1) := (@if_neg _ (Classical.propDecidable _) h _ _ _).trans (@if_pos _ (Classical.propDecidable _) h2 _ _ _)
theorem pHeir_n {T : zSheet} {t k : Nat} (h : ¬ pHb T t k) (h2 : ¬ pHa T t k) : pHeir T t k = -1 := (@if_neg _ (Classical.propDecidable _) h _ _ _).trans (@if_neg _ (Classical.propDecidable _) h2 _ _ _)
theorem pHeir_iff {T : zSheet} {t k : Nat} (hk : k < 40) : (¬ pHeir T t k = -1) ↔ (pHb T t k ∨ pHa T t k) := by
  by_cases h : pHb T t k
  · rw [pHeir_b h]; exact ⟨fun _ => Or.inl h, fun _ => nI_m1 _ (by omega)⟩
  · by_cases h2 : pHa T t k
    · rw [pHeir_a h h2]; exact ⟨fun _ => Or.inr h2, fun _ => nI_m1 _ (by omega)⟩
    · rw [pHeir_n h h2]; exact ⟨fun e => (e rfl).elim, fun e => (e.elim h h2).elim⟩
theorem tPc_b {T : zSheet} {t k : Nat} (h : pHb T t k) : tPc T t k = tRem (tTo (T.2 t) (k - 1) (rto (T.2 t) k)) k := @if_pos _ (Classical.propDecidable _) h _ _ _
theorem tPc_a {T : zSheet} {t k : Nat} (h : ¬ pHb T t k) : tPc T t k = tRem (tFrom (T.2 t) (k + 1) (rfr (T.2 t) k)) k := @if_neg _ (Classical.propDecidable _) h _ _ _
theorem nI_0m1 : nI 0 - 1 = -1 := by decide
theorem nI_0m1' : nI 0 + (-1) = -1 := by decide
theorem nI_pm (k : Nat) : nI (k + 1) + (-1) = nI k := by
  rw [← Int32.sub_eq_add_neg]; exact nI_pred k
section ZPC
variable {s i : Nat} {T : zSheet} {M : zMem} {ρ : Int64 × Nat} {σ : zSt}
theorem s_heirOf (h : cSheet σ.1 s T) (hw : zwp T) {t k : Nat} (ht : t < T.1) (hk : k < rct (T.2 t)) : zrun zP 67 [zR 13 s, zI (nI t), zI (nI k)] σ = zok (pHeir T t k) σ := by
  have h6 := h.2.1
  obtain ⟨q1, q2, q3⟩ := s_in h ht
  have hr := (h.2.2 t ht).1
  have hn := hr.2.2.2.2.1
  rw [e_X3_heirOf]
  simp only [q2, q1, if_false]
  rw [r_hasMark hr, zcI_ok]
  have hafter : ¬ pHb T t k → zcI (zrun zP 27 [zR 12 (6 * s + t), zI (nI k + 1)] σ) (fun r2 s2 => if r2 = 0 then some (.inl (some (zI (-1))), s2) else zcI (zrun zP 60 [zR 13 s, zI (nI t), zI (nI k), zI (nI k + 1)] s2) (fun r3 s3 => if r3 = 0 then some (.inl (some (zI (-1))), s3) else some (.inl (some (zI (nI k + 1))), s3))) = zok (pHeir T t k) σ := by
    intro hb
    rw [r_hasMark hr, zcI_ok, nI_1]
    by_cases c : k + 1 < rct (T.2 t)
    · rw [zb_t ⟨nI_pos (by omega), nI_lt c (by omega)⟩, if_neg (by decide), s_haveSameParent h hw ht hk c, zcI_ok]
      by_cases c2 : pPM T t k = pPM T t (k + 1)
      · rw [zb_t c2, if_neg (by decide), pHeir_a hb ⟨c, c2⟩]
      · rw [zb_f c2, if_pos rfl, pHeir_n hb (fun e => c2 e.2)]
    · rw [zb_f (fun e => nI_nlt (by omega) (by omega) e.2), if_pos rfl, pHeir_n hb (fun e => c e.1)]
  cases k with
  | zero =>
    rw [nI_0m1, zb_f (fun e => e.1 (by decide)), if_pos rfl]
    exact hafter (fun e => by have := e.1; omega)
  | succ j =>
    rw [nI_pred, zb_t ⟨nI_pos (by omega), nI_lt (by omega) (by omega)⟩, if_neg (by decide), s_haveSameParent h hw ht (by omega) hk, zcI_ok]
    by_cases c : pPM T t j = pPM T t (j + 1)
    · rw [zb_t c, if_neg (by decide), pHeir_b (show pHb T t (j + 1) from ⟨by omega, c⟩)]
      rfl
    · rw [zb_f c, if_pos rfl]
      exact hafter (fun e => c e.2)
theorem s_removePiece (h : cSheet M s T) {t k : Nat} (ht : t < T.1) (hk : k < rct (T.2 t)) (hh : pHb T t k ∨ pHa T t k) : ∃ M', zrun zP 68 [zR 13 s, zI (nI t), zI (nI k), zI (pHeir T t k)] (M, ρ) = zvd (M', ρ) ∧ cSheet M' s (sUp T t (tPc T t k)) ∧ sFr M M' s := by
  have h6 := h.2.1
  obtain ⟨q1, q2, q3⟩ := s_in (σ := (M, ρ)) h ht
  have hr := (h.2.2 t ht).1
  have hn := hr.2.2.2.2.1
  have hf := hr.2.2.2.2.2 k hk
  have hin := nIk (k := k) (N := 40) (by omega) (by omega)
  have hcl := nI_clamp (n := k) (by omega)
  rw [e_X3_removePiece]
  simp only [q2, q1, hcl, hin, if_false, show (M, ρ).1 = M from rfl, hf.1, hf.2.1]
  by_cases hb : pHb T t k
  · have hk0 := hb.1
    have hin1 := nIk (k := k - 1) (N := 40) (by omega) (by omega)
    have hcl1 := nI_clamp (n := k - 1) (by omega)
    have h1 := c_to hr (k - 1) (rto (T.2 t) k)
    obtain ⟨M1, e1, e2, e3⟩ := r_remove (ρ := ρ) h1 (m := k) hk
    have hfr := rowFr_tr (zm_fr21 (M := M) (i := 6 * s + t) (s := k - 1) (x := rto (T.2 t) k)) e3
    rw [← tPc_b hb] at e2
    refine ⟨M1, ?_, cSheet_up h ht e2 hfr (by rw [tPc_b hb]; rfl), rowFr_s (by omega) hfr⟩
    rw [pHeir_b hb, if_pos (nI_lt (by omega) (by omega))]
    simp only [hcl1, hin1, if_false]
    rw [e1, zcV_ok]
  · have ha := hh.resolve_left hb
    have hk1 := ha.1
    have hin1 := nIk (k := k + 1) (N := 40) (by omega) (by omega)
    have hcl1 := nI_clamp (n := k + 1) (by omega)
    have h1 := c_from hr (k + 1) (rfr (T.2 t) k)
    obtain ⟨M1, e1, e2, e3⟩ := r_remove (ρ := ρ) h1 (m := k) hk
    have hfr := rowFr_tr (zm_fr20 (M := M) (i := 6 * s + t) (s := k + 1) (x := rfr (T.2 t) k)) e3
    rw [← tPc_a hb] at e2
    refine ⟨M1, ?_, cSheet_up h ht e2 hfr (by rw [tPc_a hb]; rfl), rowFr_s (by omega) hfr⟩
    rw [pHeir_a hb ha, if_neg (nI_nlt (by omega) (by omega))]
    simp only [hcl1, hin1, if_false]
    rw [e1, zcV_ok]
theorem m_beside_b (h : mSheet σ.1 31 T) (hw : zwp T) {t k : Nat} (ht : t < T.1) (hk : k < rct (T.2 t)) : zrun zP 193 [zR 16 i, zI (nI t), zI (nI k), zI (-1)] σ = zok (@ite _ (pHb T t k) (Classical.propDecidable _) (nI (k - 1)) (-1)) σ := by
  have h6 := h.2.1
  have hr := h.2.2 t ht
  have hn := hr.2.2.2.2.1
  rw [e_X6_beside, m_many hr (by omega), zcI_ok, m_isIn, zcI_ok]
  cases k with
  | zero =>
    rw [nI_0m1', zb_f (fun e => e.1 (by decide)), if_pos rfl, @if_neg _ (Classical.propDecidable _) (fun e : pHb T t 0 => by have := e.1; omega)]
  | succ j =>
    obtain ⟨n, hN⟩ : ∃ n, rct (T.2 t) = n + 1 := ⟨rct (T.2 t) - 1, by omega⟩
    rw [hN, nI_pred, nI_pm, zb_t ⟨nI_pos (by omega), nI_nlt (by omega) (by omega)⟩, if_neg (by decide), m_parentsOf h hw ht (by omega), zcI_ok, m_parentsOf h hw ht hk, zcI_ok]
    by_cases c : pPM T t j = pPM T t (j + 1)
    · rw [if_pos c, @if_pos _ (Classical.propDecidable _) (show pHb T t (j + 1) from ⟨by omega, c⟩)]
      rfl
    · rw [if_neg c, @if_neg _ (Classical.propDecidable _) (fun e : pHb T t (j + 1) => c e.2)]
theorem m_beside_a (h : mSheet σ.1 31 T) (hw : zwp T) {t k : Nat} (ht : t < T.1) (hk : k < rct (T.2 t)) : zrun zP 193 [zR 16 i, zI (nI t), zI (nI k), zI 1] σ = zok (@ite _ (pHa T t k) (Classical.propDecidable _) (nI (k + 1)) (-1)) σ := by
  have h6 := h.2.1
  have hr := h.2.2 t ht
  have hn := hr.2.2.2.2.1
  obtain ⟨n, hN⟩ : ∃ n, rct (T.2 t) = n + 1 := ⟨rct (T.2 t) - 1, by omega⟩
  rw [e_X6_beside, m_many hr (by omega), zcI_ok, m_isIn, zcI_ok, hN, nI_pred, nI_1]
  by_cases c : k + 1 < rct (T.2 t)
  · rw [zb_t ⟨nI_pos (by omega), nI_nlt (by omega) (by omega)⟩, if_neg (by decide), m_parentsOf h hw ht c, zcI_ok, m_parentsOf h hw ht hk, zcI_ok]
    by_cases c2 : pPM T t k = pPM T t (k + 1)
    · rw [if_pos c2.symm, @if_pos _ (Classical.propDecidable _) (show pHa T t k from ⟨c, c2⟩)]
    · rw [if_neg (fun e => c2 e.symm), @if_neg _ (Classical.propDecidable _) (fun e : pHa T t k => c2 e.2)]
  · rw [zb_f (fun e => e.2 (nI_lt (by omega) (by omega))), if_pos rfl, @if_neg _ (Classical.propDecidable _) (fun e : pHa T t k => c e.1)]
theorem m_takesCut (h : mSheet M 31 T) (hw : zwp T) {t k : Nat} (ht : t < T.1) (hk : k < rct (T.2 t)) (hh : pHb T t k ∨ pHa T t k) : ∃ M', zrun zP 197 [zR 16 i, zI (nI t), zI (nI k)] (M, ρ) = zok 1 (M', ρ) ∧ mSheet M' 31 (sUp T t (tPc T t k)) ∧ oFr M M' := by
  have h6 := h.2.1
  have hr := h.2.2 t ht
  have hn := hr.2.2.2.2.1
  rw [e_X6_takesCut, m_beside_b (σ := (M, ρ)) h hw ht hk, zcI_ok, m_beside_a (σ := (M, ρ)) h hw ht hk, zcI_ok]
  by_cases hb : pHb T t k
  · have hk0 := hb.1
    have c1 := nIk (k := 6 + 124 * t + 3 * (k - 1)) (N := 745) (by omega) (by omega)
    have d1 := nI_clamp (n := 6 + 124 * t + 3 * (k - 1)) (by omega)
    have h1 := ms_to (m := k - 1) hr (rto (T.2 t) k)
    obtain ⟨M1, e1, e2, e3⟩ := m_removes (i := i) (ρ := ρ) h1 (by omega) (m := k) hk
    have hfr := mFr_tr (mse_fr (M := M) (t := t) (m := k - 1) (c := 1) (x := rto (T.2 t) k) (by omega) (by omega)) e3
    rw [← tPc_b hb] at e2
    refine ⟨M1, ?_, mSheet_up h ht e2 hfr, mFr_o hfr⟩
    rw [@if_pos _ (Classical.propDecidable _) hb, if_neg (nI_m1 _ (by omega)), m_cell1, zcI_ok, m_to (σ := (M, ρ)) hr (by omega) hk, zcI_ok]
    simp only [c1, d1, if_false]
    rw [e1, zcV_ok]
  · have ha := hh.resolve_left hb
    have hk1 := ha.1
    have c1 := nIk (k := 5 + 124 * t + 3 * (k + 1)) (N := 745) (by omega) (by omega)
    have d1 := nI_clamp (n := 5 + 124 * t + 3 * (k + 1)) (by omega)
    have h1 := ms_from (m := k + 1) hr (rfr (T.2 t) k)
    obtain ⟨M1, e1, e2, e3⟩ := m_removes (i := i) (ρ := ρ) h1 (by omega) (m := k) hk
    have hfr := mFr_tr (mse_fr (M := M) (t := t) (m := k + 1) (c := 0) (x := rfr (T.2 t) k) (by omega) (by omega)) e3
    rw [← tPc_a hb] at e2
    refine ⟨M1, ?_, mSheet_up h ht e2 hfr, mFr_o hfr⟩
    rw [@if_neg _ (Classical.propDecidable _) hb, if_pos rfl, @if_pos _ (Classical.propDecidable _) ha, m_cell0, zcI_ok, m_from (σ := (M, ρ)) hr (by omega) hk, zcI_ok]
    simp only [c1, d1, if_false]
    rw [e1, zcV_ok]
/-- two neighbours that may be joined -/
def pMayJoin (T : zSheet) (t k : Nat) : Prop := ¬ rkd (T.2 t) = 3 ∧ k + 1 < rct (T.2 t) ∧ rto (T.2 t) k = rfr (T.2 t) (k + 1) ∧ pPM T t k = pPM T t (k + 1)
theorem s_allowsJoin (h : cSheet σ.1 s T) (hw : zwp T) {t k : Nat} (ht : t < T.1) (hk : k < rct (T.2 t)) : zrun zP 75 [zR 13 s, zI (nI t), zI (nI k)] σ = zok (zb (pMayJoin T t k)) σ := by
  have h6 := h.2.1
  obtain ⟨q1, q2, q3⟩ := s_in h ht
  have hr := (h.2.2 t ht).1
  have hn := hr.2.2.2.2.1
  have f1 := hr.2.1
  have hf := hr.2.2.2.2.2 k hk
  have hin := nIk (k := k) (N := 40) (by omega) (by omega)
  have hcl := nI_clamp (n := k) (by omega)
  rw [e_X3_allowsJoin]
  simp only [q2, q1, if_false, f1]
  by_cases c1 : rkd (T.2 t) = 3
  · rw [if_pos c1, zb_f (fun e => e.1 c1)]
  · rw [if_neg c1, r_hasMark hr, zcI_ok, zb_t ⟨nI_pos (by omega), nI_lt hk (by omega)⟩, if_neg (by decide), r_hasMark hr, zcI_ok, nI_1]
    by_cases c2 : k + 1 < rct (T.2 t)
    · have hg := hr.2.2.2.2.2 (k + 1) c2
      have hin1 := nIk (k := k + 1) (N := 40) (by omega) (by omega)
      have hcl1 := nI_clamp (n := k + 1) (by omega)
      rw [zb_t ⟨nI_pos (by omega), nI_lt c2 (by omega)⟩, if_neg (by decide)]
      simp only [hin, hcl, hin1, hcl1, if_false, hf.2.1, hg.1]
      rw [s_haveSameParent h hw ht hk c2, zcI_ok]
      by_cases c3 : rto (T.2 t) k = rfr (T.2 t) (k + 1)
      · rw [if_pos c3]
        by_cases c4 : pPM T t k = pPM T t (k + 1)
        · rw [zb_t c4, if_neg (by decide), zb_t (show pMayJoin T t k from ⟨c1, c2, c3, c4⟩)]
        · rw [zb_f c4, if_pos rfl, zb_f (fun e : pMayJoin T t k => c4 e.2.2.2)]
      · rw [if_neg c3, zb_f (fun e : pMayJoin T t k => c3 e.2.2.1)]
    · rw [zb_f (fun e => nI_nlt (by omega) (by omega) e.2), if_pos rfl, zb_f (fun e : pMayJoin T t k => c2 e.2.1)]
end ZPC
