/-! the reference: marks go, are cut; sheets with one tier changed -/
section ZMN2
variable {i t : Nat} {r : zTier} {M : zMem} {ρ : Int64 × Nat} {σ : zSt}
theorem m_kindV (ht : t < 6) : zrun zP 140 [zR 16 i, zI (nI t)] σ = zok (σ.1 31 0 (1 + 124 * t)) σ := by
  obtain ⟨q1, q2⟩ := m_rd (q := 1 + 124 * t) (by omega)
  rw [e_X6_kind, m_pos0, zcI_ok]
  simp only [q1, if_false]
  rw [q2]
theorem m_parentV (ht : t < 6) : zrun zP 141 [zR 16 i, zI (nI t)] σ = zok (σ.1 31 0 (2 + 124 * t)) σ := by
  obtain ⟨q1, q2⟩ := m_rd (q := 2 + 124 * t) (by omega)
  rw [e_X6_parent, m_pos1, zcI_ok]
  simp only [q1, if_false]
  rw [q2]
theorem m_manyV (ht : t < 6) : zrun zP 142 [zR 16 i, zI (nI t)] σ = zok (σ.1 31 0 (3 + 124 * t)) σ := by
  obtain ⟨q1, q2⟩ := m_rd (q := 3 + 124 * t) (by omega)
  rw [e_X6_many, m_pos2, zcI_ok]
  simp only [q1, if_false]
  rw [q2]
theorem m_fromV (ht : t < 6) {k : Nat} (hk : k < 40) : zrun zP 144 [zR 16 i, zI (nI t), zI (nI k)] σ = zok (σ.1 31 0 (5 + 124 * t + 3 * k)) σ := by
  obtain ⟨q1, q2⟩ := m_rd (q := 5 + 124 * t + 3 * k) (by omega)
  rw [e_X6_from, m_cell0, zcI_ok]
  simp only [q1, if_false]
  rw [q2]
theorem m_toV (ht : t < 6) {k : Nat} (hk : k < 40) : zrun zP 145 [zR 16 i, zI (nI t), zI (nI k)] σ = zok (σ.1 31 0 (6 + 124 * t + 3 * k)) σ := by
  obtain ⟨q1, q2⟩ := m_rd (q := 6 + 124 * t + 3 * k) (by omega)
  rw [e_X6_to, m_cell1, zcI_ok]
  simp only [q1, if_false]
  rw [q2]
theorem m_labV (ht : t < 6) {k : Nat} (hk : k < 40) : zrun zP 146 [zR 16 i, zI (nI t), zI (nI k)] σ = zok (σ.1 31 0 (7 + 124 * t + 3 * k)) σ := by
  obtain ⟨q1, q2⟩ := m_rd (q := 7 + 124 * t + 3 * k) (by omega)
  rw [e_X6_labelOf, m_cell2, zcI_ok]
  simp only [q1, if_false]
  rw [q2]
/-- in the midst of taking the m-th out: the numbers from its first one up to e are those three further on -/
def mreI (M M' : zMem) (t m e : Nat) : Prop := (∀ s, 5 + 124 * t + 3 * m ≤ s → s < e → M' 31 0 s = M 31 0 (s + 3)) ∧ ∀ k j s, ¬ (k = 31 ∧ j = 0 ∧ 5 + 124 * t + 3 * m ≤ s ∧ s < e) → M' k j s = M k j s
theorem mre_loop (ht : t < 6) {m n : Nat} (hm : m < n) (hn : n ≤ 40) (hc : M 31 0 (3 + 124 * t) = nI n) : ∀ d e M', e + d = 5 + 124 * t + 3 * (n - 1) → 5 + 124 * t + 3 * m ≤ e → mreI M M' t m e → ∃ M'', zX zP zK_X6_removes (7, [zR 16 i, zI (nI t), zI (nI m), zI (nI e)], []) (M', ρ) = zvd (zms M'' 31 0 (3 + 124 * t) (nI n - 1), ρ) ∧ mreI M M'' t m (5 + 124 * t + 3 * (n - 1)) := by
  intro d
  induction d with
  | zero =>
    intro e M' hd he h
    have h3 : M' 31 0 (3 + 124 * t) = nI n := (h.2 31 0 _ (by omega)).trans hc
    obtain ⟨q1, q2⟩ := m_rd (q := 3 + 124 * t) (by omega)
    refine ⟨M', ?_, by rw [show e = 5 + 124 * t + 3 * (n - 1) by omega] at h; exact h⟩
    have e1 : nI n - 1 = nI (n - 1) := by
      have := nI_pred (n - 1)
      rw [show n - 1 + 1 = n by omega] at this
      exact this
    rw [e_X6_removes_7, m_manyV ht, zcI_ok, show (M', ρ).1 = M' from rfl, h3, e1, m_cell0, zcI_ok, if_neg (nI_nlt (by omega) (by omega)), m_pos2, zcI_ok]
    simp only [q1, if_false]
    rw [q2, h3, e1]
  | succ d ih =>
    intro e M' hd he h
    have h3 : M' 31 0 (3 + 124 * t) = nI n := (h.2 31 0 _ (by omega)).trans hc
    obtain ⟨q1, q2⟩ := m_rd (q := e) (by omega)
    obtain ⟨q3, q4⟩ := m_rd (q := e + 3) (by omega)
    have e1 : nI n - 1 = nI (n - 1) := by
      have := nI_pred (n - 1)
      rw [show n - 1 + 1 = n by omega] at this
      exact this
    have e3 : nI e + 3 = nI (e + 3) := nI_add e 3
    rw [e_X6_removes_7, m_manyV ht, zcI_ok, show (M', ρ).1 = M' from rfl, h3, e1, m_cell0, zcI_ok, if_pos (nI_lt (by omega) (by omega)), e3]
    simp only [q1, q3, if_false]
    rw [q2, q4, nI_1]
    rw [e1] at ih
    refine ih (e + 1) (zms M' 31 0 e (M' 31 0 (e + 3))) (by omega) (by omega) ?_
    refine ⟨fun s h1 h2 => ?_, fun k j s hne => ?_⟩
    · rw [zms_sl]
      by_cases hs : s = e
      · rw [if_pos hs, hs, h.2 31 0 (e + 3) (by omega)]
      · rw [if_neg hs]
        exact h.1 s h1 (by omega)
    · rw [zms_ne (fun q => hne ⟨q.1, q.2.1, by omega, by omega⟩)]
      exact h.2 k j s (fun q => hne ⟨q.1, q.2.1, q.2.2.1, by omega⟩)
theorem m_removes (h : mRow M 31 t r) (ht : t < 6) {m : Nat} (hm : m < rct r) : ∃ M', zrun zP 154 [zR 16 i, zI (nI t), zI (nI m)] (M, ρ) = zvd (M', ρ) ∧ mRow M' 31 t (tRem r m) ∧ mFr M M' t := by
  obtain ⟨h0, h1, hc, h2, hn, hk⟩ := h
  obtain ⟨M', e1, e2, e3⟩ := mre_loop (M := M) (i := i) (ρ := ρ) ht hm hn hc (3 * (rct r - 1 - m)) (5 + 124 * t + 3 * m) M (by omega) (Nat.le_refl _) ⟨fun s h1 h2 => by omega, fun _ _ _ _ => rfl⟩
  refine ⟨_, (by rw [e_X6_removes, m_cell0, zcI_ok]; exact e1), ?_, ?_⟩
  · refine ⟨(zms_ne (by omega)).trans ((e3 31 0 _ (by omega)).trans h0), (zms_ne (by omega)).trans ((e3 31 0 _ (by omega)).trans h1), ?_, (zms_ne (by omega)).trans ((e3 31 0 _ (by omega)).trans h2), (by show rct r - 1 ≤ 40; omega), fun k hlt => ?_⟩
    · show zms M' 31 0 (3 + 124 * t) (nI (rct r) - 1) 31 0 (3 + 124 * t) = nI (rct r - 1)
      rw [zms_eq]
      have := nI_pred (rct r - 1)
      rw [show rct r - 1 + 1 = rct r by omega] at this
      exact this
    · have hlt : k < rct r - 1 := hlt
      rw [zms_ne (by omega), zms_ne (by omega), zms_ne (by omega)]
      show _ = remF (rfr r) m k ∧ _ = remF (rto r) m k ∧ _ = remF (rlb r) m k
      unfold remF
      by_cases hkm : k < m
      · have f := hk k (by omega)
        rw [if_pos hkm, if_pos hkm, if_pos hkm, e3 31 0 _ (by omega), e3 31 0 _ (by omega), e3 31 0 _ (by omega)]
        exact f
      · have f := hk (k + 1) (by omega)
        rw [if_neg hkm, if_neg hkm, if_neg hkm, e2 _ (by omega) (by omega), e2 _ (by omega) (by omega), e2 _ (by omega) (by omega)]
        rw [show 5 + 124 * t + 3 * k + 3 = 5 + 124 * t + 3 * (k + 1) by omega, show 6 + 124 * t + 3 * k + 3 = 6 + 124 * t + 3 * (k + 1) by omega, show 7 + 124 * t + 3 * k + 3 = 7 + 124 * t + 3 * (k + 1) by omega]
        exact f
  · intro k j s hne
    rw [zms_ne (fun q => hne ⟨q.1, q.2.1, Or.inl q.2.2⟩)]
    exact e3 k j s (fun q => hne ⟨q.1, q.2.1, Or.inr (by omega)⟩)
theorem mcl_loop (ht : t < 6) (a b : Int32) : ∀ m r g M', m ≤ rct r → mRow M' 31 t r → ∃ M'', zX zP zK_X6_clears (12, [zR 16 i, zI (nI t), zI a, zI b, zI g, zI (nI m - 1)], []) (M', ρ) = zok (tRW a b m r g).2 (M'', ρ) ∧ mRow M'' 31 t (tRW a b m r g).1 ∧ mFr M' M'' t := by
  intro m
  induction m with
  | zero =>
    intro r g M' hm h
    refine ⟨M', ?_, h, mFr_rf⟩
    rw [e_X6_clears_12, nI_0, if_pos (by decide)]
    rfl
  | succ m ih =>
    intro r g M' hm h
    have hn := h.2.2.2.2.1
    rw [e_X6_clears_12, nI_pred, if_neg (nI_pos (by omega)), m_from (σ := (M', ρ)) h ht (by omega), zcI_ok, m_to (σ := (M', ρ)) h ht (by omega), zcI_ok, show nI m + (-1) = nI m - 1 from by rw [Int32.sub_eq_add_neg]]
    by_cases c : ¬ rfr r m < a ∧ ¬ b < rto r m
    · obtain ⟨M1, e1, e2, e3⟩ := m_removes (i := i) (ρ := ρ) h ht (m := m) (by omega)
      obtain ⟨M2, q1, q2, q3⟩ := ih (tRem r m) (g + 1) M1 (by show m ≤ rct r - 1; omega) e2
      have et : tRW a b (m + 1) r g = tRW a b m (tRem r m) (g + 1) := @if_pos _ (Classical.propDecidable _) c _ _ _
      rw [et, if_neg c.1, if_neg c.2, e1, zcV_ok]
      exact ⟨M2, q1, q2, mFr_tr e3 q3⟩
    · have et : tRW a b (m + 1) r g = tRW a b m r g := @if_neg _ (Classical.propDecidable _) c _ _ _
      rw [et]
      obtain ⟨M2, q1, q2, q3⟩ := ih r g M' (by omega) h
      refine ⟨M2, Eq.trans ?_ q1, q2, q3⟩
      by_cases c1 : rfr r m < a
      · rw [if_pos c1]
      · rw [if_neg c1, if_pos (Classical.byContradiction fun e => c ⟨c1, e⟩)]
theorem m_clears (h : mRow M 31 t r) (ht : t < 6) (a b : Int32) : ∃ M', zrun zP 195 [zR 16 i, zI (nI t), zI a, zI b] (M, ρ) = zok (tRW a b (rct r) r 0).2 (M', ρ) ∧ mRow M' 31 t (tRW a b (rct r) r 0).1 ∧ mFr M M' t := by
  obtain ⟨M', e1, e2, e3⟩ := mcl_loop (i := i) (ρ := ρ) ht a b (rct r) r 0 M (Nat.le_refl _) h
  refine ⟨M', ?_, e2, e3⟩
  rw [e_X6_clears, m_many (σ := (M, ρ)) h ht, zcI_ok]
  exact e1
theorem ms_to (h : mRow M 31 t r) {m : Nat} (x : Int32) : mRow (zms M 31 0 (6 + 124 * t + 3 * m) x) 31 t (tTo r m x) := by
  obtain ⟨h0, h1, hc, h2, hn, hk⟩ := h
  refine ⟨(zms_ne (by omega)).trans h0, (zms_ne (by omega)).trans h1, (zms_ne (by omega)).trans hc, (zms_ne (by omega)).trans h2, hn, fun k hlt => ?_⟩
  have f := hk k hlt
  rw [zms_ne (s' := 5 + 124 * t + 3 * k) (by omega), zms_ne (s' := 7 + 124 * t + 3 * k) (by omega)]
  refine ⟨f.1, ?_, f.2.2⟩
  show _ = updF (rto r) m x k
  unfold updF
  rw [zms_sl]
  by_cases e : k = m
  · rw [if_pos e, if_pos (by omega)]
  · rw [if_neg e, if_neg (by omega), f.2.1]
theorem ms_from (h : mRow M 31 t r) {m : Nat} (x : Int32) : mRow (zms M 31 0 (5 + 124 * t + 3 * m) x) 31 t (tFrom r m x) := by
  obtain ⟨h0, h1, hc, h2, hn, hk⟩ := h
  refine ⟨(zms_ne (by omega)).trans h0, (zms_ne (by omega)).trans h1, (zms_ne (by omega)).trans hc, (zms_ne (by omega)).trans h2, hn, fun k hlt => ?_⟩
  have f := hk k hlt
  rw [zms_ne (s' := 6 + 124 * t + 3 * k) (by omega), zms_ne (s' := 7 + 124 * t + 3 * k) (by omega)]
  refine ⟨?_, f.2.1, f.2.2⟩
  show _ = updF (rfr r) m x k
  unfold updF
  rw [zms_sl]
  by_cases e : k = m
  · rw [if_pos e, if_pos (by omega)]
  · rw [if_neg e, if_neg (by omega), f.1]
theorem ms_lab (h : mRow M 31 t r) {m : Nat} (x : Int32) : mRow (zms M 31 0 (7 + 124 * t + 3 * m) x) 31 t (tLab r m x) := by
  obtain ⟨h0, h1, hc, h2, hn, hk⟩ := h
  refine ⟨(zms_ne (by omega)).trans h0, (zms_ne (by omega)).trans h1, (zms_ne (by omega)).trans hc, (zms_ne (by omega)).trans h2, hn, fun k hlt => ?_⟩
  have f := hk k hlt
  rw [zms_ne (s' := 5 + 124 * t + 3 * k) (by omega), zms_ne (s' := 6 + 124 * t + 3 * k) (by omega)]
  refine ⟨f.1, f.2.1, ?_⟩
  show _ = updF (rlb r) m x k
  unfold updF
  rw [zms_sl]
  by_cases e : k = m
  · rw [if_pos e, if_pos (by omega)]
  · rw [if_neg e, if_neg (by omega), f.2.2]
theorem mse_fr {M : zMem} {t m c : Nat} {x : Int32} (hm : m < 40) (hc : c < 3) : mFr M (zms M 31 0 (5 + c + 124 * t + 3 * m) x) t := by
  intro k j s hne
  rw [zms_ne (fun q => hne ⟨q.1, q.2.1, Or.inr (by omega)⟩)]
end ZMN2
/-- one tier of a sheet is another one -/
def sUp (T : zSheet) (t : Nat) (r : zTier) : zSheet := (T.1, fun u => if u = t then r else T.2 u)
theorem sUp_eq {T : zSheet} {t : Nat} {r : zTier} : (sUp T t r).2 t = r := if_pos rfl
theorem sUp_ne {T : zSheet} {t u : Nat} {r : zTier} (h : u ≠ t) : (sUp T t r).2 u = T.2 u := if_neg h
theorem zrt_congr {T T' : zSheet} (h : ∀ u, rpr (T'.2 u) = rpr (T.2 u)) : ∀ f t, zrt T' f t = zrt T f t := by
  intro f
  induction f with
  | zero => intro t; rfl
  | succ f ih =>
    intro t
    simp only [zrt, zpt, h]
    split
    · rfl
    · exact ih _
theorem zdp_congr {T T' : zSheet} (h : ∀ u, rpr (T'.2 u) = rpr (T.2 u)) : ∀ f t, zdp T' f t = zdp T f t := by
  intro f
  induction f with
  | zero => intro t; rfl
  | succ f ih =>
    intro t
    simp only [zdp, zpt, h]
    split
    · rfl
    · rw [ih]
theorem sUp_pr {T : zSheet} {t : Nat} {r : zTier} (h : rpr r = rpr (T.2 t)) (u : Nat) : rpr ((sUp T t r).2 u) = rpr (T.2 u) := by
  by_cases e : u = t
  · rw [e, sUp_eq, h]
  · rw [sUp_ne e]
theorem cRow_kept {M M' : zMem} {i i' : Nat} {r : zTier} (h : cRow M i' r) (hf : rowFr M M' i) (hne : i' ≠ i) : cRow M' i' r := by
  obtain ⟨h0, h1, h2, hc, hn, hk⟩ := h
  refine ⟨(hf _ _ _ (fun e => hne e.1)).trans h0, (hf _ _ _ (fun e => hne e.1)).trans h1, (hf _ _ _ (fun e => hne e.1)).trans h2, (hf _ _ _ (fun e => hne e.1)).trans hc, hn, fun k hlt => ?_⟩
  rw [hf _ _ _ (fun e => hne e.1), hf _ _ _ (fun e => hne e.1), hf _ _ _ (fun e => hne e.1)]
  exact hk k hlt
theorem cSheet_up {M M' : zMem} {s t : Nat} {T : zSheet} {r : zTier} (h : cSheet M s T) (ht : t < T.1) (hr : cRow M' (6 * s + t) r) (hf : rowFr M M' (6 * s + t)) (hp : rpr r = rpr (T.2 t)) : cSheet M' s (sUp T t r) := by
  obtain ⟨h1, h6, h3⟩ := h
  refine ⟨(hf 13 s 0 (by omega)).trans h1, h6, fun u hu => ?_⟩
  have hu : u < T.1 := hu
  have q := h3 u hu
  have e1 : pRoot (sUp T t r) u = pRoot T u := zrt_congr (sUp_pr hp) 6 u
  have e2 : pDep (sUp T t r) u = pDep T u := zdp_congr (sUp_pr hp) 6 u
  refine ⟨?_, (by rw [e1]; exact (hf 12 _ 3 (by omega)).trans q.2.1), (by rw [e2]; exact (hf 12 _ 4 (by omega)).trans q.2.2)⟩
  by_cases e : u = t
  · rw [e, sUp_eq]; exact hr
  · rw [sUp_ne e]
    exact cRow_kept q.1 hf (by omega)
theorem cSheet_ot {M M' : zMem} {s s2 t : Nat} {T : zSheet} (h : cSheet M s2 T) (ht : t < 6) (hs : s2 ≠ s) (hf : rowFr M M' (6 * s + t)) : cSheet M' s2 T := by
  obtain ⟨h1, h6, h3⟩ := h
  refine ⟨(hf 13 s2 0 (by omega)).trans h1, h6, fun u hu => ?_⟩
  have q := h3 u hu
  exact ⟨cRow_kept q.1 hf (by omega), (hf 12 _ 3 (by omega)).trans q.2.1, (hf 12 _ 4 (by omega)).trans q.2.2⟩
theorem mRow_kept {M M' : zMem} {t u : Nat} {r : zTier} (h : mRow M 31 u r) (hf : mFr M M' t) (hne : u ≠ t) : mRow M' 31 u r := by
  obtain ⟨h0, h1, hc, h2, hn, hk⟩ := h
  refine ⟨(hf _ _ _ (by omega)).trans h0, (hf _ _ _ (by omega)).trans h1, (hf _ _ _ (by omega)).trans hc, (hf _ _ _ (by omega)).trans h2, hn, fun k hlt => ?_⟩
  rw [hf _ _ _ (by omega), hf _ _ _ (by omega), hf _ _ _ (by omega)]
  exact hk k hlt
theorem mSheet_up {M M' : zMem} {t : Nat} {T : zSheet} {r : zTier} (h : mSheet M 31 T) (ht : t < T.1) (hr : mRow M' 31 t r) (hf : mFr M M' t) : mSheet M' 31 (sUp T t r) := by
  obtain ⟨h1, h6, h3⟩ := h
  refine ⟨(hf 31 0 0 (by omega)).trans h1, h6, fun u hu => ?_⟩
  have hu : u < T.1 := hu
  by_cases e : u = t
  · rw [e, sUp_eq]; exact hr
  · rw [sUp_ne e]
    exact mRow_kept (h3 u hu) hf e
