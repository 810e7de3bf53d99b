/-! the calls undo and join, the class's side -/
section ZUC
variable {i n : Nat} {T : zSheet} {H : Nat → zSheet} {M : zMem} {ρ : Int64 × Nat}
theorem c_undo_0 (hh : cHist M 0 H) : zrun zP 104 [zR 15 i] (M, ρ) = zok (-1) (M, ρ) := by
  rw [e_X5_undo, h_recall0 hh, zcI_ok, if_pos rfl]
theorem c_undo_s (hh : cHist M (n + 1) H) : ∃ M', zrun zP 104 [zR 15 i] (M, ρ) = zok (nI n) (M', ρ) ∧ cSheet M' 0 (H 0) ∧ cHist M' n (fun j => H (j + 1)) ∧ unFr M M' := by
  obtain ⟨M1, e1, e2, e3, e4⟩ := h_recall (ρ := ρ) hh
  refine ⟨M1, ?_, e2, e3, e4⟩
  obtain ⟨-, N, -, -, k2, -⟩ := e3
  rw [e_X5_undo, e1, zcI_ok, if_neg (by decide), show (M1, ρ).1 = M1 from rfl, k2]
theorem c_join_1 (h : cSheet M 0 T) {x y : Int32} (hm : ¬ pMk T x y) : zrun zP 98 [zR 15 i, zI x, zI y] (M, ρ) = cTh 0 i (M, ρ) := by
  rw [e_X5_join, (n_mark (σ := (M, ρ)) h x y).2 hm, zcV_cTh]
theorem c_join_2 (h : cSheet M 0 T) (hw : zwp T) {t k : Nat} (ht : t < T.1) (hk : k < rct (T.2 t)) (hj : ¬ pMayJoin T t k) : zrun zP 98 [zR 15 i, zI (nI t), zI (nI k)] (M, ρ) = cTh 2 i (M, ρ) := by
  rw [e_X5_join, (n_mark (σ := (M, ρ)) h _ _).1 ⟨t, k, ht, hk, rfl, rfl⟩, zcV_ok, s_allowsJoin (σ := (M, ρ)) h hw ht hk, zcI_ok, (n_state _).2 hj, zcV_cTh]
theorem c_join_3 (h : cSheet M 0 T) (hw : zwp T) (hh : cHist M n H) {t k : Nat} (ht : t < T.1) (hk : k < rct (T.2 t)) (hj : pMayJoin T t k) : ∃ M', zrun zP 98 [zR 15 i, zI (nI t), zI (nI k)] (M, ρ) = zok (rto (T.2 t) (k + 1)) (M', ρ) ∧ cSheet M' 0 (sUp T t (tJoin (T.2 t) k)) ∧ cHist M' (min (n + 1) 12) (hPush T H) ∧ edFr M M' := by
  have h6 := h.2.1
  have hk1 := hj.2.1
  obtain ⟨M1, e1, e2, e3, e4⟩ := h_remember (ρ := ρ) h hh
  obtain ⟨q1, q2, q3⟩ := s_in (σ := (M1, ρ)) e2 ht
  have hr := (e2.2.2 t ht).1
  have h40 := hr.2.2.2.2.1
  have hin := nIk (k := k) (N := 40) (by omega) (by omega)
  have hcl := nI_clamp (n := k) (by omega)
  obtain ⟨M2, f1, f2, f3⟩ := r_joinNext (ρ := ρ) hr hk1
  have hs : sFr M1 M2 0 := rowFr_s (by omega) f3
  refine ⟨M2, ?_, cSheet_up e2 ht f2 f3 rfl, cHist_s hs e3, edFr_tr (rgFr_ed e4) (sFr_ed hs)⟩
  rw [e_X5_join, (n_mark (σ := (M, ρ)) h _ _).1 ⟨t, k, ht, hk, rfl, rfl⟩, zcV_ok, s_allowsJoin (σ := (M, ρ)) h hw ht hk, zcI_ok, (n_state _).1 hj, zcV_ok, e1, zcV_ok]
  simp only [q2, q1, if_false]
  rw [f1, zcV_ok]
  simp only [hin, hcl, if_false]
  have hv := (f2.2.2.2.2.2 k (show k < rct (T.2 t) - 1 by omega)).2.1
  rw [hv]
  have : rto (tJoin (T.2 t) k) k = rto (T.2 t) (k + 1) := by
    show (if k < k + 1 then (if k = k then rto (T.2 t) (k + 1) else rto (T.2 t) k) else _) = _
    rw [if_pos (by omega), if_pos rfl]
  rw [this]
end ZUC
