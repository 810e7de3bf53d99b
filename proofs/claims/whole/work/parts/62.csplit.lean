/-! the call split, the class's side -/
section ZCS
variable {i n : Nat} {T : zSheet} {H : Nat → zSheet} {M : zMem} {ρ : Int64 × Nat}
def pSpan (T : zSheet) (t k : Nat) (x : Int32) : Prop := ¬ x < rfr (T.2 t) k + 1 ∧ ¬ rto (T.2 t) k - 1 < x
def pMaySplit (T : zSheet) (t : Nat) (x : Int32) : Prop := (¬ rkd (T.2 t) = 3 ∧ ¬ pIn (T.2 t) x = -1 ∧ pNoIn T t x) ∧ pRoomC T t x
theorem c_split_1 (h : cSheet M 0 T) {x y z : Int32} (hm : ¬ pMk T x y) : zrun zP 97 [zR 15 i, zI x, zI y, zI z] (M, ρ) = cTh 0 i (M, ρ) := by
  rw [e_X5_split, (n_mark (σ := (M, ρ)) h x y).2 hm, zcV_cTh]
theorem c_split_2 (h : cSheet M 0 T) {t k : Nat} (ht : t < T.1) (hk : k < rct (T.2 t)) {x : Int32} (h3 : rkd (T.2 t) = 3) : zrun zP 97 [zR 15 i, zI (nI t), zI (nI k), zI x] (M, ρ) = cTh 2 i (M, ρ) := by
  obtain ⟨q1, q2, q3⟩ := s_in (σ := (M, ρ)) h ht
  have f1 := (h.2.2 t ht).1.2.1
  rw [e_X5_split, (n_mark (σ := (M, ρ)) h _ _).1 ⟨t, k, ht, hk, rfl, rfl⟩, zcV_ok]
  simp only [q2, q1, if_false]
  rw [f1, if_pos h3, n_state_f, zcV_cTh]
theorem c_split_3 (h : cSheet M 0 T) {t k : Nat} (ht : t < T.1) (hk : k < rct (T.2 t)) {x : Int32} (h3 : ¬ rkd (T.2 t) = 3) (hx : ¬ pSpan T t k x) : zrun zP 97 [zR 15 i, zI (nI t), zI (nI k), zI x] (M, ρ) = cTh 1 i (M, ρ) := by
  obtain ⟨q1, q2, q3⟩ := s_in (σ := (M, ρ)) h ht
  have hr := (h.2.2 t ht).1
  have h40 := hr.2.2.2.2.1
  have f1 := hr.2.1
  have hf := hr.2.2.2.2.2 k hk
  have hin := nIk (k := k) (N := 40) (by omega) (by omega)
  have hcl := nI_clamp (n := k) (by omega)
  rw [e_X5_split, (n_mark (σ := (M, ρ)) h _ _).1 ⟨t, k, ht, hk, rfl, rfl⟩, zcV_ok]
  simp only [q2, q1, hin, hcl, if_false]
  rw [f1, if_neg h3, n_state_t, zcV_ok]
  simp only [hf.1, hf.2.1]
  rw [(n_range x _ _).2 hx, zcV_cTh]
theorem c_split_4 (h : cSheet M 0 T) (hw : zwp T) {t k : Nat} (ht : t < T.1) (hk : k < rct (T.2 t)) {x : Int32} (h3 : ¬ rkd (T.2 t) = 3) (hx : pSpan T t k x) (hs : ¬ pMaySplit T t x) : zrun zP 97 [zR 15 i, zI (nI t), zI (nI k), zI x] (M, ρ) = cTh 2 i (M, ρ) := by
  obtain ⟨q1, q2, q3⟩ := s_in (σ := (M, ρ)) h ht
  have hr := (h.2.2 t ht).1
  have h40 := hr.2.2.2.2.1
  have f1 := hr.2.1
  have hf := hr.2.2.2.2.2 k hk
  have hin := nIk (k := k) (N := 40) (by omega) (by omega)
  have hcl := nI_clamp (n := k) (by omega)
  rw [e_X5_split, (n_mark (σ := (M, ρ)) h _ _).1 ⟨t, k, ht, hk, rfl, rfl⟩, zcV_ok]
  simp only [q2, q1, hin, hcl, if_false]
  rw [f1, if_neg h3, n_state_t, zcV_ok]
  simp only [hf.1, hf.2.1]
  rw [(n_range x _ _).1 hx, zcV_ok, s_allowsCut (σ := (M, ρ)) h hw ht, zcI_ok]
  by_cases c1 : ¬ rkd (T.2 t) = 3 ∧ ¬ pIn (T.2 t) x = -1 ∧ pNoIn T t x
  · rw [zb_t c1, if_neg (by decide), s_hasRoomForCut (σ := (M, ρ)) h hw ht, zcI_ok, zb_f (fun e => hs ⟨c1, e⟩), if_pos rfl, n_state_f, zcV_cTh]
  · rw [zb_f c1, if_pos rfl, n_state_f, zcV_cTh]
theorem c_split_5 (h : cSheet M 0 T) (hw : zwp T) (hh : cHist M n H) {t k : Nat} (ht : t < T.1) (hk : k < rct (T.2 t)) {x : Int32} (h3 : ¬ rkd (T.2 t) = 3) (hx : pSpan T t k x) (hs : pMaySplit T t x) : ∃ M', zrun zP 97 [zR 15 i, zI (nI t), zI (nI k), zI x] (M, ρ) = zok (pCuts T t x) (M', ρ) ∧ cSheet M' 0 (sCut T t x) ∧ cHist M' (min (n + 1) 12) (hPush T H) ∧ edFr M M' := by
  obtain ⟨q1, q2, q3⟩ := s_in (σ := (M, ρ)) h ht
  have hr := (h.2.2 t ht).1
  have h40 := hr.2.2.2.2.1
  have f1 := hr.2.1
  have hf := hr.2.2.2.2.2 k hk
  have hin := nIk (k := k) (N := 40) (by omega) (by omega)
  have hcl := nI_clamp (n := k) (by omega)
  obtain ⟨M1, e1, e2, e3, e4⟩ := h_remember (ρ := ρ) h hh
  obtain ⟨M2, g1, g2, g3⟩ := s_cutAt (ρ := ρ) e2 hw ht x hs.2
  refine ⟨M2, ?_, g2, cHist_s g3 e3, edFr_tr (rgFr_ed e4) (sFr_ed g3)⟩
  rw [e_X5_split, (n_mark (σ := (M, ρ)) h _ _).1 ⟨t, k, ht, hk, rfl, rfl⟩, zcV_ok]
  simp only [q2, q1, hin, hcl, if_false]
  rw [f1, if_neg h3, n_state_t, zcV_ok]
  simp only [hf.1, hf.2.1]
  rw [(n_range x _ _).1 hx, zcV_ok, s_allowsCut (σ := (M, ρ)) h hw ht, zcI_ok, zb_t hs.1, if_neg (by decide), s_hasRoomForCut (σ := (M, ρ)) h hw ht, zcI_ok, zb_t hs.2, if_neg (by decide), n_state_t, zcV_ok, e1, zcV_ok, g1, zcI_ok]
end ZCS
