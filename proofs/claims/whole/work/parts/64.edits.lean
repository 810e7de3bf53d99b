/-! what every edit does; the calls take, put, point -/
def zpo (T : zSheet) : Prop := ∀ v, v < T.1 → rkd (T.2 v) = 3 → ∀ k, k < rct (T.2 v) → rto (T.2 v) k = rfr (T.2 v) k
section ZED
variable {i n : Nat} {T : zSheet} {H : Nat → zSheet} {M : zMem} {ρ : Int64 × Nat}
theorem c_edit (h : cSheet M 0 T) (hh : cHist M n H) : ∃ M1, zrun zP 1 [zR 10 0, zR 13 0] (M, ρ) = zvd (M1, ρ) ∧ cSheet M1 0 T ∧ ∀ M2, sFr M1 M2 0 → cHist M2 (min (n + 1) 12) (hPush T H) ∧ edFr M M2 := by
  obtain ⟨M1, e1, e2, e3, e4⟩ := h_remember (ρ := ρ) h hh
  exact ⟨M1, e1, e2, fun M2 g3 => ⟨cHist_s g3 e3, edFr_tr (rgFr_ed e4) (sFr_ed g3)⟩⟩
theorem m_edit (h : mSheet M 31 T) (hh : mHist M i n H) : ∃ M1, zrun zP 188 [zR 16 i] (zms M 16 i 0 0, ρ) = zvd (M1, ρ) ∧ mSheet M1 31 T ∧ ∀ M2, oFr M1 M2 → mHist M2 i (min (n + 1) 12) (hPush T H) ∧ M2 16 i 0 = 0 ∧ emFr M M2 i := by
  have h0 : mSheet (zms M 16 i 0 0) 31 T := mSheet_z h
  obtain ⟨M1, e1, e2, e3⟩ := m_keeps (i := i) (ρ := ρ) h0 (mHist_z hh)
  refine ⟨M1, e1, mSheet_congr (fun q hq => e3 _ _ _ (by omega) (by omega)) h0, fun M2 f3 => ⟨mHist_o f3 e2, ?_, fun k' j z a b c => ?_⟩⟩
  · rw [f3 _ _ _ (by omega), e3 _ _ _ (by omega) (by omega), zms_eq]
  · rw [f3 _ _ _ (by omega), e3 _ _ _ (by omega) b, zms_ne (by omega)]
/-- the class's edit is done -/
def cEd (M : zMem) (n : Nat) (H : Nat → zSheet) (T T' : zSheet) (x : Int32) (ρ : Int64 × Nat) (r : zRes) : Prop := ∃ M', r = zok x (M', ρ) ∧ cSheet M' 0 T' ∧ cHist M' (min (n + 1) 12) (hPush T H) ∧ edFr M M'
/-- the reference's edit is done -/
def mEd (M : zMem) (i n : Nat) (H : Nat → zSheet) (T T' : zSheet) (x : Int32) (ρ : Int64 × Nat) (r : zRes) : Prop := ∃ M', r = zok x (M', ρ) ∧ mSheet M' 31 T' ∧ mHist M' i (min (n + 1) 12) (hPush T H) ∧ M' 16 i 0 = 0 ∧ emFr M M' i
/-! take -/
theorem c_take_1 (h : cSheet M 0 T) {x y : Int32} (hm : ¬ pMk T x y) : zrun zP 96 [zR 15 i, zI x, zI y] (M, ρ) = cTh 0 i (M, ρ) := by
  rw [e_X5_take, (n_mark (σ := (M, ρ)) h x y).2 hm, zcV_cTh]
theorem c_take_2 (h : cSheet M 0 T) (hw : zwp T) {t k : Nat} (ht : t < T.1) (hk : k < rct (T.2 t)) (h1 : rkd (T.2 t) = 1) (hh : ¬ (pHb T t k ∨ pHa T t k)) : zrun zP 96 [zR 15 i, zI (nI t), zI (nI k)] (M, ρ) = cTh 2 i (M, ρ) := by
  obtain ⟨q1, q2, q3⟩ := s_in (σ := (M, ρ)) h ht
  have f1 := (h.2.2 t ht).1.2.1
  have h40 := (h.2.2 t ht).1.2.2.2.2.1
  rw [e_X5_take, (n_mark (σ := (M, ρ)) h _ _).1 ⟨t, k, ht, hk, rfl, rfl⟩, zcV_ok]
  simp only [q2, q1, if_false]
  rw [f1, if_pos h1, s_heirOf (σ := (M, ρ)) h hw ht hk, zcI_ok, if_pos (Classical.byContradiction (fun e => hh ((pHeir_iff (by omega)).mp e))), n_state_f, zcV_cTh]
theorem c_take_3 (h : cSheet M 0 T) (hw : zwp T) (hi : cHist M n H) {t k : Nat} (ht : t < T.1) (hk : k < rct (T.2 t)) (h1 : rkd (T.2 t) = 1) (hh : pHb T t k ∨ pHa T t k) : cEd M n H T (sUp T t (tPc T t k)) 1 ρ (zrun zP 96 [zR 15 i, zI (nI t), zI (nI k)] (M, ρ)) := by
  obtain ⟨q1, q2, q3⟩ := s_in (σ := (M, ρ)) h ht
  have f1 := (h.2.2 t ht).1.2.1
  have h40 := (h.2.2 t ht).1.2.2.2.2.1
  obtain ⟨M1, e1, e2, e3⟩ := c_edit (ρ := ρ) h hi
  obtain ⟨M2, g1, g2, g3⟩ := s_removePiece (ρ := ρ) e2 ht hk hh
  refine ⟨M2, ?_, g2, e3 M2 g3⟩
  rw [e_X5_take, (n_mark (σ := (M, ρ)) h _ _).1 ⟨t, k, ht, hk, rfl, rfl⟩, zcV_ok]
  simp only [q2, q1, if_false]
  rw [f1, if_pos h1, s_heirOf (σ := (M, ρ)) h hw ht hk, zcI_ok, if_neg ((pHeir_iff (by omega)).mpr hh), n_state_t, zcV_ok, e1, zcV_ok, g1, zcV_ok]
theorem c_take_4 (h : cSheet M 0 T) (hi : cHist M n H) {t k : Nat} (ht : t < T.1) (hk : k < rct (T.2 t)) (h1 : rkd (T.2 t) = 3) : cEd M n H T (sUp T t (tRem (T.2 t) k)) 1 ρ (zrun zP 96 [zR 15 i, zI (nI t), zI (nI k)] (M, ρ)) := by
  have h6 := h.2.1
  obtain ⟨q1, q2, q3⟩ := s_in (σ := (M, ρ)) h ht
  have f1 := (h.2.2 t ht).1.2.1
  obtain ⟨M1, e1, e2, e3⟩ := c_edit (ρ := ρ) h hi
  obtain ⟨M2, g1, g2, g3⟩ := r_remove (ρ := ρ) (e2.2.2 t ht).1 hk
  refine ⟨M2, ?_, cSheet_up e2 ht g2 g3 rfl, e3 M2 (rowFr_s (by omega) g3)⟩
  rw [e_X5_take, (n_mark (σ := (M, ρ)) h _ _).1 ⟨t, k, ht, hk, rfl, rfl⟩, zcV_ok]
  simp only [q2, q1, if_false]
  rw [f1, if_neg (by rw [h1]; decide), e1, zcV_ok, if_pos h1, g1, zcV_ok]
theorem c_take_5 (h : cSheet M 0 T) (hw : zwp T) (hq : zwq T) (hi : cHist M n H) {t k : Nat} (ht : t < T.1) (hk : k < rct (T.2 t)) (h1 : ¬ rkd (T.2 t) = 1) (h3 : ¬ rkd (T.2 t) = 3) : cEd M n H T (sTk T t (rfr (T.2 t) k) (rto (T.2 t) k)) ((kF T (rfr (T.2 t) k) (rto (T.2 t) k) t).2 + zsum (nTk T t (rfr (T.2 t) k) (rto (T.2 t) k)) (t + 1) (T.1 - (t + 1))) ρ (zrun zP 96 [zR 15 i, zI (nI t), zI (nI k)] (M, ρ)) := by
  obtain ⟨q1, q2, q3⟩ := s_in (σ := (M, ρ)) h ht
  have f1 := (h.2.2 t ht).1.2.1
  obtain ⟨M1, e1, e2, e3⟩ := c_edit (ρ := ρ) h hi
  obtain ⟨M2, g1, g2, g3⟩ := s_removeWhole (ρ := ρ) e2 hw hq ht hk
  refine ⟨M2, ?_, g2, e3 M2 g3⟩
  rw [e_X5_take, (n_mark (σ := (M, ρ)) h _ _).1 ⟨t, k, ht, hk, rfl, rfl⟩, zcV_ok]
  simp only [q2, q1, if_false]
  rw [f1, if_neg h1, e1, zcV_ok, if_neg h3, g1, zcI_ok]
theorem m_take_1 (h : mSheet M 31 T) {x y : Int32} (hm : ¬ pMk T x y) : zrun zP 198 [zR 16 i, zI x, zI y] (M, ρ) = zok 0 (mTh i 1 0 (zms M 16 i 0 0, ρ)) := by
  rw [e_X6_take, (m_isMark (σ := (zms M 16 i 0 0, ρ)) (mSheet_z h) zms_eq x y).2 hm, zcI_ok, if_pos rfl]
theorem m_take_2 (h : mSheet M 31 T) (hw : zwp T) {t k : Nat} (ht : t < T.1) (hk : k < rct (T.2 t)) (h1 : rkd (T.2 t) = 1) (hh : ¬ (pHb T t k ∨ pHa T t k)) : zrun zP 198 [zR 16 i, zI (nI t), zI (nI k)] (M, ρ) = zok 0 (mTh i 2 2 (zms M 16 i 0 0, ρ)) := by
  have h6 := h.2.1
  have h0 : mSheet (zms M 16 i 0 0) 31 T := mSheet_z h
  have kd := m_kind (i := i) (σ := (zms M 16 i 0 0, ρ)) (h0.2.2 t ht) (by omega)
  have b1 := m_beside_b (i := i) (σ := (zms M 16 i 0 0, ρ)) h0 hw ht hk
  have b2 := m_beside_a (i := i) (σ := (zms M 16 i 0 0, ρ)) h0 hw ht hk
  rw [@if_neg _ (Classical.propDecidable _) (fun e => hh (Or.inl e))] at b1
  rw [@if_neg _ (Classical.propDecidable _) (fun e => hh (Or.inr e))] at b2
  rw [e_X6_take, (m_isMark (σ := (zms M 16 i 0 0, ρ)) h0 zms_eq _ _).1 ⟨t, k, ht, hk, rfl, rfl⟩, zcI_ok, if_neg (by decide), kd, zcI_ok, if_pos h1, b1, zcI_ok, if_pos rfl, b2, zcI_ok, if_pos rfl, m_fineS zms_eq 2 (by decide), zcI_ok, if_pos rfl]
theorem m_take_3 (h : mSheet M 31 T) (hw : zwp T) (hi : mHist M i n H) {t k : Nat} (ht : t < T.1) (hk : k < rct (T.2 t)) (h1 : rkd (T.2 t) = 1) (hh : pHb T t k ∨ pHa T t k) : mEd M i n H T (sUp T t (tPc T t k)) 1 ρ (zrun zP 198 [zR 16 i, zI (nI t), zI (nI k)] (M, ρ)) := by
  have h6 := h.2.1
  have h0 : mSheet (zms M 16 i 0 0) 31 T := mSheet_z h
  have h40 := (h0.2.2 t ht).2.2.2.2.1
  have kd := m_kind (i := i) (σ := (zms M 16 i 0 0, ρ)) (h0.2.2 t ht) (by omega)
  have b1 := m_beside_b (i := i) (σ := (zms M 16 i 0 0, ρ)) h0 hw ht hk
  have b2 := m_beside_a (i := i) (σ := (zms M 16 i 0 0, ρ)) h0 hw ht hk
  obtain ⟨M1, e1, e2, e3⟩ := m_edit (ρ := ρ) h hi
  have kd1 := m_kind (i := i) (σ := (M1, ρ)) (e2.2.2 t ht) (by omega)
  obtain ⟨M2, g1, g2, g3⟩ := m_takesCut (i := i) (ρ := ρ) e2 hw ht hk hh
  refine ⟨M2, ?_, g2, e3 M2 g3⟩
  rw [e_X6_take, (m_isMark (σ := (zms M 16 i 0 0, ρ)) h0 zms_eq _ _).1 ⟨t, k, ht, hk, rfl, rfl⟩, zcI_ok, if_neg (by decide), kd, zcI_ok, if_pos h1, b1, zcI_ok]
  by_cases c : pHb T t k
  · rw [@if_pos _ (Classical.propDecidable _) c, if_neg (nI_m1 _ (by omega)), m_fine1 zms_eq, zcI_ok, if_neg (by decide), e1, zcV_ok, kd1, zcI_ok, if_pos h1, g1, zcI_ok]
  · have c2 := hh.resolve_left c
    rw [@if_pos _ (Classical.propDecidable _) c2] at b2
    rw [@if_neg _ (Classical.propDecidable _) c, if_pos rfl, b2, zcI_ok, if_neg (nI_m1 _ (by omega)), m_fine1 zms_eq, zcI_ok, if_neg (by decide), e1, zcV_ok, kd1, zcI_ok, if_pos h1, g1, zcI_ok]
theorem m_take_4 (h : mSheet M 31 T) (hi : mHist M i n H) {t k : Nat} (ht : t < T.1) (hk : k < rct (T.2 t)) (h3 : rkd (T.2 t) = 3) : mEd M i n H T (sUp T t (tRem (T.2 t) k)) 1 ρ (zrun zP 198 [zR 16 i, zI (nI t), zI (nI k)] (M, ρ)) := by
  have h6 := h.2.1
  have h0 : mSheet (zms M 16 i 0 0) 31 T := mSheet_z h
  have h1 : ¬ rkd (T.2 t) = 1 := by rw [h3]; decide
  have kd := m_kind (i := i) (σ := (zms M 16 i 0 0, ρ)) (h0.2.2 t ht) (by omega)
  obtain ⟨M1, e1, e2, e3⟩ := m_edit (ρ := ρ) h hi
  have kd1 := m_kind (i := i) (σ := (M1, ρ)) (e2.2.2 t ht) (by omega)
  obtain ⟨M2, g1, g2, g3⟩ := m_removes (i := i) (ρ := ρ) (e2.2.2 t ht) (by omega) hk
  refine ⟨M2, ?_, mSheet_up e2 ht g2 g3, e3 M2 (mFr_o g3)⟩
  rw [e_X6_take, (m_isMark (σ := (zms M 16 i 0 0, ρ)) h0 zms_eq _ _).1 ⟨t, k, ht, hk, rfl, rfl⟩, zcI_ok, if_neg (by decide), kd, zcI_ok, if_neg h1, m_fine1 zms_eq, zcI_ok, if_neg (by decide), e1, zcV_ok, kd1, zcI_ok, if_neg h1, kd1, zcI_ok, if_pos h3, g1, zcV_ok]
theorem m_take_5 (h : mSheet M 31 T) (hw : zwp T) (hq : zwq T) (hp : zpo T) (hi : mHist M i n H) {t k : Nat} (ht : t < T.1) (hk : k < rct (T.2 t)) (h1 : ¬ rkd (T.2 t) = 1) (h3 : ¬ rkd (T.2 t) = 3) (hone : kF T (rfr (T.2 t) k) (rto (T.2 t) k) t = (tRem (T.2 t) k, 1)) : mEd M i n H T (sTk T t (rfr (T.2 t) k) (rto (T.2 t) k)) ((kF T (rfr (T.2 t) k) (rto (T.2 t) k) t).2 + zsum (nTk T t (rfr (T.2 t) k) (rto (T.2 t) k)) (t + 1) (T.1 - (t + 1))) ρ (zrun zP 198 [zR 16 i, zI (nI t), zI (nI k)] (M, ρ)) := by
  have h6 := h.2.1
  have h0 : mSheet (zms M 16 i 0 0) 31 T := mSheet_z h
  have kd := m_kind (i := i) (σ := (zms M 16 i 0 0, ρ)) (h0.2.2 t ht) (by omega)
  obtain ⟨M1, e1, e2, e3⟩ := m_edit (ρ := ρ) h hi
  have kd1 := m_kind (i := i) (σ := (M1, ρ)) (e2.2.2 t ht) (by omega)
  obtain ⟨M2, g1, g2, g3⟩ := m_takesAll (i := i) (ρ := ρ) e2 hw hq hp ht hk hone
  refine ⟨M2, ?_, g2, e3 M2 g3⟩
  rw [e_X6_take, (m_isMark (σ := (zms M 16 i 0 0, ρ)) h0 zms_eq _ _).1 ⟨t, k, ht, hk, rfl, rfl⟩, zcI_ok, if_neg (by decide), kd, zcI_ok, if_neg h1, m_fine1 zms_eq, zcI_ok, if_neg (by decide), e1, zcV_ok, kd1, zcI_ok, if_neg h1, kd1, zcI_ok, if_neg h3, g1, zcI_ok]
/-! put -/
def pTm (x : Int32) : Prop := ¬ x < 0 ∧ ¬ 999 < x
def pSp (a b : Int32) : Prop := pTm a ∧ pTm b ∧ a < b
theorem pSp_iff {a b : Int32} : pSp a b ↔ (¬ a < 0 ∧ ¬ 999 < a) ∧ (¬ b < a + 1 ∧ ¬ 999 < b) := by
  have ra := iI_r a
  have h0 := iI_0
  have h1 := iI_1
  have h9 := iI_999
  unfold pSp pTm
  by_cases c : a.toInt ≤ 999
  · have e1 : (a + 1).toInt = a.toInt + 1 := by rw [iI_add (by omega) (by omega), h1]
    simp only [iI_lt, e1, h0, h9]
    omega
  · simp only [iI_lt, h0, h9]
    omega
theorem n_span (a b : Int32) (σ : zSt) : (pSp a b → zrun zP 130 [zR 15 i, zI a, zI b] σ = zvd σ) ∧ (¬ pSp a b → zrun zP 130 [zR 15 i, zI a, zI b] σ = cTh 1 i σ) := by
  rw [e_X5_needSpan]
  by_cases c1 : pTm a
  · by_cases c2 : pTm b
    · rw [(n_time a).1 c1, zcV_ok, (n_time b).1 c2, zcV_ok]
      by_cases c3 : a < b
      · rw [if_pos c3]
        exact ⟨fun _ => rfl, fun e => absurd ⟨c1, c2, c3⟩ e⟩
      · rw [if_neg c3, n_argument, zcV_cTh]
        exact ⟨fun e => absurd e.2.2 c3, fun _ => rfl⟩
    · rw [(n_time a).1 c1, zcV_ok, (n_time b).2 c2, zcV_cTh]
      exact ⟨fun e => absurd e.2.1 c2, fun _ => rfl⟩
  · rw [(n_time a).2 c1, zcV_cTh]
    exact ⟨fun e => absurd e.1 c1, fun _ => rfl⟩
def pTr (T : zSheet) (x : Int32) : Prop := ¬ x < 0 ∧ x < nI T.1
theorem pTr_n (h6 : T.1 ≤ 6) {x : Int32} (h : pTr T x) : ∃ t, t < T.1 ∧ x = nI t := zI_of h.1 h.2 (by omega)
theorem pTr_i (h6 : T.1 ≤ 6) {t : Nat} (ht : t < T.1) : pTr T (nI t) := ⟨nI_pos (by omega), nI_lt ht (by omega)⟩
theorem pRoom_iff (hw : zwp T) (h6 : T.1 ≤ 6) (h40 : ∀ t, t < T.1 → rct (T.2 t) ≤ 40) {a : Nat} (ha : a < T.1) : (∀ t, t < T.1 → a ≤ t → ¬ (pPiece T t a ∧ ¬ nI (rct (T.2 t)) < 40)) ↔ pRoomM T a := by
  have e : ∀ c, c ≤ 40 → (nI c < 40 ↔ c < 40) := fun c hc => nI_ltI (b := 40) (by omega) (by omega)
  refine ⟨fun q t ht hp => ?_, fun q t ht _ hp => hp.2 ((e _ (h40 t ht)).mpr (q t ht hp.1))⟩
  exact (e _ (h40 t ht)).mp (Classical.byContradiction (fun c => q t ht (zpiece_le hw h6 _ _ ht hp) ⟨hp, c⟩))
def pPuts (T : zSheet) (t : Nat) (a b : Int32) : Prop := pMayPut T t a b ∧ pRoomM T t
theorem c_put_1 (h : cSheet M 0 T) {x a b : Int32} (hm : ¬ pTr T x) : zrun zP 94 [zR 15 i, zI x, zI a, zI b] (M, ρ) = cTh 0 i (M, ρ) := by
  rw [e_X5_put, (n_tier (σ := (M, ρ)) h x).2 hm, zcV_cTh]
theorem c_put_2 (h : cSheet M 0 T) {x a b : Int32} (hm : pTr T x) (hs : ¬ pSp a b) : zrun zP 94 [zR 15 i, zI x, zI a, zI b] (M, ρ) = cTh 1 i (M, ρ) := by
  rw [e_X5_put, (n_tier (σ := (M, ρ)) h x).1 hm, zcV_ok, (n_span a b (M, ρ)).2 hs, zcV_cTh]
theorem c_room (h : cSheet M 0 T) (hw : zwp T) {t : Nat} (ht : t < T.1) : zrun zP 64 [zR 13 0, zI (nI t)] (M, ρ) = zok (zb (pRoomM T t)) (M, ρ) := by
  rw [s_hasRoomForMark (σ := (M, ρ)) h hw ht, zb_congr (pRoom_iff hw h.2.1 (fun u hu => (h.2.2 u hu).1.2.2.2.2.1) ht)]
theorem c_put_3 (h : cSheet M 0 T) (hw : zwp T) {t : Nat} (ht : t < T.1) {a b : Int32} (hs : pSp a b) (hp : ¬ pPuts T t a b) : zrun zP 94 [zR 15 i, zI (nI t), zI a, zI b] (M, ρ) = cTh 2 i (M, ρ) := by
  rw [e_X5_put, (n_tier (σ := (M, ρ)) h _).1 (pTr_i h.2.1 ht), zcV_ok, (n_span a b (M, ρ)).1 hs, zcV_ok, s_allowsMark (σ := (M, ρ)) h hw ht, zcI_ok]
  by_cases c : pMayPut T t a b
  · rw [zb_t c, if_neg (by decide), c_room h hw ht, zcI_ok, zb_f (fun e => hp ⟨c, e⟩), if_pos rfl, n_state_f, zcV_cTh]
  · rw [zb_f c, if_pos rfl, n_state_f, zcV_cTh]
theorem c_put_4 (h : cSheet M 0 T) (hw : zwp T) (hi : cHist M n H) {t : Nat} (ht : t < T.1) {a b : Int32} (hs : pSp a b) (hp : pPuts T t a b) : cEd M n H T (sPut T t a b 0) (nI (pPl (rfr (T.2 t)) a (rct (T.2 t)))) ρ (zrun zP 94 [zR 15 i, zI (nI t), zI a, zI b] (M, ρ)) := by
  obtain ⟨M1, e1, e2, e3⟩ := c_edit (ρ := ρ) h hi
  obtain ⟨M2, g1, g2, g3⟩ := s_addMark (ρ := ρ) e2 hw ht hp.2 a b
  refine ⟨M2, ?_, g2, e3 M2 g3⟩
  rw [e_X5_put, (n_tier (σ := (M, ρ)) h _).1 (pTr_i h.2.1 ht), zcV_ok, (n_span a b (M, ρ)).1 hs, zcV_ok, s_allowsMark (σ := (M, ρ)) h hw ht, zcI_ok, zb_t hp.1, if_neg (by decide), c_room h hw ht, zcI_ok, zb_t hp.2, if_neg (by decide), n_state_t, zcV_ok, e1, zcV_ok, g1, zcI_ok]
theorem m_put_1 (h : mSheet M 31 T) {x a b : Int32} (hm : ¬ pTr T x) : zrun zP 191 [zR 16 i, zI x, zI a, zI b] (M, ρ) = zok 0 (mTh i 1 0 (zms M 16 i 0 0, ρ)) := by
  rw [e_X6_put, (m_isTier (σ := (zms M 16 i 0 0, ρ)) (mSheet_z h) zms_eq x).2 hm, zcI_ok, if_pos rfl]
theorem m_put_2 (h : mSheet M 31 T) {x a b : Int32} (hm : pTr T x) (hs : ¬ pSp a b) : zrun zP 191 [zR 16 i, zI x, zI a, zI b] (M, ρ) = zok 0 (mTh i 2 1 (zms M 16 i 0 0, ρ)) := by
  rw [pSp_iff] at hs
  rw [e_X6_put, (m_isTier (σ := (zms M 16 i 0 0, ρ)) (mSheet_z h) zms_eq x).1 hm, zcI_ok, if_neg (by decide), m_isIn, zcI_ok]
  by_cases c : ¬ a < 0 ∧ ¬ 999 < a
  · rw [zb_t c, if_neg (by decide), m_isIn, zcI_ok, zb_f (fun e => hs ⟨c, e⟩), if_pos rfl, m_fineA zms_eq 2 (by decide), zcI_ok, if_pos rfl]
  · rw [zb_f c, if_pos rfl, m_fineA zms_eq 2 (by decide), zcI_ok, if_pos rfl]
theorem m_put_3 (h : mSheet M 31 T) (hw : zwp T) (hk : zwk T) {t : Nat} (ht : t < T.1) {a b : Int32} (hs : pSp a b) (hp : ¬ pPuts T t a b) : zrun zP 191 [zR 16 i, zI (nI t), zI a, zI b] (M, ρ) = zok 0 (mTh i 3 2 (zms M 16 i 0 0, ρ)) := by
  have h0 : mSheet (zms M 16 i 0 0) 31 T := mSheet_z h
  obtain ⟨s1, s2⟩ := pSp_iff.mp hs
  rw [e_X6_put, (m_isTier (σ := (zms M 16 i 0 0, ρ)) h0 zms_eq _).1 (pTr_i h.2.1 ht), zcI_ok, if_neg (by decide), m_isIn, zcI_ok, zb_t s1, if_neg (by decide), m_isIn, zcI_ok, zb_t s2, if_neg (by decide), m_fine1 zms_eq, zcI_ok, if_neg (by decide), m_mayPut (σ := (zms M 16 i 0 0, ρ)) h0 hw hk ht, zcI_ok]
  by_cases c : pMayPut T t a b
  · rw [zb_t c, if_neg (by decide), m_hasRoom (σ := (zms M 16 i 0 0, ρ)) h0 hw ht, zcI_ok, zb_f (fun e => hp ⟨c, e⟩), if_pos rfl, m_fineS zms_eq 3 (by decide), zcI_ok, if_pos rfl]
  · rw [zb_f c, if_pos rfl, m_fineS zms_eq 3 (by decide), zcI_ok, if_pos rfl]
theorem m_put_4 (h : mSheet M 31 T) (hw : zwp T) (hk : zwk T) (hi : mHist M i n H) {t : Nat} (ht : t < T.1) {a b : Int32} (hs : pSp a b) (hp : pPuts T t a b) : mEd M i n H T (sPut T t a b 0) (nI (pPl (rfr (T.2 t)) a (rct (T.2 t)))) ρ (zrun zP 191 [zR 16 i, zI (nI t), zI a, zI b] (M, ρ)) := by
  have h0 : mSheet (zms M 16 i 0 0) 31 T := mSheet_z h
  obtain ⟨s1, s2⟩ := pSp_iff.mp hs
  obtain ⟨M1, e1, e2, e3⟩ := m_edit (ρ := ρ) h hi
  obtain ⟨M2, g1, g2, g3⟩ := m_puts (i := i) (ρ := ρ) e2 hw ht hp.2 a b 0
  refine ⟨M2, ?_, g2, e3 M2 g3⟩
  rw [e_X6_put, (m_isTier (σ := (zms M 16 i 0 0, ρ)) h0 zms_eq _).1 (pTr_i h.2.1 ht), zcI_ok, if_neg (by decide), m_isIn, zcI_ok, zb_t s1, if_neg (by decide), m_isIn, zcI_ok, zb_t s2, if_neg (by decide), m_fine1 zms_eq, zcI_ok, if_neg (by decide), m_mayPut (σ := (zms M 16 i 0 0, ρ)) h0 hw hk ht, zcI_ok, zb_t hp.1, if_neg (by decide), m_hasRoom (σ := (zms M 16 i 0 0, ρ)) h0 hw ht, zcI_ok, zb_t hp.2, if_neg (by decide), m_fine1 zms_eq, zcI_ok, if_neg (by decide), e1, zcV_ok, g1, zcI_ok]
end ZED
