/-! numbers by toInt; the call split, the reference's side -/
theorem iI_n {n : Nat} (h : n < 2 ^ 31) : (nI n).toInt = n := by
  have e := nI_clamp (n := n) h
  have p := Int32.le_iff_toInt_le.mp (nI_pos' h)
  have p0 : (0 : Int32).toInt = 0 := by decide
  rw [p0] at p
  have q : (nI n).toNatClampNeg = (nI n).toInt.toNat := rfl
  omega
theorem iI_lt {x y : Int32} : x < y ↔ x.toInt < y.toInt := Int32.lt_iff_toInt_lt
theorem iI_eq {x y : Int32} : x = y ↔ x.toInt = y.toInt := ⟨fun e => by rw [e], fun e => Int32.toInt_inj.mp e⟩
theorem iI_r (x : Int32) : -2147483648 ≤ x.toInt ∧ x.toInt < 2147483648 := ⟨Int32.le_toInt x, Int32.toInt_lt x⟩
theorem iI_add {x y : Int32} (h1 : -2147483648 ≤ x.toInt + y.toInt) (h2 : x.toInt + y.toInt < 2147483648) : (x + y).toInt = x.toInt + y.toInt := by
  rw [Int32.toInt_add]
  exact Int.bmod_eq_of_le (by omega) (by omega)
theorem iI_sub {x y : Int32} (h1 : -2147483648 ≤ x.toInt - y.toInt) (h2 : x.toInt - y.toInt < 2147483648) : (x - y).toInt = x.toInt - y.toInt := by
  rw [Int32.toInt_sub]
  exact Int.bmod_eq_of_le (by omega) (by omega)
theorem iI_0 : (0 : Int32).toInt = 0 := by decide
theorem iI_1 : (1 : Int32).toInt = 1 := by decide
theorem iI_m1 : (-1 : Int32).toInt = -1 := by decide
theorem iI_999 : (999 : Int32).toInt = 999 := by decide
section ZMS
variable {i n : Nat} {T : zSheet} {H : Nat → zSheet} {M : zMem} {ρ : Int64 × Nat}
theorem pSpan_iff (hwt : zwt T) {t k : Nat} (ht : t < T.1) (hk : k < rct (T.2 t)) {x : Int32} : pSpan T t k x ↔ (rfr (T.2 t) k < x ∧ x < rto (T.2 t) k) := by
  obtain ⟨⟨a, a1, a2⟩, b, b1, b2⟩ := hwt t ht k hk
  unfold pSpan
  rw [a2, b2]
  have ha := iI_n (n := a) (by omega)
  have hb := iI_n (n := b) (by omega)
  have hx := iI_r x
  have h1 := iI_1
  have e1 : (nI a + 1).toInt = a + 1 := by rw [iI_add (by omega) (by omega)]; omega
  have e2 : (nI b - 1).toInt = b - 1 := by rw [iI_sub (by omega) (by omega)]; omega
  simp only [iI_lt, e1, e2, ha, hb]
  omega
theorem pSpan_in (hwt : zwt T) {t k : Nat} (ht : t < T.1) (h40 : rct (T.2 t) ≤ 40) (hk : k < rct (T.2 t)) {x : Int32} (h : pSpan T t k x) : ¬ pIn (T.2 t) x = -1 := (pIn_ex h40).mpr ⟨k, hk, (pSpan_iff hwt ht hk).mp h⟩
theorem m_split_1 (h : mSheet M 31 T) {x y z : Int32} (hm : ¬ pMk T x y) : zrun zP 199 [zR 16 i, zI x, zI y, zI z] (M, ρ) = zok 0 (mTh i 1 0 (zms M 16 i 0 0, ρ)) := by
  rw [e_X6_split, (m_isMark (σ := (zms M 16 i 0 0, ρ)) (mSheet_z h) zms_eq x y).2 hm, zcI_ok, if_pos rfl]
theorem m_fineA (hz : M 16 i 0 = 0) (c : Int32) (hc : ¬ c = 0) : zrun zP 136 [zR 16 i, zI 0, zI c, zI 1] (M, ρ) = zok 0 (mTh i c 1 (M, ρ)) := m_fine0 (σ := (M, ρ)) hz hc (w := 1) (by omega)
theorem m_fineS (hz : M 16 i 0 = 0) (c : Int32) (hc : ¬ c = 0) : zrun zP 136 [zR 16 i, zI 0, zI c, zI 2] (M, ρ) = zok 0 (mTh i c 2 (M, ρ)) := m_fine0 (σ := (M, ρ)) hz hc (w := 2) (by omega)
theorem m_fineN (hz : M 16 i 0 = 0) (c : Int32) (hc : ¬ c = 0) : zrun zP 136 [zR 16 i, zI 0, zI c, zI 0] (M, ρ) = zok 0 (mTh i c 0 (M, ρ)) := m_fine0 (σ := (M, ρ)) hz hc (w := 0) (by omega)
theorem m_split_2 (h : mSheet M 31 T) {t k : Nat} (ht : t < T.1) (hk : k < rct (T.2 t)) {x : Int32} (h3 : rkd (T.2 t) = 3) : zrun zP 199 [zR 16 i, zI (nI t), zI (nI k), zI x] (M, ρ) = zok 0 (mTh i 3 2 (zms M 16 i 0 0, ρ)) := by
  have h6 := h.2.1
  have h0 : mSheet (zms M 16 i 0 0) 31 T := mSheet_z h
  have hr := h0.2.2 t ht
  have kd := m_kind (i := i) (σ := (zms M 16 i 0 0, ρ)) hr (by omega)
  rw [e_X6_split, (m_isMark (σ := (zms M 16 i 0 0, ρ)) h0 zms_eq _ _).1 ⟨t, k, ht, hk, rfl, rfl⟩, zcI_ok, if_neg (by decide), kd, zcI_ok, if_pos h3, m_fine1 zms_eq, zcI_ok, if_neg (by decide), kd, zcI_ok, if_pos h3, m_fineS zms_eq 3 (by decide), zcI_ok, if_pos rfl]
theorem m_split_3 (h : mSheet M 31 T) (hwt : zwt T) {t k : Nat} (ht : t < T.1) (hk : k < rct (T.2 t)) {x : Int32} (h3 : ¬ rkd (T.2 t) = 3) (hx : ¬ pSpan T t k x) : zrun zP 199 [zR 16 i, zI (nI t), zI (nI k), zI x] (M, ρ) = zok 0 (mTh i 2 1 (zms M 16 i 0 0, ρ)) := by
  have h6 := h.2.1
  have h0 : mSheet (zms M 16 i 0 0) 31 T := mSheet_z h
  have hr := h0.2.2 t ht
  have kd := m_kind (i := i) (σ := (zms M 16 i 0 0, ρ)) hr (by omega)
  rw [pSpan_iff hwt ht hk] at hx
  rw [e_X6_split, (m_isMark (σ := (zms M 16 i 0 0, ρ)) h0 zms_eq _ _).1 ⟨t, k, ht, hk, rfl, rfl⟩, zcI_ok, if_neg (by decide), kd, zcI_ok, if_neg h3, m_from (σ := (zms M 16 i 0 0, ρ)) hr (by omega) hk, zcI_ok]
  by_cases c : rfr (T.2 t) k < x
  · rw [if_pos c, m_to (σ := (zms M 16 i 0 0, ρ)) hr (by omega) hk, zcI_ok, if_neg (fun e => hx ⟨c, e⟩), m_fineA zms_eq 2 (by decide), zcI_ok, if_pos rfl]
  · rw [if_neg c, m_fineA zms_eq 2 (by decide), zcI_ok, if_pos rfl]
theorem m_split_4 (h : mSheet M 31 T) (hw : zwp T) (hwt : zwt T) {t k : Nat} (ht : t < T.1) (hk : k < rct (T.2 t)) {x : Int32} (h3 : ¬ rkd (T.2 t) = 3) (hx : pSpan T t k x) (hs : ¬ pMaySplit T t x) : zrun zP 199 [zR 16 i, zI (nI t), zI (nI k), zI x] (M, ρ) = zok 0 (mTh i 3 2 (zms M 16 i 0 0, ρ)) := by
  have h6 := h.2.1
  have h0 : mSheet (zms M 16 i 0 0) 31 T := mSheet_z h
  have hr := h0.2.2 t ht
  have kd := m_kind (i := i) (σ := (zms M 16 i 0 0, ρ)) hr (by omega)
  have hin := pSpan_in hwt ht hr.2.2.2.2.1 hk hx
  have hx' := (pSpan_iff hwt ht hk).mp hx
  rw [e_X6_split, (m_isMark (σ := (zms M 16 i 0 0, ρ)) h0 zms_eq _ _).1 ⟨t, k, ht, hk, rfl, rfl⟩, zcI_ok, if_neg (by decide), kd, zcI_ok, if_neg h3, m_from (σ := (zms M 16 i 0 0, ρ)) hr (by omega) hk, zcI_ok, if_pos hx'.1, m_to (σ := (zms M 16 i 0 0, ρ)) hr (by omega) hk, zcI_ok, if_pos hx'.2, m_fine1 zms_eq, zcI_ok, if_neg (by decide), kd, zcI_ok, if_neg h3, m_maySplit (σ := (zms M 16 i 0 0, ρ)) h0 hw ht, zcI_ok]
  by_cases c1 : pNoIn T t x
  · rw [zb_t c1, if_neg (by decide), m_hasRoomToSplit (σ := (zms M 16 i 0 0, ρ)) h0 hw ht, zcI_ok, zb_f (fun e => hs ⟨⟨h3, hin, c1⟩, e⟩), if_pos rfl, m_fineS zms_eq 3 (by decide), zcI_ok, if_pos rfl]
  · rw [zb_f c1, if_pos rfl, m_fineS zms_eq 3 (by decide), zcI_ok, if_pos rfl]
theorem m_split_5 (h : mSheet M 31 T) (hw : zwp T) (hwt : zwt T) (hh : mHist M i n H) {t k : Nat} (ht : t < T.1) (hk : k < rct (T.2 t)) {x : Int32} (h3 : ¬ rkd (T.2 t) = 3) (hx : pSpan T t k x) (hs : pMaySplit T t x) : ∃ M', zrun zP 199 [zR 16 i, zI (nI t), zI (nI k), zI x] (M, ρ) = zok (pCuts T t x) (M', ρ) ∧ mSheet M' 31 (sCut T t x) ∧ mHist M' i (min (n + 1) 12) (hPush T H) ∧ M' 16 i 0 = 0 ∧ emFr M M' i := by
  have h6 := h.2.1
  have h0 : mSheet (zms M 16 i 0 0) 31 T := mSheet_z h
  have hr := h0.2.2 t ht
  have kd := m_kind (i := i) (σ := (zms M 16 i 0 0, ρ)) hr (by omega)
  have hx' := (pSpan_iff hwt ht hk).mp hx
  obtain ⟨M1, e1, e2, e3⟩ := m_keeps (i := i) (ρ := ρ) h0 (mHist_z hh)
  have hS1 : mSheet M1 31 T := mSheet_congr (fun q hq => e3 _ _ _ (by omega) (by omega)) h0
  obtain ⟨M2, f1, f2, f3⟩ := m_splits (i := i) (ρ := ρ) hS1 hw ht x hs.2
  refine ⟨M2, ?_, f2, mHist_o f3 e2, ?_, fun k' j z a b c => ?_⟩
  · rw [e_X6_split, (m_isMark (σ := (zms M 16 i 0 0, ρ)) h0 zms_eq _ _).1 ⟨t, k, ht, hk, rfl, rfl⟩, zcI_ok, if_neg (by decide), kd, zcI_ok, if_neg h3, m_from (σ := (zms M 16 i 0 0, ρ)) hr (by omega) hk, zcI_ok, if_pos hx'.1, m_to (σ := (zms M 16 i 0 0, ρ)) hr (by omega) hk, zcI_ok, if_pos hx'.2, m_fine1 zms_eq, zcI_ok, if_neg (by decide), kd, zcI_ok, if_neg h3, m_maySplit (σ := (zms M 16 i 0 0, ρ)) h0 hw ht, zcI_ok, zb_t hs.1.2.2, if_neg (by decide), m_hasRoomToSplit (σ := (zms M 16 i 0 0, ρ)) h0 hw ht, zcI_ok, zb_t hs.2, if_neg (by decide), m_fine1 zms_eq, zcI_ok, if_neg (by decide), e1, zcV_ok, f1, zcI_ok]
  · rw [f3 _ _ _ (by omega), e3 _ _ _ (by omega) (by omega), zms_eq]
  · rw [f3 _ _ _ (by omega), e3 _ _ _ (by omega) b, zms_ne (by omega)]
end ZMS
