/-! the calls point and move -/
section ZPM
variable {i n : Nat} {T : zSheet} {H : Nat → zSheet} {M : zMem} {ρ : Int64 × Nat} {σ : zSt}
theorem pAt_pt (hp : zpo T) (h40 : ∀ t, t < T.1 → rct (T.2 t) ≤ 40) {t : Nat} (ht : t < T.1) (h3 : rkd (T.2 t) = 3) (a : Int32) : zfI (pAt (T.2 t) a) (rct (T.2 t)) = -1 ↔ ∀ k, k < rct (T.2 t) → ¬ rfr (T.2 t) k = a := by
  have h4 := h40 t ht
  have e : zfI (pAt (T.2 t) a) (rct (T.2 t)) = zfI (fun k => rfr (T.2 t) k = a) (rct (T.2 t)) := zfI_congr (fun k hk => by
    have q := hp t ht h3 k hk
    constructor
    · rintro (c | c)
      · exact c
      · rw [q] at c
        have c1 := iI_lt.mp c.1
        have c2 := iI_lt.mp c.2
        omega
    · exact Or.inl)
  rw [e]
  unfold zfI
  cases hz : zfst (fun k => rfr (T.2 t) k = a) 0 (rct (T.2 t)) with
  | none => exact ⟨fun _ k hk => (zfst_none _ _).mp hz k (by omega) (by omega), fun _ => rfl⟩
  | some j =>
    obtain ⟨z1, z2, z3, -⟩ := (zfst_spec _ _ _).mp hz
    exact ⟨fun q => absurd q (nI_m1 _ (by omega)), fun q => absurd z3 (q j (by omega))⟩
theorem m_mayPoint (h : mSheet σ.1 31 T) (hw : zwp T) (hp : zpo T) {t : Nat} (ht : t < T.1) (a : Int32) : zrun zP 160 [zR 16 i, zI (nI t), zI a] σ = zok (zb (pMayPoint T t a)) σ := by
  have h6 := h.2.1
  have hr := h.2.2 t ht
  have h40 := hr.2.2.2.2.1
  rw [e_X6_mayPoint, m_kind hr (by omega), zcI_ok]
  unfold pMayPoint
  by_cases c0 : rkd (T.2 t) = 3
  · rw [if_pos c0]
    have hat := pAt_pt hp (fun u hu => (h.2.2 u hu).2.2.2.2.1) ht c0 a
    have L := zfst_loop (X := fun k => zX zP zK_X6_mayPoint (13, [zR 16 i, zI (nI t), zI a, zI (nI k)], []) σ) (v := fun _ => zok 0 σ) (w := zok (zb (rpr (T.2 t) = -1 ∨ pLP T t a a)) σ) (p := fun k => rfr (T.2 t) k = a) (n := rct (T.2 t)) (fun k hlt => by
      rw [e_X6_mayPoint_13, m_many hr (by omega), zcI_ok, if_pos (nI_lt hlt (by omega)), m_from hr (by omega) hlt, zcI_ok, nI_1]
      exact ⟨fun e => if_pos e, fun e => if_neg e⟩) (by
      rw [e_X6_mayPoint_13, m_many hr (by omega), zcI_ok, if_neg (nI_nlt (Nat.le_refl _) (by omega)), m_parent hr (by omega), zcI_ok]
      by_cases c1 : rpr (T.2 t) = -1
      · rw [if_pos c1, zb_t (Or.inl c1)]
      · obtain ⟨p1, p2⟩ := zwp_par hw ht h6 c1
        rw [if_neg c1, m_parent hr (by omega), zcI_ok, p2, m_aroundP (h.2.2 _ (by omega)) (by omega), zcI_ok]
        by_cases c2 : pAround (T.2 (zpt T t)) a a = -1
        · rw [if_pos c2, zb_f]
          rintro (e | e)
          · exact c1 (p2.trans e)
          · exact e.2 c2
        · rw [if_neg c2, zb_t (Or.inr ⟨c1, c2⟩)]) (rct (T.2 t)) 0 (by omega)
    rw [nI_0] at L
    rw [L]
    cases hz : zfst (fun k => rfr (T.2 t) k = a) 0 (rct (T.2 t)) with
    | none =>
      have q := hat.mpr (fun k hk => (zfst_none _ _).mp hz k (by omega) (by omega))
      show zok (zb _) σ = zok (zb _) σ
      exact congrArg (fun p => zok (zb p) σ) (propext ⟨fun e => ⟨c0, q, e⟩, fun e => e.2.2⟩)
    | some j =>
      obtain ⟨z1, z2, z3, -⟩ := (zfst_spec _ _ _).mp hz
      show zok 0 σ = zok (zb _) σ
      rw [zb_f (fun e => hat.mp e.2.1 j (by omega) z3)]
  · rw [if_neg c0, zb_f (fun e => c0 e.1)]
def pPoints (T : zSheet) (t : Nat) (a : Int32) : Prop := pMayPoint T t a ∧ rct (T.2 t) < 40
theorem nI_40 {c : Nat} (hc : c ≤ 40) : nI c < 40 ↔ c < 40 := nI_ltI (b := 40) (by omega) (by omega)
theorem c_point_1 (h : cSheet M 0 T) {x a : Int32} (hm : ¬ pTr T x) : zrun zP 95 [zR 15 i, zI x, zI a] (M, ρ) = cTh 0 i (M, ρ) := by
  rw [e_X5_point, (n_tier (σ := (M, ρ)) h x).2 hm, zcV_cTh]
theorem c_point_2 (h : cSheet M 0 T) {x a : Int32} (hm : pTr T x) (hs : ¬ pTm a) : zrun zP 95 [zR 15 i, zI x, zI a] (M, ρ) = cTh 1 i (M, ρ) := by
  rw [e_X5_point, (n_tier (σ := (M, ρ)) h x).1 hm, zcV_ok, (n_time (σ := (M, ρ)) a).2 hs, zcV_cTh]
theorem c_point_3 (h : cSheet M 0 T) (hw : zwp T) {t : Nat} (ht : t < T.1) {a : Int32} (hs : pTm a) (hp : ¬ pPoints T t a) : zrun zP 95 [zR 15 i, zI (nI t), zI a] (M, ρ) = cTh 2 i (M, ρ) := by
  obtain ⟨q1, q2, q3⟩ := s_in (σ := (M, ρ)) h ht
  have hr := (h.2.2 t ht).1
  have h40 := hr.2.2.2.2.1
  rw [e_X5_point, (n_tier (σ := (M, ρ)) h _).1 (pTr_i h.2.1 ht), zcV_ok, (n_time (σ := (M, ρ)) a).1 hs, zcV_ok, s_allowsPoint (σ := (M, ρ)) h hw ht, zcI_ok]
  by_cases c : pMayPoint T t a
  · rw [zb_t c, if_neg (by decide)]
    simp only [q2, q1, if_false]
    rw [r_isFull (σ := (M, ρ)) hr, zcI_ok, zb_t (fun e => hp ⟨c, (nI_40 h40).mp e⟩), if_neg (by decide), n_state_f, zcV_cTh]
  · rw [zb_f c, if_pos rfl, n_state_f, zcV_cTh]
theorem c_point_4 (h : cSheet M 0 T) (hw : zwp T) (hi : cHist M n H) {t : Nat} (ht : t < T.1) {a : Int32} (hs : pTm a) (hp : pPoints T t a) : cEd M n H T (sUp T t (tIns (T.2 t) a a 0)) (nI (pPl (rfr (T.2 t)) a (rct (T.2 t)))) ρ (zrun zP 95 [zR 15 i, zI (nI t), zI a] (M, ρ)) := by
  have h6 := h.2.1
  obtain ⟨q1, q2, q3⟩ := s_in (σ := (M, ρ)) h ht
  have hr := (h.2.2 t ht).1
  have h40 := hr.2.2.2.2.1
  obtain ⟨M1, e1, e2, e3⟩ := c_edit (ρ := ρ) h hi
  obtain ⟨M2, g1, g2, g3⟩ := r_insert (ρ := ρ) (e2.2.2 t ht).1 hp.2 a a 0
  refine ⟨M2, ?_, cSheet_up e2 ht g2 g3 rfl, e3 M2 (rowFr_s (by omega) g3)⟩
  rw [e_X5_point, (n_tier (σ := (M, ρ)) h _).1 (pTr_i h.2.1 ht), zcV_ok, (n_time (σ := (M, ρ)) a).1 hs, zcV_ok, s_allowsPoint (σ := (M, ρ)) h hw ht, zcI_ok, zb_t hp.1, if_neg (by decide)]
  simp only [q2, q1, if_false]
  rw [r_isFull (σ := (M, ρ)) hr, zcI_ok, zb_f (fun e => e ((nI_40 h40).mpr hp.2)), if_pos rfl, n_state_t, zcV_ok, e1, zcV_ok, g1, zcI_ok]
theorem m_isTm (a : Int32) : zrun zP 137 [zI a, zI 0, zI 999] σ = zok (zb (pTm a)) σ := m_isIn a 0 999
theorem m_point_1 (h : mSheet M 31 T) {x a : Int32} (hm : ¬ pTr T x) : zrun zP 192 [zR 16 i, zI x, zI a] (M, ρ) = zok 0 (mTh i 1 0 (zms M 16 i 0 0, ρ)) := by
  rw [e_X6_point, (m_isTier (σ := (zms M 16 i 0 0, ρ)) (mSheet_z h) zms_eq x).2 hm, zcI_ok, if_pos rfl]
theorem m_point_2 (h : mSheet M 31 T) {x a : Int32} (hm : pTr T x) (hs : ¬ pTm a) : zrun zP 192 [zR 16 i, zI x, zI a] (M, ρ) = zok 0 (mTh i 2 1 (zms M 16 i 0 0, ρ)) := by
  rw [e_X6_point, (m_isTier (σ := (zms M 16 i 0 0, ρ)) (mSheet_z h) zms_eq x).1 hm, zcI_ok, if_neg (by decide), m_isTm, zcI_ok, zb_f hs, m_fineA zms_eq 2 (by decide), zcI_ok, if_pos rfl]
theorem m_point_3 (h : mSheet M 31 T) (hw : zwp T) (hz : zpo T) {t : Nat} (ht : t < T.1) {a : Int32} (hs : pTm a) (hp : ¬ pPoints T t a) : zrun zP 192 [zR 16 i, zI (nI t), zI a] (M, ρ) = zok 0 (mTh i 3 2 (zms M 16 i 0 0, ρ)) := by
  have h6 := h.2.1
  have h0 : mSheet (zms M 16 i 0 0) 31 T := mSheet_z h
  have hr := h0.2.2 t ht
  have h40 := hr.2.2.2.2.1
  rw [e_X6_point, (m_isTier (σ := (zms M 16 i 0 0, ρ)) h0 zms_eq _).1 (pTr_i h.2.1 ht), zcI_ok, if_neg (by decide), m_isTm, zcI_ok, zb_t hs, m_fine1 zms_eq, zcI_ok, if_neg (by decide), m_mayPoint (σ := (zms M 16 i 0 0, ρ)) h0 hw hz ht, zcI_ok]
  by_cases c : pMayPoint T t a
  · rw [zb_t c, if_neg (by decide), m_many (σ := (zms M 16 i 0 0, ρ)) hr (by omega), zcI_ok, if_neg (fun e => hp ⟨c, (nI_40 h40).mp e⟩), m_fineS zms_eq 3 (by decide), zcI_ok, if_pos rfl]
  · rw [zb_f c, if_pos rfl, m_fineS zms_eq 3 (by decide), zcI_ok, if_pos rfl]
theorem m_point_4 (h : mSheet M 31 T) (hw : zwp T) (hz : zpo T) (hi : mHist M i n H) {t : Nat} (ht : t < T.1) {a : Int32} (hs : pTm a) (hp : pPoints T t a) : mEd M i n H T (sUp T t (tIns (T.2 t) a a 0)) (nI (pPl (rfr (T.2 t)) a (rct (T.2 t)))) ρ (zrun zP 192 [zR 16 i, zI (nI t), zI a] (M, ρ)) := by
  have h6 := h.2.1
  have h0 : mSheet (zms M 16 i 0 0) 31 T := mSheet_z h
  have hr := h0.2.2 t ht
  have h40 := hr.2.2.2.2.1
  obtain ⟨M1, e1, e2, e3⟩ := m_edit (ρ := ρ) h hi
  obtain ⟨M2, g1, g2, g3⟩ := m_inserts (i := i) (ρ := ρ) (e2.2.2 t ht) (by omega) hp.2 a a 0
  refine ⟨M2, ?_, mSheet_up e2 ht g2 g3, e3 M2 (mFr_o g3)⟩
  rw [e_X6_point, (m_isTier (σ := (zms M 16 i 0 0, ρ)) h0 zms_eq _).1 (pTr_i h.2.1 ht), zcI_ok, if_neg (by decide), m_isTm, zcI_ok, zb_t hs, m_fine1 zms_eq, zcI_ok, if_neg (by decide), m_mayPoint (σ := (zms M 16 i 0 0, ρ)) h0 hw hz ht, zcI_ok, zb_t hp.1, if_neg (by decide), m_many (σ := (zms M 16 i 0 0, ρ)) hr (by omega), zcI_ok, if_pos ((nI_40 h40).mpr hp.2), m_fine1 zms_eq, zcI_ok, if_neg (by decide), e1, zcV_ok, g1, zcI_ok]
/-! move -/
/-- a time is a stop of the family of t -/
def pStopX (T : zSheet) (top : Nat) (x : Int32) : Prop := ∃ t, t < T.1 ∧ (pRoot T t = top ∧ ∃ k, k < rct (T.2 t) ∧ (rfr (T.2 t) k = x ∨ rto (T.2 t) k = x))
def nsum (g : Nat → Nat) : Nat → Nat → Nat
  | _, 0 => 0
  | k, d + 1 => g k + nsum g (k + 1) d
theorem zsum_nI {f : Nat → Int32} {g : Nat → Nat} : ∀ d k, (∀ j, k ≤ j → j < k + d → f j = nI (g j)) → zsum f k d = nI (nsum g k d) := by
  intro d
  induction d with
  | zero => intro k _; rfl
  | succ d ih =>
    intro k h
    simp only [zsum, nsum]
    rw [h k (Nat.le_refl _) (by omega), ih (k + 1) (fun j h1 h2 => h j (by omega) (by omega)), nI_add]
theorem nsum_le {g : Nat → Nat} {b : Nat} : ∀ d k, (∀ j, k ≤ j → j < k + d → g j ≤ b) → nsum g k d ≤ d * b := by
  intro d
  induction d with
  | zero => intro k _; exact Nat.zero_le _
  | succ d ih =>
    intro k h
    simp only [nsum]
    have h1 := h k (Nat.le_refl _) (by omega)
    have h2 := ih (k + 1) (fun j h1 h2 => h j (by omega) (by omega))
    rw [Nat.succ_mul]
    omega
theorem nsum_0 {g : Nat → Nat} : ∀ d k, nsum g k d = 0 ↔ ∀ j, k ≤ j → j < k + d → g j = 0 := by
  intro d
  induction d with
  | zero => intro k; exact ⟨fun _ j h1 h2 => by omega, fun _ => rfl⟩
  | succ d ih =>
    intro k
    simp only [nsum]
    constructor
    · intro e j h1 h2
      by_cases c : j = k
      · rw [c]; omega
      · exact (ih (k + 1)).mp (by omega) j (by omega) (by omega)
    · intro e
      have e1 := e k (Nat.le_refl _) (by omega)
      have e2 := (ih (k + 1)).mpr (fun j h1 h2 => e j (by omega) (by omega))
      omega
def eN (r : zTier) (a : Int32) (k : Nat) : Nat := (if rfr r k = a then 1 else 0) + (if ¬ rkd r = 3 ∧ rto r k = a then 1 else 0)
theorem pEnds_n {r : zTier} {a : Int32} {k : Nat} : pEnds r a k = nI (eN r a k) := by
  unfold pEnds eN
  by_cases c1 : rfr r k = a <;> by_cases c2 : ¬ rkd r = 3 ∧ rto r k = a
  · rw [if_pos c1, if_pos c2, if_pos c1, if_pos c2]; rfl
  · rw [if_pos c1, if_neg c2, if_pos c1, if_neg c2]; rfl
  · rw [if_neg c1, if_pos c2, if_neg c1, if_pos c2]; rfl
  · rw [if_neg c1, if_neg c2, if_neg c1, if_neg c2]; rfl
theorem eN_le {r : zTier} {a : Int32} {k : Nat} : eN r a k ≤ 2 := by
  unfold eN
  by_cases c1 : rfr r k = a <;> by_cases c2 : ¬ rkd r = 3 ∧ rto r k = a
  · rw [if_pos c1, if_pos c2]; decide
  · rw [if_pos c1, if_neg c2]; decide
  · rw [if_neg c1, if_pos c2]; decide
  · rw [if_neg c1, if_neg c2]; decide
theorem eN_0 {r : zTier} {a : Int32} {k : Nat} (hp : rkd r = 3 → rto r k = rfr r k) : eN r a k = 0 ↔ ¬ (rfr r k = a ∨ rto r k = a) := by
  unfold eN
  by_cases c1 : rfr r k = a
  · rw [if_pos c1]
    exact ⟨fun e => by omega, fun e => absurd (Or.inl c1) e⟩
  · rw [if_neg c1]
    by_cases c3 : rkd r = 3
    · rw [if_neg (fun e => e.1 c3)]
      refine ⟨fun _ e => ?_, fun _ => rfl⟩
      rw [hp c3] at e
      exact e.elim c1 c1
    · by_cases c2 : rto r k = a
      · rw [if_pos ⟨c3, c2⟩]
        exact ⟨fun e => by omega, fun e => absurd (Or.inr c2) e⟩
      · rw [if_neg (fun e => c2 e.2)]
        exact ⟨fun _ e => e.elim c1 c2, fun _ => rfl⟩
def nEnds (T : zSheet) (top : Nat) (x : Int32) (t : Nat) : Nat := if pRoot T t = top then nsum (eN (T.2 t) x) 0 (rct (T.2 t)) else 0
theorem pEndsS_n {top : Nat} {x : Int32} {t : Nat} : pEndsS T top x t = nI (nEnds T top x t) := by
  unfold pEndsS nEnds
  by_cases c : pRoot T t = top
  · rw [if_pos c, if_pos c]
    exact zsum_nI _ _ (fun j _ _ => pEnds_n)
  · rw [if_neg c, if_neg c]; rfl
theorem ends_0 (hp : zpo T) (h6 : T.1 ≤ 6) (h40 : ∀ t, t < T.1 → rct (T.2 t) ≤ 40) (top : Nat) (x : Int32) : zsum (pEndsS T top x) 0 T.1 = 0 ↔ ¬ pStopX T top x := by
  rw [zsum_nI (g := nEnds T top x) _ _ (fun j _ _ => pEndsS_n)]
  have hb : nsum (nEnds T top x) 0 T.1 ≤ T.1 * 80 := nsum_le _ _ (fun t _ ht => by
    have h4 := h40 t (by omega)
    unfold nEnds
    by_cases c : pRoot T t = top
    · rw [if_pos c]
      have := nsum_le (g := eN (T.2 t) x) (b := 2) (rct (T.2 t)) 0 (fun j _ _ => eN_le)
      omega
    · rw [if_neg c]; omega)
  have e0 : nI (nsum (nEnds T top x) 0 T.1) = 0 ↔ nsum (nEnds T top x) 0 T.1 = 0 := nI_eq (b := 0) (by omega) (by omega)
  rw [e0, nsum_0]
  constructor
  · rintro e ⟨t, t1, t2, k, k1, k2⟩
    have q := e t (by omega) (by omega)
    unfold nEnds at q
    rw [if_pos t2, nsum_0] at q
    exact (eN_0 (fun c => hp t t1 c k k1)).mp (q k (by omega) (by omega)) k2
  · intro e t _ t1
    unfold nEnds
    by_cases c : pRoot T t = top
    · rw [if_pos c, nsum_0]
      exact fun k _ k1 => (eN_0 (fun c => hp t (by omega) c k (by omega))).mpr (fun q => e ⟨t, by omega, c, k, by omega, q⟩)
    · rw [if_neg c]
theorem pRoot_lt (hw : zwp T) (h6 : T.1 ≤ 6) {t : Nat} (ht : t < T.1) : pRoot T t < 2 ^ 31 := Nat.lt_of_le_of_lt (zrt_le hw h6 6 t ht) (by omega)
def pStopOf (T : zSheet) (x y : Int32) : Prop := ∃ t, t < T.1 ∧ x = nI t ∧ pStopX T (pRoot T t) y
theorem n_stop (h : cSheet M 0 T) (hw : zwp T) (hp : zpo T) (x y : Int32) : (pStopOf T x y → zrun zP 127 [zR 15 i, zI x, zI y] (M, ρ) = zvd (M, ρ)) ∧ (¬ pStopOf T x y → zrun zP 127 [zR 15 i, zI x, zI y] (M, ρ) = cTh 0 i (M, ρ)) := by
  have h6 := h.2.1
  rw [e_X5_needStop]
  by_cases c : pTr T x
  · obtain ⟨t, ht, rfl⟩ := pTr_n h6 c
    obtain ⟨q1, q2, q3⟩ := s_in (σ := (M, ρ)) h ht
    have hro := pRoot_lt hw h6 ht
    have e0 := ends_0 hp h6 (fun u hu => (h.2.2 u hu).1.2.2.2.2.1) (pRoot T t) y
    have hst : pStopOf T (nI t) y ↔ pStopX T (pRoot T t) y := ⟨fun ⟨u, u1, u2, u3⟩ => by
      rw [(nI_eq (by omega) (by omega)).mp u2]; exact u3, fun e => ⟨t, ht, rfl, e⟩⟩
    rw [(n_tier (σ := (M, ρ)) h _).1 c, zcV_ok]
    simp only [q2, q1, if_false]
    rw [(h.2.2 t ht).2.1, s_countEnds (σ := (M, ρ)) h hw _ hro, zcI_ok]
    by_cases c2 : pStopX T (pRoot T t) y
    · rw [if_neg (fun e => e0.mp e c2)]
      exact ⟨fun _ => rfl, fun e => absurd (hst.mpr c2) e⟩
    · rw [if_pos (e0.mpr c2), n_missing, zcV_cTh]
      exact ⟨fun e => absurd (hst.mp e) c2, fun _ => rfl⟩
  · rw [(n_tier (σ := (M, ρ)) h _).2 c, zcV_cTh]
    exact ⟨fun ⟨u, u1, u2, _⟩ => absurd (u2 ▸ pTr_i h6 u1) c, fun _ => rfl⟩
theorem m_isStopX (h : mSheet σ.1 31 T) (hw : zwp T) (top : Nat) (htop : top < 2 ^ 31) (x : Int32) : zrun zP 151 [zR 16 i, zI (nI top), zI x] σ = zok (zb (pStopX T top x)) σ := m_isStop h hw top htop x
theorem m_isStopOf (h : mSheet M 31 T) (hz : M 16 i 0 = 0) (hw : zwp T) (x y : Int32) : (pStopOf T x y → zrun zP 203 [zR 16 i, zI x, zI y] (M, ρ) = zok 1 (M, ρ)) ∧ (¬ pStopOf T x y → zrun zP 203 [zR 16 i, zI x, zI y] (M, ρ) = zok 0 (mTh i 1 0 (M, ρ))) := by
  have h6 := h.2.1
  rw [e_X6_isStopOf, m_tiers, zcI_ok, m_isIn, zcI_ok, show (M, ρ).1 31 0 0 = nI T.1 from h.1, zb_congr (in_iff (x := x) (n := T.1) (by omega))]
  by_cases c : pTr T x
  · obtain ⟨t, ht, rfl⟩ := pTr_n h6 c
    have hro := pRoot_lt hw h6 ht
    have hst : pStopOf T (nI t) y ↔ pStopX T (pRoot T t) y := ⟨fun ⟨u, u1, u2, u3⟩ => by
      rw [(nI_eq (by omega) (by omega)).mp u2]; exact u3, fun e => ⟨t, ht, rfl, e⟩⟩
    rw [zb_t (show ¬ nI t < 0 ∧ nI t < nI T.1 from c), if_neg (by decide), m_topOf (σ := (M, ρ)) h hw ht, zcI_ok, m_isStopX (σ := (M, ρ)) h hw _ hro, zcI_ok]
    by_cases c2 : pStopX T (pRoot T t) y
    · rw [zb_t c2, if_neg (by decide), m_fine1 (σ := (M, ρ)) hz, zcI_ok, if_pos (Or.inr rfl)]
      exact ⟨fun _ => rfl, fun e => absurd (hst.mpr c2) e⟩
    · rw [zb_f c2, if_pos rfl, m_fineN hz 1 (by decide), zcI_ok, if_pos (Or.inl rfl)]
      exact ⟨fun e => absurd (hst.mp e) c2, fun _ => rfl⟩
  · rw [zb_f (show ¬ (¬ x < 0 ∧ x < nI T.1) from c), if_pos rfl, m_fineN hz 1 (by decide), zcI_ok, if_pos (Or.inl rfl)]
    exact ⟨fun ⟨u, u1, u2, _⟩ => absurd (u2 ▸ pTr_i h6 u1) c, fun _ => rfl⟩
/-- where a stop may go -/
def pMayMove (T : zSheet) (top x : Nat) (y : Int32) : Prop := ∃ v w, pLeast T top x v ∧ pGreat T top x w ∧ ¬ y < nI v ∧ ¬ nI w < y
theorem s_allowsShift {s : Nat} (h : cSheet σ.1 s T) (hw : zwp T) (hwt : zwt T) {top x : Nat} (htop : top < 2 ^ 31) (hx : x ≤ 999) (y : Int32) : zrun zP 81 [zR 13 s, zI (nI top), zI (nI x), zI y] σ = zok (zb (pMayMove T top x y)) σ := by
  obtain ⟨v, v1, v2⟩ := s_leastFor h hw hwt htop hx
  obtain ⟨w, w1, w2⟩ := s_greatestFor h hw hwt htop hx
  rw [e_X3_allowsShift, v1, zcI_ok]
  by_cases c1 : y < nI v
  · rw [if_pos c1, zb_f]
    rintro ⟨v', w', p1, p2, p3, p4⟩
    exact p3 (pLeast_u v2 p1 ▸ c1)
  · rw [if_neg c1, w1, zcI_ok]
    by_cases c2 : nI w < y
    · rw [if_pos c2, zb_f]
      rintro ⟨v', w', p1, p2, p3, p4⟩
      exact p4 (pGreat_u w2 p2 ▸ c2)
    · rw [if_neg c2, zb_t ⟨v, w, v2, w2, c1, c2⟩]
theorem m_mayMove (h : mSheet σ.1 31 T) (hw : zwp T) {top x : Nat} (htop : top < 2 ^ 31) (hx : x ≤ 999) (y : Int32) : zrun zP 213 [zR 16 i, zI (nI top), zI (nI x), zI y] σ = zok (zb (pMayMove T top x y)) σ := by
  obtain ⟨v, v1, v2⟩ := m_stopAhead (i := i) h hw htop hx
  obtain ⟨w, w1, w2⟩ := m_stopBehind (i := i) h hw htop hx
  have hv := v2.1
  have hw9 := w2.1.2
  have ry := iI_r y
  have e1 : (nI v - 1 < y) ↔ ¬ y < nI v := by
    have n1 := iI_n (n := v) (by omega)
    have h1 := iI_1
    have e : (nI v - 1).toInt = v - 1 := by rw [iI_sub (by omega) (by omega)]; omega
    simp only [iI_lt, e, n1]
    omega
  have e2 : (y < nI (w + 1)) ↔ ¬ nI w < y := by
    have n1 := iI_n (n := w) (by omega)
    have n2 := iI_n (n := w + 1) (by omega)
    simp only [iI_lt, n1, n2]
    omega
  rw [e_X6_mayMove, v1, zcI_ok]
  by_cases c1 : y < nI v
  · rw [if_neg (fun e => e1.mp e c1), zb_f]
    rintro ⟨v', w', p1, p2, p3, p4⟩
    exact p3 (pLeast_u v2 p1 ▸ c1)
  · rw [if_pos (e1.mpr c1), w1, zcI_ok]
    by_cases c2 : nI w < y
    · rw [if_neg (fun e => e2.mp e c2), zb_f]
      rintro ⟨v', w', p1, p2, p3, p4⟩
      exact p4 (pGreat_u w2 p2 ▸ c2)
    · rw [if_pos (e2.mpr c2), zb_t ⟨v, w, v2, w2, c1, c2⟩]
theorem pStopX_n (hwt : zwt T) {top : Nat} {y : Int32} (h : pStopX T top y) : ∃ x, x ≤ 999 ∧ y = nI x := by
  obtain ⟨t, t1, t2, k, k1, k2⟩ := h
  obtain ⟨⟨a, a1, a2⟩, b, b1, b2⟩ := hwt t t1 k k1
  rcases k2 with e | e
  · exact ⟨a, a1, e.symm.trans a2⟩
  · exact ⟨b, b1, e.symm.trans b2⟩
theorem c_move_1 (h : cSheet M 0 T) (hw : zwp T) (hp : zpo T) {x y z : Int32} (hm : ¬ pStopOf T x y) : zrun zP 99 [zR 15 i, zI x, zI y, zI z] (M, ρ) = cTh 0 i (M, ρ) := by
  rw [e_X5_move, (n_stop h hw hp x y).2 hm, zcV_cTh]
theorem c_move_2 (h : cSheet M 0 T) (hw : zwp T) (hp : zpo T) {x y z : Int32} (hm : pStopOf T x y) (hz : ¬ pTm z) : zrun zP 99 [zR 15 i, zI x, zI y, zI z] (M, ρ) = cTh 1 i (M, ρ) := by
  rw [e_X5_move, (n_stop h hw hp x y).1 hm, zcV_ok, (n_time (σ := (M, ρ)) z).2 hz, zcV_cTh]
theorem c_move_3 (h : cSheet M 0 T) (hw : zwp T) (hp : zpo T) (hwt : zwt T) {t x : Nat} {z : Int32} (ht : t < T.1) (hx : x ≤ 999) (hm : pStopX T (pRoot T t) (nI x)) (hz : pTm z) (hs : ¬ pMayMove T (pRoot T t) x z) : zrun zP 99 [zR 15 i, zI (nI t), zI (nI x), zI z] (M, ρ) = cTh 2 i (M, ρ) := by
  have h6 := h.2.1
  obtain ⟨q1, q2, q3⟩ := s_in (σ := (M, ρ)) h ht
  have hro := pRoot_lt hw h6 ht
  rw [e_X5_move, (n_stop h hw hp _ _).1 ⟨t, ht, rfl, hm⟩, zcV_ok, (n_time (σ := (M, ρ)) z).1 hz, zcV_ok]
  simp only [q2, q1, if_false]
  rw [(h.2.2 t ht).2.1, s_allowsShift (σ := (M, ρ)) h hw hwt hro hx, zcI_ok, zb_f hs, n_state_f, zcV_cTh]
theorem c_move_4 (h : cSheet M 0 T) (hw : zwp T) (hp : zpo T) (hwt : zwt T) (hi : cHist M n H) {t x : Nat} {z : Int32} (ht : t < T.1) (hx : x ≤ 999) (hm : pStopX T (pRoot T t) (nI x)) (hz : pTm z) (hs : pMayMove T (pRoot T t) x z) : cEd M n H T (sMapA T (fun u => pRoot T u = pRoot T t) (gShift (nI x) z)) (zsum (pEndsS T (pRoot T t) (nI x)) 0 T.1) ρ (zrun zP 99 [zR 15 i, zI (nI t), zI (nI x), zI z] (M, ρ)) := by
  have h6 := h.2.1
  obtain ⟨q1, q2, q3⟩ := s_in (σ := (M, ρ)) h ht
  have hro := pRoot_lt hw h6 ht
  obtain ⟨M1, e1, e2, e3⟩ := c_edit (ρ := ρ) h hi
  obtain ⟨M2, g1, g2, g3⟩ := s_shiftStop (ρ := ρ) e2 hw (pRoot T t) hro (nI x) z
  refine ⟨M2, ?_, g2, e3 M2 g3⟩
  rw [e_X5_move, (n_stop h hw hp _ _).1 ⟨t, ht, rfl, hm⟩, zcV_ok, (n_time (σ := (M, ρ)) z).1 hz, zcV_ok]
  simp only [q2, q1, if_false]
  rw [(h.2.2 t ht).2.1, s_allowsShift (σ := (M, ρ)) h hw hwt hro hx, zcI_ok, zb_t hs, n_state_t, zcV_ok, e1, zcV_ok, g1, zcI_ok]
theorem m_move_1 (h : mSheet M 31 T) (hw : zwp T) {x y z : Int32} (hm : ¬ pStopOf T x y) : zrun zP 205 [zR 16 i, zI x, zI y, zI z] (M, ρ) = zok 0 (mTh i 1 0 (zms M 16 i 0 0, ρ)) := by
  rw [e_X6_move, (m_isStopOf (mSheet_z h) zms_eq hw x y).2 hm, zcI_ok, if_pos rfl]
theorem m_move_2 (h : mSheet M 31 T) (hw : zwp T) {x y z : Int32} (hm : pStopOf T x y) (hz : ¬ pTm z) : zrun zP 205 [zR 16 i, zI x, zI y, zI z] (M, ρ) = zok 0 (mTh i 2 1 (zms M 16 i 0 0, ρ)) := by
  rw [e_X6_move, (m_isStopOf (mSheet_z h) zms_eq hw x y).1 hm, zcI_ok, if_neg (by decide), m_isTm, zcI_ok, zb_f hz, m_fineA zms_eq 2 (by decide), zcI_ok, if_pos rfl]
theorem m_move_3 (h : mSheet M 31 T) (hw : zwp T) {t x : Nat} {z : Int32} (ht : t < T.1) (hx : x ≤ 999) (hm : pStopX T (pRoot T t) (nI x)) (hz : pTm z) (hs : ¬ pMayMove T (pRoot T t) x z) : zrun zP 205 [zR 16 i, zI (nI t), zI (nI x), zI z] (M, ρ) = zok 0 (mTh i 3 2 (zms M 16 i 0 0, ρ)) := by
  have h6 := h.2.1
  have h0 : mSheet (zms M 16 i 0 0) 31 T := mSheet_z h
  have hro := pRoot_lt hw h6 ht
  rw [e_X6_move, (m_isStopOf h0 zms_eq hw _ _).1 ⟨t, ht, rfl, hm⟩, zcI_ok, if_neg (by decide), m_isTm, zcI_ok, zb_t hz, m_fine1 zms_eq, zcI_ok, if_neg (by decide), m_topOf (σ := (zms M 16 i 0 0, ρ)) h0 hw ht, zcI_ok, m_mayMove (σ := (zms M 16 i 0 0, ρ)) h0 hw hro hx, zcI_ok, zb_f hs, m_fineS zms_eq 3 (by decide), zcI_ok, if_pos rfl]
theorem m_move_4 (h : mSheet M 31 T) (hw : zwp T) (hi : mHist M i n H) {t x : Nat} {z : Int32} (ht : t < T.1) (hx : x ≤ 999) (hm : pStopX T (pRoot T t) (nI x)) (hz : pTm z) (hs : pMayMove T (pRoot T t) x z) : mEd M i n H T (sMapA T (fun u => pRoot T u = pRoot T t) (gShift (nI x) z)) (zsum (pEndsS T (pRoot T t) (nI x)) 0 T.1) ρ (zrun zP 205 [zR 16 i, zI (nI t), zI (nI x), zI z] (M, ρ)) := by
  have h6 := h.2.1
  have h0 : mSheet (zms M 16 i 0 0) 31 T := mSheet_z h
  have hro := pRoot_lt hw h6 ht
  obtain ⟨M1, e1, e2, e3⟩ := m_edit (ρ := ρ) h hi
  obtain ⟨M2, g1, g2, g3⟩ := m_moves (i := i) (ρ := ρ) e2 hw (pRoot T t) hro (nI x) z
  refine ⟨M2, ?_, g2, e3 M2 g3⟩
  rw [e_X6_move, (m_isStopOf h0 zms_eq hw _ _).1 ⟨t, ht, rfl, hm⟩, zcI_ok, if_neg (by decide), m_isTm, zcI_ok, zb_t hz, m_fine1 zms_eq, zcI_ok, if_neg (by decide), m_topOf (σ := (zms M 16 i 0 0, ρ)) h0 hw ht, zcI_ok, m_mayMove (σ := (zms M 16 i 0 0, ρ)) h0 hw hro hx, zcI_ok, zb_t hs, m_fine1 zms_eq, zcI_ok, if_neg (by decide), m_endsAt (σ := (zms M 16 i 0 0, ρ)) h0 hw _ hro, zcI_ok, e1, zcV_ok, g1, zcV_ok]
end ZPM
