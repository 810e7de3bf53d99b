/-! the calls silence, stop, room -/
def pLast (T : zSheet) : Prop := ∀ t, t < T.1 → ∀ k, k < rct (T.2 t) → ¬ rto (T.2 t) (rct (T.2 t) - 1) < rto (T.2 t) k
def pSil (T : zSheet) (x l : Int32) : Prop := ∀ t, t < T.1 → ∀ k, k < rct (T.2 t) → ¬ (x < rto (T.2 t) k ∧ 999 < rto (T.2 t) k + l)
def pLn (l : Int32) : Prop := ¬ l < 1 ∧ ¬ 999 < l
section ZSI
variable {i n : Nat} {T : zSheet} {H : Nat → zSheet} {M : zMem} {ρ : Int64 × Nat} {σ : zSt}
theorem sil_mono {x l a b : Int32} {n m : Nat} (hl : pLn l) (hn : n ≤ 999) (hm : m ≤ 999) (ea : a = nI n) (eb : b = nI m) (hab : ¬ b < a) (h : x < a ∧ 999 < a + l) : x < b ∧ 999 < b + l := by
  subst ea
  subst eb
  have h1 := iI_n (n := n) (by omega)
  have h2 := iI_n (n := m) (by omega)
  have l1 := iI_1
  have l9 := iI_999
  obtain ⟨q1, q2⟩ := hl
  rw [iI_lt] at q1 q2
  have e1 : (nI n + l).toInt = n + l.toInt := by rw [iI_add (by omega) (by omega)]; omega
  have e2 : (nI m + l).toInt = m + l.toInt := by rw [iI_add (by omega) (by omega)]; omega
  rw [iI_lt] at hab
  simp only [iI_lt, e1, e2, l9] at h ⊢
  omega
theorem s_allowsSilence {s : Nat} (h : cSheet σ.1 s T) (hla : pLast T) (hwt : zwt T) {x l : Int32} (hx : pTm x) (hl : pLn l) : zrun zP 83 [zR 13 s, zI x, zI l] σ = zok (zb (pSil T x l)) σ := by
  have h6 := h.2.1
  have L := zfst_loopV (X := fun k (z : zAV × zAV) => zX zP zK_X3_allowsSilence (2, [zR 13 s, zI x, zI l, zI (nI k), z.1, z.2], []) σ) (v := fun _ => zok 0 σ) (w := zok 1 σ) (p := fun t => 0 < rct (T.2 t) ∧ (x < rto (T.2 t) (rct (T.2 t) - 1) ∧ 999 < rto (T.2 t) (rct (T.2 t) - 1) + l)) (n := T.1) (fun t z ht => by
    obtain ⟨q1, q2, q3⟩ := s_in h ht
    have hr := (h.2.2 t ht).1
    have h40 := hr.2.2.2.2.1
    rw [e_X3_allowsSilence_2, h.1, if_pos q3]
    simp only [q2, q1, if_false]
    rw [hr.2.2.2.1, nI_1]
    by_cases c : rct (T.2 t) = 0
    · rw [c, if_pos nI_0, if_neg hx.1]
      exact ⟨fun e => by omega, fun _ => ⟨(_, _), rfl⟩⟩
    · have e0 : ¬ nI (rct (T.2 t)) = 0 := fun e => c ((nI_eq (b := 0) (by omega) (by omega)).mp e)
      have e1 : nI (rct (T.2 t)) - 1 = nI (rct (T.2 t) - 1) := nI_sub (b := 1) (by omega)
      have ein := nIk (k := rct (T.2 t) - 1) (N := 40) (by omega) (by omega)
      have ecl := nI_clamp (n := rct (T.2 t) - 1) (by omega)
      rw [if_neg e0]
      simp only [e1, ecl, ein, if_false]
      rw [(hr.2.2.2.2.2 (rct (T.2 t) - 1) (by omega)).2.1]
      by_cases c1 : x < rto (T.2 t) (rct (T.2 t) - 1)
      · rw [if_pos c1]
        by_cases c2 : 999 < rto (T.2 t) (rct (T.2 t) - 1) + l
        · rw [if_pos c2]
          exact ⟨fun _ => rfl, fun e => absurd ⟨by omega, c1, c2⟩ e⟩
        · rw [if_neg c2]
          exact ⟨fun e => absurd e.2.2 c2, fun _ => ⟨(_, _), rfl⟩⟩
      · rw [if_neg c1]
        exact ⟨fun e => absurd e.2.1 c1, fun _ => ⟨(_, _), rfl⟩⟩) (fun z => by
    rw [e_X3_allowsSilence_2, h.1, if_neg (nI_nlt (Nat.le_refl _) (by omega))]) T.1 0 (zJunk, zJunk) (by omega)
  rw [nI_0] at L
  rw [e_X3_allowsSilence]
  refine L.trans ?_
  cases hz : zfst (fun t => 0 < rct (T.2 t) ∧ (x < rto (T.2 t) (rct (T.2 t) - 1) ∧ 999 < rto (T.2 t) (rct (T.2 t) - 1) + l)) 0 T.1 with
  | none =>
    rw [zb_t]
    intro t ht k hk e
    obtain ⟨-, a, a1, a2⟩ := hwt t ht k hk
    obtain ⟨-, b, b1, b2⟩ := hwt t ht (rct (T.2 t) - 1) (by omega)
    exact (zfst_none _ _).mp hz t (by omega) (by omega) ⟨by omega, sil_mono hl a1 b1 a2 b2 (hla t ht k hk) e⟩
  | some t =>
    obtain ⟨z1, z2, z3, -⟩ := (zfst_spec _ _ _).mp hz
    rw [zb_f]
    exact fun e => e t (by omega) _ (by omega) z3.2
theorem m_late_in (h : mSheet σ.1 31 T) {t : Nat} (ht : t < T.1) : ∀ d k acc, k + d = rct (T.2 t) → ∃ L v, zX zP zK_X6_latest (14, [zR 16 i, zI acc, zI (nI t), zI (nI k)], []) σ = zX zP zK_X6_latest (4, [zR 16 i, zI L, zI (nI (t + 1)), v], []) σ ∧ ¬ L < acc ∧ (∀ m, k ≤ m → m < rct (T.2 t) → ¬ L < rto (T.2 t) m) ∧ (L = acc ∨ ∃ m, m < rct (T.2 t) ∧ L = rto (T.2 t) m) := by
  have h6 := h.2.1
  have hr := h.2.2 t ht
  have h40 := hr.2.2.2.2.1
  intro d
  induction d with
  | zero =>
    intro k acc hk
    refine ⟨acc, zI (nI (rct (T.2 t))), ?_, fun e => absurd (iI_lt.mp e) (Int.lt_irrefl _), fun m m1 m2 => by omega, Or.inl rfl⟩
    rw [show k = rct (T.2 t) by omega, e_X6_latest_14, m_many hr (by omega), zcI_ok, if_neg (nI_nlt (Nat.le_refl _) (by omega)), nI_1]
  | succ d ih =>
    intro k acc hk
    obtain ⟨L, v, g1, g2, g3, g4⟩ := ih (k + 1) (if acc < rto (T.2 t) k then rto (T.2 t) k else acc) (by omega)
    refine ⟨L, v, ?_, ?_, ?_, ?_⟩
    · rw [e_X6_latest_14, m_many hr (by omega), zcI_ok, if_pos (nI_lt (by omega) (by omega)), m_to hr (by omega) (by omega), zcI_ok, nI_1]
      exact g1
    · by_cases c : acc < rto (T.2 t) k
      · rw [if_pos c] at g2
        rw [iI_lt] at c g2 ⊢
        omega
      · rw [if_neg c] at g2
        exact g2
    · intro m m1 m2
      by_cases e : m = k
      · rw [e]
        by_cases c : acc < rto (T.2 t) k
        · rw [if_pos c] at g2
          exact g2
        · rw [if_neg c] at g2
          rw [iI_lt] at c g2 ⊢
          omega
      · exact g3 m (by omega) m2
    · rcases g4 with e | ⟨m, m1, m2⟩
      · by_cases c : acc < rto (T.2 t) k
        · rw [if_pos c] at e
          exact Or.inr ⟨k, by omega, e⟩
        · rw [if_neg c] at e
          exact Or.inl e
      · exact Or.inr ⟨m, m1, m2⟩
theorem m_late_out (h : mSheet σ.1 31 T) : ∀ d u acc v, u + d = T.1 → ∃ L, zX zP zK_X6_latest (4, [zR 16 i, zI acc, zI (nI u), v], []) σ = zok L σ ∧ ¬ L < acc ∧ (∀ t, u ≤ t → t < T.1 → ∀ m, m < rct (T.2 t) → ¬ L < rto (T.2 t) m) ∧ (L = acc ∨ ∃ t, t < T.1 ∧ ∃ m, m < rct (T.2 t) ∧ L = rto (T.2 t) m) := by
  have h6 := h.2.1
  intro d
  induction d with
  | zero =>
    intro u acc v hu
    refine ⟨acc, ?_, fun e => absurd (iI_lt.mp e) (Int.lt_irrefl _), fun m m1 m2 => by omega, Or.inl rfl⟩
    rw [show u = T.1 by omega, e_X6_latest_4, m_tiers, zcI_ok, h.1, if_neg (nI_nlt (Nat.le_refl _) (by omega))]
  | succ d ih =>
    intro u acc v hu
    obtain ⟨L1, v1, f1, f2, f3, f4⟩ := m_late_in (i := i) h (show u < T.1 by omega) (rct (T.2 u)) 0 acc (by omega)
    obtain ⟨L, g1, g2, g3, g4⟩ := ih (u + 1) L1 v1 (by omega)
    rw [nI_0] at f1
    refine ⟨L, ?_, ?_, ?_, ?_⟩
    · rw [e_X6_latest_4, m_tiers, zcI_ok, h.1, if_pos (nI_lt (by omega) (by omega)), f1, g1]
    · rw [iI_lt] at f2 g2 ⊢
      omega
    · intro t t1 t2 m hm
      by_cases e : t = u
      · have q := f3 m (by omega) (e ▸ hm)
        rw [e]
        rw [iI_lt] at q g2 ⊢
        omega
      · exact g3 t (by omega) t2 m hm
    · rcases g4 with e | e
      · rcases f4 with e1 | ⟨m, m1, m2⟩
        · exact Or.inl (e.trans e1)
        · exact Or.inr ⟨u, by omega, m, m1, e.trans m2⟩
      · exact Or.inr e
theorem m_latest (h : mSheet σ.1 31 T) : ∃ L, zrun zP 207 [zR 16 i] σ = zok L σ ∧ (∀ t, t < T.1 → ∀ m, m < rct (T.2 t) → ¬ L < rto (T.2 t) m) ∧ (L = -1 ∨ ∃ t, t < T.1 ∧ ∃ m, m < rct (T.2 t) ∧ L = rto (T.2 t) m) := by
  obtain ⟨L, g1, g2, g3, g4⟩ := m_late_out (i := i) h T.1 0 (-1) zJunk (by omega)
  rw [nI_0] at g1
  exact ⟨L, (e_X6_latest i σ).trans g1, fun t ht => g3 t (by omega) ht, g4⟩
theorem late_iff (hwt : zwt T) {x l L : Int32} (hx : pTm x) (hl : pLn l) (h1 : ∀ t, t < T.1 → ∀ m, m < rct (T.2 t) → ¬ L < rto (T.2 t) m) (h2 : L = -1 ∨ ∃ t, t < T.1 ∧ ∃ m, m < rct (T.2 t) ∧ L = rto (T.2 t) m) : pSil T x l ↔ ¬ (x < L ∧ 999 < L + l) := by
  constructor
  · rintro e ⟨e1, e2⟩
    rcases h2 with q | ⟨t, t1, m, m1, m2⟩
    · have a := hx.1
      rw [q] at e1
      rw [iI_lt] at a e1
      have b0 := iI_0
      have b1 := iI_m1
      omega
    · exact e t t1 m m1 ⟨m2 ▸ e1, m2 ▸ e2⟩
  · intro e t ht k hk q
    rcases h2 with q2 | ⟨t', t1, m, m1, m2⟩
    · have a := h1 t ht k hk
      obtain ⟨-, b, b1, b2⟩ := hwt t ht k hk
      rw [q2, b2, iI_lt, iI_n (by omega), iI_m1] at a
      omega
    · obtain ⟨-, a, a1, a2⟩ := hwt t ht k hk
      obtain ⟨-, b, b1, b2⟩ := hwt t' t1 m m1
      exact e (sil_mono hl a1 b1 a2 (m2.trans b2) (h1 t ht k hk) q)
theorem c_sil_1 {x l : Int32} (hx : ¬ (pTm x ∧ pLn l)) : zrun zP 100 [zR 15 i, zI x, zI l] (M, ρ) = cTh 1 i (M, ρ) := by
  rw [e_X5_silence]
  by_cases c : pTm x
  · rw [(n_time (σ := (M, ρ)) x).1 c, zcV_ok, (n_range (σ := (M, ρ)) l 1 999).2 (fun e => hx ⟨c, e⟩), zcV_cTh]
  · rw [(n_time (σ := (M, ρ)) x).2 c, zcV_cTh]
theorem c_sil_2 (h : cSheet M 0 T) (hla : pLast T) (hwt : zwt T) {x l : Int32} (hx : pTm x) (hl : pLn l) (hs : ¬ pSil T x l) : zrun zP 100 [zR 15 i, zI x, zI l] (M, ρ) = cTh 2 i (M, ρ) := by
  rw [e_X5_silence, (n_time (σ := (M, ρ)) x).1 hx, zcV_ok, (n_range (σ := (M, ρ)) l 1 999).1 hl, zcV_ok, s_allowsSilence (σ := (M, ρ)) h hla hwt hx hl, zcI_ok, zb_f hs, n_state_f, zcV_cTh]
def tmFr (M M' : zMem) : Prop := ∀ k j q, ¬ (k = 23 ∨ k = 14) → M' k j q = M k j q
theorem c_sil_3 (h : cSheet M 0 T) (hla : pLast T) (hw : zwp T) (hwt : zwt T) (hi : cHist M n H) {x : Nat} {l : Int32} (hx : x ≤ 999) (hl : pLn l) (hs : pSil T (nI x) l) : ∃ M', zrun zP 100 [zR 15 i, zI (nI x), zI l] (M, ρ) = zok (nI (nsum (nBeh T (x + 1)) 0 T.1)) (M', ρ) ∧ cSheet M' 0 (sMapA T (fun _ => True) (gSil (nI x) l)) ∧ cHist M' (min (n + 1) 12) (hPush T H) ∧ ∃ M0, edFr M M0 ∧ tFr M0 M' 0 := by
  have hx' : pTm (nI x) := ⟨nI_pos (by omega), by rw [nI_999 (by omega)]; omega⟩
  obtain ⟨M1, e1, e2, e3⟩ := c_edit (ρ := ρ) h hi
  obtain ⟨M2, f1, f2⟩ := s_countStopsBehind (ρ := ρ) (x := x) (by omega) e2 hw hwt
  obtain ⟨M3, g1, g2, g3⟩ := s_insertSilence (ρ := ρ) (tFr_sh f2 e2) (nI x) l
  obtain ⟨k1, k2⟩ := e3 M1 sFr_rf
  have hh2 : cHist M2 (min (n + 1) 12) (hPush T H) := by
    obtain ⟨a, N, b, c, d, e⟩ := k1
    exact ⟨a, N, b, (f2 _ _ _ (by omega) (by omega)).trans c, (f2 _ _ _ (by omega) (by omega)).trans d, fun j hj => tFr_sh f2 (e j hj)⟩
  refine ⟨M3, ?_, g2, cHist_s g3 hh2, fun k j q => if k = 23 ∨ k = 14 then M k j q else M3 k j q, fun k j q a b c => ?_, fun k j q a b => ?_⟩
  · rw [e_X5_silence, (n_time (σ := (M, ρ)) _).1 hx', zcV_ok, (n_range (σ := (M, ρ)) l 1 999).1 hl, zcV_ok, s_allowsSilence (σ := (M, ρ)) h hla hwt hx' hl, zcI_ok, zb_t hs, n_state_t, zcV_ok, e1, zcV_ok, f1, zcI_ok, g1, zcV_ok]
  · by_cases c1 : k = 23 ∨ k = 14
    · exact if_pos c1
    · refine (if_neg c1).trans ?_
      rw [g3 k j q (by omega), f2 k j q (by omega) (by omega)]
      exact k2 k j q a b c
  · by_cases c1 : k = 23 ∨ k = 14
    · refine Eq.trans ?_ (if_pos c1).symm
      rw [g3 k j q (by omega), f2 k j q a b]
      exact k2 k j q (by omega) (by omega) (by omega)
    · exact (if_neg c1).symm
theorem m_isLn (l : Int32) : zrun zP 137 [zI l, zI 1, zI 999] σ = zok (zb (pLn l)) σ := m_isIn l 1 999
theorem m_sil_1 {x l : Int32} (hx : ¬ (pTm x ∧ pLn l)) : zrun zP 208 [zR 16 i, zI x, zI l] (M, ρ) = zok 0 (mTh i 1 1 (zms M 16 i 0 0, ρ)) := by
  rw [e_X6_silence, m_isTm, zcI_ok]
  by_cases c : pTm x
  · rw [zb_t c, if_neg (by decide), m_isLn, zcI_ok, zb_f (fun e => hx ⟨c, e⟩), if_pos rfl, m_fineA zms_eq 1 (by decide), zcI_ok, if_pos rfl]
  · rw [zb_f c, if_pos rfl, m_fineA zms_eq 1 (by decide), zcI_ok, if_pos rfl]
theorem m_sil_2 (h : mSheet M 31 T) (hwt : zwt T) {x l : Int32} (hx : pTm x) (hl : pLn l) (hs : ¬ pSil T x l) : zrun zP 208 [zR 16 i, zI x, zI l] (M, ρ) = zok 0 (mTh i 2 2 (zms M 16 i 0 0, ρ)) := by
  obtain ⟨L, g1, g2, g3⟩ := m_latest (i := i) (σ := (zms M 16 i 0 0, ρ)) (mSheet_z h)
  have q := Classical.not_not.mp (fun e => hs ((late_iff hwt hx hl g2 g3).mpr e))
  rw [e_X6_silence, m_isTm, zcI_ok, zb_t hx, if_neg (by decide), m_isLn, zcI_ok, zb_t hl, if_neg (by decide), m_fine1 zms_eq, zcI_ok, if_neg (by decide), g1, zcI_ok, if_pos q.1, g1, zcI_ok, if_pos q.2, m_fineS zms_eq 2 (by decide), zcI_ok, if_pos rfl]
theorem m_sil_3 (h : mSheet M 31 T) (hw : zwp T) (hwt : zwt T) (hi : mHist M i n H) {x : Nat} {l : Int32} (hx : x ≤ 999) (hl : pLn l) (hs : pSil T (nI x) l) : mEd M i n H T (sMapA T (fun _ => True) (gSil (nI x) l)) (nI (nsum (nBeh T (x + 1)) 0 T.1)) ρ (zrun zP 208 [zR 16 i, zI (nI x), zI l] (M, ρ)) := by
  have hx' : pTm (nI x) := ⟨nI_pos (by omega), by rw [nI_999 (by omega)]; omega⟩
  have h0 : mSheet (zms M 16 i 0 0) 31 T := mSheet_z h
  obtain ⟨L, g1, g2, g3⟩ := m_latest (i := i) (σ := (zms M 16 i 0 0, ρ)) h0
  have q := (late_iff hwt hx' hl g2 g3).mp hs
  obtain ⟨M1, e1, e2, e3⟩ := m_edit (ρ := ρ) h hi
  obtain ⟨M2, f1, f2, f3⟩ := m_sil_loop (i := i) (ρ := ρ) (T := T) (nI x) l (nI (nsum (nBeh T (x + 1)) 0 T.1)) T.1 0 M1 zJunk (by omega) (by rw [sMapK_0 (fun v hv => by omega)]; exact e2)
  refine ⟨M2, ?_, f2, e3 M2 f3⟩
  rw [nI_0] at f1
  rw [e_X6_silence, m_isTm, zcI_ok, zb_t hx', if_neg (by decide), m_isLn, zcI_ok, zb_t hl, if_neg (by decide), m_fine1 zms_eq, zcI_ok, if_neg (by decide), g1, zcI_ok]
  by_cases c : nI x < L
  · rw [if_pos c, g1, zcI_ok, if_neg (fun e => q ⟨c, e⟩), m_fine1 zms_eq, zcI_ok, if_neg (by decide), nI_1, m_stopsFrom (σ := (zms M 16 i 0 0, ρ)) h0 hw (by omega), zcI_ok, e1, zcV_ok, f1]
  · rw [if_neg c, m_fine1 zms_eq, zcI_ok, if_neg (by decide), nI_1, m_stopsFrom (σ := (zms M 16 i 0 0, ρ)) h0 hw (by omega), zcI_ok, e1, zcV_ok, f1]
end ZSI
