/-! may a mark be cut: both sides -/
/-- no mark of a tier within would be torn -/
def pNoIn (T : zSheet) (a : Nat) (x : Int32) : Prop := ∀ t, t < T.1 → ¬ (rkd (T.2 t) = 2 ∧ pBelow T t a ∧ ¬ pIn (T.2 t) x = -1)
theorem pIn_ex {r : zTier} {x : Int32} (hn : rct r ≤ 40) : (¬ pIn r x = -1) ↔ ∃ k, k < rct r ∧ rfr r k < x ∧ x < rto r k := by
  unfold pIn zfI
  cases hz : zfst (fun k => rfr r k < x ∧ x < rto r k) 0 (rct r) with
  | none =>
    refine ⟨fun e => (e rfl).elim, fun ⟨k, k1, k2⟩ => ?_⟩
    exact absurd k2 ((zfst_none _ _).mp hz k (by omega) (by omega))
  | some q =>
    obtain ⟨g1, g2, g3, -⟩ := (zfst_spec _ _ q).mp hz
    exact ⟨fun _ => ⟨q, by omega, g3⟩, fun _ => nI_m1 q (by omega)⟩
section ZCR
variable {s i : Nat} {T : zSheet} {σ : zSt}
theorem r_markInP {i : Nat} {r : zTier} (h : cRow σ.1 i r) (a : Int32) : zrun zP 41 [zR 12 i, zI a] σ = zok (pIn r a) σ := r_markInside h a
theorem m_markWithP {t : Nat} {r : zTier} (h : mRow σ.1 31 t r) (ht : t < 6) (a : Int32) : zrun zP 162 [zR 16 i, zI (nI t), zI a] σ = zok (pIn r a) σ := m_markWith h ht a
theorem s_hasRoomForCut (h : cSheet σ.1 s T) (hw : zwp T) {a : Nat} (ha : a < T.1) (x : Int32) : zrun zP 73 [zR 13 s, zI (nI a), zI x] σ = zok (zb (pRoomC T a x)) σ := by
  have h6 := h.2.1
  rw [e_X3_hasRoomForCut]
  have L := zfst_loop (X := fun t => zX zP zK_X3_hasRoomForCut (2, [zR 13 s, zI (nI a), zI x, zI (nI t)], []) σ) (p := fun t => pCutW T t a x ∧ ¬ nI (rct (T.2 t)) < 40) (n := T.1) (v := fun _ => zok 0 σ) (w := zok 1 σ) (fun t ht => by
    obtain ⟨q1, q2, q3⟩ := s_in h ht
    rw [e_X3_hasRoomForCut_2, h.1, if_pos q3, s_isCutWith h hw ht ha, zcI_ok]
    simp only [q2, q1, if_false, nI_1]
    rw [r_isFull (h.2.2 t ht).1, zcI_ok]
    constructor <;> intro hp
    · rw [zb_t hp.1, if_neg (by decide), zb_t hp.2, if_neg (by decide)]
    · by_cases c1 : pCutW T t a x
      · rw [zb_t c1, if_neg (by decide), zb_f (fun e => hp ⟨c1, e⟩), if_pos rfl]
      · rw [zb_f c1, if_pos rfl]) (by
    rw [e_X3_hasRoomForCut_2, h.1, if_neg (nI_nlt (Nat.le_refl _) (by omega))]) (T.1 - a) a (by omega)
  rw [L]
  have e40 : ∀ t, t < T.1 → ((nI (rct (T.2 t)) < 40) = (rct (T.2 t) < 40)) := fun t ht => nI_lp (b := 40) (by have := (h.2.2 t ht).1.2.2.2.2.1; omega) (by omega)
  cases hz : zfst (fun t => pCutW T t a x ∧ ¬ nI (rct (T.2 t)) < 40) a (T.1 - a) with
  | none =>
    rw [zb_t]
    intro t h1 h2
    have hat : a ≤ t := by
      rcases h2.1 with q | q
      · omega
      · have := zbelow_lt hw h6 6 t h1 q.2
        omega
    have hq := (zfst_none _ _).mp hz t hat (by omega)
    rw [e40 t h1] at hq
    exact Classical.byContradiction (fun e => hq ⟨h2, e⟩)
  | some j =>
    obtain ⟨g1, g2, g3, -⟩ := (zfst_spec _ _ j).mp hz
    rw [zb_f]
    intro e
    have hj : j < T.1 := by omega
    rw [e40 j hj] at g3
    exact g3.2 (e j hj g3.1)
theorem m_hasRoomToSplit (h : mSheet σ.1 31 T) (hw : zwp T) {a : Nat} (ha : a < T.1) (x : Int32) : zrun zP 163 [zR 16 i, zI (nI a), zI x] σ = zok (zb (pRoomC T a x)) σ := by
  have h6 := h.2.1
  rw [e_X6_hasRoomToSplit]
  have L := zfA_loop (X := fun t => zX zP zK_X6_hasRoomToSplit (2, [zR 16 i, zI (nI a), zI x, zI (nI t)], []) σ) (σ := σ) (p := fun t => pCutW T t a x ∧ rct (T.2 t) = 40) (n := T.1) (fun t ht => by
    have hr := h.2.2 t ht
    have h40 := hr.2.2.2.2.1
    rw [e_X6_hasRoomToSplit_2, m_tiers, zcI_ok, h.1, if_pos (nI_lt ht (by omega))]
    have e40 : (nI (rct (T.2 t)) = 40) = (rct (T.2 t) = 40) := nI_ne (b := 40) (by omega) (by omega)
    simp only [m_markWithP hr (show t < 6 by omega), m_many hr (show t < 6 by omega), m_kind hr (show t < 6 by omega), m_isBelow h hw ht ha, zcI_ok, nI_1, e40, nI_ne (show t < 2 ^ 31 by omega) (show a < 2 ^ 31 by omega)]
    rw [pCutW_iff]
    by_cases c0 : pIn (T.2 t) x = -1
    · refine ⟨fun hp => (hp.1.2 c0).elim, fun _ => ?_⟩
      by_cases c1 : t = a
      · rw [if_pos c1, if_pos c0]
      · rw [if_neg c1]
        by_cases c2 : rkd (T.2 t) = 1
        · rw [if_pos c2]
          by_cases c3 : pBelow T t a
          · rw [zb_t c3, if_neg (by decide), if_pos c0]
          · rw [zb_f c3, if_pos rfl]
        · rw [if_neg c2]
    · by_cases c1 : t = a
      · rw [if_pos c1, if_neg c0]
        exact ⟨fun hp => by rw [if_pos hp.2], fun hp => by rw [if_neg (fun e => hp ⟨⟨Or.inl c1, c0⟩, e⟩)]⟩
      · rw [if_neg c1]
        by_cases c2 : rkd (T.2 t) = 1
        · rw [if_pos c2]
          by_cases c3 : pBelow T t a
          · rw [zb_t c3, if_neg (by decide), if_neg c0]
            exact ⟨fun hp => by rw [if_pos hp.2], fun hp => by rw [if_neg (fun e => hp ⟨⟨Or.inr ⟨c2, c3⟩, c0⟩, e⟩)]⟩
          · rw [zb_f c3, if_pos rfl]
            exact ⟨fun hp => (c3 (hp.1.1.resolve_left c1).2).elim, fun _ => rfl⟩
        · rw [if_neg c2]
          exact ⟨fun hp => (c2 (hp.1.1.resolve_left c1).1).elim, fun _ => rfl⟩) (by
    rw [e_X6_hasRoomToSplit_2, m_tiers, zcI_ok, h.1, if_neg (nI_nlt (Nat.le_refl _) (by omega))])
  rw [nI_0] at L
  rw [L]
  refine congrArg (fun x => zok x σ) (zb_congr ⟨fun e t ht hp => ?_, fun e t ht hp => ?_⟩)
  · have h40 := (h.2.2 t ht).2.2.2.2.1
    have := e t ht
    rcases Nat.lt_or_ge (rct (T.2 t)) 40 with q | q
    · exact q
    · exact absurd ⟨hp, by omega⟩ this
  · have := e t ht hp.1
    omega
theorem s_allowsCut (h : cSheet σ.1 s T) (hw : zwp T) {a : Nat} (ha : a < T.1) (x : Int32) : zrun zP 72 [zR 13 s, zI (nI a), zI x] σ = zok (zb (¬ rkd (T.2 a) = 3 ∧ ¬ pIn (T.2 a) x = -1 ∧ pNoIn T a x)) σ := by
  have h6 := h.2.1
  obtain ⟨q1, q2, q3⟩ := s_in h ha
  have hra := (h.2.2 a ha).1
  have f1 := hra.2.1
  rw [e_X3_allowsCut]
  simp only [q2, q1, if_false, f1]
  rw [r_markInP hra, zcI_ok, nI_1]
  have L := zfst_loop (X := fun t => zX zP zK_X3_allowsCut (33, [zR 13 s, zI (nI a), zI x, zI (nI t)], []) σ) (p := fun t => rkd (T.2 t) = 2 ∧ pBelow T t a ∧ ¬ pIn (T.2 t) x = -1) (n := T.1) (v := fun _ => zok 0 σ) (w := zok 1 σ) (fun t ht => by
    obtain ⟨q1, q2, q3⟩ := s_in h ht
    have hr := (h.2.2 t ht).1
    have f1 := hr.2.1
    rw [e_X3_allowsCut_33, h.1, if_pos q3]
    simp only [q2, q1, if_false, f1, nI_1]
    rw [s_isBelow h hw ht ha, zcI_ok, r_markInP hr, zcI_ok]
    constructor <;> intro hp
    · rw [if_pos hp.1, zb_t hp.2.1, if_neg (by decide), if_neg hp.2.2]
    · by_cases c1 : rkd (T.2 t) = 2
      · rw [if_pos c1]
        by_cases c2 : pBelow T t a
        · rw [zb_t c2, if_neg (by decide), if_pos (Classical.byContradiction (fun e => hp ⟨c1, c2, e⟩))]
        · rw [zb_f c2, if_pos rfl]
      · rw [if_neg c1]) (by
    rw [e_X3_allowsCut_33, h.1, if_neg (nI_nlt (Nat.le_refl _) (by omega))]) (T.1 - (a + 1)) (a + 1) (by omega)
  rw [L]
  by_cases c1 : rkd (T.2 a) = 3
  · rw [if_pos c1, zb_f (fun e => e.1 c1)]
  · rw [if_neg c1]
    by_cases c2 : pIn (T.2 a) x = -1
    · rw [if_pos c2, zb_f (fun e => e.2.1 c2)]
    · rw [if_neg c2]
      cases hz : zfst (fun t => rkd (T.2 t) = 2 ∧ pBelow T t a ∧ ¬ pIn (T.2 t) x = -1) (a + 1) (T.1 - (a + 1)) with
      | none =>
        rw [zb_t]
        refine ⟨c1, c2, fun t h1 h2 => ?_⟩
        have := zbelow_lt hw h6 6 t h1 h2.2.1
        exact (zfst_none _ _).mp hz t (by omega) (by omega) h2
      | some j =>
        obtain ⟨g1, g2, g3, -⟩ := (zfst_spec _ _ j).mp hz
        rw [zb_f (fun e => e.2.2 j (by omega) g3)]
theorem m_maySplit (h : mSheet σ.1 31 T) (hw : zwp T) {a : Nat} (ha : a < T.1) (x : Int32) : zrun zP 161 [zR 16 i, zI (nI a), zI x] σ = zok (zb (pNoIn T a x)) σ := by
  have h6 := h.2.1
  rw [e_X6_maySplit]
  have L := zfst_loopV (X := fun t (z : zAV) => zX zP zK_X6_maySplit (2, [zR 16 i, zI (nI a), zI x, zI (nI t), z], []) σ) (p := fun t => rkd (T.2 t) = 2 ∧ pBelow T t a ∧ ¬ pIn (T.2 t) x = -1) (n := T.1) (v := fun _ => zok 0 σ) (w := zok 1 σ) (fun t z ht => by
    have hr := h.2.2 t ht
    have h40 := hr.2.2.2.2.1
    rw [e_X6_maySplit_2, m_tiers, zcI_ok, h.1, if_pos (nI_lt ht (by omega)), m_kind hr (by omega), zcI_ok, m_isBelow h hw ht ha, zcI_ok, nI_1]
    by_cases c1 : rkd (T.2 t) = 2
    · rw [if_pos c1]
      by_cases c2 : pBelow T t a
      · rw [zb_t c2, if_neg (by decide)]
        have L2 := zfst_loop (X := fun k => zX zP zK_X6_maySplit (34, [zR 16 i, zI (nI a), zI x, zI (nI t), zI (nI k)], []) σ) (p := fun k => rfr (T.2 t) k < x ∧ x < rto (T.2 t) k) (n := rct (T.2 t)) (v := fun _ => zok 0 σ) (w := zX zP zK_X6_maySplit (2, [zR 16 i, zI (nI a), zI x, zI (nI (t + 1)), zI (nI (rct (T.2 t)))], []) σ) (fun k hk => by
          rw [e_X6_maySplit_34, m_many hr (by omega), zcI_ok, if_pos (nI_lt hk (by omega)), m_from hr (by omega) hk, zcI_ok, m_to hr (by omega) hk, zcI_ok]
          constructor <;> intro hp
          · rw [if_pos hp.1, if_pos hp.2]
          · by_cases c3 : rfr (T.2 t) k < x
            · rw [if_pos c3, if_neg (fun e => hp ⟨c3, e⟩), nI_1]
            · rw [if_neg c3, nI_1]) (by
          rw [e_X6_maySplit_34, m_many hr (by omega), zcI_ok, if_neg (nI_nlt (Nat.le_refl _) (by omega)), nI_1]) (rct (T.2 t)) 0 (by omega)
        rw [nI_0] at L2
        rw [L2, pIn_ex h40]
        cases hz : zfst (fun k => rfr (T.2 t) k < x ∧ x < rto (T.2 t) k) 0 (rct (T.2 t)) with
        | none =>
          refine ⟨fun hp => ?_, fun _ => ⟨_, rfl⟩⟩
          obtain ⟨k, k1, k2⟩ := hp.2.2
          exact absurd k2 ((zfst_none _ _).mp hz k (by omega) (by omega))
        | some q =>
          obtain ⟨g1, g2, g3, -⟩ := (zfst_spec _ _ q).mp hz
          exact ⟨fun _ => rfl, fun hp => absurd ⟨c1, c2, q, by omega, g3⟩ hp⟩
      · rw [zb_f c2, if_pos rfl]
        exact ⟨fun hp => absurd hp.2.1 c2, fun _ => ⟨_, rfl⟩⟩
    · rw [if_neg c1]
      exact ⟨fun hp => absurd hp.1 c1, fun _ => ⟨_, rfl⟩⟩) (fun z => by
    rw [e_X6_maySplit_2, m_tiers, zcI_ok, h.1, if_neg (nI_nlt (Nat.le_refl _) (by omega))]) T.1 0 zJunk (by omega)
  rw [nI_0] at L
  rw [L]
  cases hz : zfst (fun t => rkd (T.2 t) = 2 ∧ pBelow T t a ∧ ¬ pIn (T.2 t) x = -1) 0 T.1 with
  | none =>
    rw [zb_t]
    intro t t1 t2
    exact (zfst_none _ _).mp hz t (by omega) (by omega) t2
  | some q =>
    obtain ⟨g1, g2, g3, -⟩ := (zfst_spec _ _ q).mp hz
    rw [zb_f (fun e => e q (by omega) g3)]
end ZCR
