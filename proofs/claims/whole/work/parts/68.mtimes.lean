/-! times and stops, the reference's side; the calls stop and silence -/
theorem nI_sub {a b : Nat} (h : b ≤ a) : nI a - nI b = nI (a - b) := by
  have e : nI a = nI (a - b) + nI b := by rw [nI_add]; congr 1; omega
  rw [e]
  exact Int32.add_sub_cancel _ _
theorem nI_999 {s : Nat} (h : s < 2 ^ 31) : ((999 : Int32) < nI s) = (999 < s) := nI_lp (a := 999) (by omega) h
def mTimes (M : zMem) (k : Nat) (P : Nat → Prop) : Prop := ∀ y, y < 1000 → P y → M k 0 (cnt P y) = nI y
section ZMT
variable {i : Nat} {r : zTier} {T : zSheet} {M : zMem} {ρ : Int64 × Nat} {σ : zSt}
theorem m_pos2' {t : Nat} : zrun zP 139 [zI (nI t), zI 2] σ = zok (nI (3 + 124 * t)) σ := m_pos2
theorem m_times_in {a b t c s : Nat} (hl : zlenI (a + 1) 0 = 745) (hl2 : zlenI (b + 1) 0 = 80) (hr : mRow σ.1 (a + 1) t r) (ht : t < 6) (hs : s < 1000) : ∀ d k (q : Prop), k + d = rct r → ∃ v w, (c < 80 → (q ∨ ∃ m, k ≤ m ∧ m < rct r ∧ (rfr r m = nI s ∨ rto r m = nI s)) → zX zP zK_X6_times (19, [zR (a + 1) 0, zI (nI t), zR (b + 1) 0, zI (nI c), zI (nI s), zI (zb q), zI (nI k)], []) σ = zX zP zK_X6_times (5, [zR (a + 1) 0, zI (nI t), zR (b + 1) 0, zI (nI (c + 1)), zI (nI (s + 1)), v, w], []) (zms σ.1 (b + 1) 0 c (nI s), σ.2)) ∧ (¬ (q ∨ ∃ m, k ≤ m ∧ m < rct r ∧ (rfr r m = nI s ∨ rto r m = nI s)) → zX zP zK_X6_times (19, [zR (a + 1) 0, zI (nI t), zR (b + 1) 0, zI (nI c), zI (nI s), zI (zb q), zI (nI k)], []) σ = zX zP zK_X6_times (5, [zR (a + 1) 0, zI (nI t), zR (b + 1) 0, zI (nI c), zI (nI (s + 1)), v, w], []) σ) := by
  have h40 := hr.2.2.2.2.1
  have p1 := nIk (k := 3 + 124 * t) (N := 745) (by omega) (by omega)
  have p2 := nI_clamp (n := 3 + 124 * t) (by omega)
  intro d
  induction d with
  | zero =>
    intro k q hk
    rw [show k = rct r by omega]
    refine ⟨zI (zb q), zI (nI (rct r)), fun hc e => ?_, fun e => ?_⟩
    · have p3 := nIk (k := c) (N := 80) (by omega) (by omega)
      have p4 := nI_clamp (n := c) (by omega)
      have hq : q := e.resolve_right (fun ⟨m, m1, m2, _⟩ => by omega)
      rw [e_X6_times_19, m_pos2, zcI_ok]
      simp only [hl, hl2, p1, p2, p3, p4, if_false]
      rw [hr.2.2.1, if_neg (nI_nlt (Nat.le_refl _) (by omega)), if_neg (by rw [zb_t hq]; decide), nI_1, nI_1]
    · have hq : ¬ q := fun x => e (Or.inl x)
      rw [e_X6_times_19, m_pos2, zcI_ok]
      simp only [hl, p1, p2, if_false]
      rw [hr.2.2.1, if_neg (nI_nlt (Nat.le_refl _) (by omega)), if_pos (by rw [zb_f hq]), nI_1]
  | succ d ih =>
    intro k q hk
    have hkl : k < rct r := by omega
    have f := hr.2.2.2.2.2 k hkl
    have c1 := nIk (k := 5 + 124 * t + 3 * k) (N := 745) (by omega) (by omega)
    have c2 := nI_clamp (n := 5 + 124 * t + 3 * k) (by omega)
    have c3 := nIk (k := 6 + 124 * t + 3 * k) (N := 745) (by omega) (by omega)
    have c4 := nI_clamp (n := 6 + 124 * t + 3 * k) (by omega)
    obtain ⟨v, w, g1, g2⟩ := ih (k + 1) (q ∨ (rfr r k = nI s ∨ rto r k = nI s)) (by omega)
    have hx : (q ∨ ∃ m, k ≤ m ∧ m < rct r ∧ (rfr r m = nI s ∨ rto r m = nI s)) ↔ ((q ∨ (rfr r k = nI s ∨ rto r k = nI s)) ∨ ∃ m, k + 1 ≤ m ∧ m < rct r ∧ (rfr r m = nI s ∨ rto r m = nI s)) := by
      constructor
      · rintro (e | ⟨m, m1, m2, m3⟩)
        · exact Or.inl (Or.inl e)
        · by_cases e : m = k
          · exact Or.inl (Or.inr (e ▸ m3))
          · exact Or.inr ⟨m, by omega, m2, m3⟩
      · rintro ((e | e) | ⟨m, m1, m2, m3⟩)
        · exact Or.inl e
        · exact Or.inr ⟨k, Nat.le_refl _, hkl, e⟩
        · exact Or.inr ⟨m, by omega, m2, m3⟩
    have step : zX zP zK_X6_times (19, [zR (a + 1) 0, zI (nI t), zR (b + 1) 0, zI (nI c), zI (nI s), zI (zb q), zI (nI k)], []) σ = zX zP zK_X6_times (19, [zR (a + 1) 0, zI (nI t), zR (b + 1) 0, zI (nI c), zI (nI s), zI (zb (q ∨ (rfr r k = nI s ∨ rto r k = nI s))), zI (nI (k + 1))], []) σ := by
      rw [e_X6_times_19, m_pos2, zcI_ok]
      simp only [hl, p1, p2, if_false]
      rw [hr.2.2.1, if_pos (nI_lt hkl (by omega)), nI_1]
      by_cases hq : q
      · rw [if_neg (by rw [zb_t hq]; decide), zb_t (Or.inl hq : q ∨ (rfr r k = nI s ∨ rto r k = nI s))]
      · rw [if_pos (by rw [zb_f hq]), m_cell0, zcI_ok]
        simp only [c1, c2, if_false]
        rw [f.1]
        by_cases e1 : rfr r k = nI s
        · rw [if_pos e1, zb_t (Or.inr (Or.inl e1) : q ∨ (rfr r k = nI s ∨ rto r k = nI s))]
        · rw [if_neg e1, m_cell1, zcI_ok]
          simp only [c3, c4, if_false]
          rw [f.2.1]
          by_cases e2 : rto r k = nI s
          · rw [if_pos e2, zb_t (Or.inr (Or.inr e2) : q ∨ (rfr r k = nI s ∨ rto r k = nI s))]
          · rw [if_neg e2, zb_f (fun e => e.elim hq (fun e => e.elim e1 e2) : ¬ (q ∨ (rfr r k = nI s ∨ rto r k = nI s)))]
    exact ⟨v, w, fun hc e => step.trans (g1 hc (hx.mp e)), fun e => step.trans (g2 (fun x => e (hx.mpr x)))⟩
theorem m_times_out {a b t : Nat} (hne : a ≠ b) (hl : zlenI (a + 1) 0 = 745) (hl2 : zlenI (b + 1) 0 = 80) (ht : t < 6) (hrt : zRt r) : ∀ d s M' v w, s + d = 1000 → mRow M' (a + 1) t r → (∀ y, y < s → pEndR r y → M' (b + 1) 0 (cnt (pEndR r) y) = nI y) → ∃ M'', zX zP zK_X6_times (5, [zR (a + 1) 0, zI (nI t), zR (b + 1) 0, zI (nI (cnt (pEndR r) s)), zI (nI s), v, w], []) (M', ρ) = zok (nI (cnt (pEndR r) 1000)) (M'', ρ) ∧ mTimes M'' (b + 1) (pEndR r) ∧ ∀ k j q, ¬ (k = b + 1 ∧ j = 0) → M'' k j q = M' k j q := by
  intro d
  induction d with
  | zero =>
    intro s M' v w hs hr hI
    rw [show s = 1000 by omega] at hI ⊢
    refine ⟨M', ?_, hI, fun _ _ _ _ => rfl⟩
    rw [e_X6_times_5, if_pos (show (999 : Int32) < nI 1000 by decide)]
  | succ d ih =>
    intro s M' v w hs hr hI
    have h40 := hr.2.2.2.2.1
    have hc80 := pEndR_c hrt h40
    have hcs := cnt_mono (P := pEndR r) (show s + 1 ≤ 1000 by omega)
    have e9 : ¬ (999 : Int32) < nI s := by rw [nI_999 (by omega)]; omega
    have hx : ((False : Prop) ∨ ∃ m, 0 ≤ m ∧ m < rct r ∧ (rfr r m = nI s ∨ rto r m = nI s)) ↔ pEndR r s := ⟨fun e => e.elim False.elim (fun ⟨m, _, m2, m3⟩ => ⟨m, m2, m3⟩), fun ⟨m, m2, m3⟩ => Or.inr ⟨m, Nat.zero_le _, m2, m3⟩⟩
    by_cases hp : pEndR r s
    · rw [cnt_t hp] at hcs
      obtain ⟨v1, w1, g1, -⟩ := m_times_in (σ := (M', ρ)) (b := b) (c := cnt (pEndR r) s) (s := s) hl hl2 hr ht (by omega) (rct r) 0 False (by omega)
      have g := g1 (by omega) (hx.mpr hp)
      rw [zb_f id, nI_0] at g
      obtain ⟨M2, k1, k2, k3⟩ := ih (s + 1) (zms M' (b + 1) 0 (cnt (pEndR r) s) (nI s)) v1 w1 (by omega) (by
        obtain ⟨h0, h1, h2, h3, h4, h5⟩ := hr
        exact ⟨(zms_ne (by omega)).trans h0, (zms_ne (by omega)).trans h1, (zms_ne (by omega)).trans h2, (zms_ne (by omega)).trans h3, h4, fun k hk => ⟨(zms_ne (by omega)).trans (h5 k hk).1, (zms_ne (by omega)).trans (h5 k hk).2.1, (zms_ne (by omega)).trans (h5 k hk).2.2⟩⟩) (fun y y1 y2 => by
        by_cases e : y = s
        · rw [e, zms_eq]
        · have q := cnt_lt (show y < s by omega) y2
          rw [zms_ne (by omega)]
          exact hI y (by omega) y2)
      refine ⟨M2, ?_, k2, fun k j q h => (k3 k j q h).trans (zms_ne (by omega))⟩
      rw [cnt_t hp] at k1
      rw [e_X6_times_5, if_neg e9, g, k1]
    · obtain ⟨v1, w1, -, g1⟩ := m_times_in (σ := (M', ρ)) (b := b) (c := cnt (pEndR r) s) (s := s) hl hl2 hr ht (by omega) (rct r) 0 False (by omega)
      have g := g1 (fun e => hp (hx.mp e))
      rw [zb_f id, nI_0] at g
      obtain ⟨M2, k1, k2, k3⟩ := ih (s + 1) M' v1 w1 (by omega) hr (fun y y1 y2 => hI y (by
        have : y ≠ s := fun e => hp (e ▸ y2)
        omega) y2)
      refine ⟨M2, ?_, k2, k3⟩
      rw [cnt_f hp] at k1
      rw [e_X6_times_5, if_neg e9, g, k1]
theorem m_times {a b t : Nat} (hne : a ≠ b) (hl : zlenI (a + 1) 0 = 745) (hl2 : zlenI (b + 1) 0 = 80) (hr : mRow M (a + 1) t r) (ht : t < 6) (hrt : zRt r) : ∃ M', zrun zP 239 [zR (a + 1) 0, zI (nI t), zR (b + 1) 0] (M, ρ) = zok (nI (cnt (pEndR r) 1000)) (M', ρ) ∧ mTimes M' (b + 1) (pEndR r) ∧ ∀ k j q, ¬ (k = b + 1 ∧ j = 0) → M' k j q = M k j q := by
  obtain ⟨M1, g1, g2, g3⟩ := m_times_out (ρ := ρ) hne hl hl2 ht hrt 1000 0 M zJunk zJunk (by omega) hr (fun y hy => by omega)
  refine ⟨M1, ?_, g2, g3⟩
  rw [e_X6_times]
  exact g1
/-! stops -/
theorem m_stopMany_loop (h : mSheet σ.1 31 T) (hw : zwp T) {top : Nat} (htop : top < 2 ^ 31) : ∀ d s a, s + d = 1000 → zX zP zK_X6_stopMany (4, [zR 16 i, zI (nI top), zI (nI a), zI (nI s)], []) σ = zok (nI (a + (cnt (pStopIn T top) 1000 - cnt (pStopIn T top) s))) σ := by
  intro d
  induction d with
  | zero =>
    intro s a hs
    rw [show s = 1000 by omega, e_X6_stopMany_4, if_pos (show (999 : Int32) < nI 1000 by decide), Nat.sub_self, Nat.add_zero]
  | succ d ih =>
    intro s a hs
    have hm := cnt_mono (P := pStopIn T top) (show s + 1 ≤ 1000 by omega)
    rw [e_X6_stopMany_4, if_neg (by rw [nI_999 (by omega)]; omega), m_isStopP h hw htop, zcI_ok, nI_1]
    by_cases c : pStopIn T top s
    · rw [zb_t c, if_neg (by decide), nI_1, ih (s + 1) (a + 1) (by omega)]
      rw [cnt_t c] at hm ⊢
      congr 2
      omega
    · rw [zb_f c, if_pos rfl, Int32.add_zero, ih (s + 1) a (by omega), cnt_f c]
theorem m_stopMany (h : mSheet σ.1 31 T) (hw : zwp T) {top : Nat} (htop : top < 2 ^ 31) : zrun zP 224 [zR 16 i, zI (nI top)] σ = zok (nI (cnt (pStopIn T top) 1000)) σ := by
  have L := m_stopMany_loop (i := i) h hw htop 1000 0 0 (by omega)
  rw [nI_0] at L
  rw [e_X6_stopMany, L]
  congr 2
  show 0 + (_ - 0) = _
  omega
theorem root_iff (hw : zwp T) (h6 : T.1 ≤ 6) {t : Nat} (ht : t < T.1) : pRoot T t = t ↔ rpr (T.2 t) = -1 := by
  constructor
  · intro e
    apply Classical.byContradiction
    intro c
    obtain ⟨p1, p2⟩ := zwp_par hw ht h6 c
    have q : pRoot T t = zrt T 5 (zpt T t) := if_neg c
    have := zrt_le hw h6 5 (zpt T t) (by omega)
    omega
  · intro e
    exact if_pos e
noncomputable def nBeh (T : zSheet) (x t : Nat) : Nat := if pRoot T t = t then cnt (pStopIn T t) 1000 - cnt (pStopIn T t) x else 0
theorem m_from_in (h : mSheet σ.1 31 T) (hw : zwp T) {t x : Nat} (ht : t < T.1) : ∀ d s a, s + d = 1000 → zX zP zK_X6_stopsFrom (15, [zR 16 i, zI (nI x), zI (nI a), zI (nI t), zI (nI s)], []) σ = zX zP zK_X6_stopsFrom (4, [zR 16 i, zI (nI x), zI (nI (a + nBeh T s t)), zI (nI (t + 1)), zI (nI 1000)], []) σ := by
  have h6 := h.2.1
  intro d
  induction d with
  | zero =>
    intro s a hs
    have e : nBeh T s t = 0 := by
      rw [show s = 1000 by omega]
      unfold nBeh
      rw [Nat.sub_self]
      by_cases c : pRoot T t = t
      · rw [if_pos c]
      · rw [if_neg c]
    rw [e, show s = 1000 by omega, e_X6_stopsFrom_15, if_pos (show (999 : Int32) < nI 1000 by decide), nI_1]
    rfl
  | succ d ih =>
    intro s a hs
    have hm := cnt_mono (P := pStopIn T t) (show s + 1 ≤ 1000 by omega)
    have hro := pRoot_lt hw h6 ht
    have hi := ih (s + 1)
    rw [e_X6_stopsFrom_15, if_neg (by rw [nI_999 (by omega)]; omega), m_topOf h hw ht, zcI_ok, nI_1]
    unfold nBeh at hi ⊢
    by_cases c0 : pRoot T t = t
    · rw [if_pos (by rw [c0]), m_isStopP h hw (by omega), zcI_ok, if_pos c0]
      simp only [if_pos c0] at hi
      by_cases c : pStopIn T t s
      · rw [zb_t c, if_neg (by decide), nI_1, hi (a + 1) (by omega)]
        rw [cnt_t c] at hm ⊢
        rw [show a + 1 + (cnt (pStopIn T t) 1000 - (cnt (pStopIn T t) s + 1)) = a + (cnt (pStopIn T t) 1000 - cnt (pStopIn T t) s) by omega]
      · rw [zb_f c, if_pos rfl, Int32.add_zero, hi a (by omega), cnt_f c]
    · rw [if_neg (fun e => c0 ((nI_eq hro (by omega)).mp e)), Int32.add_zero, if_neg c0]
      simp only [if_neg c0] at hi
      rw [hi a (by omega)]
theorem m_from_out (h : mSheet σ.1 31 T) (hw : zwp T) {x : Nat} (hx : x ≤ 1000) : ∀ d u a v, u + d = T.1 → zX zP zK_X6_stopsFrom (4, [zR 16 i, zI (nI x), zI (nI a), zI (nI u), v], []) σ = zok (nI (a + nsum (nBeh T x) u d)) σ := by
  have h6 := h.2.1
  intro d
  induction d with
  | zero =>
    intro u a v hu
    rw [show u = T.1 by omega, e_X6_stopsFrom_4, m_tiers, zcI_ok, h.1, if_neg (nI_nlt (Nat.le_refl _) (by omega))]
    rfl
  | succ d ih =>
    intro u a v hu
    rw [e_X6_stopsFrom_4, m_tiers, zcI_ok, h.1, if_pos (nI_lt (by omega) (by omega)), m_from_in h hw (by omega) (1000 - x) x a (by omega), ih (u + 1) _ _ (by omega)]
    simp only [nsum]
    rw [Nat.add_assoc]
theorem m_stopsFrom (h : mSheet σ.1 31 T) (hw : zwp T) {x : Nat} (hx : x ≤ 1000) : zrun zP 206 [zR 16 i, zI (nI x)] σ = zok (nI (nsum (nBeh T x) 0 T.1)) σ := by
  have L := m_from_out (i := i) h hw hx T.1 0 0 zJunk (by omega)
  rw [nI_0] at L
  rw [e_X6_stopsFrom, L, Nat.zero_add]
theorem s_behind_loop {s x : Nat} (hx : x < 1000) (hw : zwp T) (hwt : zwt T) : ∀ d u a M', u + d = T.1 → cSheet M' s T → ∃ M'', zX zP zK_X3_countStopsBehind (5, [zR 13 s, zI (nI x), zR 14 0, zI (nI a), zI (nI u)], []) (M', ρ) = zok (nI (a + nsum (nBeh T (x + 1)) u d)) (M'', ρ) ∧ tFr M' M'' 0 := by
  intro d
  induction d with
  | zero =>
    intro u a M' hu h
    have h6 := h.2.1
    refine ⟨M', ?_, tFr_rf⟩
    rw [show u = T.1 by omega, e_X3_countStopsBehind_5, show (M', ρ).1 13 s 0 = nI T.1 from h.1, if_neg (nI_nlt (Nat.le_refl _) (by omega))]
    rfl
  | succ d ih =>
    intro u a M' hu h
    have h6 := h.2.1
    have hul : u < T.1 := by omega
    obtain ⟨q1, q2, q3⟩ := s_in (σ := (M', ρ)) h hul
    have ri := root_iff hw h6 hul
    rw [e_X3_countStopsBehind_5, show (M', ρ).1 13 s 0 = nI T.1 from h.1, if_pos q3]
    simp only [q2, q1, if_false]
    rw [(h.2.2 u hul).1.2.2.1, nI_1]
    simp only [nsum]
    by_cases c : rpr (T.2 u) = -1
    · have cr := ri.mpr c
      obtain ⟨M1, g1, g2, g3⟩ := s_listStops (ρ := ρ) (s := s) (top := u) (by omega) h hw hwt
      have hm := cnt_mono (P := pStopIn T u) (show x + 1 ≤ 1000 by omega)
      obtain ⟨M2, k1, k2⟩ := ih (u + 1) (a + (cnt (pStopIn T u) 1000 - cnt (pStopIn T u) (x + 1))) M1 (by omega) (tFr_sh g3 h)
      refine ⟨M2, ?_, tFr_tr g3 k2⟩
      rw [if_pos c, g1, zcV_ok, nI_1, t_placeOf (σ := (M1, ρ)) g2 (by omega), zcI_ok, show (M1, ρ).1 14 0 1 = _ from g2.1, nI_sub hm, nI_add, k1, show nBeh T (x + 1) u = _ from if_pos cr, Nat.add_assoc]
    · have cr : ¬ pRoot T u = u := fun e => c (ri.mp e)
      obtain ⟨M2, k1, k2⟩ := ih (u + 1) a M' (by omega) h
      refine ⟨M2, ?_, k2⟩
      rw [if_neg c, nI_1, k1, show nBeh T (x + 1) u = _ from if_neg cr, Nat.zero_add]
theorem s_countStopsBehind {s x : Nat} (hx : x < 1000) (h : cSheet M s T) (hw : zwp T) (hwt : zwt T) : ∃ M', zrun zP 84 [zR 13 s, zI (nI x), zR 14 0] (M, ρ) = zok (nI (nsum (nBeh T (x + 1)) 0 T.1)) (M', ρ) ∧ tFr M M' 0 := by
  obtain ⟨M2, k1, k2⟩ := s_behind_loop (ρ := ρ) (s := s) hx hw hwt T.1 0 0 M (by omega) h
  refine ⟨M2, ?_, k2⟩
  rw [nI_0, Nat.zero_add] at k1
  rw [e_X3_countStopsBehind, k1]
end ZMT
