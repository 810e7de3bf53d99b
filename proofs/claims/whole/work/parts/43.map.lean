/-! all times of some tiers are changed: silence and a stop's move, both sides -/
theorem zrt_le {T : zSheet} (hw : zwp T) (h6 : T.1 ≤ 6) : ∀ f t, t < T.1 → zrt T f t ≤ t := by
  intro f
  induction f with
  | zero => intro t _; exact Nat.le_refl _
  | succ f ih =>
    intro t ht
    by_cases hm : rpr (T.2 t) = -1
    · simp [zrt, hm]
    · obtain ⟨p1, p2⟩ := zwp_par hw ht h6 hm
      simp only [zrt, if_neg hm]
      have := ih (zpt T t) (by omega)
      omega
noncomputable def sMapA (T : zSheet) (c : Nat → Prop) (g : Int32 → Int32) : zSheet := sMapK T T.1 c (fun v => tMap (T.2 v) g)
/-- the marks before k are changed -/
def tMapK (r : zTier) (g : Int32 → Int32) (k k' : Nat) : zTier := (rnm r, rkd r, rpr r, rct r, (fun j => if j < k then g (rfr r j) else rfr r j), (fun j => if j < k' then g (rto r j) else rto r j), rlb r)
theorem tMapK_0 {r : zTier} {g : Int32 → Int32} : tMapK r g 0 0 = r := by
  unfold tMapK
  simp only [Nat.not_lt_zero, if_false]
theorem tMapK_f {r : zTier} {g : Int32 → Int32} {k k' : Nat} : tFrom (tMapK r g k k') k (g (rfr r k)) = tMapK r g (k + 1) k' := by
  have : updF (rfr (tMapK r g k k')) k (g (rfr r k)) = rfr (tMapK r g (k + 1) k') := by
    funext j
    show (if j = k then g (rfr r k) else if j < k then g (rfr r j) else rfr r j) = if j < k + 1 then g (rfr r j) else rfr r j
    by_cases e : j = k
    · rw [if_pos e, if_pos (by omega), e]
    · rw [if_neg e]
      by_cases q : j < k
      · rw [if_pos q, if_pos (by omega)]
      · rw [if_neg q, if_neg (by omega)]
  unfold tFrom
  rw [this]
  rfl
theorem tMapK_t {r : zTier} {g : Int32 → Int32} {k k' : Nat} : tTo (tMapK r g k k') k' (g (rto r k')) = tMapK r g k (k' + 1) := by
  have : updF (rto (tMapK r g k k')) k' (g (rto r k')) = rto (tMapK r g k (k' + 1)) := by
    funext j
    show (if j = k' then g (rto r k') else if j < k' then g (rto r j) else rto r j) = if j < k' + 1 then g (rto r j) else rto r j
    by_cases e : j = k'
    · rw [if_pos e, if_pos (by omega), e]
    · rw [if_neg e]
      by_cases q : j < k'
      · rw [if_pos q, if_pos (by omega)]
      · rw [if_neg q, if_neg (by omega)]
  unfold tTo
  rw [this]
  rfl
theorem tMapK_fs {r : zTier} {g : Int32 → Int32} {k k' : Nat} (h : g (rfr r k) = rfr r k) : tMapK r g k k' = tMapK r g (k + 1) k' := by
  have : rfr (tMapK r g k k') = rfr (tMapK r g (k + 1) k') := by
    funext j
    show (if j < k then g (rfr r j) else rfr r j) = if j < k + 1 then g (rfr r j) else rfr r j
    by_cases q : j < k
    · rw [if_pos q, if_pos (by omega)]
    · rw [if_neg q]
      by_cases e : j = k
      · rw [if_pos (by omega), e, h]
      · rw [if_neg (by omega)]
  show (rnm r, rkd r, rpr r, rct r, rfr (tMapK r g k k'), rto (tMapK r g k k'), rlb r) = _
  rw [this]
  rfl
theorem tMapK_ts {r : zTier} {g : Int32 → Int32} {k k' : Nat} (h : g (rto r k') = rto r k') : tMapK r g k k' = tMapK r g k (k' + 1) := by
  have : rto (tMapK r g k k') = rto (tMapK r g k (k' + 1)) := by
    funext j
    show (if j < k' then g (rto r j) else rto r j) = if j < k' + 1 then g (rto r j) else rto r j
    by_cases q : j < k'
    · rw [if_pos q, if_pos (by omega)]
    · rw [if_neg q]
      by_cases e : j = k'
      · rw [if_pos (by omega), e, h]
      · rw [if_neg (by omega)]
  show (rnm r, rkd r, rpr r, rct r, rfr (tMapK r g k k'), rto (tMapK r g k k'), rlb r) = _
  rw [this]
  rfl
theorem tMapK_n {M : zMem} {t : Nat} {r : zTier} {g : Int32 → Int32} (h : mRow M 31 t (tMapK r g (rct r) (rct r))) : mRow M 31 t (tMap r g) := by
  obtain ⟨h0, h1, h2, h3, h4, h5⟩ := h
  refine ⟨h0, h1, h2, h3, h4, fun k hk => ?_⟩
  obtain ⟨a1, a2, a3⟩ := h5 k hk
  have hk' : k < rct r := hk
  refine ⟨a1.trans ?_, a2.trans ?_, a3⟩
  · exact if_pos hk'
  · exact if_pos hk'
section ZMA
variable {s i : Nat} {T : zSheet} {M : zMem} {ρ : Int64 × Nat} {σ : zSt}
theorem sMapA_eq {u : Nat} {c : Nat → Prop} {g : Int32 → Int32} : sEq T (sMapK T u c (fun v => tMap (T.2 v) g)) := sMapK_eq (fun _ => ⟨rfl, rfl, rfl⟩)
theorem s_sil_loop (x l : Int32) : ∀ d u M', u + d = T.1 → cSheet M' s (sMapK T u (fun _ => True) (fun v => tMap (T.2 v) (gSil x l))) → ∃ M'', zX zP zK_X3_insertSilence (2, [zR 13 s, zI x, zI l, zI (nI u)], []) (M', ρ) = zvd (M'', ρ) ∧ cSheet M'' s (sMapA T (fun _ => True) (gSil x l)) ∧ sFr M' M'' s := by
  intro d
  induction d with
  | zero =>
    intro u M' hd h
    have h6 : T.1 ≤ 6 := h.2.1
    have hua : u = T.1 := by omega
    subst hua
    refine ⟨M', ?_, h, sFr_rf⟩
    have hT : M' 13 s 0 = nI T.1 := h.1
    rw [e_X3_insertSilence_2, show (M', ρ).1 = M' from rfl, hT, if_neg (nI_nlt (Nat.le_refl _) (by omega))]
  | succ d ih =>
    intro u M' hd h
    have h6 : T.1 ≤ 6 := h.2.1
    have hun : u < T.1 := by omega
    obtain ⟨q1, q2, q3⟩ := s_in (σ := (M', ρ)) h (t := u) hun
    have hT : M' 13 s 0 = nI T.1 := h.1
    have hr := (h.2.2 u hun).1
    rw [sMapK_u] at hr
    obtain ⟨M1, e1, e2, e3⟩ := r_insertSilence (ρ := ρ) hr x l
    have hS := cSheet_up h hun e2 e3 (by rw [sMapK_u]; rfl)
    rw [sMapK_s (f := fun v => tMap (T.2 v) (gSil x l)) hun trivial] at hS
    obtain ⟨M2, f1, f2, f3⟩ := ih (u + 1) M1 (by omega) hS
    refine ⟨M2, ?_, f2, sFr_tr (rowFr_s (by omega) e3) f3⟩
    rw [e_X3_insertSilence_2, show (M', ρ).1 = M' from rfl, hT, if_pos (nI_lt hun (by omega)), nI_1]
    simp only [q2, q1, if_false]
    rw [e1, zcV_ok]
    exact f1
theorem s_insertSilence (h : cSheet M s T) (x l : Int32) : ∃ M', zrun zP 85 [zR 13 s, zI x, zI l] (M, ρ) = zvd (M', ρ) ∧ cSheet M' s (sMapA T (fun _ => True) (gSil x l)) ∧ sFr M M' s := by
  obtain ⟨M', e1, e2, e3⟩ := s_sil_loop (s := s) (T := T) (ρ := ρ) x l T.1 0 M (by omega) (by rw [sMapK_0 (fun v h1 => by omega)]; exact h)
  rw [nI_0] at e1
  exact ⟨M', by rw [e_X3_insertSilence, e1], e2, e3⟩
theorem s_shift_loop (hw : zwp T) (top : Nat) (htop : top < 2 ^ 31) (x l v : Int32) : ∀ d u M', u + d = T.1 → cSheet M' s (sMapK T u (fun t => pRoot T t = top) (fun v => tMap (T.2 v) (gShift x l))) → ∃ M'', zX zP zK_X3_shiftStop (11, [zR 13 s, zI (nI top), zI x, zI l, zI v, zI (nI u)], []) (M', ρ) = zok v (M'', ρ) ∧ cSheet M'' s (sMapA T (fun t => pRoot T t = top) (gShift x l)) ∧ sFr M' M'' s := by
  intro d
  induction d with
  | zero =>
    intro u M' hd h
    have h6 : T.1 ≤ 6 := h.2.1
    have hua : u = T.1 := by omega
    subst hua
    refine ⟨M', ?_, h, sFr_rf⟩
    have hT : M' 13 s 0 = nI T.1 := h.1
    rw [e_X3_shiftStop_11, show (M', ρ).1 = M' from rfl, hT, if_neg (nI_nlt (Nat.le_refl _) (by omega))]
  | succ d ih =>
    intro u M' hd h
    have h6 : T.1 ≤ 6 := h.2.1
    have hun : u < T.1 := by omega
    obtain ⟨q1, q2, q3⟩ := s_in (σ := (M', ρ)) h (t := u) hun
    have hT : M' 13 s 0 = nI T.1 := h.1
    have hr := (h.2.2 u hun).1
    rw [sMapK_u] at hr
    have hro : M' 12 (6 * s + u) 3 = nI (pRoot T u) := by
      rw [(h.2.2 u hun).2.1]
      exact congrArg nI (zrt_congr (fun w => (sMapA_eq.2 w).2.2) 6 u)
    have hrl : pRoot T u ≤ u := zrt_le hw h6 6 u hun
    rw [e_X3_shiftStop_11, show (M', ρ).1 = M' from rfl, hT, if_pos (nI_lt hun (by omega)), nI_1]
    simp only [q2, q1, if_false, hro, nI_ne (show pRoot T u < 2 ^ 31 by omega) htop]
    by_cases c1 : pRoot T u = top
    · obtain ⟨M1, e1, e2, e3⟩ := r_shiftEnds (ρ := ρ) hr x l
      have hS := cSheet_up h hun e2 e3 (by rw [sMapK_u]; rfl)
      rw [sMapK_s (c := fun t => pRoot T t = top) (f := fun v => tMap (T.2 v) (gShift x l)) hun c1] at hS
      obtain ⟨M2, f1, f2, f3⟩ := ih (u + 1) M1 (by omega) hS
      refine ⟨M2, ?_, f2, sFr_tr (rowFr_s (by omega) e3) f3⟩
      rw [if_pos c1, e1, zcV_ok]
      exact f1
    · rw [sMapK_i (c := fun t => pRoot T t = top) (fun q => (c1 q).elim)] at h
      obtain ⟨M2, f1, f2, f3⟩ := ih (u + 1) M' (by omega) h
      refine ⟨M2, ?_, f2, f3⟩
      rw [if_neg c1]
      exact f1
/-- the reference's inner loop of a move -/
theorem m_mov_in {t : Nat} (ht : t < 6) {r : zTier} (x0 : Int32) (x l : Int32) : ∀ d k M', k + d = rct r → mRow M' 31 t (tMapK r (gShift x l) k k) → ∃ M'' v, zX zP zK_X6_moves (28, [zR 16 i, zI x0, zI x, zI l, zI (nI t), zI (nI k)], []) (M', ρ) = zX zP zK_X6_moves (3, [zR 16 i, zI x0, zI x, zI l, zI (nI (t + 1)), v], []) (M'', ρ) ∧ mRow M'' 31 t (tMap r (gShift x l)) ∧ mFr M' M'' t := by
  intro d
  induction d with
  | zero =>
    intro k M' hd h
    have h40 : rct r ≤ 40 := h.2.2.2.2.1
    have hk : k = rct r := by omega
    subst hk
    refine ⟨M', zI (nI (rct r)), ?_, tMapK_n h, mFr_rf⟩
    rw [e_X6_moves_28, m_many (σ := (M', ρ)) h ht, zcI_ok, show rct (tMapK r (gShift x l) (rct r) (rct r)) = rct r from rfl, if_neg (nI_nlt (Nat.le_refl _) (show rct r < 2 ^ 31 by omega)), nI_1]
  | succ d ih =>
    intro k M' hd h
    have h40 : rct r ≤ 40 := h.2.2.2.2.1
    have hk : k < rct r := by omega
    have hf : rfr (tMapK r (gShift x l) k k) k = rfr r k := if_neg (Nat.lt_irrefl k)
    have c5 := nIk (k := 5 + 124 * t + 3 * k) (N := 745) (by omega) (by omega)
    have c6 := nIk (k := 6 + 124 * t + 3 * k) (N := 745) (by omega) (by omega)
    have d5 := nI_clamp (n := 5 + 124 * t + 3 * k) (by omega)
    have d6 := nI_clamp (n := 6 + 124 * t + 3 * k) (by omega)
    rw [e_X6_moves_28, m_many (σ := (M', ρ)) h ht, zcI_ok, show rct (tMapK r (gShift x l) k k) = rct r from rfl, if_pos (nI_lt hk (show rct r < 2 ^ 31 by omega)), m_from (σ := (M', ρ)) h ht hk, zcI_ok, hf, m_cell0, zcI_ok]
    simp only [c5, d5, if_false]
    have key : ∀ N, mRow N 31 t (tMapK r (gShift x l) (k + 1) k) → mFr M' N t → ∃ M'' v, (zcI (zrun zP 145 [zR 16 i, zI (nI t), zI (nI k)] (N, ρ)) (fun r6 s6 => if r6 = x then (zcI (zrun zP 143 [zI (nI t), zI (nI k), zI 1] s6) (fun r7 s7 => if r7 < 0 ∨ 745 ≤ r7.toNatClampNeg then none else (zX zP zK_X6_moves (28, [zR 16 i, zI x0, zI x, zI l, zI (nI t), zI (nI k + 1)], []) (zms s7.1 31 0 r7.toNatClampNeg l, s7.2)))) else (zX zP zK_X6_moves (28, [zR 16 i, zI x0, zI x, zI l, zI (nI t), zI (nI k + 1)], []) s6))) = zX zP zK_X6_moves (3, [zR 16 i, zI x0, zI x, zI l, zI (nI (t + 1)), v], []) (M'', ρ) ∧ mRow M'' 31 t (tMap r (gShift x l)) ∧ mFr M' M'' t := by
      intro N hN hF
      have hg : rto (tMapK r (gShift x l) (k + 1) k) k = rto r k := if_neg (Nat.lt_irrefl k)
      rw [m_to (σ := (N, ρ)) hN ht hk, zcI_ok, hg]
      by_cases c2 : rto r k = x
      · have hN1 := ms_to (m := k) hN (gShift x l (rto r k))
        rw [tMapK_t] at hN1
        rw [show gShift x l (rto r k) = l from if_pos c2] at hN1
        obtain ⟨M2, v, f1, f2, f3⟩ := ih (k + 1) _ (by omega) hN1
        refine ⟨M2, v, ?_, f2, mFr_tr hF (mFr_tr (mse_fr (c := 1) (by omega) (by omega)) f3)⟩
        rw [if_pos c2, m_cell1, zcI_ok, nI_1]
        simp only [c6, d6, if_false]
        exact f1
      · rw [tMapK_ts (show gShift x l (rto r k) = rto r k from if_neg c2)] at hN
        obtain ⟨M2, v, f1, f2, f3⟩ := ih (k + 1) _ (by omega) hN
        refine ⟨M2, v, ?_, f2, mFr_tr hF f3⟩
        rw [if_neg c2, nI_1]
        exact f1
    by_cases c1 : rfr r k = x
    · have hN1 := ms_from (m := k) h (gShift x l (rfr r k))
      rw [tMapK_f] at hN1
      rw [show gShift x l (rfr r k) = l from if_pos c1] at hN1
      rw [if_pos c1]
      exact key _ hN1 (mse_fr (c := 0) (by omega) (by omega))
    · rw [tMapK_fs (show gShift x l (rfr r k) = rfr r k from if_neg c1)] at h
      rw [if_neg c1]
      exact key _ h mFr_rf
theorem m_mov_loop (hw : zwp T) (top : Nat) (htop : top < 2 ^ 31) (x l : Int32) : ∀ d u M' v, u + d = T.1 → mSheet M' 31 (sMapK T u (fun t => pRoot T t = top) (fun v => tMap (T.2 v) (gShift x l))) → ∃ M'', zX zP zK_X6_moves (3, [zR 16 i, zI (nI top), zI x, zI l, zI (nI u), v], []) (M', ρ) = zvd (M'', ρ) ∧ mSheet M'' 31 (sMapA T (fun t => pRoot T t = top) (gShift x l)) ∧ oFr M' M'' := by
  intro d
  induction d with
  | zero =>
    intro u M' v hd h
    have h6 : T.1 ≤ 6 := h.2.1
    have hua : u = T.1 := by omega
    subst hua
    refine ⟨M', ?_, h, oFr_rf⟩
    have hT : M' 31 0 0 = nI T.1 := h.1
    rw [e_X6_moves_3, m_tiers, zcI_ok, show (M', ρ).1 = M' from rfl, hT, if_neg (nI_nlt (Nat.le_refl _) (by omega))]
  | succ d ih =>
    intro u M' v hd h
    have h6 : T.1 ≤ 6 := h.2.1
    have hun : u < T.1 := by omega
    have hT : M' 31 0 0 = nI T.1 := h.1
    have hro : pRoot (sMapK T u (fun t => pRoot T t = top) (fun v => tMap (T.2 v) (gShift x l))) u = pRoot T u := zrt_congr (fun w => (sMapA_eq.2 w).2.2) 6 u
    have hrl : pRoot T u ≤ u := zrt_le hw h6 6 u hun
    rw [e_X6_moves_3, m_tiers, zcI_ok, show (M', ρ).1 = M' from rfl, hT, if_pos (nI_lt hun (by omega)), m_topOf (σ := (M', ρ)) h (sEq_wp sMapA_eq hw) hun, zcI_ok, hro]
    simp only [nI_ne (show pRoot T u < 2 ^ 31 by omega) htop]
    by_cases c1 : pRoot T u = top
    · have hr := h.2.2 u hun
      rw [sMapK_u] at hr
      obtain ⟨M1, v1, e1, e2, e3⟩ := m_mov_in (i := i) (ρ := ρ) (show u < 6 by omega) (r := T.2 u) (nI top) x l (rct (T.2 u)) 0 M' (by omega) (by rw [tMapK_0]; exact hr)
      rw [nI_0] at e1
      have hS := mSheet_up h hun e2 e3
      rw [sMapK_s (c := fun t => pRoot T t = top) (f := fun v => tMap (T.2 v) (gShift x l)) hun c1] at hS
      obtain ⟨M2, f1, f2, f3⟩ := ih (u + 1) M1 v1 (by omega) hS
      refine ⟨M2, ?_, f2, oFr_tr (mFr_o e3) f3⟩
      rw [if_pos c1, e1]
      exact f1
    · rw [sMapK_i (c := fun t => pRoot T t = top) (fun q => (c1 q).elim)] at h
      obtain ⟨M2, f1, f2, f3⟩ := ih (u + 1) M' v (by omega) h
      refine ⟨M2, ?_, f2, f3⟩
      rw [if_neg c1, nI_1]
      exact f1
theorem m_moves (h : mSheet M 31 T) (hw : zwp T) (top : Nat) (htop : top < 2 ^ 31) (x l : Int32) : ∃ M', zrun zP 214 [zR 16 i, zI (nI top), zI x, zI l] (M, ρ) = zvd (M', ρ) ∧ mSheet M' 31 (sMapA T (fun t => pRoot T t = top) (gShift x l)) ∧ oFr M M' := by
  obtain ⟨M', e1, e2, e3⟩ := m_mov_loop (i := i) (T := T) (ρ := ρ) hw top htop x l T.1 0 M zJunk (by omega) (by rw [sMapK_0 (fun v h1 => by omega)]; exact h)
  rw [nI_0] at e1
  exact ⟨M', by rw [e_X6_moves, e1], e2, e3⟩
/-- the reference's inner loop of a silence -/
theorem m_sil_in {t : Nat} (ht : t < 6) {r : zTier} (x0 : Int32) (x l : Int32) : ∀ d k M', k + d = rct r → mRow M' 31 t (tMapK r (gSil x l) k k) → ∃ M'' v, zX zP zK_X6_silence (104, [zR 16 i, zI x, zI l, zI x0, zI (nI t), zI (nI k)], []) (M', ρ) = zX zP zK_X6_silence (92, [zR 16 i, zI x, zI l, zI x0, zI (nI (t + 1)), v], []) (M'', ρ) ∧ mRow M'' 31 t (tMap r (gSil x l)) ∧ mFr M' M'' t := by
  intro d
  induction d with
  | zero =>
    intro k M' hd h
    have h40 : rct r ≤ 40 := h.2.2.2.2.1
    have hk : k = rct r := by omega
    subst hk
    refine ⟨M', zI (nI (rct r)), ?_, tMapK_n h, mFr_rf⟩
    rw [e_X6_silence_104, m_many (σ := (M', ρ)) h ht, zcI_ok, show rct (tMapK r (gSil x l) (rct r) (rct r)) = rct r from rfl, if_neg (nI_nlt (Nat.le_refl _) (show rct r < 2 ^ 31 by omega)), nI_1]
  | succ d ih =>
    intro k M' hd h
    have h40 : rct r ≤ 40 := h.2.2.2.2.1
    have hk : k < rct r := by omega
    have hf : rfr (tMapK r (gSil x l) k k) k = rfr r k := if_neg (Nat.lt_irrefl k)
    have c5 := nIk (k := 5 + 124 * t + 3 * k) (N := 745) (by omega) (by omega)
    have c6 := nIk (k := 6 + 124 * t + 3 * k) (N := 745) (by omega) (by omega)
    have d5 := nI_clamp (n := 5 + 124 * t + 3 * k) (by omega)
    have d6 := nI_clamp (n := 6 + 124 * t + 3 * k) (by omega)
    rw [e_X6_silence_104, m_many (σ := (M', ρ)) h ht, zcI_ok, show rct (tMapK r (gSil x l) k k) = rct r from rfl, if_pos (nI_lt hk (show rct r < 2 ^ 31 by omega)), m_from (σ := (M', ρ)) h ht hk, zcI_ok, hf, m_cell0, zcI_ok]
    simp only [c5, d5, if_false]
    have key : ∀ N, mRow N 31 t (tMapK r (gSil x l) (k + 1) k) → mFr M' N t → ∃ M'' v, (zcI (zrun zP 145 [zR 16 i, zI (nI t), zI (nI k)] (N, ρ)) (fun r6 s6 => if x < r6 then (zcI (zrun zP 143 [zI (nI t), zI (nI k), zI 1] s6) (fun r7 s7 => if r7 < 0 ∨ 745 ≤ r7.toNatClampNeg then none else (if r7 < 0 ∨ 745 ≤ r7.toNatClampNeg then none else (zX zP zK_X6_silence (104, [zR 16 i, zI x, zI l, zI x0, zI (nI t), zI (nI k + 1)], []) (zms s7.1 31 0 r7.toNatClampNeg ((s7.1 31 0 r7.toNatClampNeg) + l), s7.2))))) else (zX zP zK_X6_silence (104, [zR 16 i, zI x, zI l, zI x0, zI (nI t), zI (nI k + 1)], []) s6))) = zX zP zK_X6_silence (92, [zR 16 i, zI x, zI l, zI x0, zI (nI (t + 1)), v], []) (M'', ρ) ∧ mRow M'' 31 t (tMap r (gSil x l)) ∧ mFr M' M'' t := by
      intro N hN hF
      have hg : rto (tMapK r (gSil x l) (k + 1) k) k = rto r k := if_neg (Nat.lt_irrefl k)
      rw [m_to (σ := (N, ρ)) hN ht hk, zcI_ok, hg]
      by_cases c2 : x < rto r k
      · have hN1 := ms_to (m := k) hN (gSil x l (rto r k))
        rw [tMapK_t] at hN1
        rw [show gSil x l (rto r k) = rto r k + l from if_pos c2] at hN1
        obtain ⟨M2, v, f1, f2, f3⟩ := ih (k + 1) _ (by omega) hN1
        refine ⟨M2, v, ?_, f2, mFr_tr hF (mFr_tr (mse_fr (c := 1) (by omega) (by omega)) f3)⟩
        rw [if_pos c2, m_cell1, zcI_ok, nI_1]
        simp only [c6, d6, if_false]
        rw [show N 31 0 (6 + 124 * t + 3 * k) = rto r k from (hN.2.2.2.2.2 k hk).2.1.trans hg]
        exact f1
      · rw [tMapK_ts (show gSil x l (rto r k) = rto r k from if_neg c2)] at hN
        obtain ⟨M2, v, f1, f2, f3⟩ := ih (k + 1) _ (by omega) hN
        refine ⟨M2, v, ?_, f2, mFr_tr hF f3⟩
        rw [if_neg c2, nI_1]
        exact f1
    by_cases c1 : x < rfr r k
    · have hN1 := ms_from (m := k) h (gSil x l (rfr r k))
      rw [tMapK_f] at hN1
      rw [show gSil x l (rfr r k) = rfr r k + l from if_pos c1] at hN1
      rw [if_pos c1, show M' 31 0 (5 + 124 * t + 3 * k) = rfr r k from (h.2.2.2.2.2 k hk).1.trans hf]
      exact key _ hN1 (mse_fr (c := 0) (by omega) (by omega))
    · rw [tMapK_fs (show gSil x l (rfr r k) = rfr r k from if_neg c1)] at h
      rw [if_neg c1]
      exact key _ h mFr_rf
theorem m_sil_loop (x l x0 : Int32) : ∀ d u M' v, u + d = T.1 → mSheet M' 31 (sMapK T u (fun _ => True) (fun v => tMap (T.2 v) (gSil x l))) → ∃ M'', zX zP zK_X6_silence (92, [zR 16 i, zI x, zI l, zI x0, zI (nI u), v], []) (M', ρ) = zok x0 (M'', ρ) ∧ mSheet M'' 31 (sMapA T (fun _ => True) (gSil x l)) ∧ oFr M' M'' := by
  intro d
  induction d with
  | zero =>
    intro u M' v hd h
    have h6 : T.1 ≤ 6 := h.2.1
    have hua : u = T.1 := by omega
    subst hua
    refine ⟨M', ?_, h, oFr_rf⟩
    have hT : M' 31 0 0 = nI T.1 := h.1
    rw [e_X6_silence_92, m_tiers, zcI_ok, show (M', ρ).1 = M' from rfl, hT, if_neg (nI_nlt (Nat.le_refl _) (by omega))]
  | succ d ih =>
    intro u M' v hd h
    have h6 : T.1 ≤ 6 := h.2.1
    have hun : u < T.1 := by omega
    have hT : M' 31 0 0 = nI T.1 := h.1
    rw [e_X6_silence_92, m_tiers, zcI_ok, show (M', ρ).1 = M' from rfl, hT, if_pos (nI_lt hun (by omega))]
    have hr := h.2.2 u hun
    rw [sMapK_u] at hr
    obtain ⟨M1, v1, e1, e2, e3⟩ := m_sil_in (i := i) (ρ := ρ) (show u < 6 by omega) (r := T.2 u) x0 x l (rct (T.2 u)) 0 M' (by omega) (by rw [tMapK_0]; exact hr)
    rw [nI_0] at e1
    have hS := mSheet_up h hun e2 e3
    rw [sMapK_s (f := fun v => tMap (T.2 v) (gSil x l)) hun trivial] at hS
    obtain ⟨M2, f1, f2, f3⟩ := ih (u + 1) M1 v1 (by omega) hS
    refine ⟨M2, ?_, f2, oFr_tr (mFr_o e3) f3⟩
    rw [e1]
    exact f1
end ZMA
