/-! the reference takes a whole mark -/
theorem sEq_rf {T : zSheet} : sEq T T := ⟨rfl, fun _ => ⟨rfl, rfl, rfl⟩⟩
theorem sEq_tr {T T1 T2 : zSheet} (h1 : sEq T T1) (h2 : sEq T1 T2) : sEq T T2 := ⟨h2.1.trans h1.1, fun u => ⟨(h2.2 u).1.trans (h1.2 u).1, (h2.2 u).2.1.trans (h1.2 u).2.1, (h2.2 u).2.2.trans (h1.2 u).2.2⟩⟩
theorem zsum_add {f g : Nat → Int32} : ∀ d k, zsum (fun v => f v + g v) k d = zsum f k d + zsum g k d := by
  intro d
  induction d with
  | zero => intro k; simp [zsum]
  | succ d ih =>
    intro k
    simp only [zsum]
    rw [ih]
    rw [Int32.add_assoc, Int32.add_assoc, ← Int32.add_assoc (g k), Int32.add_comm (g k), Int32.add_assoc]
def pT1 (T : zSheet) (a v : Nat) : Prop := v ≠ a ∧ pBelow T v a ∧ ¬ rkd (T.2 v) = 3
def pT2 (T : zSheet) (a v : Nat) : Prop := v ≠ a ∧ pBelow T v a ∧ rkd (T.2 v) = 3
noncomputable def nT1 (T : zSheet) (a : Nat) (x y : Int32) (v : Nat) : Int32 := @ite _ (pT1 T a v) (Classical.propDecidable _) (kF T x y v).2 0
noncomputable def nT2 (T : zSheet) (a : Nat) (x y : Int32) (v : Nat) : Int32 := @ite _ (pT2 T a v) (Classical.propDecidable _) (kG T a x y v).2 0
noncomputable def sT0 (T : zSheet) (a : Nat) (x y : Int32) : zSheet := sUp T a (kF T x y a).1
noncomputable def sT1 (T : zSheet) (a : Nat) (x y : Int32) (u : Nat) : zSheet := sMapK (sT0 T a x y) u (pT1 T a) (fun v => (kF T x y v).1)
noncomputable def sT2 (T : zSheet) (a : Nat) (x y : Int32) (u : Nat) : zSheet := sMapK (sT1 T a x y T.1) u (pT2 T a) (fun v => (kG T a x y v).1)
section ZMT
variable {i : Nat} {T : zSheet} {M : zMem} {ρ : Int64 × Nat} {σ : zSt} {a : Nat} {x y : Int32}
theorem sT0_eq : sEq T (sT0 T a x y) := sEq_up sEq_rf (tRW_3 _ _ _).1 (tRW_3 _ _ _).2.1 (tRW_3 _ _ _).2.2
theorem sT1_eq {u : Nat} : sEq T (sT1 T a x y u) := sEq_tr sT0_eq (sMapK_eq (fun v => by
  have h1 := tRW_3 (a := x) (b := y) (rct (T.2 v)) (T.2 v) 0
  have h2 := (sT0_eq (T := T) (a := a) (x := x) (y := y)).2 v
  exact ⟨h1.1.trans h2.1.symm, h1.2.1.trans h2.2.1.symm, h1.2.2.trans h2.2.2.symm⟩))
theorem sT2_eq {u : Nat} : sEq T (sT2 T a x y u) := sEq_tr sT1_eq (sMapK_eq (fun v => by
  have h1 := tRP_3 (P := fun f t => pAround (kP T a x y (zpt T v)) f t = -1) (rct (T.2 v)) (T.2 v) 0
  have h2 := (sT1_eq (T := T) (a := a) (x := x) (y := y) (u := T.1)).2 v
  exact ⟨h1.1.trans h2.1.symm, h1.2.1.trans h2.2.1.symm, h1.2.2.trans h2.2.2.symm⟩))
theorem sT1_u {u : Nat} (h : u ≠ a) : (sT1 T a x y u).2 u = T.2 u := sMapK_u.trans (sUp_ne h)
theorem m_t1_loop (hw : zwp T) (ha : a < T.1) (k : Int32) : ∀ d u M' g v, u + d = T.1 → mSheet M' 31 (sT1 T a x y u) → ∃ M'' v', zX zP zK_X6_takesAll (27, [zR 16 i, zI (nI a), zI k, zI x, zI y, zI g, zI (nI u), v], []) (M', ρ) = zX zP zK_X6_takesAll (79, [zR 16 i, zI (nI a), zI k, zI x, zI y, zI (g + zsum (nT1 T a x y) u d), zI 0, v'], []) (M'', ρ) ∧ mSheet M'' 31 (sT1 T a x y T.1) ∧ oFr M' M'' := by
  intro d
  induction d with
  | zero =>
    intro u M' g v hd h
    have h6 : T.1 ≤ 6 := h.2.1
    have hua : u = T.1 := by omega
    subst hua
    refine ⟨M', v, ?_, h, oFr_rf⟩
    have hT : M' 31 0 0 = nI T.1 := h.1
    rw [e_X6_takesAll_27, m_tiers, zcI_ok, show (M', ρ).1 = M' from rfl, hT, if_neg (nI_nlt (Nat.le_refl _) (by omega))]
    simp [zsum]
  | succ d ih =>
    intro u M' g v hd h
    have h6 : T.1 ≤ 6 := h.2.1
    have hun : u < T.1 := by omega
    have hE : sEq T (sT1 T a x y u) := sT1_eq
    have hT : M' 31 0 0 = nI T.1 := h.1
    have hr := h.2.2 u hun
    have hs : g + zsum (nT1 T a x y) u (d + 1) = (g + nT1 T a x y u) + zsum (nT1 T a x y) (u + 1) d := by
      simp only [zsum, Int32.add_assoc]
    rw [hs, e_X6_takesAll_27, m_tiers, zcI_ok, show (M', ρ).1 = M' from rfl, hT, if_pos (nI_lt hun (by omega)), m_isBelow (σ := (M', ρ)) h (sEq_wp hE hw) hun ha, zcI_ok, show pBelow (sT1 T a x y u) u a = pBelow T u a from propext (sEq_below hE 6 u), m_kind (σ := (M', ρ)) hr (by omega), zcI_ok, (hE.2 u).2.1, nI_1]
    by_cases hc : pT1 T a u
    · obtain ⟨ca, cb, ck⟩ := hc
      have hn : nT1 T a x y u = (kF T x y u).2 := @if_pos _ (Classical.propDecidable _) ⟨ca, cb, ck⟩ _ _ _
      rw [sT1_u ca] at hr
      obtain ⟨M1, e1, e2, e3⟩ := m_clears (i := i) (ρ := ρ) hr (by omega) x y
      have hS := mSheet_up h hun e2 e3
      have hS' : mSheet M1 31 (sT1 T a x y (u + 1)) := by
        unfold sT1 at hS ⊢
        rw [← sMapK_s (T := sT0 T a x y) (c := pT1 T a) (f := fun v => (kF T x y v).1) hun ⟨ca, cb, ck⟩]
        exact hS
      obtain ⟨M2, v2, f1, f2, f3⟩ := ih (u + 1) M1 (g + (kF T x y u).2) v (by omega) hS'
      refine ⟨M2, v2, ?_, f2, oFr_tr (mFr_o e3) f3⟩
      rw [zb_t cb, if_neg (by decide), if_neg ck, e1, zcI_ok, hn]
      exact f1
    · have hn : nT1 T a x y u = 0 := @if_neg _ (Classical.propDecidable _) hc _ _ _
      have hS' : mSheet M' 31 (sT1 T a x y (u + 1)) := by
        unfold sT1 at h ⊢
        rw [← sMapK_i (T := sT0 T a x y) (c := pT1 T a) (f := fun v => (kF T x y v).1) (fun q => (hc q).elim)]
        exact h
      obtain ⟨M2, v2, f1, f2, f3⟩ := ih (u + 1) M' g v (by omega) hS'
      refine ⟨M2, v2, ?_, f2, f3⟩
      rw [hn, show g + 0 = g by simp, ← f1]
      by_cases cb : pBelow T u a
      · have ca : u ≠ a := by
          have := zbelow_lt hw h6 6 u hun cb
          omega
        rw [zb_t cb, if_neg (by decide), if_pos (Classical.byContradiction (fun e => hc ⟨ca, cb, e⟩))]
      · rw [zb_f cb, if_pos rfl]
theorem m_lost_in {S : zSheet} (hw : zwp S) {u : Nat} (hu : u < S.1) (hp : ¬ rpr (S.2 u) = -1) (x1 x2 x3 x4 : Int32) : ∀ m r g M', m ≤ rct r → rpr r = rpr (S.2 u) → mSheet M' 31 (sUp S u r) → ∃ M'' v, zX zP zK_X6_takesAll (121, [zR 16 i, zI x1, zI x2, zI x3, zI x4, zI g, zI (nI u), zI (nI m - 1)], []) (M', ρ) = zX zP zK_X6_takesAll (79, [zR 16 i, zI x1, zI x2, zI x3, zI x4, zI (tRP (fun f _ => pAround (S.2 (zpt S u)) f f = -1) m r g).2, zI (nI (u + 1)), v], []) (M'', ρ) ∧ mSheet M'' 31 (sUp S u (tRP (fun f _ => pAround (S.2 (zpt S u)) f f = -1) m r g).1) ∧ mFr M' M'' u := by
  intro m
  induction m with
  | zero =>
    intro r g M' hm hpr h
    refine ⟨M', zI (nI 0 - 1), ?_, h, mFr_rf⟩
    rw [e_X6_takesAll_121, if_pos (by rw [nI_0]; decide), nI_1]
    rfl
  | succ m ih =>
    intro r g M' hm hpr h
    have h6 : S.1 ≤ 6 := h.2.1
    have hr := h.2.2 u hu
    rw [sUp_eq] at hr
    have hn := hr.2.2.2.2.1
    obtain ⟨p1, p2⟩ := zwp_par hw hu h6 hp
    have hrp := h.2.2 (zpt S u) (show zpt S u < S.1 by omega)
    rw [sUp_ne (show zpt S u ≠ u by omega)] at hrp
    rw [e_X6_takesAll_121, nI_pred, if_neg (nI_pos (by omega)), show nI m + (-1) = nI m - 1 from by rw [Int32.sub_eq_add_neg], m_parent (σ := (M', ρ)) hr (by omega), zcI_ok, m_from (σ := (M', ρ)) hr (by omega) (by omega), zcI_ok, m_from (σ := (M', ρ)) hr (by omega) (by omega), zcI_ok, hpr, p2, m_aroundP (σ := (M', ρ)) hrp (by omega), zcI_ok]
    by_cases c : pAround (S.2 (zpt S u)) (rfr r m) (rfr r m) = -1
    · obtain ⟨M1, e1, e2, e3⟩ := m_removes (i := i) (ρ := ρ) hr (by omega) (m := m) (by omega)
      have hS := mSheet_up h hu e2 e3
      have hss : sUp (sUp S u r) u (tRem r m) = sUp S u (tRem r m) := by
        refine Prod.ext rfl (funext fun w => ?_)
        by_cases w1 : w = u
        · rw [w1]; exact sUp_eq.trans sUp_eq.symm
        · exact (sUp_ne w1).trans ((sUp_ne w1).trans (sUp_ne w1).symm)
      rw [hss] at hS
      obtain ⟨M2, v, q1, q2, q3⟩ := ih (tRem r m) (g + 1) M1 (by show m ≤ rct r - 1; omega) hpr hS
      rw [tRP_t (P := fun f _ => pAround (S.2 (zpt S u)) f f = -1) c, if_pos c, e1, zcV_ok]
      exact ⟨M2, v, q1, q2, mFr_tr e3 q3⟩
    · rw [tRP_f (P := fun f _ => pAround (S.2 (zpt S u)) f f = -1) c, if_neg c]
      exact ih r g M' (by omega) hpr h
theorem m_t2_loop (hw : zwp T) (hq : zwq T) (hpt : ∀ v, v < T.1 → rkd (T.2 v) = 3 → ∀ k, k < rct (T.2 v) → rto (T.2 v) k = rfr (T.2 v) k) (ha : a < T.1) (k : Int32) : ∀ d u M' g v, u + d = T.1 → mSheet M' 31 (sT2 T a x y u) → ∃ M'', zX zP zK_X6_takesAll (79, [zR 16 i, zI (nI a), zI k, zI x, zI y, zI g, zI (nI u), v], []) (M', ρ) = zok ((g + zsum (nT2 T a x y) u d) + 1) (M'', ρ) ∧ mSheet M'' 31 (sT2 T a x y T.1) ∧ oFr M' M'' := by
  intro d
  induction d with
  | zero =>
    intro u M' g v hd h
    have h6 : T.1 ≤ 6 := h.2.1
    have hua : u = T.1 := by omega
    subst hua
    refine ⟨M', ?_, h, oFr_rf⟩
    have hT : M' 31 0 0 = nI T.1 := h.1
    rw [e_X6_takesAll_79, m_tiers, zcI_ok, show (M', ρ).1 = M' from rfl, hT, if_neg (nI_nlt (Nat.le_refl _) (by omega))]
    simp [zsum]
  | succ d ih =>
    intro u M' g v hd h
    have h6 : T.1 ≤ 6 := h.2.1
    have hun : u < T.1 := by omega
    have hE : sEq T (sT2 T a x y u) := sT2_eq
    have hT : M' 31 0 0 = nI T.1 := h.1
    have hr := h.2.2 u hun
    have hs : g + zsum (nT2 T a x y) u (d + 1) = (g + nT2 T a x y u) + zsum (nT2 T a x y) (u + 1) d := by
      simp only [zsum, Int32.add_assoc]
    rw [hs, e_X6_takesAll_79, m_tiers, zcI_ok, show (M', ρ).1 = M' from rfl, hT, if_pos (nI_lt hun (by omega)), m_isBelow (σ := (M', ρ)) h (sEq_wp hE hw) hun ha, zcI_ok, show pBelow (sT2 T a x y u) u a = pBelow T u a from propext (sEq_below hE 6 u), m_kind (σ := (M', ρ)) hr (by omega), zcI_ok, (hE.2 u).2.1, nI_1]
    by_cases hc : pT2 T a u
    · obtain ⟨ca, cb, ck⟩ := hc
      have hn : nT2 T a x y u = (kG T a x y u).2 := @if_pos _ (Classical.propDecidable _) ⟨ca, cb, ck⟩ _ _ _
      have hpr := zbelow_pr cb
      obtain ⟨p1, p2⟩ := zwp_par hw hun h6 hpr
      have hpk := hq u hun hpr
      have htu : (sT2 T a x y u).2 u = T.2 u := by
        refine sMapK_u.trans ((sMapK_f (fun e => ?_)).trans (sUp_ne ca))
        exact e.2.2.2.2 ck
      have hz : zpt (sT2 T a x y u) u = zpt T u := by
        unfold zpt
        rw [(hE.2 u).2.2]
      have hpar : (sT2 T a x y u).2 (zpt T u) = kP T a x y (zpt T u) := by
        refine (sMapK_f (fun e => hpk e.2.2.2.2)).trans ?_
        unfold kP
        by_cases c : zpt T u = a ∨ pBelow T (zpt T u) a
        · rw [@if_pos _ (Classical.propDecidable _) c]
          by_cases e : zpt T u = a
          · rw [e]
            exact (sMapK_f (fun q => q.2.2.1 rfl)).trans sUp_eq
          · exact sMapK_t ⟨by omega, show zpt T u < T.1 by omega, e, c.resolve_left e, hpk⟩
        · rw [@if_neg _ (Classical.propDecidable _) c]
          exact (sMapK_f (fun q => c (Or.inr q.2.2.2.1))).trans (sUp_ne (fun e => c (Or.inl e)))
      rw [htu] at hr
      have hL := m_lost_in (i := i) (ρ := ρ) (S := sT2 T a x y u) (sEq_wp hE hw) hun (by rw [(hE.2 u).2.2]; exact hpr) (nI a) k x y (rct (T.2 u)) (T.2 u) g M' (Nat.le_refl _) (by rw [htu]) (by rw [← htu, sUp_self]; exact h)
      rw [hz, hpar] at hL
      have hG : tRP (fun f _ => pAround (kP T a x y (zpt T u)) f f = -1) (rct (T.2 u)) (T.2 u) g = ((kG T a x y u).1, g + (kG T a x y u).2) := by
        rw [tRP_congr (Q := fun f t => pAround (kP T a x y (zpt T u)) f t = -1) _ _ _ (fun j hj => by rw [hpt u hun ck j hj]), tRP_acc]
        rfl
      rw [hG] at hL
      obtain ⟨M1, v1, e1, e2, e3⟩ := hL
      have hS' : mSheet M1 31 (sT2 T a x y (u + 1)) := by
        unfold sT2 at e2 ⊢
        rw [← sMapK_s (T := sT1 T a x y T.1) (c := pT2 T a) (f := fun v => (kG T a x y v).1) hun ⟨ca, cb, ck⟩]
        exact e2
      obtain ⟨M2, f1, f2, f3⟩ := ih (u + 1) M1 (g + (kG T a x y u).2) v1 (by omega) hS'
      refine ⟨M2, ?_, f2, oFr_tr (mFr_o e3) f3⟩
      rw [zb_t cb, if_neg (by decide), if_pos ck, m_many (σ := (M', ρ)) hr (by omega), zcI_ok, e1, hn]
      exact f1
    · have hn : nT2 T a x y u = 0 := @if_neg _ (Classical.propDecidable _) hc _ _ _
      have hS' : mSheet M' 31 (sT2 T a x y (u + 1)) := by
        unfold sT2 at h ⊢
        rw [← sMapK_i (T := sT1 T a x y T.1) (c := pT2 T a) (f := fun v => (kG T a x y v).1) (fun q => (hc q).elim)]
        exact h
      obtain ⟨M2, f1, f2, f3⟩ := ih (u + 1) M' g v (by omega) hS'
      refine ⟨M2, ?_, f2, f3⟩
      rw [hn, show g + 0 = g by simp, ← f1]
      by_cases cb : pBelow T u a
      · have ca : u ≠ a := by
          have := zbelow_lt hw h6 6 u hun cb
          omega
        rw [zb_t cb, if_neg (by decide), if_neg (fun e => hc ⟨ca, cb, e⟩)]
      · rw [zb_f cb, if_pos rfl]
theorem sT2_end (hw : zwp T) (h6 : T.1 ≤ 6) (ha : a < T.1) : sT2 T a x y T.1 = sTk T a x y := by
  refine Prod.ext rfl (funext fun v => ?_)
  have hS1 : (sT1 T a x y T.1).1 = T.1 := rfl
  by_cases hv : v < T.1 ∧ (v = a ∨ pBelow T v a)
  · refine Eq.trans ?_ (sMapK_t (T := T) (c := fun v => v = a ∨ pBelow T v a) (f := fun v => (kH T a x y v).1) ⟨hv.1, hv.1, hv.2⟩).symm
    by_cases e : v = a
    · rw [show kH T a x y v = kF T x y v from if_neg (fun q => q.1 e), e]
      exact (sMapK_f (fun q => q.2.2.1 rfl)).trans ((sMapK_f (fun q => q.2.2.1 rfl)).trans sUp_eq)
    · have hb := hv.2.resolve_left e
      by_cases ck : rkd (T.2 v) = 3
      · rw [show kH T a x y v = kG T a x y v from if_pos ⟨e, ck⟩]
        exact sMapK_t ⟨hv.1, hv.1, e, hb, ck⟩
      · rw [show kH T a x y v = kF T x y v from if_neg (fun q => ck q.2)]
        exact (sMapK_f (fun q => ck q.2.2.2.2)).trans (sMapK_t ⟨hv.1, hv.1, e, hb, ck⟩)
  · refine Eq.trans ?_ (sMapK_f (T := T) (fun q => hv ⟨q.1, q.2.2⟩)).symm
    refine (sMapK_f (fun q => hv ⟨q.1, Or.inr q.2.2.2.1⟩)).trans ((sMapK_f (fun q => hv ⟨q.1, Or.inr q.2.2.2.1⟩)).trans (sUp_ne (fun e => hv ⟨by omega, Or.inl e⟩)))
theorem m_takesAll (h : mSheet M 31 T) (hw : zwp T) (hq : zwq T) (hpt : ∀ v, v < T.1 → rkd (T.2 v) = 3 → ∀ k, k < rct (T.2 v) → rto (T.2 v) k = rfr (T.2 v) k) (ha : a < T.1) {k : Nat} (hk : k < rct (T.2 a)) (hone : kF T (rfr (T.2 a) k) (rto (T.2 a) k) a = (tRem (T.2 a) k, 1)) : ∃ M', zrun zP 196 [zR 16 i, zI (nI a), zI (nI k)] (M, ρ) = zok ((kF T (rfr (T.2 a) k) (rto (T.2 a) k) a).2 + zsum (nTk T a (rfr (T.2 a) k) (rto (T.2 a) k)) (a + 1) (T.1 - (a + 1))) (M', ρ) ∧ mSheet M' 31 (sTk T a (rfr (T.2 a) k) (rto (T.2 a) k)) ∧ oFr M M' := by
  have h6 := h.2.1
  have hr := h.2.2 a ha
  obtain ⟨M1, e1, e2, e3⟩ := m_removes (i := i) (ρ := ρ) hr (by omega) hk
  have hS := mSheet_up h ha e2 e3
  rw [e_X6_takesAll, m_from (σ := (M, ρ)) hr (by omega) hk, zcI_ok, m_to (σ := (M, ρ)) hr (by omega) hk, zcI_ok, e1, zcV_ok]
  generalize hx : rfr (T.2 a) k = x at *
  generalize hy : rto (T.2 a) k = y at *
  have hS1 : mSheet M1 31 (sT1 T a x y 0) := by
    unfold sT1
    rw [sMapK_0 (fun v h1 => by omega)]
    unfold sT0
    rw [hone]
    exact hS
  obtain ⟨M2, v2, f1, f2, f3⟩ := m_t1_loop (i := i) (ρ := ρ) (x := x) (y := y) hw ha (nI k) T.1 0 M1 0 zJunk (by omega) hS1
  rw [nI_0] at f1
  have hS2 : mSheet M2 31 (sT2 T a x y 0) := by
    unfold sT2
    rw [sMapK_0 (fun v h1 => by omega)]
    exact f2
  obtain ⟨M3, g1, g2, g3⟩ := m_t2_loop (i := i) (ρ := ρ) (x := x) (y := y) hw hq hpt ha (nI k) T.1 0 M2 (0 + zsum (nT1 T a x y) 0 T.1) v2 (by omega) hS2
  rw [nI_0] at g1
  rw [sT2_end hw h6 ha] at g2
  refine ⟨M3, ?_, g2, oFr_tr (mFr_o e3) (oFr_tr f3 g3)⟩
  rw [f1, g1, hone]
  have hlow : ∀ j, j < a + 1 → ¬ pBelow T j a := fun j hj q => by
    have := zbelow_lt hw h6 6 j (by omega) q
    omega
  have z1 : zsum (nT1 T a x y) 0 T.1 = zsum (nT1 T a x y) (a + 1) (T.1 - (a + 1)) := by
    have hh := zsum_split (f := nT1 T a x y) (a + 1) 0 (T.1 - (a + 1))
    rw [show a + 1 + (T.1 - (a + 1)) = T.1 by omega, zsum_zero (f := nT1 T a x y) (a + 1) 0 (fun j h1 h2 => @if_neg _ (Classical.propDecidable _) (fun q : pT1 T a j => hlow j (by omega) q.2.1) _ _ _), show 0 + (a + 1) = a + 1 by omega] at hh
    rw [hh]; simp
  have z2 : zsum (nT2 T a x y) 0 T.1 = zsum (nT2 T a x y) (a + 1) (T.1 - (a + 1)) := by
    have hh := zsum_split (f := nT2 T a x y) (a + 1) 0 (T.1 - (a + 1))
    rw [show a + 1 + (T.1 - (a + 1)) = T.1 by omega, zsum_zero (f := nT2 T a x y) (a + 1) 0 (fun j h1 h2 => @if_neg _ (Classical.propDecidable _) (fun q : pT2 T a j => hlow j (by omega) q.2.1) _ _ _), show 0 + (a + 1) = a + 1 by omega] at hh
    rw [hh]; simp
  have z3 : zsum (nTk T a x y) (a + 1) (T.1 - (a + 1)) = zsum (fun v => nT1 T a x y v + nT2 T a x y v) (a + 1) (T.1 - (a + 1)) := by
    refine zsum_congr _ _ (fun j h1 h2 => ?_)
    have hja : j ≠ a := by omega
    unfold nTk nT1 nT2
    by_cases cb : pBelow T j a
    · rw [@if_pos _ (Classical.propDecidable _) cb]
      by_cases ck : rkd (T.2 j) = 3
      · rw [@if_neg _ (Classical.propDecidable _) (fun q : pT1 T a j => q.2.2 ck), @if_pos _ (Classical.propDecidable _) (show pT2 T a j from ⟨hja, cb, ck⟩), show kH T a x y j = kG T a x y j from if_pos ⟨hja, ck⟩]
        simp
      · rw [@if_pos _ (Classical.propDecidable _) (show pT1 T a j from ⟨hja, cb, ck⟩), @if_neg _ (Classical.propDecidable _) (fun q : pT2 T a j => ck q.2.2), show kH T a x y j = kF T x y j from if_neg (fun q => ck q.2)]
        simp
    · rw [@if_neg _ (Classical.propDecidable _) cb, @if_neg _ (Classical.propDecidable _) (fun q : pT1 T a j => cb q.2.1), @if_neg _ (Classical.propDecidable _) (fun q : pT2 T a j => cb q.2.1)]
      simp
  rw [z1, z2, z3, zsum_add]
  simp only [Int32.zero_add, Int32.add_comm]
end ZMT
