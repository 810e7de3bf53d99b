/-! a mark is cut, with its pieces -/
/-- the tiers before u that are chosen are changed -/
noncomputable def sMapK (T : zSheet) (u : Nat) (c : Nat → Prop) (f : Nat → zTier) : zSheet := (T.1, fun v => @ite _ (v < u ∧ v < T.1 ∧ c v) (Classical.propDecidable _) (f v) (T.2 v))
section ZMK
variable {T : zSheet} {u v : Nat} {c : Nat → Prop} {f : Nat → zTier}
theorem sMapK_t (h : v < u ∧ v < T.1 ∧ c v) : (sMapK T u c f).2 v = f v := @if_pos _ (Classical.propDecidable _) h _ _ _
theorem sMapK_f (h : ¬ (v < u ∧ v < T.1 ∧ c v)) : (sMapK T u c f).2 v = T.2 v := @if_neg _ (Classical.propDecidable _) h _ _ _
theorem sMapK_u : (sMapK T u c f).2 u = T.2 u := sMapK_f (fun e => by omega)
theorem sMapK_eq (hf : ∀ v, rnm (f v) = rnm (T.2 v) ∧ rkd (f v) = rkd (T.2 v) ∧ rpr (f v) = rpr (T.2 v)) : sEq T (sMapK T u c f) := by
  refine ⟨rfl, fun v => ?_⟩
  by_cases h : v < u ∧ v < T.1 ∧ c v
  · rw [sMapK_t h]; exact hf v
  · rw [sMapK_f h]; exact ⟨rfl, rfl, rfl⟩
theorem sMapK_0 (h : ∀ v, v < u → v < T.1 → ¬ c v) : sMapK T u c f = T := by
  refine Prod.ext rfl (funext fun v => ?_)
  exact sMapK_f (fun e => h v e.1 e.2.1 e.2.2)
theorem sMapK_s (hu : u < T.1) (hc : c u) : sUp (sMapK T u c f) u (f u) = sMapK T (u + 1) c f := by
  refine Prod.ext rfl (funext fun v => ?_)
  by_cases e : v = u
  · rw [e]
    exact sUp_eq.trans (sMapK_t ⟨by omega, hu, hc⟩).symm
  · refine (sUp_ne e).trans ?_
    by_cases h : v < u ∧ v < T.1 ∧ c v
    · rw [sMapK_t h, sMapK_t ⟨by omega, h.2⟩]
    · rw [sMapK_f h, sMapK_f (fun q => h ⟨by omega, q.2⟩)]
theorem sMapK_i (hi : c u → f u = T.2 u) : sMapK T u c f = sMapK T (u + 1) c f := by
  refine Prod.ext rfl (funext fun v => ?_)
  by_cases h : v < u ∧ v < T.1 ∧ c v
  · rw [sMapK_t h, sMapK_t ⟨by omega, h.2⟩]
  · by_cases e : v < u + 1 ∧ v < T.1 ∧ c v
    · have hv : v = u := by
        rcases Nat.lt_or_ge v u with q | q
        · exact (h ⟨q, e.2⟩).elim
        · omega
      rw [sMapK_f h, sMapK_t e, hv, hi (hv ▸ e.2.2)]
    · rw [sMapK_f h, sMapK_f e]
end ZMK
theorem zsum_split {f : Nat → Int32} : ∀ d k e, zsum f k (d + e) = zsum f k d + zsum f (k + d) e := by
  intro d
  induction d with
  | zero => intro k e; simp [zsum]
  | succ d ih =>
    intro k e
    rw [show d + 1 + e = (d + e) + 1 by omega]
    simp only [zsum]
    rw [ih, Int32.add_assoc, show k + 1 + d = k + (d + 1) by omega]
theorem zsum_zero {f : Nat → Int32} : ∀ d k, (∀ j, k ≤ j → j < k + d → f j = 0) → zsum f k d = 0 := by
  intro d
  induction d with
  | zero => intro k _; rfl
  | succ d ih =>
    intro k h
    simp only [zsum]
    rw [h k (Nat.le_refl _) (by omega), ih (k + 1) (fun j h1 h2 => h j (by omega) (by omega))]
    rfl
/-- the mark that has x inside it -/
noncomputable def pIn (r : zTier) (x : Int32) : Int32 := zfI (fun k => rfr r k < x ∧ x < rto r k) (rct r)
noncomputable def tCutAt (r : zTier) (x : Int32) : zTier := match zfst (fun k => rfr r k < x ∧ x < rto r k) 0 (rct r) with
  | some m => tCut r m x
  | none => r
theorem in_cases (r : zTier) (x : Int32) (hn : rct r ≤ 40) : (pIn r x = -1 ∧ tCutAt r x = r) ∨ ∃ m, m < rct r ∧ pIn r x = nI m ∧ ¬ pIn r x = -1 ∧ tCutAt r x = tCut r m x := by
  unfold pIn tCutAt zfI
  cases hz : zfst (fun k => rfr r k < x ∧ x < rto r k) 0 (rct r) with
  | none => exact Or.inl ⟨rfl, rfl⟩
  | some m =>
    obtain ⟨-, g2, -, -⟩ := (zfst_spec _ _ m).mp hz
    exact Or.inr ⟨m, by omega, rfl, nI_m1 m (by omega), rfl⟩
theorem tCutAt_3 (r : zTier) (x : Int32) : rnm (tCutAt r x) = rnm r ∧ rkd (tCutAt r x) = rkd r ∧ rpr (tCutAt r x) = rpr r := by
  unfold tCutAt
  cases zfst (fun k => rfr r k < x ∧ x < rto r k) 0 (rct r) with
  | none => exact ⟨rfl, rfl, rfl⟩
  | some m => exact ⟨rfl, rfl, rfl⟩
/-- the tiers that a cut of a reaches -/
def pCutC (T : zSheet) (a t : Nat) : Prop := t = a ∨ (rkd (T.2 t) = 1 ∧ pBelow T t a)
theorem pCutW_iff {T : zSheet} {t a : Nat} {x : Int32} : pCutW T t a x ↔ pCutC T a t ∧ ¬ pIn (T.2 t) x = -1 := Iff.rfl
noncomputable def sCut (T : zSheet) (a : Nat) (x : Int32) : zSheet := sMapK T T.1 (pCutC T a) (fun v => tCutAt (T.2 v) x)
noncomputable def pCuts (T : zSheet) (a : Nat) (x : Int32) : Int32 := zsum (fun t => zb (pCutW T t a x)) a (T.1 - a)
def pRoomC (T : zSheet) (a : Nat) (x : Int32) : Prop := ∀ t, t < T.1 → pCutW T t a x → rct (T.2 t) < 40
section ZCU
variable {s i : Nat} {T : zSheet} {M : zMem} {ρ : Int64 × Nat} {σ : zSt}
theorem s_cut_loop (hw : zwp T) {a : Nat} (ha : a < T.1) (x : Int32) (hroom : pRoomC T a x) : ∀ d u M' g, u + d = T.1 → cSheet M' s (sMapK T u (pCutC T a) (fun v => tCutAt (T.2 v) x)) → ∃ M'', zX zP zK_X3_cutAt (5, [zR 13 s, zI (nI a), zI x, zI g, zI (nI u)], []) (M', ρ) = zok (g + zsum (fun t => zb (pCutW T t a x)) u d) (M'', ρ) ∧ cSheet M'' s (sCut T a x) ∧ sFr M' M'' s := by
  intro d
  induction d with
  | zero =>
    intro u M' g hd h
    have h6 : T.1 ≤ 6 := h.2.1
    have hua : u = T.1 := by omega
    subst hua
    refine ⟨M', ?_, h, sFr_rf⟩
    have hT : M' 13 s 0 = nI T.1 := h.1
    rw [e_X3_cutAt_5, show (M', ρ).1 = M' from rfl, hT, if_neg (nI_nlt (Nat.le_refl _) (by omega))]
    simp [zsum]
  | succ d ih =>
    intro u M' g hd h
    have h6 : T.1 ≤ 6 := h.2.1
    have hun : u < T.1 := by omega
    obtain ⟨q1, q2, q3⟩ := s_in (σ := (M', ρ)) h (t := u) hun
    have hE : sEq T (sMapK T u (pCutC T a) (fun v => tCutAt (T.2 v) x)) := sMapK_eq (fun v => tCutAt_3 _ _)
    have hw' := sEq_wp hE hw
    have hT : M' 13 s 0 = nI T.1 := h.1
    have hr := (h.2.2 u hun).1
    rw [sMapK_u] at hr
    have hc : pCutW (sMapK T u (pCutC T a) (fun v => tCutAt (T.2 v) x)) u a x ↔ pCutW T u a x := by
      unfold pCutW
      rw [sMapK_u, show pBelow (sMapK T u (pCutC T a) (fun v => tCutAt (T.2 v) x)) u a = pBelow T u a from propext (sEq_below hE 6 u)]
    rw [e_X3_cutAt_5, show (M', ρ).1 = M' from rfl, hT, if_pos (nI_lt hun (by omega)), s_isCutWith (σ := (M', ρ)) h hw' hun ha, zcI_ok, nI_1]
    simp only [q2, q1, if_false]
    rw [zb_congr hc]
    have hs : g + zsum (fun t => zb (pCutW T t a x)) u (d + 1) = (g + zb (pCutW T u a x)) + zsum (fun t => zb (pCutW T t a x)) (u + 1) d := by
      simp only [zsum, Int32.add_assoc]
    rw [hs]
    by_cases hp : pCutW T u a x
    · obtain ⟨hp1, hp2⟩ := pCutW_iff.mp hp
      rcases in_cases (T.2 u) x hr.2.2.2.2.1 with ⟨k1, -⟩ | ⟨m, k1, k2, -, k3⟩
      · exact (hp2 k1).elim
      obtain ⟨M1, e1, e2, e3⟩ := r_cutMark (ρ := ρ) hr k1 (hroom u hun hp) x
      rw [← k3] at e2
      have hS := cSheet_up h hun e2 e3 (by rw [sMapK_u]; exact (tCutAt_3 _ _).2.2)
      rw [sMapK_s (f := fun v => tCutAt (T.2 v) x) hun hp1] at hS
      obtain ⟨M2, f1, f2, f3⟩ := ih (u + 1) M1 (g + 1) (by omega) hS
      refine ⟨M2, ?_, f2, sFr_tr (rowFr_s (by omega) e3) f3⟩
      rw [zb_t hp, if_neg (by decide), r_markInside (σ := (M', ρ)) hr x, zcI_ok, show zfI (fun k => rfr (T.2 u) k < x ∧ x < rto (T.2 u) k) (rct (T.2 u)) = nI m from k2, e1, zcV_ok]
      exact f1
    · have hi : pCutC T a u → tCutAt (T.2 u) x = T.2 u := fun q => by
        rcases in_cases (T.2 u) x hr.2.2.2.2.1 with ⟨-, k1⟩ | ⟨m, -, -, k2, -⟩
        · exact k1
        · exact (hp (pCutW_iff.mpr ⟨q, k2⟩)).elim
      rw [sMapK_i (f := fun v => tCutAt (T.2 v) x) hi] at h
      obtain ⟨M2, f1, f2, f3⟩ := ih (u + 1) M' g (by omega) h
      refine ⟨M2, ?_, f2, f3⟩
      rw [zb_f hp, if_pos rfl, f1]
      simp
theorem s_cutAt (h : cSheet M s T) (hw : zwp T) {a : Nat} (ha : a < T.1) (x : Int32) (hroom : pRoomC T a x) : ∃ M', zrun zP 74 [zR 13 s, zI (nI a), zI x] (M, ρ) = zok (pCuts T a x) (M', ρ) ∧ cSheet M' s (sCut T a x) ∧ sFr M M' s := by
  have h6 := h.2.1
  have h0 : cSheet M s (sMapK T a (pCutC T a) (fun v => tCutAt (T.2 v) x)) := by
    rw [sMapK_0 (fun v h1 h2 h3 => ?_)]
    · exact h
    · rcases h3 with h3 | h3
      · omega
      · have := zbelow_lt hw h6 6 v h2 h3.2
        omega
  obtain ⟨M', e1, e2, e3⟩ := s_cut_loop (ρ := ρ) hw ha x hroom (T.1 - a) a M 0 (by omega) h0
  refine ⟨M', ?_, e2, e3⟩
  rw [e_X3_cutAt, e1]
  unfold pCuts
  simp
theorem m_splitsOne {t : Nat} {r : zTier} (h : mRow M 31 t r) (ht : t < 6) (x : Int32) (hroom : ¬ pIn r x = -1 → rct r < 40) : ∃ M', zrun zP 164 [zR 16 i, zI (nI t), zI x] (M, ρ) = zok (zb (¬ pIn r x = -1)) (M', ρ) ∧ mRow M' 31 t (tCutAt r x) ∧ mFr M M' t := by
  rw [e_X6_splitsOne, m_markWith (σ := (M, ρ)) h ht, zcI_ok]
  rcases in_cases r x h.2.2.2.2.1 with ⟨k1, k2⟩ | ⟨m, k1, k2, k3, k4⟩
  · refine ⟨M, ?_, by rw [k2]; exact h, mFr_rf⟩
    rw [show zfI (fun k => rfr r k < x ∧ x < rto r k) (rct r) = -1 from k1, if_pos rfl, zb_f (fun e => e k1)]
  · have hn := h.2.2.2.2.1
    have h1 := ms_to (m := m) h x
    have h2 : mFr M (zms M 31 0 (6 + 124 * t + 3 * m) x) t := mse_fr (c := 1) (by omega) (by omega)
    obtain ⟨M1, e1, e2, e3⟩ := m_inserts (i := i) (ρ := ρ) h1 ht (show rct (tTo r m x) < 40 from hroom k3) x (rto r m) (rlb r m)
    refine ⟨M1, ?_, by rw [k4]; exact e2, mFr_tr h2 e3⟩
    obtain ⟨-, c2⟩ := m_rd (q := 6 + 124 * t + 3 * m) (by omega)
    have c1 := nIk (k := 6 + 124 * t + 3 * m) (N := 745) (by omega) (by omega)
    rw [show zfI (fun k => rfr r k < x ∧ x < rto r k) (rct r) = nI m from k2, if_neg (nI_m1 m (by omega)), m_to (σ := (M, ρ)) h ht k1, zcI_ok, m_cell1, zcI_ok]
    simp only [c1, c2, if_false]
    rw [m_labelOf (σ := (zms M 31 0 (6 + 124 * t + 3 * m) x, ρ)) h1 ht (show m < rct (tTo r m x) from k1), zcI_ok, show rlb (tTo r m x) m = rlb r m from rfl, e1, zcI_ok, zb_t k3]
theorem m_split_loop (hw : zwp T) {a : Nat} (ha : a < T.1) (x : Int32) (hroom : pRoomC T a x) : ∀ d u M' g, u + d = T.1 → mSheet M' 31 (sUp (sMapK T u (pCutC T a) (fun v => tCutAt (T.2 v) x)) a (tCutAt (T.2 a) x)) → ∃ M'', zX zP zK_X6_splits (10, [zR 16 i, zI (nI a), zI x, zI g, zI (nI u)], []) (M', ρ) = zok (g + zsum (fun t => zb (t ≠ a ∧ pCutW T t a x)) u d) (M'', ρ) ∧ mSheet M'' 31 (sCut T a x) ∧ oFr M' M'' := by
  intro d
  induction d with
  | zero =>
    intro u M' g hd h
    have h6 : T.1 ≤ 6 := h.2.1
    have hua : u = T.1 := by omega
    subst hua
    refine ⟨M', ?_, ?_, oFr_rf⟩
    · have hT : M' 31 0 0 = nI T.1 := h.1
      rw [e_X6_splits_10, m_tiers, zcI_ok, show (M', ρ).1 = M' from rfl, hT, if_neg (nI_nlt (Nat.le_refl _) (by omega))]
      simp [zsum]
    · have : sUp (sMapK T T.1 (pCutC T a) (fun v => tCutAt (T.2 v) x)) a (tCutAt (T.2 a) x) = sCut T a x := by
        refine Prod.ext rfl (funext fun v => ?_)
        by_cases e : v = a
        · rw [e]; exact sUp_eq.trans (sMapK_t (f := fun v => tCutAt (T.2 v) x) ⟨ha, ha, Or.inl rfl⟩).symm
        · exact sUp_ne e
      rw [this] at h
      exact h
  | succ d ih =>
    intro u M' g hd h
    have h6 : T.1 ≤ 6 := h.2.1
    have hun : u < T.1 := by omega
    have hE : sEq T (sUp (sMapK T u (pCutC T a) (fun v => tCutAt (T.2 v) x)) a (tCutAt (T.2 a) x)) := sEq_up (sMapK_eq (fun v => tCutAt_3 _ _)) (tCutAt_3 _ _).1 (tCutAt_3 _ _).2.1 (tCutAt_3 _ _).2.2
    have hT : M' 31 0 0 = nI T.1 := h.1
    have hr := h.2.2 u hun
    have hs : g + zsum (fun t => zb (t ≠ a ∧ pCutW T t a x)) u (d + 1) = (g + zb (u ≠ a ∧ pCutW T u a x)) + zsum (fun t => zb (t ≠ a ∧ pCutW T t a x)) (u + 1) d := by
      simp only [zsum, Int32.add_assoc]
    rw [hs, e_X6_splits_10, m_tiers, zcI_ok, show (M', ρ).1 = M' from rfl, hT, if_pos (nI_lt hun (by omega)), nI_1, m_kind (σ := (M', ρ)) hr (by omega), zcI_ok, (hE.2 u).2.1, m_isBelow (σ := (M', ρ)) h (sEq_wp hE hw) hun ha, zcI_ok, show pBelow (sUp (sMapK T u (pCutC T a) (fun v => tCutAt (T.2 v) x)) a (tCutAt (T.2 a) x)) u a = pBelow T u a from propext (sEq_below hE 6 u)]
    by_cases hc : u ≠ a ∧ pCutC T a u
    · obtain ⟨ca, cc⟩ := hc
      have cb : rkd (T.2 u) = 1 ∧ pBelow T u a := cc.resolve_left ca
      rw [if_pos cb.1, zb_t cb.2, if_neg (by decide)]
      have htu : (sUp (sMapK T u (pCutC T a) (fun v => tCutAt (T.2 v) x)) a (tCutAt (T.2 a) x)).2 u = T.2 u := (sUp_ne ca).trans sMapK_u
      rw [htu] at hr
      obtain ⟨M1, e1, e2, e3⟩ := m_splitsOne (i := i) (ρ := ρ) hr (by omega) x (fun q => hroom u hun ⟨cc, q⟩)
      have hS := mSheet_up h hun e2 e3
      have hcomm : sUp (sUp (sMapK T u (pCutC T a) (fun v => tCutAt (T.2 v) x)) a (tCutAt (T.2 a) x)) u (tCutAt (T.2 u) x) = sUp (sMapK T (u + 1) (pCutC T a) (fun v => tCutAt (T.2 v) x)) a (tCutAt (T.2 a) x) := by
        rw [← sMapK_s (f := fun v => tCutAt (T.2 v) x) hun cc]
        refine Prod.ext rfl (funext fun w => ?_)
        by_cases w1 : w = u
        · rw [w1]
          exact sUp_eq.trans ((sUp_ne ca).trans sUp_eq).symm
        · by_cases w2 : w = a
          · rw [w2]
            exact (sUp_ne (fun e => ca e.symm)).trans (sUp_eq.trans sUp_eq.symm)
          · exact (sUp_ne w1).trans ((sUp_ne w2).trans ((sUp_ne w2).trans (sUp_ne w1)).symm)
      rw [hcomm] at hS
      obtain ⟨M2, f1, f2, f3⟩ := ih (u + 1) M1 (g + zb (u ≠ a ∧ pCutW T u a x)) (by omega) hS
      refine ⟨M2, ?_, f2, oFr_tr (mFr_o e3) f3⟩
      rw [e1, zcI_ok, zb_congr (show (¬ pIn (T.2 u) x = -1) ↔ (u ≠ a ∧ pCutW T u a x) from ⟨fun q => ⟨ca, cc, q⟩, fun q => q.2.2⟩)]
      exact f1
    · have hi : sUp (sMapK T u (pCutC T a) (fun v => tCutAt (T.2 v) x)) a (tCutAt (T.2 a) x) = sUp (sMapK T (u + 1) (pCutC T a) (fun v => tCutAt (T.2 v) x)) a (tCutAt (T.2 a) x) := by
        by_cases e : u = a
        · refine Prod.ext rfl (funext fun w => ?_)
          by_cases w2 : w = a
          · rw [w2]; exact sUp_eq.trans sUp_eq.symm
          · refine (sUp_ne w2).trans (Eq.trans ?_ (sUp_ne w2).symm)
            by_cases q : w < u ∧ w < T.1 ∧ pCutC T a w
            · rw [sMapK_t q, sMapK_t ⟨by omega, q.2⟩]
            · rw [sMapK_f q, sMapK_f (fun z => q ⟨by omega, z.2⟩)]
        · rw [sMapK_i (u := u) (f := fun v => tCutAt (T.2 v) x) (fun q => (hc ⟨e, q⟩).elim)]
      rw [hi] at h
      obtain ⟨M2, f1, f2, f3⟩ := ih (u + 1) M' g (by omega) h
      refine ⟨M2, ?_, f2, f3⟩
      have hz : zb (u ≠ a ∧ pCutW T u a x) = 0 := zb_f (fun e => hc ⟨e.1, e.2.1⟩)
      rw [hz, show g + 0 = g by simp, ← f1]
      by_cases c1 : rkd (T.2 u) = 1
      · have c2 : ¬ pBelow T u a := fun q => hc ⟨fun e => by
          have := zbelow_lt hw h6 6 u hun q
          omega, Or.inr ⟨c1, q⟩⟩
        rw [if_pos c1, zb_f c2, if_pos rfl]
      · rw [if_neg c1]
theorem m_splits (h : mSheet M 31 T) (hw : zwp T) {a : Nat} (ha : a < T.1) (x : Int32) (hroom : pRoomC T a x) : ∃ M', zrun zP 165 [zR 16 i, zI (nI a), zI x] (M, ρ) = zok (pCuts T a x) (M', ρ) ∧ mSheet M' 31 (sCut T a x) ∧ oFr M M' := by
  have h6 := h.2.1
  obtain ⟨M1, e1, e2, e3⟩ := m_splitsOne (i := i) (ρ := ρ) (h.2.2 a ha) (by omega) x (fun q => hroom a ha ⟨Or.inl rfl, q⟩)
  have hS := mSheet_up h ha e2 e3
  have h0 : mSheet M1 31 (sUp (sMapK T 0 (pCutC T a) (fun v => tCutAt (T.2 v) x)) a (tCutAt (T.2 a) x)) := by
    rw [sMapK_0 (fun v h1 => by omega)]
    exact hS
  obtain ⟨M2, f1, f2, f3⟩ := m_split_loop (i := i) (ρ := ρ) hw ha x hroom T.1 0 M1 (zb (¬ pIn (T.2 a) x = -1)) (by omega) h0
  rw [nI_0] at f1
  refine ⟨M2, ?_, f2, oFr_tr (mFr_o e3) f3⟩
  rw [e_X6_splits, e1, zcI_ok, f1]
  have hq : zb (¬ pIn (T.2 a) x = -1) + zsum (fun t => zb (t ≠ a ∧ pCutW T t a x)) 0 T.1 = pCuts T a x := by
    unfold pCuts
    rw [show T.1 = (a + 1) + (T.1 - (a + 1)) by omega, zsum_split, zsum_zero (a + 1) 0 (fun j h1 h2 => zb_f (fun e => by
      rcases e.2.1 with q | q
      · exact e.1 q
      · have := zbelow_lt hw h6 6 j (by omega) q.2
        omega))]
    rw [show a + 1 + (T.1 - (a + 1)) - a = (T.1 - (a + 1)) + 1 by omega]
    simp only [zsum]
    rw [zb_congr (show (¬ pIn (T.2 a) x = -1) ↔ pCutW T a a x from ⟨fun q => ⟨Or.inl rfl, q⟩, fun q => q.2⟩), show 0 + (a + 1) = a + 1 by omega, zsum_congr (g := fun t => zb (pCutW T t a x)) _ _ (fun j h1 h2 => zb_congr ⟨fun q => q.2, fun q => ⟨by omega, q⟩⟩)]
    simp
  rw [hq]
end ZCU
