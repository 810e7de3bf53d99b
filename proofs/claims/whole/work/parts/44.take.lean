/-! a whole mark is taken, with all that hangs on it -/
/-- all that fulfil something go, the last ones first; how many -/
noncomputable def tRP (P : Int32 → Int32 → Prop) : Nat → zTier → Int32 → zTier × Int32
  | 0, r, g => (r, g)
  | m + 1, r, g => @ite _ (P (rfr r m) (rto r m)) (Classical.propDecidable _) (tRP P m (tRem r m) (g + 1)) (tRP P m r g)
theorem tRP_t {P : Int32 → Int32 → Prop} {m : Nat} {r : zTier} {g : Int32} (h : P (rfr r m) (rto r m)) : tRP P (m + 1) r g = tRP P m (tRem r m) (g + 1) := @if_pos _ (Classical.propDecidable _) h _ _ _
theorem tRP_f {P : Int32 → Int32 → Prop} {m : Nat} {r : zTier} {g : Int32} (h : ¬ P (rfr r m) (rto r m)) : tRP P (m + 1) r g = tRP P m r g := @if_neg _ (Classical.propDecidable _) h _ _ _
theorem tRem_lt {r : zTier} {m k : Nat} (h : k < m) : rfr (tRem r m) k = rfr r k ∧ rto (tRem r m) k = rto r k := ⟨if_pos h, if_pos h⟩
theorem tRP_congr {P Q : Int32 → Int32 → Prop} : ∀ m r g, (∀ k, k < m → (P (rfr r k) (rto r k) ↔ Q (rfr r k) (rto r k))) → tRP P m r g = tRP Q m r g := by
  intro m
  induction m with
  | zero => intro r g _; rfl
  | succ m ih =>
    intro r g h
    by_cases c : P (rfr r m) (rto r m)
    · rw [tRP_t c, tRP_t ((h m (by omega)).mp c)]
      refine ih _ _ (fun k hk => ?_)
      obtain ⟨e1, e2⟩ := tRem_lt (r := r) hk
      rw [e1, e2]
      exact h k (by omega)
    · rw [tRP_f c, tRP_f (fun e => c ((h m (by omega)).mpr e))]
      exact ih _ _ (fun k hk => h k (by omega))
theorem tRP_acc {P : Int32 → Int32 → Prop} : ∀ m r g, tRP P m r g = ((tRP P m r 0).1, g + (tRP P m r 0).2) := by
  intro m
  induction m with
  | zero => intro r g; simp [tRP]
  | succ m ih =>
    intro r g
    by_cases c : P (rfr r m) (rto r m)
    · rw [tRP_t c, tRP_t c, ih (tRem r m) (g + 1), ih (tRem r m) (0 + 1)]
      simp only [Int32.add_assoc, Int32.zero_add]
    · rw [tRP_f c, tRP_f c]
      exact ih r g
theorem tRP_3 {P : Int32 → Int32 → Prop} : ∀ m r g, rnm (tRP P m r g).1 = rnm r ∧ rkd (tRP P m r g).1 = rkd r ∧ rpr (tRP P m r g).1 = rpr r := by
  intro m
  induction m with
  | zero => intro r g; exact ⟨rfl, rfl, rfl⟩
  | succ m ih =>
    intro r g
    by_cases c : P (rfr r m) (rto r m)
    · rw [tRP_t c]; exact ih (tRem r m) (g + 1)
    · rw [tRP_f c]; exact ih r g
theorem tRW_3 {a b : Int32} : ∀ m r g, rnm (tRW a b m r g).1 = rnm r ∧ rkd (tRW a b m r g).1 = rkd r ∧ rpr (tRW a b m r g).1 = rpr r := by
  intro m
  induction m with
  | zero => intro r g; exact ⟨rfl, rfl, rfl⟩
  | succ m ih =>
    intro r g
    by_cases c : ¬ rfr r m < a ∧ ¬ b < rto r m
    · rw [show tRW a b (m + 1) r g = tRW a b m (tRem r m) (g + 1) from @if_pos _ (Classical.propDecidable _) c _ _ _]; exact ih (tRem r m) (g + 1)
    · rw [show tRW a b (m + 1) r g = tRW a b m r g from @if_neg _ (Classical.propDecidable _) c _ _ _]; exact ih r g
/-- a tier's parent is no tier of points -/
def zwq (T : zSheet) : Prop := ∀ t, t < T.1 → ¬ rpr (T.2 t) = -1 → ¬ rkd (T.2 (zpt T t)) = 3
noncomputable def kF (T : zSheet) (x y : Int32) (v : Nat) : zTier × Int32 := tRW x y (rct (T.2 v)) (T.2 v) 0
noncomputable def kP (T : zSheet) (a : Nat) (x y : Int32) (v : Nat) : zTier := @ite _ (v = a ∨ pBelow T v a) (Classical.propDecidable _) (kF T x y v).1 (T.2 v)
noncomputable def kG (T : zSheet) (a : Nat) (x y : Int32) (v : Nat) : zTier × Int32 := tRP (fun f t => pAround (kP T a x y (zpt T v)) f t = -1) (rct (T.2 v)) (T.2 v) 0
noncomputable def kH (T : zSheet) (a : Nat) (x y : Int32) (v : Nat) : zTier × Int32 := if v ≠ a ∧ rkd (T.2 v) = 3 then kG T a x y v else kF T x y v
noncomputable def sTk (T : zSheet) (a : Nat) (x y : Int32) : zSheet := sMapK T T.1 (fun v => v = a ∨ pBelow T v a) (fun v => (kH T a x y v).1)
noncomputable def nTk (T : zSheet) (a : Nat) (x y : Int32) (v : Nat) : Int32 := @ite _ (pBelow T v a) (Classical.propDecidable _) (kH T a x y v).2 0
theorem kH_3 {T : zSheet} {a : Nat} {x y : Int32} (v : Nat) : rnm (kH T a x y v).1 = rnm (T.2 v) ∧ rkd (kH T a x y v).1 = rkd (T.2 v) ∧ rpr (kH T a x y v).1 = rpr (T.2 v) := by
  unfold kH
  by_cases c : v ≠ a ∧ rkd (T.2 v) = 3
  · rw [if_pos c]; exact tRP_3 _ _ _
  · rw [if_neg c]; exact tRW_3 _ _ _
theorem zbelow_pr {T : zSheet} {t a : Nat} (h : pBelow T t a) : ¬ rpr (T.2 t) = -1 := h.1
section ZTK
variable {s i : Nat} {T : zSheet} {M : zMem} {ρ : Int64 × Nat} {σ : zSt}
theorem s_lost_loop (hw : zwp T) {u : Nat} (hu : u < T.1) : ∀ m r g M', m ≤ rct r → rpr r = rpr (T.2 u) → cSheet M' s (sUp T u r) → ∃ M'', zX zP zK_X3_removeLostPoints (9, [zR 13 s, zR 12 (6 * s + u), zI g, zI (nI m - 1)], []) (M', ρ) = zok (tRP (fun f t => ¬ pLP T u f t) m r g).2 (M'', ρ) ∧ cSheet M'' s (sUp T u (tRP (fun f t => ¬ pLP T u f t) m r g).1) ∧ rowFr M' M'' (6 * s + u) := by
  intro m
  induction m with
  | zero =>
    intro r g M' hm hp h
    refine ⟨M', ?_, h, rowFr_rf⟩
    rw [e_X3_removeLostPoints_9, nI_0, if_pos (by decide)]
    rfl
  | succ m ih =>
    intro r g M' hm hp h
    have h6 : T.1 ≤ 6 := h.2.1
    have hr := (h.2.2 u hu).1
    rw [sUp_eq] at hr
    have hn := hr.2.2.2.2.1
    have hlp : ∀ f t, pLP (sUp T u r) u f t ↔ pLP T u f t := by
      intro f t
      unfold pLP
      have hz : zpt (sUp T u r) u = zpt T u := by
        unfold zpt
        rw [sUp_eq, hp]
      rw [hz, sUp_eq, hp]
      by_cases c : rpr (T.2 u) = -1
      · exact ⟨fun e => (e.1 c).elim, fun e => (e.1 c).elim⟩
      · have := (zwp_par hw hu h6 c).1
        rw [sUp_ne (show zpt T u ≠ u by omega)]
    have hwp : zwp (sUp T u r) := by
      intro t ht
      rw [sUp_pr hp]
      exact hw t ht
    have hin := nIk (k := m) (N := 40) (by omega) (by omega)
    have hcl := nI_clamp (n := m) (by omega)
    have hf := hr.2.2.2.2.2 m (by omega)
    rw [e_X3_removeLostPoints_9, nI_pred, if_neg (nI_pos (by omega)), show nI m + (-1) = nI m - 1 from by rw [Int32.sub_eq_add_neg]]
    simp only [hcl, hin, if_false, show (M', ρ).1 = M' from rfl, hf.1, hf.2.1]
    rw [s_liesInParent (σ := (M', ρ)) h hwp hu, zcI_ok, zb_congr (hlp _ _)]
    by_cases c : pLP T u (rfr r m) (rto r m)
    · rw [tRP_f (P := fun f t => ¬ pLP T u f t) (fun e => e c), zb_t c, if_neg (by decide)]
      exact ih r g M' (by omega) hp h
    · obtain ⟨M1, e1, e2, e3⟩ := r_remove (ρ := ρ) hr (m := m) (by omega)
      have hS := cSheet_up h hu e2 e3 (by rw [sUp_eq]; rfl)
      have hss : sUp (sUp T u r) u (tRem r m) = sUp T u (tRem r m) := by
        refine Prod.ext rfl (funext fun w => ?_)
        by_cases w1 : w = u
        · rw [w1]; exact sUp_eq.trans sUp_eq.symm
        · exact (sUp_ne w1).trans ((sUp_ne w1).trans (sUp_ne w1).symm)
      rw [hss] at hS
      obtain ⟨M2, q1, q2, q3⟩ := ih (tRem r m) (g + 1) M1 (by show m ≤ rct r - 1; omega) hp hS
      rw [tRP_t (P := fun f t => ¬ pLP T u f t) c, zb_f c, if_pos rfl, e1, zcV_ok]
      exact ⟨M2, q1, q2, rowFr_tr e3 q3⟩
theorem sUp_self {t : Nat} : sUp T t (T.2 t) = T := by
  refine Prod.ext rfl (funext fun w => ?_)
  by_cases w1 : w = t
  · rw [w1]; exact sUp_eq
  · exact sUp_ne w1
theorem s_removeLost (h : cSheet M s T) (hw : zwp T) {u : Nat} (hu : u < T.1) : ∃ M', zrun zP 70 [zR 13 s, zR 12 (6 * s + u)] (M, ρ) = zok (tRP (fun f t => ¬ pLP T u f t) (rct (T.2 u)) (T.2 u) 0).2 (M', ρ) ∧ cSheet M' s (sUp T u (tRP (fun f t => ¬ pLP T u f t) (rct (T.2 u)) (T.2 u) 0).1) ∧ rowFr M M' (6 * s + u) := by
  obtain ⟨M', e1, e2, e3⟩ := s_lost_loop (s := s) (ρ := ρ) hw hu (rct (T.2 u)) (T.2 u) 0 M (Nat.le_refl _) rfl (by rw [sUp_self]; exact h)
  refine ⟨M', ?_, e2, e3⟩
  rw [e_X3_removeLostPoints, show (M, ρ).1 = M from rfl, (h.2.2 u hu).1.2.2.2.1]
  exact e1
theorem s_take_loop (hw : zwp T) (hq : zwq T) {a : Nat} (ha : a < T.1) (k : Int32) (x y : Int32) : ∀ d u M' g, u + d = T.1 → a < u → cSheet M' s (sMapK T u (fun v => v = a ∨ pBelow T v a) (fun v => (kH T a x y v).1)) → ∃ M'', zX zP zK_X3_removeWhole (44, [zR 13 s, zI (nI a), zI k, zI x, zI y, zI g, zI (nI u)], []) (M', ρ) = zok (g + zsum (nTk T a x y) u d) (M'', ρ) ∧ cSheet M'' s (sTk T a x y) ∧ sFr M' M'' s := by
  intro d
  induction d with
  | zero =>
    intro u M' g hd hau h
    have h6 : T.1 ≤ 6 := h.2.1
    have hua : u = T.1 := by omega
    subst hua
    refine ⟨M', ?_, h, sFr_rf⟩
    have hT : M' 13 s 0 = nI T.1 := h.1
    rw [e_X3_removeWhole_44, show (M', ρ).1 = M' from rfl, hT, if_neg (nI_nlt (Nat.le_refl _) (by omega))]
    simp [zsum]
  | succ d ih =>
    intro u M' g hd hau h
    have h6 : T.1 ≤ 6 := h.2.1
    have hun : u < T.1 := by omega
    obtain ⟨q1, q2, q3⟩ := s_in (σ := (M', ρ)) h (t := u) hun
    have hE : sEq T (sMapK T u (fun v => v = a ∨ pBelow T v a) (fun v => (kH T a x y v).1)) := sMapK_eq (fun v => kH_3 v)
    have hw' := sEq_wp hE hw
    have hT : M' 13 s 0 = nI T.1 := h.1
    have hr := (h.2.2 u hun).1
    rw [sMapK_u] at hr
    have f1 := hr.2.1
    have hs : g + zsum (nTk T a x y) u (d + 1) = (g + nTk T a x y u) + zsum (nTk T a x y) (u + 1) d := by
      simp only [zsum, Int32.add_assoc]
    rw [hs, e_X3_removeWhole_44, show (M', ρ).1 = M' from rfl, hT, if_pos (nI_lt hun (by omega)), s_isBelow (σ := (M', ρ)) h hw' hun ha, zcI_ok, nI_1, show pBelow (sMapK T u (fun v => v = a ∨ pBelow T v a) (fun v => (kH T a x y v).1)) u a = pBelow T u a from propext (sEq_below hE 6 u)]
    simp only [q2, q1, if_false, f1]
    by_cases hb : pBelow T u a
    · have hn : nTk T a x y u = (kH T a x y u).2 := @if_pos _ (Classical.propDecidable _) hb _ _ _
      rw [zb_t hb, if_neg (by decide), hn]
      by_cases c3 : rkd (T.2 u) = 3
      · have hk : kH T a x y u = kG T a x y u := if_pos ⟨by omega, c3⟩
        obtain ⟨M1, e1, e2, e3⟩ := s_removeLost (ρ := ρ) h hw' hun
        rw [sMapK_u] at e1 e2
        have hP : (fun f t => ¬ pLP (sMapK T u (fun v => v = a ∨ pBelow T v a) (fun v => (kH T a x y v).1)) u f t) = (fun f t => pAround (kP T a x y (zpt T u)) f t = -1) := by
          funext f t
          unfold pLP
          have hpr := zbelow_pr hb
          have hlt := (zwp_par hw hun h6 hpr).1
          have hpk := hq u hun hpr
          have hz : zpt (sMapK T u (fun v => v = a ∨ pBelow T v a) (fun v => (kH T a x y v).1)) u = zpt T u := by
            unfold zpt
            rw [sMapK_u]
          have hpar : (sMapK T u (fun v => v = a ∨ pBelow T v a) (fun v => (kH T a x y v).1)).2 (zpt T u) = kP T a x y (zpt T u) := by
            by_cases c : zpt T u = a ∨ pBelow T (zpt T u) a
            · rw [sMapK_t (c := fun v => v = a ∨ pBelow T v a) ⟨hlt, by omega, c⟩]
              unfold kP kH
              rw [@if_pos _ (Classical.propDecidable _) c, if_neg (fun e => hpk e.2)]
            · rw [sMapK_f (fun e => c e.2.2)]
              unfold kP
              rw [@if_neg _ (Classical.propDecidable _) c]
          rw [hz, hpar, sMapK_u]
          refine propext ⟨fun e => Classical.byContradiction (fun q => e ⟨hpr, q⟩), fun e q => q.2 e⟩
        rw [hP] at e1 e2
        have hS : cSheet M1 s (sMapK T (u + 1) (fun v => v = a ∨ pBelow T v a) (fun v => (kH T a x y v).1)) := by
          rw [← sMapK_s (c := fun v => v = a ∨ pBelow T v a) hun (Or.inr hb)]
          rw [hk]
          exact e2
        obtain ⟨M2, f1, f2, f3⟩ := ih (u + 1) M1 (g + (kH T a x y u).2) (by omega) (by omega) hS
        refine ⟨M2, ?_, f2, sFr_tr (rowFr_s (by omega) e3) f3⟩
        rw [if_pos c3, e1, zcI_ok, ← f1, hk]
        rfl
      · have hk : kH T a x y u = kF T x y u := if_neg (fun e => c3 e.2)
        obtain ⟨M1, e1, e2, e3⟩ := r_removeWithin (ρ := ρ) hr x y
        have hS := cSheet_up h hun e2 e3 (by rw [sMapK_u]; exact (tRW_3 _ _ _).2.2)
        have hS' : cSheet M1 s (sMapK T (u + 1) (fun v => v = a ∨ pBelow T v a) (fun v => (kH T a x y v).1)) := by
          rw [← sMapK_s (c := fun v => v = a ∨ pBelow T v a) hun (Or.inr hb)]
          rw [hk]
          exact hS
        obtain ⟨M2, f1, f2, f3⟩ := ih (u + 1) M1 (g + (kH T a x y u).2) (by omega) (by omega) hS'
        refine ⟨M2, ?_, f2, sFr_tr (rowFr_s (by omega) e3) f3⟩
        rw [if_neg c3, e1, zcI_ok, ← f1, hk]
        rfl
    · have hn : nTk T a x y u = 0 := @if_neg _ (Classical.propDecidable _) hb _ _ _
      rw [sMapK_i (c := fun v => v = a ∨ pBelow T v a) (fun q => (q.elim (fun e => by omega) (fun e => (hb e).elim)))] at h
      obtain ⟨M2, f1, f2, f3⟩ := ih (u + 1) M' g (by omega) (by omega) h
      refine ⟨M2, ?_, f2, f3⟩
      rw [zb_f hb, if_pos rfl, f1, hn]
      simp
theorem s_removeWhole (h : cSheet M s T) (hw : zwp T) (hq : zwq T) {a : Nat} (ha : a < T.1) {k : Nat} (hk : k < rct (T.2 a)) : ∃ M', zrun zP 69 [zR 13 s, zI (nI a), zI (nI k)] (M, ρ) = zok ((kF T (rfr (T.2 a) k) (rto (T.2 a) k) a).2 + zsum (nTk T a (rfr (T.2 a) k) (rto (T.2 a) k)) (a + 1) (T.1 - (a + 1))) (M', ρ) ∧ cSheet M' s (sTk T a (rfr (T.2 a) k) (rto (T.2 a) k)) ∧ sFr M M' s := by
  have h6 := h.2.1
  obtain ⟨q1, q2, q3⟩ := s_in (σ := (M, ρ)) h (t := a) ha
  have hr := (h.2.2 a ha).1
  have hn := hr.2.2.2.2.1
  have hf := hr.2.2.2.2.2 k hk
  have hin := nIk (k := k) (N := 40) (by omega) (by omega)
  have hcl := nI_clamp (n := k) (by omega)
  obtain ⟨M1, e1, e2, e3⟩ := r_removeWithin (ρ := ρ) hr (rfr (T.2 a) k) (rto (T.2 a) k)
  have hS := cSheet_up h ha e2 e3 (tRW_3 _ _ _).2.2
  have hS' : cSheet M1 s (sMapK T (a + 1) (fun v => v = a ∨ pBelow T v a) (fun v => (kH T a (rfr (T.2 a) k) (rto (T.2 a) k) v).1)) := by
    rw [← sMapK_s (c := fun v => v = a ∨ pBelow T v a) ha (Or.inl rfl), sMapK_0 (fun v h1 h2 h3 => ?_)]
    · rw [show kH T a (rfr (T.2 a) k) (rto (T.2 a) k) a = kF T (rfr (T.2 a) k) (rto (T.2 a) k) a from if_neg (fun e => e.1 rfl)]
      exact hS
    · rcases h3 with h3 | h3
      · omega
      · have := zbelow_lt hw h6 6 v h2 h3
        omega
  obtain ⟨M2, f1, f2, f3⟩ := s_take_loop (s := s) (ρ := ρ) hw hq ha (nI k) (rfr (T.2 a) k) (rto (T.2 a) k) (T.1 - (a + 1)) (a + 1) M1 (kF T (rfr (T.2 a) k) (rto (T.2 a) k) a).2 (by omega) (by omega) hS'
  refine ⟨M2, ?_, f2, sFr_tr (rowFr_s (by omega) e3) f3⟩
  rw [e_X3_removeWhole]
  simp only [q2, q1, hcl, hin, if_false, show (M, ρ).1 = M from rfl, hf.1, hf.2.1]
  rw [e1, zcI_ok, nI_1]
  exact f1
end ZTK
