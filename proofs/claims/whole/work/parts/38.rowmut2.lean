/-! the class's Row: ends moved, marks cut and joined, all within some time taken out -/
def tMap (r : zTier) (g : Int32 → Int32) : zTier := (rnm r, rkd r, rpr r, rct r, fun k => g (rfr r k), fun k => g (rto r k), rlb r)
section ZR2
variable {i : Nat} {r : zTier} {M : zMem} {ρ : Int64 × Nat}
def mapI (M M' : zMem) (i : Nat) (r : zTier) (g : Int32 → Int32) (k : Nat) : Prop := rowFr M M' i ∧ M' 12 i 5 = nI (rct r) ∧ (∀ j, j < k → M' 20 i j = g (rfr r j) ∧ M' 21 i j = g (rto r j) ∧ M' 22 i j = rlb r j) ∧ ∀ j, k ≤ j → j < rct r → M' 20 i j = rfr r j ∧ M' 21 i j = rto r j ∧ M' 22 i j = rlb r j
theorem map_step {M' M1 : zMem} {g : Int32 → Int32} {k : Nat} (hk : k < rct r) (h : mapI M M' i r g k) (h1 : rowFr M' M1 i) (h2 : M1 12 i 5 = M' 12 i 5) (h3 : ∀ j, M1 20 i j = if j = k then g (rfr r k) else M' 20 i j) (h4 : ∀ j, M1 21 i j = if j = k then g (rto r k) else M' 21 i j) (h5 : ∀ j, M1 22 i j = M' 22 i j) : mapI M M1 i r g (k + 1) := by
  obtain ⟨a1, a2, a3, a4⟩ := h
  refine ⟨rowFr_tr a1 h1, h2.trans a2, fun j hj => ?_, fun j hj hj2 => ?_⟩
  · rw [h3, h4, h5]
    by_cases e : j = k
    · rw [if_pos e, if_pos e, e]
      exact ⟨rfl, rfl, (a4 k (Nat.le_refl _) hk).2.2⟩
    · rw [if_neg e, if_neg e]
      exact a3 j (by omega)
  · rw [h3, h4, h5, if_neg (show ¬ j = k by omega), if_neg (show ¬ j = k by omega)]
    exact a4 j (by omega) hj2
theorem zm_fr20 {M : zMem} {i s : Nat} {x : Int32} : rowFr M (zms M 20 i s x) i := by
  intro k j q h
  rw [zms_ne (fun e => h ⟨e.2.1, Or.inl e.1⟩)]
theorem zm_fr21 {M : zMem} {i s : Nat} {x : Int32} : rowFr M (zms M 21 i s x) i := by
  intro k j q h
  rw [zms_ne (fun e => h ⟨e.2.1, Or.inr (Or.inl e.1)⟩)]
/-- the four ways that a mark's ends change -/
theorem map_four {M' : zMem} {g : Int32 → Int32} {k : Nat} (hk : k < rct r) (h : mapI M M' i r g k) (c1 c2 : Prop) [d1 : Decidable c1] [d2 : Decidable c2] (x y : Int32) (hx : c1 → g (rfr r k) = x) (hx' : ¬ c1 → g (rfr r k) = rfr r k) (hy : c2 → g (rto r k) = y) (hy' : ¬ c2 → g (rto r k) = rto r k) :
    mapI M (if c1 then (if c2 then zms (zms M' 20 i k x) 21 i k y else zms M' 20 i k x) else (if c2 then zms M' 21 i k y else M')) i r g (k + 1) := by
  have f := h.2.2.2 k (Nat.le_refl _) hk
  by_cases q1 : c1 <;> by_cases q2 : c2
  · rw [if_pos q1, if_pos q2]
    refine map_step hk h (rowFr_tr zm_fr20 zm_fr21) (by rw [zms_ne (by omega), zms_ne (by omega)]) (fun j => ?_) (fun j => ?_) (fun j => by rw [zms_ne (by omega), zms_ne (by omega)])
    · rw [zms_ne (by omega), zms_sl, hx q1]
    · rw [zms_sl, zms_ne (by omega), hy q2]
  · rw [if_pos q1, if_neg q2]
    refine map_step hk h zm_fr20 (by rw [zms_ne (by omega)]) (fun j => by rw [zms_sl, hx q1]) (fun j => ?_) (fun j => by rw [zms_ne (by omega)])
    rw [zms_ne (by omega), hy' q2]
    by_cases e : j = k
    · rw [if_pos e, e, f.2.1]
    · rw [if_neg e]
  · rw [if_neg q1, if_pos q2]
    refine map_step hk h zm_fr21 (by rw [zms_ne (by omega)]) (fun j => ?_) (fun j => by rw [zms_sl, hy q2]) (fun j => by rw [zms_ne (by omega)])
    rw [zms_ne (by omega), hx' q1]
    by_cases e : j = k
    · rw [if_pos e, e, f.1]
    · rw [if_neg e]
  · rw [if_neg q1, if_neg q2]
    refine map_step hk h rowFr_rf rfl (fun j => ?_) (fun j => ?_) (fun j => rfl)
    · by_cases e : j = k
      · rw [if_pos e, e, f.1, hx' q1]
      · rw [if_neg e]
    · by_cases e : j = k
      · rw [if_pos e, e, f.2.1, hy' q2]
      · rw [if_neg e]
theorem map_end {M' : zMem} {g : Int32 → Int32} (h : cRow M i r) (hI : mapI M M' i r g (rct r)) : cRow M' i (tMap r g) := by
  obtain ⟨a1, a2, a3, a4⟩ := hI
  exact ⟨(a1 12 i 0 (by omega)).trans h.1, (a1 12 i 1 (by omega)).trans h.2.1, (a1 12 i 2 (by omega)).trans h.2.2.1, a2, h.2.2.2.2.1, a3⟩
theorem map_beg {g : Int32 → Int32} (h : cRow M i r) : mapI M M i r g 0 := ⟨rowFr_rf, h.2.2.2.1, fun j hj => by omega, fun j _ hj => h.2.2.2.2.2 j hj⟩
def gShift (s x : Int32) : Int32 → Int32 := fun v => if v = s then x else v
def gSil (s x : Int32) : Int32 → Int32 := fun v => if s < v then v + x else v
theorem r_shiftEnds (h : cRow M i r) (s x : Int32) : ∃ M', zrun zP 47 [zR 12 i, zI s, zI x] (M, ρ) = zvd (M', ρ) ∧ cRow M' i (tMap r (gShift s x)) ∧ rowFr M M' i := by
  have hn := h.2.2.2.2.1
  have key : ∀ d k M', k + d = rct r → mapI M M' i r (gShift s x) k → ∃ M'', zX zP zK_X2_shiftEnds (2, [zR 12 i, zI s, zI x, zI (nI k)], []) (M', ρ) = zvd (M'', ρ) ∧ mapI M M'' i r (gShift s x) (rct r) := by
    intro d
    induction d with
    | zero =>
      intro k M' hd hI
      refine ⟨M', ?_, by rw [show k = rct r by omega] at hI; exact hI⟩
      rw [e_X2_shiftEnds_2, show (M', ρ).1 = M' from rfl, hI.2.1, if_neg (nI_nlt (by omega) (by omega))]
    | succ d ih =>
      intro k M' hd hI
      have k1 := nIk (k := k) (N := 40) (by omega) (by omega)
      have c1 := nI_clamp (n := k) (by omega)
      have f := hI.2.2.2 k (Nat.le_refl _) (by omega)
      have h4 := map_four (i := i) (show k < rct r by omega) hI (rfr r k = s) (rto r k = s) x x (fun e => by unfold gShift; rw [if_pos e]) (fun e => by unfold gShift; rw [if_neg e]) (fun e => by unfold gShift; rw [if_pos e]) (fun e => by unfold gShift; rw [if_neg e])
      obtain ⟨M'', e1, e2⟩ := ih (k + 1) _ (by omega) h4
      refine ⟨M'', Eq.trans ?_ e1, e2⟩
      rw [e_X2_shiftEnds_2, show (M', ρ).1 = M' from rfl, hI.2.1, if_pos (nI_lt (by omega) (by omega))]
      simp only [k1, c1, if_false, f, nI_1]
      by_cases q1 : rfr r k = s <;> by_cases q2 : rto r k = s <;> simp only [q1, q2, if_true, if_false]
  obtain ⟨M', e1, e2⟩ := key (rct r) 0 M (by omega) (map_beg h)
  rw [nI_0] at e1
  exact ⟨M', by rw [e_X2_shiftEnds]; exact e1, map_end h e2, e2.1⟩
theorem r_insertSilence (h : cRow M i r) (s x : Int32) : ∃ M', zrun zP 48 [zR 12 i, zI s, zI x] (M, ρ) = zvd (M', ρ) ∧ cRow M' i (tMap r (gSil s x)) ∧ rowFr M M' i := by
  have hn := h.2.2.2.2.1
  have key : ∀ d k M', k + d = rct r → mapI M M' i r (gSil s x) k → ∃ M'', zX zP zK_X2_insertSilence (2, [zR 12 i, zI s, zI x, zI (nI k)], []) (M', ρ) = zvd (M'', ρ) ∧ mapI M M'' i r (gSil s x) (rct r) := by
    intro d
    induction d with
    | zero =>
      intro k M' hd hI
      refine ⟨M', ?_, by rw [show k = rct r by omega] at hI; exact hI⟩
      rw [e_X2_insertSilence_2, show (M', ρ).1 = M' from rfl, hI.2.1, if_neg (nI_nlt (by omega) (by omega))]
    | succ d ih =>
      intro k M' hd hI
      have k1 := nIk (k := k) (N := 40) (by omega) (by omega)
      have c1 := nI_clamp (n := k) (by omega)
      have f := hI.2.2.2 k (Nat.le_refl _) (by omega)
      have h4 := map_four (i := i) (show k < rct r by omega) hI (s < rfr r k) (s < rto r k) (rfr r k + x) (rto r k + x) (fun e => by unfold gSil; rw [if_pos e]) (fun e => by unfold gSil; rw [if_neg e]) (fun e => by unfold gSil; rw [if_pos e]) (fun e => by unfold gSil; rw [if_neg e])
      obtain ⟨M'', e1, e2⟩ := ih (k + 1) _ (by omega) h4
      refine ⟨M'', Eq.trans ?_ e1, e2⟩
      rw [e_X2_insertSilence_2, show (M', ρ).1 = M' from rfl, hI.2.1, if_pos (nI_lt (by omega) (by omega))]
      simp only [k1, c1, if_false, f, nI_1]
      by_cases q1 : s < rfr r k <;> by_cases q2 : s < rto r k <;> simp only [q1, q2, if_true, if_false]
  obtain ⟨M', e1, e2⟩ := key (rct r) 0 M (by omega) (map_beg h)
  rw [nI_0] at e1
  exact ⟨M', by rw [e_X2_insertSilence]; exact e1, map_end h e2, e2.1⟩
/-- one end set -/
def updF (f : Nat → Int32) (k : Nat) (x : Int32) : Nat → Int32 := fun j => if j = k then x else f j
def tTo (r : zTier) (m : Nat) (x : Int32) : zTier := (rnm r, rkd r, rpr r, rct r, rfr r, updF (rto r) m x, rlb r)
def tFrom (r : zTier) (m : Nat) (x : Int32) : zTier := (rnm r, rkd r, rpr r, rct r, updF (rfr r) m x, rto r, rlb r)
def tLab (r : zTier) (m : Nat) (x : Int32) : zTier := (rnm r, rkd r, rpr r, rct r, rfr r, rto r, updF (rlb r) m x)
theorem c_to (h : cRow M i r) (m : Nat) (x : Int32) : cRow (zms M 21 i m x) i (tTo r m x) := by
  obtain ⟨h0, h1, h2, hc, hn, hk⟩ := h
  refine ⟨(zms_ne (by omega)).trans h0, (zms_ne (by omega)).trans h1, (zms_ne (by omega)).trans h2, (zms_ne (by omega)).trans hc, hn, fun k hlt => ?_⟩
  have f := hk k hlt
  rw [zms_ne (by omega), zms_sl, zms_ne (by omega)]
  refine ⟨f.1, ?_, f.2.2⟩
  show _ = updF (rto r) m x k
  unfold updF
  rw [f.2.1]
theorem c_from (h : cRow M i r) (m : Nat) (x : Int32) : cRow (zms M 20 i m x) i (tFrom r m x) := by
  obtain ⟨h0, h1, h2, hc, hn, hk⟩ := h
  refine ⟨(zms_ne (by omega)).trans h0, (zms_ne (by omega)).trans h1, (zms_ne (by omega)).trans h2, (zms_ne (by omega)).trans hc, hn, fun k hlt => ?_⟩
  have f := hk k hlt
  rw [zms_sl, zms_ne (by omega), zms_ne (by omega)]
  refine ⟨?_, f.2.1, f.2.2⟩
  show _ = updF (rfr r) m x k
  unfold updF
  rw [f.1]
theorem c_lab (h : cRow M i r) (m : Nat) (x : Int32) : cRow (zms M 22 i m x) i (tLab r m x) := by
  obtain ⟨h0, h1, h2, hc, hn, hk⟩ := h
  refine ⟨(zms_ne (by omega)).trans h0, (zms_ne (by omega)).trans h1, (zms_ne (by omega)).trans h2, (zms_ne (by omega)).trans hc, hn, fun k hlt => ?_⟩
  have f := hk k hlt
  rw [zms_ne (by omega), zms_ne (by omega), zms_sl]
  refine ⟨f.1, f.2.1, ?_⟩
  show _ = updF (rlb r) m x k
  unfold updF
  rw [f.2.2]
theorem zm_fr22 {M : zMem} {i s : Nat} {x : Int32} : rowFr M (zms M 22 i s x) i := by
  intro k j q h
  rw [zms_ne (fun e => h ⟨e.2.1, Or.inr (Or.inr (Or.inl e.1))⟩)]
/-- cut in two -/
def tCut (r : zTier) (m : Nat) (x : Int32) : zTier := tIns (tTo r m x) x (rto r m) (rlb r m)
theorem r_cutMark (h : cRow M i r) {m : Nat} (hm : m < rct r) (hlt : rct r < 40) (x : Int32) : ∃ M', zrun zP 33 [zR 12 i, zI (nI m), zI x] (M, ρ) = zvd (M', ρ) ∧ cRow M' i (tCut r m x) ∧ rowFr M M' i := by
  have f := h.2.2.2.2.2 m hm
  have k1 := nIk (k := m) (N := 40) (by omega) (by omega)
  have c1 := nI_clamp (n := m) (by omega)
  obtain ⟨M', e1, e2, e3⟩ := r_insert (ρ := ρ) (c_to h m x) hlt x (rto r m) (rlb r m)
  refine ⟨M', ?_, e2, rowFr_tr zm_fr21 e3⟩
  rw [e_X2_cutMark, r_hasMark (σ := (M, ρ)) h, zcI_ok, zb_t ⟨nI_pos (by omega), nI_lt hm (by omega)⟩, if_neg (by decide), r_isFull (σ := (M, ρ)) h, zcI_ok, zb_f (fun e => e (nI_lt (b := 40) hlt (by omega))), if_pos rfl]
  simp only [k1, c1, if_false, f]
  rw [e1, zcI_ok]
def tJoin (r : zTier) (m : Nat) : zTier := tRem (tTo r m (rto r (m + 1))) (m + 1)
theorem r_joinNext (h : cRow M i r) {m : Nat} (hm : m + 1 < rct r) : ∃ M', zrun zP 34 [zR 12 i, zI (nI m)] (M, ρ) = zvd (M', ρ) ∧ cRow M' i (tJoin r m) ∧ rowFr M M' i := by
  have hn := h.2.2.2.2.1
  have f := h.2.2.2.2.2 (m + 1) hm
  have k1 := nIk (k := m) (N := 40) (by omega) (by omega)
  have c1 := nI_clamp (n := m) (by omega)
  have k2 := nIk (k := m + 1) (N := 40) (by omega) (by omega)
  have c2 := nI_clamp (n := m + 1) (by omega)
  obtain ⟨M', e1, e2, e3⟩ := r_remove (ρ := ρ) (c_to h m (rto r (m + 1))) (m := m + 1) hm
  refine ⟨M', ?_, e2, rowFr_tr zm_fr21 e3⟩
  rw [e_X2_joinNext, r_hasMark (σ := (M, ρ)) h, zcI_ok, zb_t ⟨nI_pos (by omega), nI_lt (by omega) (by omega)⟩, if_neg (by decide), nI_1, r_hasMark (σ := (M, ρ)) h, zcI_ok, zb_t ⟨nI_pos (by omega), nI_lt hm (by omega)⟩, if_neg (by decide)]
  simp only [k1, c1, k2, c2, if_false, f]
  rw [e1, zcV_ok]
/-- all that lie in some time go, the last ones first; how many -/
noncomputable def tRW (a b : Int32) : Nat → zTier → Int32 → zTier × Int32
  | 0, r, g => (r, g)
  | m + 1, r, g => @ite _ (¬ rfr r m < a ∧ ¬ b < rto r m) (Classical.propDecidable _) (tRW a b m (tRem r m) (g + 1)) (tRW a b m r g)
theorem rw_loop (a b : Int32) : ∀ m r g M', m ≤ rct r → cRow M' i r → ∃ M'', zX zP zK_X2_removeWithin (10, [zR 12 i, zI a, zI b, zI g, zI (nI m - 1)], []) (M', ρ) = zok (tRW a b m r g).2 (M'', ρ) ∧ cRow M'' i (tRW a b m r g).1 ∧ rowFr M' M'' i := by
  intro m
  induction m with
  | zero =>
    intro r g M' hm h
    refine ⟨M', ?_, h, rowFr_rf⟩
    rw [e_X2_removeWithin_10, nI_0, if_pos (by decide)]
    rfl
  | succ m ih =>
    intro r g M' hm h
    have hn := h.2.2.2.2.1
    rw [e_X2_removeWithin_10, nI_pred, if_neg (nI_pos (by omega)), r_liesIn (σ := (M', ρ)) h (by omega), zcI_ok, show nI m + (-1) = nI m - 1 from by rw [Int32.sub_eq_add_neg]]
    by_cases c : ¬ rfr r m < a ∧ ¬ b < rto r m
    · obtain ⟨M1, e1, e2, e3⟩ := r_remove (ρ := ρ) h (m := m) (by omega)
      obtain ⟨M2, q1, q2, q3⟩ := ih (tRem r m) (g + 1) M1 (by show m ≤ rct r - 1; omega) e2
      have et : tRW a b (m + 1) r g = tRW a b m (tRem r m) (g + 1) := @if_pos _ (Classical.propDecidable _) c _ _ _
      rw [et, zb_t c, if_neg (by decide), e1, zcV_ok]
      exact ⟨M2, q1, q2, rowFr_tr e3 q3⟩
    · have et : tRW a b (m + 1) r g = tRW a b m r g := @if_neg _ (Classical.propDecidable _) c _ _ _
      rw [et, zb_f c, if_pos rfl]
      exact ih r g M' (by omega) h
theorem r_removeWithin (h : cRow M i r) (a b : Int32) : ∃ M', zrun zP 32 [zR 12 i, zI a, zI b] (M, ρ) = zok (tRW a b (rct r) r 0).2 (M', ρ) ∧ cRow M' i (tRW a b (rct r) r 0).1 ∧ rowFr M M' i := by
  obtain ⟨M', e1, e2, e3⟩ := rw_loop (i := i) (ρ := ρ) a b (rct r) r 0 M (Nat.le_refl _) h
  refine ⟨M', ?_, e2, e3⟩
  rw [e_X2_removeWithin, show (M, ρ).1 = M from rfl, h.2.2.2.1]
  exact e1
end ZR2
