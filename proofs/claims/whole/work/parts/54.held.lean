/-! what a mark holds; the gap behind it -/
def pHeld (T : zSheet) (a : Nat) (x : Int32) (g : Nat → Nat → Int32) (t : Nat) : Int32 := if rpr (T.2 t) = nI a then zsum (fun k => if g t k = x then 1 else 0) 0 (rct (T.2 t)) else 0
section ZHE
variable {s i : Nat} {T : zSheet} {M : zMem} {ρ : Int64 × Nat} {σ : zSt}
theorem pHeld_low (hw : zwp T) (h6 : T.1 ≤ 6) {a t : Nat} {x : Int32} {g : Nat → Nat → Int32} (ha : a < 6) (ht : t < T.1) (hta : t < a + 1) : pHeld T a x g t = 0 := by
  unfold pHeld
  refine if_neg (fun e => ?_)
  rcases hw t ht with q | ⟨p, p1, p2⟩
  · exact nI_m1 a (by omega) (e.symm.trans q)
  · rw [p2] at e
    have := (nI_ne (a := p) (b := a) (by omega) (by omega)).mp e
    omega
theorem s_countHeld (h : cSheet σ.1 s T) (hw : zwp T) {a : Nat} (ha : a < T.1) (x : Int32) : zrun zP 61 [zR 13 s, zI (nI a), zI x] σ = zok (zsum (pHeld T a x (pPM T)) (a + 1) (T.1 - (a + 1))) σ := by
  have h6 := h.2.1
  rw [e_X3_countHeld, nI_1]
  have L := zsum_loopV (X := fun t acc (z : zAV) => zX zP zK_X3_countHeld (7, [zR 13 s, zI (nI a), zI x, zI acc, zI (nI t), z], []) σ) (w := fun acc => zok acc σ) (f := pHeld T a x (pPM T)) (n := T.1) (fun t acc z ht => by
    obtain ⟨q1, q2, q3⟩ := s_in h ht
    have hr := (h.2.2 t ht).1
    have h40 := hr.2.2.2.2.1
    have f2 := hr.2.2.1
    have fc := hr.2.2.2.1
    rw [e_X3_countHeld_7, h.1, if_pos q3]
    unfold pHeld
    by_cases c : rpr (T.2 t) = nI a
    · rw [if_pos c]
      have L2 := zsum_loop (X := fun k acc => zX zP zK_X3_countHeld (19, [zR 13 s, zI (nI a), zI x, zI acc, zI (nI t), zI (nI k)], []) σ) (w := fun acc => zX zP zK_X3_countHeld (7, [zR 13 s, zI (nI a), zI x, zI acc, zI (nI (t + 1)), zI (nI (rct (T.2 t)))], []) σ) (f := fun k => if pPM T t k = x then 1 else 0) (n := rct (T.2 t)) (fun k acc hk => by
        have hcc : nI k < nI (rct (T.2 t)) := nI_lt hk (by omega)
        rw [e_X3_countHeld_19]
        simp only [q2, q1, if_false, f2, c, if_true, fc, hcc, nI_1]
        rw [s_parentMark h hw ht hk, zcI_ok]
        by_cases c2 : pPM T t k = x
        · rw [if_pos c2, if_pos c2]
        · rw [if_neg c2, if_neg c2]
          simp) (fun acc => by
        have hnc : ¬ nI (rct (T.2 t)) < nI (rct (T.2 t)) := nI_nlt (Nat.le_refl _) (by omega)
        rw [e_X3_countHeld_19]
        simp only [q2, q1, if_false, f2, c, if_true, fc, hnc, nI_1]) (rct (T.2 t)) 0 acc (by omega)
      rw [nI_0] at L2
      exact ⟨_, L2⟩
    · rw [if_neg c]
      refine ⟨zI 0, ?_⟩
      rw [e_X3_countHeld_19]
      simp only [q2, q1, if_false, f2, c, nI_1]
      simp) (fun acc z => by
    rw [e_X3_countHeld_7, h.1, if_neg (nI_nlt (Nat.le_refl _) (by omega))]) (T.1 - (a + 1)) (a + 1) 0 zJunk (by omega)
  rw [L]
  simp
theorem m_lieIn (h : mSheet σ.1 31 T) (hw : zwp T) {a : Nat} (ha : a < T.1) (x : Int32) : zrun zP 226 [zR 16 i, zI (nI a), zI x] σ = zok (zsum (pHeld T a x (pPM T)) (a + 1) (T.1 - (a + 1))) σ := by
  have h6 := h.2.1
  rw [e_X6_lieIn]
  have L := zsum_loopV (X := fun t acc (z : zAV) => zX zP zK_X6_lieIn (5, [zR 16 i, zI (nI a), zI x, zI acc, zI (nI t), z], []) σ) (w := fun acc => zok acc σ) (f := pHeld T a x (pPM T)) (n := T.1) (fun t acc z ht => by
    have hr := h.2.2 t ht
    have h40 := hr.2.2.2.2.1
    rw [e_X6_lieIn_5, m_tiers, zcI_ok, h.1, if_pos (nI_lt ht (by omega)), m_parent hr (by omega), zcI_ok, nI_1]
    unfold pHeld
    by_cases c : rpr (T.2 t) = nI a
    · rw [if_pos c, if_pos c]
      have L2 := zsum_loop (X := fun k acc => zX zP zK_X6_lieIn (30, [zR 16 i, zI (nI a), zI x, zI acc, zI (nI t), zI (nI k)], []) σ) (w := fun acc => zX zP zK_X6_lieIn (5, [zR 16 i, zI (nI a), zI x, zI acc, zI (nI (t + 1)), zI (nI (rct (T.2 t)))], []) σ) (f := fun k => if pPM T t k = x then 1 else 0) (n := rct (T.2 t)) (fun k acc hk => by
        rw [e_X6_lieIn_30, m_many hr (by omega), zcI_ok, if_pos (nI_lt hk (by omega)), m_parentsOf h hw ht hk, zcI_ok, nI_1]
        by_cases c2 : pPM T t k = x
        · rw [if_pos c2, if_pos c2]
        · rw [if_neg c2, if_neg c2]) (fun acc => by
        rw [e_X6_lieIn_30, m_many hr (by omega), zcI_ok, if_neg (nI_nlt (Nat.le_refl _) (by omega)), nI_1]) (rct (T.2 t)) 0 acc (by omega)
      rw [nI_0] at L2
      exact ⟨_, L2⟩
    · rw [if_neg c, if_neg c]
      exact ⟨z, by simp⟩) (fun acc z => by
    rw [e_X6_lieIn_5, m_tiers, zcI_ok, h.1, if_neg (nI_nlt (Nat.le_refl _) (by omega))]) T.1 0 0 zJunk (by omega)
  rw [nI_0] at L
  rw [L]
  have hh := zsum_split (f := pHeld T a x (pPM T)) (a + 1) 0 (T.1 - (a + 1))
  rw [show a + 1 + (T.1 - (a + 1)) = T.1 by omega, zsum_zero (f := pHeld T a x (pPM T)) (a + 1) 0 (fun j h1 h2 => pHeld_low hw h6 (by omega) (by omega) (by omega)), show 0 + (a + 1) = a + 1 by omega] at hh
  rw [hh]
  simp
theorem s_gapBehind (h : cSheet σ.1 s T) (hw : zwp T) {t k : Nat} (ht : t < T.1) (hk : k < rct (T.2 t)) : zrun zP 76 [zR 13 s, zI (nI t), zI (nI k)] σ = zok (@ite _ (¬ rkd (T.2 t) = 3 ∧ k + 1 < rct (T.2 t) ∧ pPM T t k = pPM T t (k + 1)) (Classical.propDecidable _) (rfr (T.2 t) (k + 1) - rto (T.2 t) k) 0) σ := by
  have h6 := h.2.1
  obtain ⟨q1, q2, q3⟩ := s_in h ht
  have hr := (h.2.2 t ht).1
  have hn := hr.2.2.2.2.1
  have f1 := hr.2.1
  have hf := hr.2.2.2.2.2 k hk
  have hin := nIk (k := k) (N := 40) (by omega) (by omega)
  have hcl := nI_clamp (n := k) (by omega)
  rw [e_X3_gapBehind]
  simp only [q2, q1, if_false, f1]
  by_cases c1 : rkd (T.2 t) = 3
  · rw [if_pos c1, @if_neg _ (Classical.propDecidable _) (fun e => e.1 c1)]
  · rw [if_neg c1, r_hasMark hr, zcI_ok, zb_t ⟨nI_pos (by omega), nI_lt hk (by omega)⟩, if_neg (by decide), r_hasMark hr, zcI_ok, nI_1]
    by_cases c2 : k + 1 < rct (T.2 t)
    · have hg := hr.2.2.2.2.2 (k + 1) c2
      have hin1 := nIk (k := k + 1) (N := 40) (by omega) (by omega)
      have hcl1 := nI_clamp (n := k + 1) (by omega)
      rw [zb_t ⟨nI_pos (by omega), nI_lt c2 (by omega)⟩, if_neg (by decide), s_haveSameParent h hw ht hk c2, zcI_ok]
      by_cases c4 : pPM T t k = pPM T t (k + 1)
      · rw [zb_t c4, if_neg (by decide), @if_pos _ (Classical.propDecidable _) ⟨c1, c2, c4⟩]
        simp only [hin, hcl, hin1, hcl1, if_false, hf.2.1, hg.1]
      · rw [zb_f c4, if_pos rfl, @if_neg _ (Classical.propDecidable _) (fun e => c4 e.2.2)]
    · rw [zb_f (fun e => nI_nlt (by omega) (by omega) e.2), if_pos rfl, @if_neg _ (Classical.propDecidable _) (fun e => c2 e.2.1)]
end ZHE
