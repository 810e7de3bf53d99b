/-! how many ends a time has in a family -/
def pEndsS (T : zSheet) (top : Nat) (x : Int32) (t : Nat) : Int32 := if pRoot T t = top then zsum (pEnds (T.2 t) x) 0 (rct (T.2 t)) else 0
section ZEN
variable {s i : Nat} {T : zSheet} {M : zMem} {ρ : Int64 × Nat} {σ : zSt}
theorem s_countEnds (h : cSheet σ.1 s T) (hw : zwp T) (top : Nat) (htop : top < 2 ^ 31) (x : Int32) : zrun zP 78 [zR 13 s, zI (nI top), zI x] σ = zok (zsum (pEndsS T top x) 0 T.1) σ := by
  have h6 := h.2.1
  rw [e_X3_countEnds]
  have L := zsum_loop (X := fun t acc => zX zP zK_X3_countEnds (5, [zR 13 s, zI (nI top), zI x, zI acc, zI (nI t)], []) σ) (w := fun acc => zok acc σ) (f := pEndsS T top x) (n := T.1) (fun t acc ht => by
    obtain ⟨q1, q2, q3⟩ := s_in h ht
    have hrl : pRoot T t ≤ t := zrt_le hw h6 6 t ht
    rw [e_X3_countEnds_5, h.1, if_pos q3]
    simp only [q2, q1, if_false, nI_1, (h.2.2 t ht).2.1, nI_ne (show pRoot T t < 2 ^ 31 by omega) htop]
    unfold pEndsS
    by_cases c : pRoot T t = top
    · rw [if_pos c, if_pos c, r_countEnds (h.2.2 t ht).1, zcI_ok]
    · rw [if_neg c, if_neg c]
      simp) (fun acc => by
    rw [e_X3_countEnds_5, h.1, if_neg (nI_nlt (Nat.le_refl _) (by omega))]) T.1 0 0 (by omega)
  rw [nI_0] at L
  rw [L]
  simp
theorem m_endsAt (h : mSheet σ.1 31 T) (hw : zwp T) (top : Nat) (htop : top < 2 ^ 31) (x : Int32) : zrun zP 204 [zR 16 i, zI (nI top), zI x] σ = zok (zsum (pEndsS T top x) 0 T.1) σ := by
  have h6 := h.2.1
  rw [e_X6_endsAt]
  have L := zsum_loopV (X := fun t acc (z : zAV) => zX zP zK_X6_endsAt (5, [zR 16 i, zI (nI top), zI x, zI acc, zI (nI t), z], []) σ) (w := fun acc => zok acc σ) (f := pEndsS T top x) (n := T.1) (fun t acc z ht => by
    have hr := h.2.2 t ht
    have h40 := hr.2.2.2.2.1
    have hrl : pRoot T t ≤ t := zrt_le hw h6 6 t ht
    rw [e_X6_endsAt_5, m_tiers, zcI_ok, h.1, if_pos (nI_lt ht (by omega)), m_topOf h hw ht, zcI_ok, nI_1]
    simp only [nI_ne (show pRoot T t < 2 ^ 31 by omega) htop]
    unfold pEndsS
    by_cases c : pRoot T t = top
    · rw [if_pos c, if_pos c]
      have L2 := zsum_loop (X := fun k acc => zX zP zK_X6_endsAt (30, [zR 16 i, zI (nI top), zI x, zI acc, zI (nI t), zI (nI k)], []) σ) (w := fun acc => zX zP zK_X6_endsAt (5, [zR 16 i, zI (nI top), zI x, zI acc, zI (nI (t + 1)), zI (nI (rct (T.2 t)))], []) σ) (f := pEnds (T.2 t) x) (n := rct (T.2 t)) (fun k acc hk => by
        rw [e_X6_endsAt_30, m_many hr (by omega), zcI_ok, if_pos (nI_lt hk (by omega)), m_from hr (by omega) hk, zcI_ok, m_kind hr (by omega), zcI_ok, m_to hr (by omega) hk, zcI_ok, nI_1]
        unfold pEnds
        by_cases c1 : rfr (T.2 t) k = x <;> by_cases c2 : rkd (T.2 t) = 3 <;> by_cases c3 : rto (T.2 t) k = x
        all_goals simp only [m_to hr (show t < 6 by omega) hk, m_kind hr (show t < 6 by omega), c1, c2, c3, if_true, if_false, not_true, not_false_iff, true_and, false_and, and_true, and_false, zcI_ok]
        ) (fun acc => by
        rw [e_X6_endsAt_30, m_many hr (by omega), zcI_ok, if_neg (nI_nlt (Nat.le_refl _) (by omega)), nI_1]) (rct (T.2 t)) 0 acc (by omega)
      rw [nI_0] at L2
      exact ⟨_, L2⟩
    · rw [if_neg c, if_neg c]
      exact ⟨z, by simp⟩) (fun acc z => by
    rw [e_X6_endsAt_5, m_tiers, zcI_ok, h.1, if_neg (nI_nlt (Nat.le_refl _) (by omega))]) T.1 0 0 zJunk (by omega)
  rw [nI_0] at L
  rw [L]
  simp
theorem s_shiftStop (h : cSheet M s T) (hw : zwp T) (top : Nat) (htop : top < 2 ^ 31) (x l : Int32) : ∃ M', zrun zP 82 [zR 13 s, zI (nI top), zI x, zI l] (M, ρ) = zok (zsum (pEndsS T top x) 0 T.1) (M', ρ) ∧ cSheet M' s (sMapA T (fun t => pRoot T t = top) (gShift x l)) ∧ sFr M M' s := by
  obtain ⟨M', e1, e2, e3⟩ := s_shift_loop (s := s) (T := T) (ρ := ρ) hw top htop x l (zsum (pEndsS T top x) 0 T.1) T.1 0 M (by omega) (by rw [sMapK_0 (fun v h1 => by omega)]; exact h)
  rw [nI_0] at e1
  refine ⟨M', ?_, e2, e3⟩
  rw [e_X3_shiftStop, s_countEnds (σ := (M, ρ)) h hw top htop, zcI_ok, e1]
end ZEN
