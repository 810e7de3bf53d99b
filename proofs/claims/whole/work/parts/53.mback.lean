/-! the reference's row of what was -/
def mSheetO (M : zMem) (off : Nat) (T : zSheet) : Prop := mSheet (fun _ _ q => M 34 0 (off + q)) 31 T
def mHist (M : zMem) (i n : Nat) (H : Nat → zSheet) : Prop := n ≤ 12 ∧ M 16 i 6 = nI n ∧ ∀ j, j < n → mSheetO M (745 * (n - 1 - j)) (H j)
theorem mSheet_congr {M M' : zMem} {a a' : Nat} {T : zSheet} (hf : ∀ q, q < 745 → M' a' 0 q = M a 0 q) (h : mSheet M a T) : mSheet M' a' T := by
  obtain ⟨h1, h6, h3⟩ := h
  refine ⟨(hf 0 (by omega)).trans h1, h6, fun t ht => ?_⟩
  obtain ⟨g0, g1, g2, g3, gn, gk⟩ := h3 t ht
  refine ⟨(hf _ (by omega)).trans g0, (hf _ (by omega)).trans g1, (hf _ (by omega)).trans g2, (hf _ (by omega)).trans g3, gn, fun k hk => ?_⟩
  obtain ⟨a1, a2, a3⟩ := gk k hk
  exact ⟨(hf _ (by omega)).trans a1, (hf _ (by omega)).trans a2, (hf _ (by omega)).trans a3⟩
theorem nI_fr (c q : Nat) : 745 * nI c + nI q = nI (745 * c + q) := by
  rw [show (745 : Int32) = nI 745 from rfl, pk_mul, nI_add]
section ZMB
variable {i : Nat} {T : zSheet} {M : zMem} {ρ : Int64 × Nat} {σ : zSt}
theorem kp_loop {c : Nat} (hc : c < 12) : ∀ d q M', q + d = 745 → M' 16 i 6 = nI c → ∃ M'', zX zP zK_X6_keeps (52, [zR 16 i, zI (nI q)], []) (M', ρ) = zvd (M'', ρ) ∧ M'' 16 i 6 = nI (c + 1) ∧ (∀ p, q ≤ p → p < 745 → M'' 34 0 (745 * c + p) = M' 31 0 p) ∧ ∀ k j z, ¬ (k = 16 ∧ j = i ∧ z = 6) → ¬ (k = 34 ∧ j = 0 ∧ 745 * c + q ≤ z ∧ z < 745 * c + 745) → M'' k j z = M' k j z := by
  intro d
  induction d with
  | zero =>
    intro q M' hd h0
    have : q = 745 := by omega
    subst this
    refine ⟨zms M' 16 i 6 (nI (c + 1)), ?_, zms_eq, fun p h1 h2 => by omega, fun k j z h1 h2 => zms_ne h1⟩
    rw [e_X6_keeps_52, if_neg (by decide), show (M', ρ).1 = M' from rfl, h0, nI_1]
  | succ d ih =>
    intro q M' hd h0
    have c1 := nIk (k := q) (N := 745) (by omega) (by omega)
    have c2 := nI_clamp (n := q) (by omega)
    have c3 := nIk (k := 745 * c + q) (N := 8940) (by omega) (by omega)
    have c4 := nI_clamp (n := 745 * c + q) (by omega)
    obtain ⟨M2, f1, f2, f3, f4⟩ := ih (q + 1) (zms M' 34 0 (745 * c + q) (M' 31 0 q)) (by omega) ((zms_ne (by omega)).trans h0)
    refine ⟨M2, ?_, f2, fun p h1 h2 => ?_, fun k j z h1 h2 => ?_⟩
    · rw [e_X6_keeps_52, if_pos (show nI q < 745 from (nI_lt (by omega) (by omega) : nI q < nI 745)), show (M', ρ).1 = M' from rfl, h0, nI_fr, nI_1]
      simp only [c1, c2, c3, c4, if_false]
      exact f1
    · by_cases e : p = q
      · subst e
        rw [f4 _ _ _ (by omega) (by omega), zms_eq]
      · rw [f3 p (by omega) h2, zms_ne (by omega)]
    · rw [f4 k j z h1 (by omega), zms_ne (by omega)]
theorem ks_loop : ∀ d q M', q + d = 8195 → ∃ M'', zX zP zK_X6_keeps (11, [zR 16 i, zI (nI q)], []) (M', ρ) = zX zP zK_X6_keeps (52, [zR 16 i, zI 0], []) (zms M'' 16 i 6 (M' 16 i 6 - 1), ρ) ∧ (∀ p, q ≤ p → p < 8195 → M'' 34 0 p = M' 34 0 (p + 745)) ∧ ∀ k j z, ¬ (k = 34 ∧ j = 0 ∧ q ≤ z ∧ z < 8195) → M'' k j z = M' k j z := by
  intro d
  induction d with
  | zero =>
    intro q M' hd
    have : q = 8195 := by omega
    subst this
    refine ⟨M', ?_, fun p h1 h2 => by omega, fun k j z h1 => rfl⟩
    rw [e_X6_keeps_11, if_neg (by decide)]
  | succ d ih =>
    intro q M' hd
    have c1 := nIk (k := q) (N := 8940) (by omega) (by omega)
    have c2 := nI_clamp (n := q) (by omega)
    have c3 := nIk (k := q + 745) (N := 8940) (by omega) (by omega)
    have c4 := nI_clamp (n := q + 745) (by omega)
    have c5 : nI q + 745 = nI (q + 745) := by
      rw [show (745 : Int32) = nI 745 from rfl, nI_add]
    obtain ⟨M2, f1, f3, f4⟩ := ih (q + 1) (zms M' 34 0 q (M' 34 0 (q + 745))) (by omega)
    refine ⟨M2, ?_, fun p h1 h2 => ?_, fun k j z h1 => ?_⟩
    · rw [e_X6_keeps_11, if_pos (show nI q < 8195 from (nI_lt (by omega) (by omega) : nI q < nI 8195)), c5, nI_1]
      simp only [c1, c2, c3, c4, if_false, show (M', ρ).1 = M' from rfl]
      rw [f1, zms_ne (by omega)]
    · by_cases e : p = q
      · subst e
        rw [f4 _ _ _ (by omega), zms_eq]
      · rw [f3 p (by omega) h2, zms_ne (by omega)]
    · rw [f4 k j z (by omega), zms_ne (by omega)]
theorem m_keeps {n : Nat} {H : Nat → zSheet} (h : mSheet M 31 T) (hh : mHist M i n H) : ∃ M', zrun zP 188 [zR 16 i] (M, ρ) = zvd (M', ρ) ∧ mHist M' i (min (n + 1) 12) (hPush T H) ∧ ∀ k j z, ¬ (k = 16 ∧ j = i ∧ z = 6) → ¬ (k = 34 ∧ j = 0) → M' k j z = M k j z := by
  obtain ⟨hn, h1, h2⟩ := hh
  have e12 : (nI n = 12) = (n = 12) := nI_ne (b := 12) (by omega) (by omega)
  rw [e_X6_keeps, show (M, ρ).1 = M from rfl, h1]
  simp only [e12]
  by_cases c : n = 12
  · subst c
    obtain ⟨M1, e1, e2, e3⟩ := ks_loop (i := i) (ρ := ρ) 8195 0 M (by omega)
    rw [nI_0, h1, show nI 12 - 1 = nI 11 from nI_pred 11] at e1
    obtain ⟨M2, f1, f2, f3, f4⟩ := kp_loop (i := i) (ρ := ρ) (c := 11) (by omega) 745 0 (zms M1 16 i 6 (nI 11)) (by omega) zms_eq
    rw [nI_0] at f1
    refine ⟨M2, ?_, ⟨by omega, f2, fun j hj => ?_⟩, fun k j z a1 a2 => ?_⟩
    · rw [if_pos rfl, e1, f1]
    · cases j with
      | zero =>
        refine mSheet_congr (fun q hq => ?_) h
        show M2 34 0 (745 * 11 + q) = M 31 0 q
        rw [f3 q (by omega) hq, zms_ne (by omega), e3 _ _ _ (by omega)]
      | succ j =>
        have hj' : j < 11 := by omega
        refine mSheet_congr (fun q hq => ?_) (h2 j (by omega))
        show M2 34 0 (745 * (12 - 1 - (j + 1)) + q) = M 34 0 (745 * (12 - 1 - j) + q)
        rw [f4 _ _ _ (by omega) (by omega), zms_ne (by omega), e2 _ (by omega) (by omega)]
        congr 1
        omega
    · rw [f4 k j z a1 (fun e => a2 ⟨e.1, e.2.1⟩), zms_ne a1, e3 k j z (fun e => a2 ⟨e.1, e.2.1⟩)]
  · obtain ⟨M2, f1, f2, f3, f4⟩ := kp_loop (i := i) (ρ := ρ) (c := n) (by omega) 745 0 M (by omega) h1
    rw [nI_0] at f1
    rw [show min (n + 1) 12 = n + 1 by omega]
    refine ⟨M2, ?_, ⟨by omega, f2, fun j hj => ?_⟩, fun k j z a1 a2 => ?_⟩
    · rw [if_neg c, f1]
    · cases j with
      | zero =>
        refine mSheet_congr (fun q hq => ?_) h
        show M2 34 0 (745 * (n + 1 - 1 - 0) + q) = M 31 0 q
        rw [show n + 1 - 1 - 0 = n by omega, f3 q (by omega) hq]
      | succ j =>
        refine mSheet_congr (fun q hq => ?_) (h2 j (by omega))
        show M2 34 0 (745 * (n + 1 - 1 - (j + 1)) + q) = M 34 0 (745 * (n - 1 - j) + q)
        rw [show n + 1 - 1 - (j + 1) = n - 1 - j by omega]
        have hb : 745 * (n - 1 - j) + q < 745 * n := by
          have : n - 1 - j + 1 ≤ n := by omega
          have := Nat.mul_le_mul_left 745 this
          omega
        exact f4 _ _ _ (by omega) (by omega)
    · exact f4 k j z a1 (fun e => a2 ⟨e.1, e.2.1⟩)
theorem un_loop {c : Nat} (hc : c < 12) : ∀ d q M', q + d = 745 → M' 16 i 6 = nI c → ∃ M'', zX zP zK_X6_undo (26, [zR 16 i, zI (nI q)], []) (M', ρ) = zok (nI c) (M'', ρ) ∧ (∀ p, q ≤ p → p < 745 → M'' 31 0 p = M' 34 0 (745 * c + p)) ∧ ∀ k j z, ¬ (k = 31 ∧ j = 0 ∧ q ≤ z ∧ z < 745) → M'' k j z = M' k j z := by
  intro d
  induction d with
  | zero =>
    intro q M' hd h0
    have : q = 745 := by omega
    subst this
    refine ⟨M', ?_, fun p h1 h2 => by omega, fun k j z h1 => rfl⟩
    rw [e_X6_undo_26, if_neg (by decide), show (M', ρ).1 = M' from rfl, h0]
  | succ d ih =>
    intro q M' hd h0
    have c1 := nIk (k := q) (N := 745) (by omega) (by omega)
    have c2 := nI_clamp (n := q) (by omega)
    have c3 := nIk (k := 745 * c + q) (N := 8940) (by omega) (by omega)
    have c4 := nI_clamp (n := 745 * c + q) (by omega)
    obtain ⟨M2, f1, f3, f4⟩ := ih (q + 1) (zms M' 31 0 q (M' 34 0 (745 * c + q))) (by omega) ((zms_ne (by omega)).trans h0)
    refine ⟨M2, ?_, fun p h1 h2 => ?_, fun k j z h1 => ?_⟩
    · rw [e_X6_undo_26, if_pos (show nI q < 745 from (nI_lt (by omega) (by omega) : nI q < nI 745)), show (M', ρ).1 = M' from rfl, h0, nI_fr, nI_1]
      simp only [c1, c2, c3, c4, if_false]
      exact f1
    · by_cases e : p = q
      · subst e
        rw [f4 _ _ _ (by omega), zms_eq]
      · rw [f3 p (by omega) h2, zms_ne (by omega)]
    · rw [f4 k j z (by omega), zms_ne (by omega)]
theorem m_undo0 {H : Nat → zSheet} (hh : mHist M i 0 H) : zrun zP 218 [zR 16 i] (M, ρ) = zok (-1) (zms M 16 i 0 0, ρ) := by
  rw [e_X6_undo, show (M, ρ).1 = M from rfl, zms_ne (by omega), hh.2.1, nI_0, if_pos rfl]
theorem m_undo {n : Nat} {H : Nat → zSheet} (hh : mHist M i (n + 1) H) : ∃ M', zrun zP 218 [zR 16 i] (M, ρ) = zok (nI n) (M', ρ) ∧ mSheet M' 31 (H 0) ∧ mHist M' i n (fun j => H (j + 1)) ∧ M' 16 i 0 = 0 ∧ ∀ k j z, ¬ (k = 16 ∧ j = i ∧ (z = 0 ∨ z = 6)) → ¬ (k = 31 ∧ j = 0) → M' k j z = M k j z := by
  obtain ⟨hn, h1, h2⟩ := hh
  have e0 : ¬ nI (n + 1) = 0 := fun e => by
    have := (nI_ne (a := n + 1) (b := 0) (by omega) (by omega)).mp e
    omega
  obtain ⟨M2, f1, f3, f4⟩ := un_loop (i := i) (ρ := ρ) (c := n) (by omega) 745 0 (zms (zms M 16 i 0 0) 16 i 6 (nI n)) (by omega) zms_eq
  rw [nI_0] at f1
  have hb : ∀ z, M2 34 0 z = M 34 0 z := fun z => by rw [f4 _ _ _ (by omega), zms_ne (by omega), zms_ne (by omega)]
  refine ⟨M2, ?_, ?_, ⟨by omega, ?_, fun j hj => ?_⟩, ?_, fun k j z a1 a2 => ?_⟩
  · rw [e_X6_undo, show (M, ρ).1 = M from rfl, zms_ne (show ¬ (16 = 16 ∧ i = i ∧ 6 = 0) by omega), h1, if_neg e0, nI_pred]
    exact f1
  · refine mSheet_congr (fun q hq => ?_) (h2 0 (by omega))
    show M2 31 0 q = M 34 0 (745 * (n + 1 - 1 - 0) + q)
    rw [f3 q (by omega) hq, zms_ne (by omega), zms_ne (by omega), show n + 1 - 1 - 0 = n by omega]
  · rw [f4 _ _ _ (by omega), zms_eq]
  · refine mSheet_congr (fun q hq => ?_) (h2 (j + 1) (by omega))
    show M2 34 0 (745 * (n - 1 - j) + q) = M 34 0 (745 * (n + 1 - 1 - (j + 1)) + q)
    rw [hb, show n + 1 - 1 - (j + 1) = n - 1 - j by omega]
  · rw [f4 _ _ _ (by omega), zms_ne (by omega), zms_eq]
  · rw [f4 k j z (fun e => a2 ⟨e.1, e.2.1⟩), zms_ne (by omega), zms_ne (by omega)]
end ZMB
