/-! the reference: a mark comes, a mark goes -/
/-- nothing but the tier's marks and their number has changed -/
def mFr (M M' : zMem) (t : Nat) : Prop := ∀ k j s, ¬ (k = 31 ∧ j = 0 ∧ (s = 3 + 124 * t ∨ (5 + 124 * t ≤ s ∧ s < 125 + 124 * t))) → M' k j s = M k j s
theorem mFr_rf {M : zMem} {t : Nat} : mFr M M t := fun _ _ _ _ => rfl
theorem mFr_tr {M M1 M2 : zMem} {t : Nat} (h1 : mFr M M1 t) (h2 : mFr M1 M2 t) : mFr M M2 t := fun k j s h => (h2 k j s h).trans (h1 k j s h)
def mw3 (M : zMem) (t s : Nat) (x y z : Int32) : zMem := zms (zms (zms M 31 0 (5 + 124 * t + 3 * s) x) 31 0 (6 + 124 * t + 3 * s) y) 31 0 (7 + 124 * t + 3 * s) z
theorem mw3_f {M : zMem} {t s j : Nat} {x y z : Int32} : mw3 M t s x y z 31 0 (5 + 124 * t + 3 * j) = if j = s then x else M 31 0 (5 + 124 * t + 3 * j) := by
  unfold mw3
  rw [zms_ne (by omega), zms_ne (by omega), zms_sl]
  by_cases h : j = s
  · rw [if_pos h, if_pos (by omega)]
  · rw [if_neg h, if_neg (by omega)]
theorem mw3_t {M : zMem} {t s j : Nat} {x y z : Int32} : mw3 M t s x y z 31 0 (6 + 124 * t + 3 * j) = if j = s then y else M 31 0 (6 + 124 * t + 3 * j) := by
  unfold mw3
  rw [zms_ne (by omega), zms_sl]
  by_cases h : j = s
  · rw [if_pos h, if_pos (by omega)]
  · rw [if_neg h, if_neg (by omega), zms_ne (by omega)]
theorem mw3_l {M : zMem} {t s j : Nat} {x y z : Int32} : mw3 M t s x y z 31 0 (7 + 124 * t + 3 * j) = if j = s then z else M 31 0 (7 + 124 * t + 3 * j) := by
  unfold mw3
  rw [zms_sl]
  by_cases h : j = s
  · rw [if_pos h, if_pos (by omega)]
  · rw [if_neg h, if_neg (by omega), zms_ne (by omega), zms_ne (by omega)]
theorem mw3_c {M : zMem} {t s : Nat} {x y z : Int32} : mw3 M t s x y z 31 0 (3 + 124 * t) = M 31 0 (3 + 124 * t) := by
  unfold mw3
  rw [zms_ne (by omega), zms_ne (by omega), zms_ne (by omega)]
theorem mw3_fr {M : zMem} {t s : Nat} {x y z : Int32} (hs : s < 40) : mFr M (mw3 M t s x y z) t := by
  intro k j q h
  unfold mw3
  rw [zms_ne (fun e => h ⟨e.1, e.2.1, by omega⟩), zms_ne (fun e => h ⟨e.1, e.2.1, by omega⟩), zms_ne (fun e => h ⟨e.1, e.2.1, by omega⟩)]
theorem mc_fr {M : zMem} {t : Nat} {x : Int32} : mFr M (zms M 31 0 (3 + 124 * t) x) t := by
  intro k j q h
  rw [zms_ne (fun e => h ⟨e.1, e.2.1, Or.inl e.2.2⟩)]
section ZMM
variable {i t : Nat} {r : zTier} {M : zMem} {ρ : Int64 × Nat}
def minI (M M' : zMem) (t : Nat) (r : zTier) (q : Nat) : Prop := mFr M M' t ∧ M' 31 0 (3 + 124 * t) = nI (rct r) ∧ (∀ j, j < q → M' 31 0 (5 + 124 * t + 3 * j) = rfr r j ∧ M' 31 0 (6 + 124 * t + 3 * j) = rto r j ∧ M' 31 0 (7 + 124 * t + 3 * j) = rlb r j) ∧ ∀ j, q < j → j ≤ rct r → M' 31 0 (5 + 124 * t + 3 * j) = rfr r (j - 1) ∧ M' 31 0 (6 + 124 * t + 3 * j) = rto r (j - 1) ∧ M' 31 0 (7 + 124 * t + 3 * j) = rlb r (j - 1)
def minE (M M' : zMem) (t : Nat) (r : zTier) (p : Nat) (a b l : Int32) : Prop := mFr M M' t ∧ M' 31 0 (3 + 124 * t) = nI (rct r + 1) ∧ ∀ j, j < rct r + 1 → M' 31 0 (5 + 124 * t + 3 * j) = insF (rfr r) p a j ∧ M' 31 0 (6 + 124 * t + 3 * j) = insF (rto r) p b j ∧ M' 31 0 (7 + 124 * t + 3 * j) = insF (rlb r) p l j
theorem min_end {M' : zMem} {q : Nat} {a b l : Int32} (hlt : rct r < 40) (hq : q ≤ rct r) (h : minI M M' t r q) : minE M (zms (mw3 M' t q a b l) 31 0 (3 + 124 * t) (nI (rct r) + 1)) t r q a b l := by
  obtain ⟨h1, h2, h3, h4⟩ := h
  refine ⟨mFr_tr (mFr_tr h1 (mw3_fr (by omega))) mc_fr, by rw [zms_eq, nI_1], fun j hj => ?_⟩
  rw [zms_ne (by omega), zms_ne (by omega), zms_ne (by omega), mw3_f, mw3_t, mw3_l]
  unfold insF
  rcases Nat.lt_trichotomy j q with e | e | e
  · have := h3 j e
    simp only [if_neg (show ¬ j = q by omega), if_pos e]
    exact this
  · rw [if_pos e, if_pos e, if_pos e, if_neg (show ¬ j < q by omega), if_neg (show ¬ j < q by omega), if_neg (show ¬ j < q by omega), if_pos e, if_pos e, if_pos e]
    exact ⟨rfl, rfl, rfl⟩
  · have := h4 j e (by omega)
    simp only [if_neg (show ¬ j = q by omega), if_neg (show ¬ j < q by omega)]
    exact this
theorem m_end (ht : t < 6) {q : Nat} (hq : q < 40) (σ : zSt) (a b l : Int32) :
    zcI (zrun zP 143 [zI (nI t), zI (nI q), zI 0] σ) (fun r2 s2 => if r2 < 0 ∨ 745 ≤ Int32.toNatClampNeg r2 then none else
      zcI (zrun zP 143 [zI (nI t), zI (nI q), zI 1] (zms s2.1 31 0 (Int32.toNatClampNeg r2) a, s2.2)) (fun r3 s3 => if r3 < 0 ∨ 745 ≤ Int32.toNatClampNeg r3 then none else
      zcI (zrun zP 143 [zI (nI t), zI (nI q), zI 2] (zms s3.1 31 0 (Int32.toNatClampNeg r3) b, s3.2)) (fun r4 s4 => if r4 < 0 ∨ 745 ≤ Int32.toNatClampNeg r4 then none else
      zcI (zrun zP 139 [zI (nI t), zI 2] (zms s4.1 31 0 (Int32.toNatClampNeg r4) l, s4.2)) (fun r5 s5 => if r5 < 0 ∨ 745 ≤ Int32.toNatClampNeg r5 then none else if r5 < 0 ∨ 745 ≤ Int32.toNatClampNeg r5 then none else some (.inl (some (zI (nI q))), (zms s5.1 31 0 (Int32.toNatClampNeg r5) ((s5.1 31 0 (Int32.toNatClampNeg r5)) + 1), s5.2)))))) = zok (nI q) (zms (mw3 σ.1 t q a b l) 31 0 (3 + 124 * t) (mw3 σ.1 t q a b l 31 0 (3 + 124 * t) + 1), σ.2) := by
  obtain ⟨a1, a2⟩ := m_rd (q := 5 + 124 * t + 3 * q) (by omega)
  obtain ⟨b1, b2⟩ := m_rd (q := 6 + 124 * t + 3 * q) (by omega)
  obtain ⟨c1, c2⟩ := m_rd (q := 7 + 124 * t + 3 * q) (by omega)
  obtain ⟨d1, d2⟩ := m_rd (q := 3 + 124 * t) (by omega)
  rw [m_cell0, zcI_ok]
  simp only [a1, if_false]
  rw [m_cell1, zcI_ok]
  simp only [b1, if_false]
  rw [m_cell2, zcI_ok]
  simp only [c1, if_false]
  rw [m_pos2, zcI_ok]
  simp only [d1, if_false]
  rw [a2, b2, c2, d2]
  rfl
theorem m_shift (ht : t < 6) {q : Nat} (hq : q + 1 < 40) (a b l : Int32) (σ : zSt) : zX zP zK_X6_inserts (28, [zR 16 i, zI (nI t), zI a, zI b, zI l, zI (nI (q + 1)), zI 0], []) σ = zX zP zK_X6_inserts (7, [zR 16 i, zI (nI t), zI a, zI b, zI l, zI (nI q), zI 3], []) (mw3 σ.1 t (q + 1) (σ.1 31 0 (5 + 124 * t + 3 * q)) (σ.1 31 0 (6 + 124 * t + 3 * q)) (σ.1 31 0 (7 + 124 * t + 3 * q)), σ.2) := by
  obtain ⟨a1, a2⟩ := m_rd (q := 5 + 124 * t + 3 * q) (by omega)
  obtain ⟨b1, b2⟩ := m_rd (q := 6 + 124 * t + 3 * q) (by omega)
  obtain ⟨c1, c2⟩ := m_rd (q := 7 + 124 * t + 3 * q) (by omega)
  obtain ⟨a3, a4⟩ := m_rd (q := 5 + 124 * t + 3 * (q + 1)) (by omega)
  obtain ⟨b3, b4⟩ := m_rd (q := 6 + 124 * t + 3 * (q + 1)) (by omega)
  obtain ⟨c3, c4⟩ := m_rd (q := 7 + 124 * t + 3 * (q + 1)) (by omega)
  rw [e_X6_inserts_28, if_pos (by decide), m_cell0, zcI_ok, nI_pred, m_cell0, zcI_ok]
  simp only [a1, a3, if_false]
  rw [a2, a4, show (0 : Int32) + 1 = 1 from rfl, e_X6_inserts_28, if_pos (by decide), m_cell1, zcI_ok, nI_pred, m_cell1, zcI_ok]
  simp only [b1, b3, if_false]
  rw [b2, b4, show (1 : Int32) + 1 = 2 from rfl, e_X6_inserts_28, if_pos (by decide), m_cell2, zcI_ok, nI_pred, m_cell2, zcI_ok]
  simp only [c1, c3, if_false]
  rw [c2, c4, show (2 : Int32) + 1 = 3 from rfl, e_X6_inserts_28, if_neg (by decide), pk_m1, zms_ne (by omega), zms_ne (by omega), zms_ne (by omega)]
  rfl
theorem min_loop (ht : t < 6) (hlt : rct r < 40) (a b l : Int32) : ∀ q M' (v : zAV), q ≤ rct r → minI M M' t r q → ∃ M'', zX zP zK_X6_inserts (7, [zR 16 i, zI (nI t), zI a, zI b, zI l, zI (nI q), v], []) (M', ρ) = zok (nI (pPl (rfr r) a q)) (M'', ρ) ∧ minE M M'' t r (pPl (rfr r) a q) a b l := by
  intro q
  induction q with
  | zero =>
    intro M' v hq h
    refine ⟨_, ?_, min_end hlt hq h⟩
    rw [e_X6_inserts_7, if_neg (by rw [nI_0]; decide)]
    refine (m_end ht (q := 0) (by omega) (M', ρ) a b l).trans ?_
    rw [mw3_c, show (M', ρ).1 = M' from rfl, h.2.1]
    rfl
  | succ q ih =>
    intro M' v hq h
    have f := h.2.2.1 q (by omega)
    have hpos : (0 : Int32) < nI (q + 1) := by rw [nI_0l (by omega)]; omega
    obtain ⟨a1, a2⟩ := m_rd (q := 5 + 124 * t + 3 * q) (by omega)
    have hfrom : zrun zP 144 [zR 16 i, zI (nI t), zI (nI q)] (M', ρ) = zok (rfr r q) (M', ρ) := by
      rw [e_X6_from, m_cell0, zcI_ok]
      simp only [a1, if_false]
      rw [a2, f.1]
    rw [e_X6_inserts_7, if_pos hpos, nI_pred, hfrom, zcI_ok]
    simp only [pPl]
    by_cases hc : a < rfr r q
    · rw [if_pos hc, if_pos hc, m_shift ht (by omega)]
      simp only [f]
      refine ih (mw3 M' t (q + 1) (rfr r q) (rto r q) (rlb r q)) _ (by omega) ?_
      obtain ⟨h1, h2, h3, h4⟩ := h
      refine ⟨mFr_tr h1 (mw3_fr (by omega)), by rw [mw3_c]; exact h2, fun j hj => ?_, fun j hj hj2 => ?_⟩
      · rw [mw3_f, mw3_t, mw3_l]
        simp only [if_neg (show ¬ j = q + 1 by omega)]
        exact h3 j (by omega)
      · rw [mw3_f, mw3_t, mw3_l]
        by_cases e : j = q + 1
        · rw [if_pos e, if_pos e, if_pos e, e]
          exact ⟨rfl, rfl, rfl⟩
        · rw [if_neg e, if_neg e, if_neg e]
          exact h4 j (by omega) hj2
    · rw [if_neg hc, if_neg hc]
      refine ⟨_, ?_, min_end hlt hq h⟩
      refine (m_end ht (q := q + 1) (by omega) (M', ρ) a b l).trans ?_
      rw [mw3_c, show (M', ρ).1 = M' from rfl, h.2.1]
theorem m_inserts (h : mRow M 31 t r) (ht : t < 6) (hlt : rct r < 40) (a b l : Int32) : ∃ M', zrun zP 153 [zR 16 i, zI (nI t), zI a, zI b, zI l] (M, ρ) = zok (nI (pPl (rfr r) a (rct r))) (M', ρ) ∧ mRow M' 31 t (tIns r a b l) ∧ mFr M M' t := by
  have hh := h
  obtain ⟨h0, h1, hc, h2, hn, hk⟩ := h
  obtain ⟨M', e1, e2, e3, e4⟩ := min_loop (M := M) (i := i) (ρ := ρ) ht hlt a b l (rct r) M zJunk (Nat.le_refl _) ⟨mFr_rf, hc, hk, fun j hj hj2 => by omega⟩
  refine ⟨M', ?_, ?_, e2⟩
  · rw [e_X6_inserts, m_many hh ht, zcI_ok]
    exact e1
  · exact ⟨(e2 31 0 _ (by omega)).trans h0, (e2 31 0 _ (by omega)).trans h1, e3, (e2 31 0 _ (by omega)).trans h2, (by show rct r + 1 ≤ 40; omega), e4⟩
end ZMM
