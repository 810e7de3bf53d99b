/-! the nearest time -/
def dst (a b : Nat) : Nat := (a - b) + (b - a)
def pNr (Q : Nat → Prop) (y v : Nat) : Prop := v < 1000 ∧ Q v ∧ ∀ w, w < 1000 → Q w → dst v y < dst w y ∨ (dst v y = dst w y ∧ v ≤ w)
theorem pNr_u {Q : Nat → Prop} {y v v' : Nat} (h : pNr Q y v) (h' : pNr Q y v') : v = v' := by
  have a := h.2.2 v' h'.1 h'.2.1
  have b := h'.2.2 v h.1 h.2.1
  omega
theorem pNr_self {Q : Nat → Prop} {y v : Nat} (h : pNr Q y v) (hy : y < 1000) : v = y ↔ Q y := by
  constructor
  · intro e; rw [← e]; exact h.2.1
  · intro e
    have a := h.2.2 y hy e
    unfold dst at a
    omega
theorem abs_n {a b : Nat} (ha : a ≤ 999) (hb : b ≤ 999) : (if 0 ≤ nI a - nI b then nI a - nI b else 0 - (nI a - nI b)) = nI (dst a b) := by
  have i0 := iI_0
  have ia := iI_n (n := a) (by omega)
  have ib := iI_n (n := b) (by omega)
  have es : (nI a - nI b).toInt = (a : Int) - b := by rw [iI_sub (by omega) (by omega), ia, ib]
  have hd : dst a b ≤ 999 := by unfold dst; omega
  by_cases c : b ≤ a
  · rw [if_pos (Int32.le_iff_toInt_le.mpr (by rw [es, i0]; omega)), nI_sub c]
    congr 1
    unfold dst
    omega
  · rw [if_neg (fun e => by
      have := Int32.le_iff_toInt_le.mp e
      rw [es, i0] at this
      omega)]
    rw [iI_eq, iI_sub (by rw [es, i0]; omega) (by rw [es, i0]; omega), es, i0, iI_n (by omega)]
    unfold dst
    omega
section ZNE
variable {i : Nat} {Q : Nat → Prop} {M : zMem} {ρ : Int64 × Nat} {σ : zSt}
theorem t_nearest (h : cTimes σ.1 i Q) (hq : 0 < cnt Q 1000) {y : Nat} (hy : y ≤ 999) : ∃ v, zrun zP 90 [zR 14 i, zI (nI y)] σ = zok (nI v) σ ∧ pNr Q y v := by
  have hl := zlen23 i
  have h2 := h.2.1
  have hm := cnt_mono (P := Q) (show y ≤ 1000 by omega)
  have lo : ∀ w, w < 1000 → Q w → w < y → cnt Q w < cnt Q y := fun w _ q hw => cnt_lt hw q
  have hi : ∀ w, w < 1000 → Q w → ¬ w < y → cnt Q y ≤ cnt Q w := fun w _ q hw => cnt_mono (by omega)
  have mono : ∀ v w, v < 1000 → w < 1000 → Q v → Q w → cnt Q v ≤ cnt Q w → v ≤ w := fun v w _ _ qv qw hvw => by
    apply Classical.byContradiction
    intro c
    have := cnt_lt (show w < v by omega) qw
    omega
  rw [e_X4_nearest, h.1, if_neg (fun e => by have := (nI_eq (b := 0) (by omega) (by omega)).mp e; omega), t_placeOf h (by omega), zcI_ok]
  have z0 := nIk (k := 0) (N := zlenI 23 i) (by omega) (by omega)
  have z0' := nI_clamp (n := 0) (by omega)
  rw [nI_0] at z0 z0'
  by_cases c0 : cnt Q y = 0
  · obtain ⟨v, v1, v2, v3⟩ := cnt_sur 1000 0 hq
    have ev := h.2.2 v v1 v2
    rw [v3] at ev
    refine ⟨v, ?_, v1, v2, fun w w1 w2 => ?_⟩
    · rw [c0, if_pos nI_0]
      simp only [z0, z0', if_false]
      rw [ev]
    · have a : ¬ v < y := fun e => by have := lo v v1 v2 e; omega
      have b := mono v w v1 w1 v2 w2 (by omega)
      unfold dst
      omega
  · have e1 : nI (cnt Q y) - 1 = nI (cnt Q y - 1) := nI_sub (b := 1) (by omega)
    have ne : ¬ nI (cnt Q y) = 0 := fun e => c0 ((nI_eq (b := 0) (by omega) (by omega)).mp e)
    have p1 := nIk (k := cnt Q y - 1) (N := zlenI 23 i) (by omega) (by omega)
    have p2 := nI_clamp (n := cnt Q y - 1) (by omega)
    obtain ⟨e, e1', e2, e3⟩ := cnt_sur (P := Q) 1000 (cnt Q y - 1) (by omega)
    have ee := h.2.2 e e1' e2
    rw [e3] at ee
    have ey : e < y := cnt_ge (P := Q) (by omega)
    have leE : ∀ w, w < 1000 → Q w → w < y → w ≤ e := fun w w1 w2 w3 => mono w e w1 e1' w2 e2 (by have := lo w w1 w2 w3; omega)
    rw [if_neg ne]
    simp only [e1, p1, p2, if_false]
    rw [ee, h.1]
    by_cases cf : cnt Q y = cnt Q 1000
    · refine ⟨e, by rw [cf, if_pos rfl], e1', e2, fun w w1 w2 => ?_⟩
      have a : w < y := Classical.byContradiction (fun q => by
        have := hi w w1 w2 q
        have := cnt_lt w1 w2
        omega)
      have b := leE w w1 w2 a
      unfold dst
      omega
    · have cl : cnt Q y < cnt Q 1000 := by omega
      obtain ⟨f, f1, f2, f3⟩ := cnt_sur 1000 (cnt Q y) cl
      have ef := h.2.2 f f1 f2
      rw [f3] at ef
      have fy : ¬ f < y := fun q => by have := lo f f1 f2 q; omega
      have geF : ∀ w, w < 1000 → Q w → ¬ w < y → f ≤ w := fun w w1 w2 w3 => mono f w f1 w1 f2 w2 (by have := hi w w1 w2 w3; omega)
      have p3 := nIk (k := cnt Q y) (N := zlenI 23 i) (by omega) (by omega)
      have p4 := nI_clamp (n := cnt Q y) (by omega)
      rw [if_neg (fun q => cf ((nI_eq (by omega) (by omega)).mp q))]
      simp only [p3, p4, if_false]
      rw [ef, nI_sub (show y ≤ f by omega), nI_sub (show e ≤ y by omega)]
      by_cases cd : f - y < y - e
      · refine ⟨f, by rw [if_pos (nI_lt cd (by omega))], f1, f2, fun w w1 w2 => ?_⟩
        by_cases wy : w < y
        · have := leE w w1 w2 wy
          unfold dst
          omega
        · have := geF w w1 w2 wy
          unfold dst
          omega
      · refine ⟨e, by rw [if_neg (nI_nlt (by omega) (by omega))], e1', e2, fun w w1 w2 => ?_⟩
        by_cases wy : w < y
        · have := leE w w1 w2 wy
          unfold dst
          omega
        · have := geF w w1 w2 wy
          unfold dst
          omega
theorem m_near_loop {a : Nat} (hl : zlenI (a + 1) 0 = 80) (h : mTimes σ.1 (a + 1) Q) (h80 : cnt Q 1000 ≤ 80) {y : Nat} (hy : y ≤ 999) : ∀ d k b, k + d = cnt Q 1000 → ((k = 0 ∧ b = -1) ∨ ∃ v, v < 1000 ∧ Q v ∧ b = nI v ∧ cnt Q v < k ∧ ∀ w, w < 1000 → Q w → cnt Q w < k → dst v y < dst w y ∨ (dst v y = dst w y ∧ v ≤ w)) → ∃ b', zX zP zK_X6_nearest (5, [zR (a + 1) 0, zI (nI (cnt Q 1000)), zI (nI y), zI b, zI (nI k)], []) σ = zok b' σ ∧ ((cnt Q 1000 = 0 ∧ b' = -1) ∨ ∃ v, b' = nI v ∧ pNr Q y v) := by
  intro d
  induction d with
  | zero =>
    intro k b hk hb
    refine ⟨b, ?_, ?_⟩
    · rw [e_X6_nearest_5, if_neg (nI_nlt (by omega) (by omega))]
    · rcases hb with ⟨b1, b2⟩ | ⟨v, v1, v2, v3, v4, v5⟩
      · exact Or.inl ⟨by omega, b2⟩
      · exact Or.inr ⟨v, v3, v1, v2, fun w w1 w2 => v5 w w1 w2 (by have := cnt_lt w1 w2; omega)⟩
  | succ d ih =>
    intro k b hk hb
    have ein := nIk (k := k) (N := 80) (by omega) (by omega)
    have ecl := nI_clamp (n := k) (by omega)
    obtain ⟨x, x1, x2, x3⟩ := cnt_sur (P := Q) 1000 k (by omega)
    have ev := h x x1 x2
    rw [x3] at ev
    have mono : ∀ w, w < 1000 → Q w → cnt Q w < k → w < x := fun w _ q hw => cnt_ge (P := Q) (by omega)
    have uniq : ∀ w, w < 1000 → Q w → cnt Q w < k + 1 → ¬ cnt Q w < k → w = x := fun w w1 q hw1 hw2 => by
      rcases Nat.lt_trichotomy w x with c | c | c
      · have := cnt_lt c q; omega
      · exact c
      · have := cnt_lt c x2; omega
    rw [e_X6_nearest_5, if_pos (nI_lt (by omega) (by omega)), nI_1]
    simp only [hl, ecl, ein, if_false]
    rw [ev]
    rcases hb with ⟨b1, b2⟩ | ⟨v, v1, v2, v3, v4, v5⟩
    · rw [if_pos b2]
      exact ih (k + 1) (nI x) (by omega) (Or.inr ⟨x, x1, x2, rfl, by omega, fun w w1 w2 w3 => by
        have := uniq w w1 w2 w3 (by omega)
        rw [this]
        exact Or.inr ⟨rfl, Nat.le_refl _⟩⟩)
    · have vx := mono v v1 v2 v4
      rw [v3, if_neg (nI_m1 _ (by omega)), abs_n (by omega) hy, abs_n (by omega) hy]
      have hd1 : dst x y ≤ 999 := by unfold dst; omega
      have hd2 : dst v y ≤ 999 := by unfold dst; omega
      by_cases c : dst x y < dst v y
      · rw [if_pos (nI_lt c (by omega))]
        exact ih (k + 1) (nI x) (by omega) (Or.inr ⟨x, x1, x2, rfl, by omega, fun w w1 w2 w3 => by
          by_cases q : cnt Q w < k
          · have := v5 w w1 w2 q; omega
          · rw [uniq w w1 w2 w3 q]; exact Or.inr ⟨rfl, Nat.le_refl _⟩⟩)
      · rw [if_neg (nI_nlt (by omega) (by omega))]
        exact ih (k + 1) (nI v) (by omega) (Or.inr ⟨v, v1, v2, rfl, by omega, fun w w1 w2 w3 => by
          by_cases q : cnt Q w < k
          · exact v5 w w1 w2 q
          · rw [uniq w w1 w2 w3 q]; omega⟩)
theorem m_nearest {a : Nat} (hl : zlenI (a + 1) 0 = 80) (h : mTimes σ.1 (a + 1) Q) (h80 : cnt Q 1000 ≤ 80) {y : Nat} (hy : y ≤ 999) : ∃ b', zrun zP 215 [zR (a + 1) 0, zI (nI (cnt Q 1000)), zI (nI y)] σ = zok b' σ ∧ ((cnt Q 1000 = 0 ∧ b' = -1) ∨ ∃ v, b' = nI v ∧ pNr Q y v) := by
  obtain ⟨b', g1, g2⟩ := m_near_loop hl h h80 hy (cnt Q 1000) 0 (-1) (by omega) (Or.inl ⟨rfl, rfl⟩)
  rw [nI_0] at g1
  exact ⟨b', (e_X6_nearest a 0 _ _ σ).trans g1, g2⟩
noncomputable def nrv (Q : Nat → Prop) (y : Nat) : Nat := Classical.epsilon (fun v => pNr Q y v)
theorem nrv_e {y v : Nat} (h : pNr Q y v) : nrv Q y = v := pNr_u (Classical.epsilon_spec (p := fun v => pNr Q y v) ⟨v, h⟩) h
noncomputable def yk (P : Nat → Prop) (k : Nat) : Nat := Classical.epsilon (fun y => y < 1000 ∧ P y ∧ cnt P y = k)
theorem yk_e {P : Nat → Prop} {k : Nat} (h : k < cnt P 1000) : yk P k < 1000 ∧ P (yk P k) ∧ cnt P (yk P k) = k := Classical.epsilon_spec (p := fun y => y < 1000 ∧ P y ∧ cnt P y = k) (cnt_sur 1000 k h)
/-- the stop goes to the other's nearest -/
def pGo (T : zSheet) (top : Nat) (Q : Nat → Prop) (ap : Int32) (y : Nat) : Prop := 0 < cnt Q 1000 ∧ ¬ nrv Q y = y ∧ ¬ ap < nI (dst (nrv Q y) y) ∧ pMayMove T top y (nI (nrv Q y))
theorem c_goal {T : zSheet} (hS : cSheet σ.1 0 T) (h : cTimes σ.1 2 Q) (hw : zwp T) (hwt : zwt T) {top y : Nat} (htop : top < 2 ^ 31) (hy : y ≤ 999) (ap : Int32) : zrun zP 133 [zR 15 i, zI (nI top), zI (nI y), zI ap] σ = zok (zif (pGo T top Q ap y) (nI (nrv Q y)) (-1)) σ := by
  have h8 : cnt Q 1000 ≤ 80 := h.2.1
  rw [e_X5_goalOfSnap, h.1]
  by_cases c0 : cnt Q 1000 = 0
  · rw [if_pos (by rw [c0]; rfl), zif_f (fun e => by have := e.1; omega)]
  · rw [if_neg (show ¬ nI (cnt Q 1000) = 0 from fun e => c0 ((nI_eq (b := 0) (by omega) (by omega)).mp e)), t_has h (by omega), zcI_ok]
    obtain ⟨v, v1, v2⟩ := t_nearest h (by omega) hy
    have ev := nrv_e v2
    have vs := pNr_self v2 (by omega)
    have v9 := v2.1
    by_cases c1 : Q y
    · rw [zb_t c1, if_neg (by decide), zif_f (fun e => e.2.1 (by rw [ev]; exact vs.mpr c1))]
    · rw [zb_f c1, if_pos rfl, v1, zcI_ok, abs_n (by omega) hy]
      by_cases c2 : ap < nI (dst v y)
      · rw [if_pos c2, zif_f (fun e => e.2.2.1 (by rw [ev]; exact c2))]
      · rw [if_neg c2, s_allowsShift hS hw hwt htop hy, zcI_ok]
        by_cases c3 : pMayMove T top y (nI v)
        · rw [zb_t c3, if_neg (by decide), zif_t ⟨by omega, by rw [ev]; exact fun e => c1 (vs.mp e), by rw [ev]; exact c2, by rw [ev]; exact c3⟩, ev]
        · rw [zb_f c3, if_pos rfl, zif_f (fun e => c3 (ev ▸ e.2.2.2))]
end ZNE
