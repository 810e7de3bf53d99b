/-! same answers alike -/
section ZSA
variable {P Q : Nat → Prop} {i n : Nat} {H : Nat → zSheet} {M : zMem} {σ : zSt} {ρ : Int64 × Nat}
theorem pa_0 {ap : Nat} {d : Nat → Nat → Nat} (i : Nat) : pa ap d i 0 = (0, 0) := by
  cases i <;> rfl
theorem wp_init (hq : cnt Q 1000 ≤ 80) (x1 : Int32) (v : zAV × zAV × zAV × zAV × zAV) : ∀ d j M', j + d = cnt Q 1000 + 1 → M' 14 2 1 = nI (cnt Q 1000) → (∀ l, l < j → M' 24 0 l = 0) → ∃ M'', zX zP zK_X5_weighPairs (2, [zR 15 i, zI x1, zI (nI j), v.1, v.2.1, v.2.2.1, v.2.2.2.1, v.2.2.2.2], []) (M', ρ) = zX zP zK_X5_weighPairs (28, [zR 15 i, zI x1, zI 0, v.1, v.2.1, v.2.2.1, v.2.2.2.1, v.2.2.2.2], []) (M'', ρ) ∧ (∀ l, l ≤ cnt Q 1000 → M'' 24 0 l = 0) ∧ ∀ k j q, ¬ (k = 24 ∧ j = 0) → M'' k j q = M' k j q := by
  intro d
  induction d with
  | zero =>
    intro j M' hj h14 hl
    refine ⟨M', ?_, fun l h => hl l (by omega), fun _ _ _ _ => rfl⟩
    rw [e_X5_weighPairs_2, show (M', ρ).1 14 2 1 = _ from h14, if_pos (nI_lt (by omega) (by omega))]
  | succ d ih =>
    intro j M' hj h14 hl
    have c1 := nIk (k := j) (N := 81) (by omega) (by omega)
    have c2 := nI_clamp (n := j) (by omega)
    obtain ⟨M2, g1, g2, g3⟩ := ih (j + 1) (zms M' 24 0 j 0) (by omega) ((zms_ne (by omega)).trans h14) (fun l h => by
      by_cases e : l = j
      · rw [e, zms_eq]
      · rw [zms_ne (by omega)]; exact hl l (by omega))
    refine ⟨M2, ?_, g2, fun k l q h => (g3 k l q h).trans (zms_ne (by omega))⟩
    rw [e_X5_weighPairs_2, show (M', ρ).1 14 2 1 = _ from h14, if_neg (nI_nlt (by omega) (by omega)), nI_1]
    simp only [c1, c2, if_false]
    exact g1
theorem wp_out {ap : Nat} (hap : ap ≤ 999) : ∀ d i' M' (v1 : zAV × zAV) (v : zAV × zAV × zAV), i' + d = cnt P 1000 → cTimes M' 1 P → cTimes M' 2 Q → (∀ l, l ≤ cnt Q 1000 → M' 24 0 l = nI (wt (pa ap (dPQ P Q) i' l))) → ∃ M'', zX zP zK_X5_weighPairs (28, [zR 15 i, zI (nI ap), zI (nI i'), v1.1, v1.2, v.1, v.2.1, v.2.2], []) (M', ρ) = zok (nI (wt (pa ap (dPQ P Q) (cnt P 1000) (cnt Q 1000)))) (M'', ρ) ∧ ∀ k j q, ¬ (k = 24 ∧ j = 0) → M'' k j q = M' k j q := by
  intro d
  induction d with
  | zero =>
    intro i' M' v1 v hi hP hQ hw
    have q80 : cnt Q 1000 ≤ 80 := hQ.2.1
    have p80 : cnt P 1000 ≤ 80 := hP.2.1
    have c1 := nIk (k := cnt Q 1000) (N := 81) (by omega) (by omega)
    have c2 := nI_clamp (n := cnt Q 1000) (by omega)
    refine ⟨M', ?_, fun _ _ _ _ => rfl⟩
    rw [e_X5_weighPairs_28, show (M', ρ).1 14 1 1 = _ from hP.1, show (M', ρ).1 14 2 1 = _ from hQ.1, if_neg (nI_nlt (by omega) (by omega))]
    simp only [c1, c2, if_false]
    rw [hw _ (Nat.le_refl _), show i' = cnt P 1000 by omega]
  | succ d ih =>
    intro i' M' v1 v hi hP hQ hw
    have p80 : cnt P 1000 ≤ 80 := hP.2.1
    have w0 : wRow M' P Q ap i' 0 := ⟨fun l hl => by
      rw [show l = 0 by omega, hw 0 (Nat.zero_le _), pa_0, pa_0], fun l hl hl2 => hw l hl2⟩
    obtain ⟨M2, u1, u2, g1, g2, g3⟩ := wp_in (i := i) (ρ := ρ) hap (show i' < cnt P 1000 by omega) (cnt Q 1000) 0 M' v (by omega) hP hQ w0
    rw [pa_0] at g1
    have z : nI (wt (0, 0)) = 0 := rfl
    rw [z, nI_0] at g1
    have tP : cTimes M2 1 P := ⟨(g3 _ _ _ (by omega)).trans hP.1, hP.2.1, fun y y1 y2 => (g3 _ _ _ (by omega)).trans (hP.2.2 y y1 y2)⟩
    have tQ : cTimes M2 2 Q := ⟨(g3 _ _ _ (by omega)).trans hQ.1, hQ.2.1, fun y y1 y2 => (g3 _ _ _ (by omega)).trans (hQ.2.2 y y1 y2)⟩
    obtain ⟨M3, k1, k2⟩ := ih (i' + 1) M2 u1 u2 (by omega) tP tQ g2
    refine ⟨M3, ?_, fun k j q h => (k2 k j q h).trans (g3 k j q h)⟩
    rw [e_X5_weighPairs_28, show (M', ρ).1 14 1 1 = _ from hP.1, if_pos (nI_lt (by omega) (by omega)), g1, k1]
theorem c_weigh {ap : Nat} (hap : ap ≤ 999) (hP : cTimes M 1 P) (hQ : cTimes M 2 Q) : ∃ M', zrun zP 134 [zR 15 i, zI (nI ap)] (M, ρ) = zok (nI (wt (pa ap (dPQ P Q) (cnt P 1000) (cnt Q 1000)))) (M', ρ) ∧ ∀ k j q, ¬ (k = 24 ∧ j = 0) → M' k j q = M k j q := by
  have q80 : cnt Q 1000 ≤ 80 := hQ.2.1
  obtain ⟨M1, g1, g2, g3⟩ := wp_init (i := i) (ρ := ρ) q80 (nI ap) (zJunk, zJunk, zJunk, zJunk, zJunk) (cnt Q 1000 + 1) 0 M (by omega) hQ.1 (fun l hl => by omega)
  have tP : cTimes M1 1 P := ⟨(g3 _ _ _ (by omega)).trans hP.1, hP.2.1, fun y y1 y2 => (g3 _ _ _ (by omega)).trans (hP.2.2 y y1 y2)⟩
  have tQ : cTimes M1 2 Q := ⟨(g3 _ _ _ (by omega)).trans hQ.1, hQ.2.1, fun y y1 y2 => (g3 _ _ _ (by omega)).trans (hQ.2.2 y y1 y2)⟩
  obtain ⟨M2, k1, k2⟩ := wp_out (i := i) (ρ := ρ) hap (cnt P 1000) 0 M1 (zJunk, zJunk) (zJunk, zJunk, zJunk) (by omega) tP tQ (fun l hl => (g2 l hl).trans rfl)
  rw [nI_0] at g1 k1
  refine ⟨M2, ?_, fun k j q h => (k2 k j q h).trans (g3 k j q h)⟩
  rw [e_X5_weighPairs, g1]
  exact k1
/-! the reference's table -/
def cel (M : zMem) (k : Nat) (s : Nat × Nat) : Prop := M 39 0 k = nI s.1 ∧ M 40 0 k = nI s.2
def clFr (M M' : zMem) (k : Nat) : Prop := ∀ a j q, ¬ ((a = 39 ∨ a = 40) ∧ j = 0 ∧ q = k) → M' a j q = M a j q
theorem m_better {k : Nat} (hk : k < 6561) {s m : Nat × Nat} (h : cel M k s) (s1 : s.1 < 2 ^ 31) (s2 : s.2 < 2 ^ 31) (m1 : m.1 < 2 ^ 31) (m2 : m.2 < 2 ^ 31) : ∃ M', zrun zP 241 [zR 16 i, zI (nI k), zI (nI m.1), zI (nI m.2)] (M, ρ) = zvd (M', ρ) ∧ cel M' k (btr s m) ∧ clFr M M' k := by
  have c1 := nIk (k := k) (N := 6561) hk (by omega)
  have c2 := nI_clamp (n := k) (by omega)
  have wr : cel (zms (zms M 39 0 k (nI m.1)) 40 0 k (nI m.2)) k m ∧ clFr M (zms (zms M 39 0 k (nI m.1)) 40 0 k (nI m.2)) k := ⟨⟨(zms_ne (by omega)).trans zms_eq, zms_eq⟩, fun a j q h => (zms_ne (by omega)).trans (zms_ne (by omega))⟩
  have e : zrun zP 241 [zR 16 i, zI (nI k), zI (nI m.1), zI (nI m.2)] (M, ρ) = (if m.1 < s.1 then zvd (M, ρ) else if m.1 = s.1 then (if m.2 < s.2 then zvd (zms (zms M 39 0 k (nI m.1)) 40 0 k (nI m.2), ρ) else if 0 < m.1 then zvd (M, ρ) else zvd (zms (zms M 39 0 k (nI m.1)) 40 0 k (nI m.2), ρ)) else zvd (zms (zms M 39 0 k (nI m.1)) 40 0 k (nI m.2), ρ)) := by
    rw [e_X6_better]
    simp only [c1, c2, if_false]
    rw [h.1, h.2]
    simp only [nI_lp m1 s1, nI_ne m1 s1, nI_lp m2 s2, nI_0l m1]
  unfold btr
  by_cases c : m.1 < s.1
  · exact ⟨M, by rw [e, if_pos c], by rw [if_pos (Or.inl c)]; exact h, fun _ _ _ _ => rfl⟩
  · by_cases c3 : m.1 = s.1
    · by_cases c4 : m.2 < s.2
      · refine ⟨_, by rw [e, if_neg c, if_pos c3, if_pos c4], ?_, wr.2⟩
        rw [if_neg (by omega)]; exact wr.1
      · by_cases c5 : 0 < m.1
        · exact ⟨M, by rw [e, if_neg c, if_pos c3, if_neg c4, if_pos c5], by rw [if_pos (by omega)]; exact h, fun _ _ _ _ => rfl⟩
        · refine ⟨_, by rw [e, if_neg c, if_pos c3, if_neg c4, if_neg c5], ?_, wr.2⟩
          rw [if_neg (by omega)]; exact wr.1
    · refine ⟨_, by rw [e, if_neg c, if_neg c3], ?_, wr.2⟩
      rw [if_neg (by omega)]; exact wr.1
theorem nI_81 (a b : Nat) : 81 * nI a + nI b = nI (81 * a + b) := by
  rw [show (81 : Int32) = nI 81 from rfl, pk_mul, nI_add]
theorem m_pairsOf {ap a b : Nat} (hap : ap ≤ 999) (hP : mTimes M 37 P) (hQ : mTimes M 38 Q) (p80 : cnt P 1000 ≤ 80) (q80 : cnt Q 1000 ≤ 80) (ha : a ≤ cnt P 1000) (hb : b ≤ cnt Q 1000) (h1 : ∀ a' b', a = a' + 1 → b = b' + 1 → cel M (81 * a' + b) (pa ap (dPQ P Q) a' b) ∧ cel M (81 * a + b') (pa ap (dPQ P Q) a b') ∧ cel M (81 * a' + b') (pa ap (dPQ P Q) a' b')) : ∃ M', zrun zP 240 [zR 16 i, zI (nI a), zI (nI b), zI (nI ap)] (M, ρ) = zvd (M', ρ) ∧ cel M' (81 * a + b) (pa ap (dPQ P Q) a b) ∧ clFr M M' (81 * a + b) := by
  have hd := fun x y => dPQ_le (P := P) (Q := Q) x y
  have c1 := nIk (k := 81 * a + b) (N := 6561) (by omega) (by omega)
  have c2 := nI_clamp (n := 81 * a + b) (by omega)
  have z0 : cel (zms (zms M 39 0 (81 * a + b) 0) 40 0 (81 * a + b) 0) (81 * a + b) (0, 0) := ⟨(zms_ne (by omega)).trans zms_eq, zms_eq⟩
  have f0 : clFr M (zms (zms M 39 0 (81 * a + b) 0) 40 0 (81 * a + b) 0) (81 * a + b) := fun k j q h => (zms_ne (by omega)).trans (zms_ne (by omega))
  cases a with
  | zero =>
    refine ⟨_, ?_, z0, f0⟩
    rw [e_X6_pairsOf, nI_81]
    simp only [c1, c2, if_false]
    rw [if_pos nI_0]
  | succ a =>
    cases b with
    | zero =>
      refine ⟨_, ?_, z0, f0⟩
      rw [e_X6_pairsOf, nI_81]
      simp only [c1, c2, if_false]
      rw [if_neg (fun e => by have := (nI_eq (b := 0) (by omega) (by omega)).mp e; omega), if_pos nI_0]
    | succ b =>
      obtain ⟨u1, u2, u3⟩ := h1 a b rfl rfl
      have o1 := pa_ok (ap := ap) hd a (b + 1)
      have o2 := pa_ok (ap := ap) hd (a + 1) b
      have o3 := pa_ok (ap := ap) hd a b
      have o1' := o1.1
      have o1'' := o1.2
      have o2' := o2.1
      have o2'' := o2.2
      have o3' := o3.1
      have o3'' := o3.2
      have ok0 : okp 100 (0, 0) := ⟨Nat.zero_le _, Nat.le_refl _⟩
      have e81 : nI (81 * (a + 1) + (b + 1)) - 81 = nI (81 * a + (b + 1)) := by rw [show (81 : Int32) = nI 81 from rfl, nI_sub (by omega)]; congr 1; omega
      have e1 : nI (81 * (a + 1) + (b + 1)) - 1 = nI (81 * (a + 1) + b) := by rw [show (1 : Int32) = nI 1 from rfl, nI_sub (by omega)]; congr 1
      have e82 : nI (81 * (a + 1) + (b + 1)) - 82 = nI (81 * a + b) := by rw [show (82 : Int32) = nI 82 from rfl, nI_sub (by omega)]; congr 1; omega
      have ea1 : nI (a + 1) - 1 = nI a := by rw [← nI_1]; exact Int32.add_sub_cancel _ _
      have eb1 : nI (b + 1) - 1 = nI b := by rw [← nI_1]; exact Int32.add_sub_cancel _ _
      have k1 := nIk (k := 81 * a + (b + 1)) (N := 6561) (by omega) (by omega)
      have k2 := nI_clamp (n := 81 * a + (b + 1)) (by omega)
      have k3 := nIk (k := 81 * (a + 1) + b) (N := 6561) (by omega) (by omega)
      have k4 := nI_clamp (n := 81 * (a + 1) + b) (by omega)
      have k5 := nIk (k := 81 * a + b) (N := 6561) (by omega) (by omega)
      have k6 := nI_clamp (n := 81 * a + b) (by omega)
      have k7 := nIk (k := a) (N := 80) (by omega) (by omega)
      have k8 := nI_clamp (n := a) (by omega)
      have k9 := nIk (k := b) (N := 80) (by omega) (by omega)
      have k10 := nI_clamp (n := b) (by omega)
      obtain ⟨M1, g1, g2, g3⟩ := m_better (i := i) (ρ := ρ) (m := pa ap (dPQ P Q) a (b + 1)) (show 81 * (a + 1) + (b + 1) < 6561 by omega) z0 (by show 0 < 2 ^ 31; omega) (by show 0 < 2 ^ 31; omega) (by omega) (by omega)
      have b1 := btr_ok ok0 (okp_m o1 (show a ≤ 100 by omega))
      have b1' := b1.1
      have b1'' := b1.2
      obtain ⟨M2, l1, l2, l3⟩ := m_better (i := i) (ρ := ρ) (m := pa ap (dPQ P Q) (a + 1) b) (show 81 * (a + 1) + (b + 1) < 6561 by omega) g2 (by omega) (by omega) (by omega) (by omega)
      have b2 := btr_ok b1 (okp_m o2 (show a + 1 ≤ 100 by omega))
      have b2' := b2.1
      have b2'' := b2.2
      obtain ⟨M3, n1, n2, n3⟩ := m_better (i := i) (ρ := ρ) (m := ((pa ap (dPQ P Q) a b).1 + 1, (pa ap (dPQ P Q) a b).2 + dPQ P Q a b)) (show 81 * (a + 1) + (b + 1) < 6561 by omega) l2 (by omega) (by omega) (by show (pa ap (dPQ P Q) a b).1 + 1 < 2 ^ 31; omega) (by show (pa ap (dPQ P Q) a b).2 + dPQ P Q a b < 2 ^ 31; have := hd a b; omega)
      have hal : a < cnt P 1000 := by omega
      have hbl : b < cnt Q 1000 := by omega
      obtain ⟨y1, y2, y3⟩ := yk_e hal
      obtain ⟨x1, x2, x3⟩ := yk_e hbl
      have ey := hP _ y1 y2
      have ex := hQ _ x1 x2
      rw [y3] at ey
      rw [x3] at ex
      have f2 : ∀ k j q, ¬ ((k = 39 ∨ k = 40) ∧ j = 0 ∧ q = 81 * (a + 1) + (b + 1)) → M2 k j q = M k j q := fun k j q h => (l3 k j q h).trans ((g3 k j q h).trans (f0 k j q h))
      have ey2 : M2 37 0 a = nI (yk P a) := (f2 _ _ _ (by omega)).trans ey
      have ex2 : M2 38 0 b = nI (yk Q b) := (f2 _ _ _ (by omega)).trans ex
      have dd := dPQ_e hal hbl
      have v1 : (zms M 39 0 (81 * (a + 1) + (b + 1)) 0) 39 0 (81 * a + (b + 1)) = nI (pa ap (dPQ P Q) a (b + 1)).1 := (zms_ne (by omega)).trans u1.1
      have v2 : (zms (zms M 39 0 (81 * (a + 1) + (b + 1)) 0) 40 0 (81 * (a + 1) + (b + 1)) 0) 40 0 (81 * a + (b + 1)) = nI (pa ap (dPQ P Q) a (b + 1)).2 := (f0 _ _ _ (by omega)).trans u1.2
      have v3 : M1 39 0 (81 * (a + 1) + b) = nI (pa ap (dPQ P Q) (a + 1) b).1 := (g3 _ _ _ (by omega)).trans ((f0 _ _ _ (by omega)).trans u2.1)
      have v4 : M1 40 0 (81 * (a + 1) + b) = nI (pa ap (dPQ P Q) (a + 1) b).2 := (g3 _ _ _ (by omega)).trans ((f0 _ _ _ (by omega)).trans u2.2)
      have v5 : M2 39 0 (81 * a + b) = nI (pa ap (dPQ P Q) a b).1 := (f2 _ _ _ (by omega)).trans u3.1
      have v6 : M2 40 0 (81 * a + b) = nI (pa ap (dPQ P Q) a b).2 := (f2 _ _ _ (by omega)).trans u3.2
      have run : zrun zP 240 [zR 16 i, zI (nI (a + 1)), zI (nI (b + 1)), zI (nI ap)] (M, ρ) = (if nI ap < nI (dPQ P Q a b) then zvd (M2, ρ) else zcV (zrun zP 241 [zR 16 i, zI (nI (81 * (a + 1) + (b + 1))), zI (nI ((pa ap (dPQ P Q) a b).1 + 1)), zI (nI ((pa ap (dPQ P Q) a b).2 + dPQ P Q a b))] (M2, ρ)) (fun s3 => zvd s3)) := by
        rw [e_X6_pairsOf, nI_81]
        simp only [c1, c2, if_false, e81, e1, e82, k1, k2]
        rw [if_neg (fun e => by have := (nI_eq (b := 0) (by omega) (by omega)).mp e; omega), if_neg (fun e => by have := (nI_eq (b := 0) (by omega) (by omega)).mp e; omega), v1, v2, g1, zcV_ok]
        simp only [k3, k4, if_false]
        rw [v3, v4, l1, zcV_ok]
        simp only [ea1, eb1, k5, k6, k7, k8, k9, k10, if_false]
        rw [ey2, ex2, abs_n (by omega) (by omega), ← dd, v5, v6, nI_1, nI_add]
      by_cases c : dPQ P Q a b ≤ ap
      · refine ⟨M3, ?_, ?_, fun k j q h => (n3 k j q h).trans (f2 k j q h)⟩
        · rw [run, if_neg (nI_nlt c (by omega)), n1, zcV_ok]
        · show cel M3 _ (cmb ap (dPQ P Q a b) (pa ap (dPQ P Q) a (b + 1)) (pa ap (dPQ P Q) (a + 1) b) (pa ap (dPQ P Q) a b))
          unfold cmb
          rw [if_pos c]
          exact n2
      · refine ⟨M2, ?_, ?_, f2⟩
        · rw [run, if_pos (nI_lt (by omega) (by have := hd a b; omega))]
        · show cel M2 _ (cmb ap (dPQ P Q a b) (pa ap (dPQ P Q) a (b + 1)) (pa ap (dPQ P Q) (a + 1) b) (pa ap (dPQ P Q) a b))
          unfold cmb
          rw [if_neg c]
          exact l2
end ZSA
