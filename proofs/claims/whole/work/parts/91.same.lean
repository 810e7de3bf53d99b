/-! same: the most pairs, the least apart -/
def btr (s n : Nat × Nat) : Nat × Nat := if n.1 < s.1 ∨ (n.1 = s.1 ∧ s.2 ≤ n.2 ∧ 0 < n.1) then s else n
def cmb (ap by' : Nat) (a b c : Nat × Nat) : Nat × Nat := if by' ≤ ap then btr (btr (btr (0, 0) a) b) (c.1 + 1, c.2 + by') else btr (btr (0, 0) a) b
def paR (ap : Nat) (dd : Nat → Nat) (prev : Nat → Nat × Nat) : Nat → Nat × Nat
  | 0 => (0, 0)
  | j + 1 => cmb ap (dd j) (prev (j + 1)) (paR ap dd prev j) (prev j)
def pa (ap : Nat) (d : Nat → Nat → Nat) : Nat → Nat → Nat × Nat
  | 0 => fun _ => (0, 0)
  | i + 1 => paR ap (d i) (pa ap d i)
def wt (s : Nat × Nat) : Nat := 100000 * s.1 - s.2
def okp (k : Nat) (s : Nat × Nat) : Prop := s.1 ≤ k ∧ s.2 ≤ 999 * s.1
theorem okp_m {k k' : Nat} {s : Nat × Nat} (h : okp k s) (hk : k ≤ k') : okp k' s := ⟨Nat.le_trans h.1 hk, h.2⟩
theorem btr_ok {k : Nat} {s n : Nat × Nat} (hs : okp k s) (hn : okp k n) : okp k (btr s n) := by
  unfold btr
  by_cases c : n.1 < s.1 ∨ (n.1 = s.1 ∧ s.2 ≤ n.2 ∧ 0 < n.1)
  · rw [if_pos c]; exact hs
  · rw [if_neg c]; exact hn
theorem btr_w {k : Nat} (hk : k ≤ 100) {s n : Nat × Nat} (hs : okp k s) (hn : okp k n) : wt (btr s n) = max (wt s) (wt n) := by
  obtain ⟨s1, s2⟩ := hs
  obtain ⟨n1, n2⟩ := hn
  unfold btr wt
  by_cases c : n.1 < s.1 ∨ (n.1 = s.1 ∧ s.2 ≤ n.2 ∧ 0 < n.1)
  · rw [if_pos c]; omega
  · rw [if_neg c]; omega
theorem cmb_ok {k ap b' : Nat} (hb : b' ≤ 999) {a b c : Nat × Nat} (ha : okp (k + 1) a) (hb2 : okp (k + 1) b) (hc : okp k c) : okp (k + 1) (cmb ap b' a b c) := by
  have h0 : okp (k + 1) (0, 0) := ⟨Nat.zero_le _, Nat.le_refl _⟩
  have h2 := btr_ok (btr_ok h0 ha) hb2
  unfold cmb
  by_cases q : b' ≤ ap
  · rw [if_pos q]
    refine btr_ok h2 ⟨Nat.succ_le_succ hc.1, ?_⟩
    have := hc.2
    show c.2 + b' ≤ 999 * (c.1 + 1)
    omega
  · rw [if_neg q]; exact h2
theorem cmb_w {k ap b' : Nat} (hk : k < 100) (hb : b' ≤ 999) {a b c : Nat × Nat} (ha : okp (k + 1) a) (hb2 : okp (k + 1) b) (hc : okp k c) : wt (cmb ap b' a b c) = (if b' ≤ ap then max (max (wt a) (wt b)) (wt c + 100000 - b') else max (wt a) (wt b)) := by
  have h0 : okp (k + 1) (0, 0) := ⟨Nat.zero_le _, Nat.le_refl _⟩
  have h1 := btr_ok h0 ha
  have h2 := btr_ok h1 hb2
  have e1 := btr_w (by omega) h0 ha
  have e2 := btr_w (by omega) h1 hb2
  have e0 : wt (0, 0) = 0 := rfl
  unfold cmb
  by_cases q : b' ≤ ap
  · rw [if_pos q, if_pos q]
    have hc2 := hc.2
    have hc3 : okp (k + 1) (c.1 + 1, c.2 + b') := ⟨Nat.succ_le_succ hc.1, by show c.2 + b' ≤ 999 * (c.1 + 1); omega⟩
    rw [btr_w (by omega) h2 hc3, e2, e1, e0]
    have : wt (c.1 + 1, c.2 + b') = wt c + 100000 - b' := by
      show 100000 * (c.1 + 1) - (c.2 + b') = 100000 * c.1 - c.2 + 100000 - b'
      omega
    rw [this]
    omega
  · rw [if_neg q, if_neg q, e2, e1, e0]
    omega
theorem pa_ok {ap : Nat} {d : Nat → Nat → Nat} (hd : ∀ i j, d i j ≤ 999) : ∀ i j, okp i (pa ap d i j) := by
  intro i
  induction i with
  | zero => intro j; exact ⟨Nat.le_refl _, Nat.le_refl _⟩
  | succ i ih =>
    intro j
    induction j with
    | zero => exact ⟨Nat.zero_le _, Nat.le_refl _⟩
    | succ j jh => exact cmb_ok (hd i j) (okp_m (ih (j + 1)) (by omega)) jh (ih j)
theorem pa_w {ap : Nat} {d : Nat → Nat → Nat} (hd : ∀ i j, d i j ≤ 999) {i j : Nat} (hi : i < 100) : wt (pa ap d (i + 1) (j + 1)) = (if d i j ≤ ap then max (max (wt (pa ap d i (j + 1))) (wt (pa ap d (i + 1) j))) (wt (pa ap d i j) + 100000 - d i j) else max (wt (pa ap d i (j + 1))) (wt (pa ap d (i + 1) j))) := cmb_w hi (hd i j) (okp_m (pa_ok hd i (j + 1)) (by omega)) (pa_ok hd (i + 1) j) (pa_ok hd i j)
theorem wt_le {k : Nat} {s : Nat × Nat} (h : okp k s) : wt s ≤ 100000 * k := by
  have h1 := h.1
  unfold wt
  omega
theorem wt_p {k : Nat} (hk : k ≤ 100) {s : Nat × Nat} (h : okp k s) : (wt s + 100000 - 1) / 100000 = s.1 ∧ s.1 * 100000 - wt s = s.2 := by
  obtain ⟨h1, h2⟩ := h
  unfold wt
  omega
theorem nI_max {a b : Nat} (ha : a < 2 ^ 31) (hb : b < 2 ^ 31) : (if nI a < nI b then nI b else nI a) = nI (max a b) := by
  by_cases c : a < b
  · rw [if_pos (nI_lt c hb), Nat.max_eq_right (by omega)]
  · rw [if_neg (nI_nlt (by omega) (by omega)), Nat.max_eq_left (by omega)]
section ZSM
variable {P Q : Nat → Prop} {i : Nat} {M : zMem} {σ : zSt} {ρ : Int64 × Nat}
noncomputable abbrev dPQ (P Q : Nat → Prop) (i j : Nat) : Nat := min (dst (yk P i) (yk Q j)) 999
theorem dPQ_le (i j : Nat) : dPQ P Q i j ≤ 999 := Nat.min_le_right _ _
theorem dPQ_e {i j : Nat} (hi : i < cnt P 1000) (hj : j < cnt Q 1000) : dPQ P Q i j = dst (yk P i) (yk Q j) := by
  have a := (yk_e hi).1
  have b := (yk_e hj).1
  unfold dPQ dst
  omega
/-- the class's row of weights at row i, column j -/
def wRow (M : zMem) (P Q : Nat → Prop) (ap i j : Nat) : Prop := (∀ l, l ≤ j → M 24 0 l = nI (wt (pa ap (dPQ P Q) (i + 1) l))) ∧ ∀ l, j < l → l ≤ cnt Q 1000 → M 24 0 l = nI (wt (pa ap (dPQ P Q) i l))
theorem wp_in {ap i' : Nat} (hap : ap ≤ 999) (hi : i' < cnt P 1000) : ∀ d j M' (v : zAV × zAV × zAV), j + d = cnt Q 1000 → cTimes M' 1 P → cTimes M' 2 Q → wRow M' P Q ap i' j → ∃ (M'' : zMem) (v1 : zAV × zAV) (v2 : zAV × zAV × zAV), zX zP zK_X5_weighPairs (44, [zR 15 i, zI (nI ap), zI (nI i'), zI (nI (wt (pa ap (dPQ P Q) i' j))), zI (nI j), v.1, v.2.1, v.2.2], []) (M', ρ) = zX zP zK_X5_weighPairs (28, [zR 15 i, zI (nI ap), zI (nI (i' + 1)), v1.1, v1.2, v2.1, v2.2.1, v2.2.2], []) (M'', ρ) ∧ (∀ l, l ≤ cnt Q 1000 → M'' 24 0 l = nI (wt (pa ap (dPQ P Q) (i' + 1) l))) ∧ ∀ k j q, ¬ (k = 24 ∧ j = 0) → M'' k j q = M' k j q := by
  have hd := fun a b => dPQ_le (P := P) (Q := Q) a b
  intro d
  induction d with
  | zero =>
    intro j M' v hj hP hQ hw
    have q80 : cnt Q 1000 ≤ 80 := hQ.2.1
    refine ⟨M', (zI (nI (wt (pa ap (dPQ P Q) i' j))), zI (nI j)), v, ?_, fun l hl => hw.1 l (by omega), fun _ _ _ _ => rfl⟩
    rw [e_X5_weighPairs_44, show (M', ρ).1 14 2 1 = _ from hQ.1, if_neg (nI_nlt (by omega) (by omega)), nI_1]
  | succ d ih =>
    intro j M' v hj hP hQ hw
    have q80 : cnt Q 1000 ≤ 80 := hQ.2.1
    have p80 : cnt P 1000 ≤ 80 := hP.2.1
    have hjl : j < cnt Q 1000 := by omega
    obtain ⟨a1, a2, a3⟩ := yk_e hi
    obtain ⟨b1, b2, b3⟩ := yk_e hjl
    have ea := hP.2.2 _ a1 a2
    have eb := hQ.2.2 _ b1 b2
    rw [a3] at ea
    rw [b3] at eb
    have c1 := nIk (k := j + 1) (N := 81) (by omega) (by omega)
    have c2 := nI_clamp (n := j + 1) (by omega)
    have c3 := nIk (k := j) (N := 81) (by omega) (by omega)
    have c4 := nI_clamp (n := j) (by omega)
    have c5 := nIk (k := i') (N := 80) (by omega) (by omega)
    have c6 := nI_clamp (n := i') (by omega)
    have c7 := nIk (k := j) (N := 80) (by omega) (by omega)
    have o1 := wt_le (pa_ok (ap := ap) hd i' (j + 1))
    have o2 := wt_le (pa_ok (ap := ap) hd (i' + 1) j)
    have o3 := wt_le (pa_ok (ap := ap) hd i' j)
    have w1 : M' 24 0 (j + 1) = nI (wt (pa ap (dPQ P Q) i' (j + 1))) := hw.2 (j + 1) (by omega) (by omega)
    have w2 : M' 24 0 j = nI (wt (pa ap (dPQ P Q) (i' + 1) j)) := hw.1 j (Nat.le_refl _)
    have dd := dPQ_e hi hjl
    have d9 := dPQ_le (P := P) (Q := Q) i' j
    have pw := pa_w (ap := ap) hd (i := i') (j := j) (by omega)
    have nxt : ∀ (x : Nat), x = wt (pa ap (dPQ P Q) (i' + 1) (j + 1)) → wRow (zms M' 24 0 (j + 1) (nI x)) P Q ap i' (j + 1) := fun x hx => by
      refine ⟨fun l hl => ?_, fun l hl hl2 => ?_⟩
      · by_cases e : l = j + 1
        · rw [e, zms_eq, hx]
        · rw [zms_ne (by omega)]; exact hw.1 l (by omega)
      · rw [zms_ne (by omega)]; exact hw.2 l (by omega) hl2
    have tP : ∀ x, cTimes (zms M' 24 0 (j + 1) x) 1 P := fun x => ⟨(zms_ne (by omega)).trans hP.1, hP.2.1, fun y y1 y2 => (zms_ne (by omega)).trans (hP.2.2 y y1 y2)⟩
    have tQ : ∀ x, cTimes (zms M' 24 0 (j + 1) x) 2 Q := fun x => ⟨(zms_ne (by omega)).trans hQ.1, hQ.2.1, fun y y1 y2 => (zms_ne (by omega)).trans (hQ.2.2 y y1 y2)⟩
    rw [e_X5_weighPairs_44, show (M', ρ).1 14 2 1 = _ from hQ.1, if_pos (nI_lt hjl (by omega)), nI_1]
    simp only [c1, c2, c3, c4, c5, c6, c7, if_false]
    rw [ea, eb, abs_n (by omega) (by omega), w1, w2, nI_max (by omega) (by omega), ← dd]
    by_cases c : dPQ P Q i' j ≤ ap
    · rw [if_pos c] at pw
      rw [if_neg (nI_nlt c (by omega)), show nI (wt (pa ap (dPQ P Q) i' j)) + 100000 - nI (dPQ P Q i' j) = nI (wt (pa ap (dPQ P Q) i' j) + 100000 - dPQ P Q i' j) from by
        rw [show (100000 : Int32) = nI 100000 from rfl, nI_add, nI_sub (by omega)], nI_max (by omega) (by omega), ← pw]
      obtain ⟨M2, v1, v2, g1, g2, g3⟩ := ih (j + 1) (zms M' 24 0 (j + 1) (nI (wt (pa ap (dPQ P Q) (i' + 1) (j + 1))))) (zI (nI (wt (pa ap (dPQ P Q) i' (j + 1)))), zI (nI (wt (pa ap (dPQ P Q) (i' + 1) (j + 1)))), zI (nI (dPQ P Q i' j))) (by omega) (tP _) (tQ _) (nxt _ rfl)
      exact ⟨M2, v1, v2, g1, g2, fun k l q h => (g3 k l q h).trans (zms_ne (by omega))⟩
    · rw [if_neg c] at pw
      rw [if_pos (nI_lt (by omega) (by omega)), ← pw]
      obtain ⟨M2, v1, v2, g1, g2, g3⟩ := ih (j + 1) (zms M' 24 0 (j + 1) (nI (wt (pa ap (dPQ P Q) (i' + 1) (j + 1))))) (zI (nI (wt (pa ap (dPQ P Q) i' (j + 1)))), zI (nI (wt (pa ap (dPQ P Q) (i' + 1) (j + 1)))), zI (nI (dPQ P Q i' j))) (by omega) (tP _) (tQ _) (nxt _ rfl)
      exact ⟨M2, v1, v2, g1, g2, fun k l q h => (g3 k l q h).trans (zms_ne (by omega))⟩
end ZSM
