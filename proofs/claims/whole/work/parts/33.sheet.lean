/-! sheets: what is meant, and how the class holds one -/
abbrev zSheet := Nat × (Nat → zTier)
abbrev zpt (T : zSheet) (t : Nat) : Nat := (rpr (T.2 t)).toNatClampNeg
/-- a parent is told ahead -/
def zwp (T : zSheet) : Prop := ∀ t, t < T.1 → rpr (T.2 t) = -1 ∨ ∃ p, p < t ∧ rpr (T.2 t) = nI p
/-- the tier without a parent above a tier; how many are above -/
def zrt (T : zSheet) : Nat → Nat → Nat
  | 0, t => t
  | n + 1, t => if rpr (T.2 t) = -1 then t else zrt T n (zpt T t)
def zdp (T : zSheet) : Nat → Nat → Nat
  | 0, _ => 0
  | n + 1, t => if rpr (T.2 t) = -1 then 0 else zdp T n (zpt T t) + 1
abbrev pRoot (T : zSheet) (t : Nat) : Nat := zrt T 6 t
abbrev pDep (T : zSheet) (t : Nat) : Nat := zdp T 6 t
/-- a Sheet of the class -/
def cSheet (M : zMem) (s : Nat) (T : zSheet) : Prop := M 13 s 0 = nI T.1 ∧ T.1 ≤ 6 ∧ ∀ t, t < T.1 → cRow M (6 * s + t) (T.2 t) ∧ M 12 (6 * s + t) 3 = nI (pRoot T t) ∧ M 12 (6 * s + t) 4 = nI (pDep T t)
noncomputable def pAround (r : zTier) (a b : Int32) : Int32 := zfI (fun k => ¬ a < rfr r k ∧ ¬ rto r k < b) (rct r)
/-- the parent's mark of a mark -/
noncomputable def pPM (T : zSheet) (t k : Nat) : Int32 := if rpr (T.2 t) = -1 then -1 else pAround (T.2 (zpt T t)) (rfr (T.2 t) k) (rto (T.2 t) k)
theorem nI_m1 (p : Nat) (h : p < 2 ^ 31) : nI p ≠ -1 := by
  intro e
  have h1 := nI_pos h
  rw [e] at h1
  exact h1 (by decide)
theorem zwp_par {T : zSheet} (hw : zwp T) {t : Nat} (ht : t < T.1) (h6 : T.1 ≤ 6) (hne : ¬ rpr (T.2 t) = -1) : zpt T t < t ∧ rpr (T.2 t) = nI (zpt T t) := by
  rcases hw t ht with e | ⟨p, h1, h2⟩
  · exact absurd e hne
  · have h3 : zpt T t = p := by
      show (rpr (T.2 t)).toNatClampNeg = p
      rw [h2, nI_clamp (by omega)]
    rw [h3]
    exact ⟨h1, h2⟩
section ZSH
variable {s : Nat} {T : zSheet} {σ : zSt}
theorem s_hasTier (h : cSheet σ.1 s T) (x : Int32) : zrun zP 51 [zR 13 s, zI x] σ = zok (zb (¬ x < 0 ∧ x < nI T.1)) σ := by
  rw [e_X3_hasTier, h.1]
  simp only [zk_10, zk_01, zk_0b, zk_b0, zk_1b, zk_b1, zk_bb]
theorem s_in {t : Nat} (h : cSheet σ.1 s T) (ht : t < T.1) : (nI t < 0 ∨ 6 ≤ t) = False ∧ (nI t).toNatClampNeg = t ∧ nI t < nI T.1 := by
  have h6 := h.2.1
  exact ⟨nIk (by omega) (by omega), nI_clamp (by omega), nI_lt ht (by omega)⟩
theorem s_indexOf (h : cSheet σ.1 s T) (x : Int32) : zrun zP 52 [zR 13 s, zI x] σ = zok (zfI (fun t => rnm (T.2 t) = x) T.1) σ := by
  have h6 := h.2.1
  rw [e_X3_indexOf]
  have L := zfI_loop (X := fun t => zX zP zK_X3_indexOf (2, [zR 13 s, zI x, zI (nI t)], []) σ) (σ := σ) (p := fun t => rnm (T.2 t) = x) (n := T.1) (fun t ht => by
    obtain ⟨q1, q2, q3⟩ := s_in h ht
    have f := (h.2.2 t ht).1.1
    rw [e_X3_indexOf_2, h.1, if_pos q3]
    simp only [q2, q1, f, if_false]
    constructor <;> intro hp
    · rw [if_pos hp]
    · rw [if_neg hp, nI_1]) (by
    rw [e_X3_indexOf_2, h.1, if_neg (nI_nlt (Nat.le_refl _) (by omega))])
  rw [nI_0] at L
  exact L
theorem s_countMarks (h : cSheet σ.1 s T) : zrun zP 53 [zR 13 s] σ = zok (zsum (fun t => nI (rct (T.2 t))) 0 T.1) σ := by
  have h6 := h.2.1
  rw [e_X3_countMarks]
  have L := zsum_loop (X := fun t acc => zX zP zK_X3_countMarks (4, [zR 13 s, zI acc, zI (nI t)], []) σ) (w := fun acc => zok acc σ) (f := fun t => nI (rct (T.2 t))) (n := T.1) (fun t acc ht => by
    obtain ⟨q1, q2, q3⟩ := s_in h ht
    have f := (h.2.2 t ht).1.2.2.2.1
    rw [e_X3_countMarks_4, h.1, if_pos q3]
    simp only [q2, q1, f, if_false, nI_1]) (fun acc => by
    rw [e_X3_countMarks_4, h.1, if_neg (nI_nlt (Nat.le_refl _) (by omega))]) T.1 0 0 (by omega)
  rw [nI_0] at L
  rw [L, Int32.zero_add]
theorem s_countChildren (h : cSheet σ.1 s T) (x : Int32) : zrun zP 55 [zR 13 s, zI x] σ = zok (zsum (fun t => if rpr (T.2 t) = x then 1 else 0) 0 T.1) σ := by
  have h6 := h.2.1
  rw [e_X3_countChildren]
  have L := zsum_loop (X := fun t acc => zX zP zK_X3_countChildren (4, [zR 13 s, zI x, zI acc, zI (nI t)], []) σ) (w := fun acc => zok acc σ) (f := fun t => if rpr (T.2 t) = x then 1 else 0) (n := T.1) (fun t acc ht => by
    obtain ⟨q1, q2, q3⟩ := s_in h ht
    have f := (h.2.2 t ht).1.2.2.1
    rw [e_X3_countChildren_4, h.1, if_pos q3]
    simp only [q2, q1, f, if_false, nI_1]
    by_cases hp : rpr (T.2 t) = x
    · rw [if_pos hp, if_pos hp]
    · rw [if_neg hp, if_neg hp, Int32.add_zero]) (fun acc => by
    rw [e_X3_countChildren_4, h.1, if_neg (nI_nlt (Nat.le_refl _) (by omega))]) T.1 0 0 (by omega)
  rw [nI_0] at L
  rw [L, Int32.zero_add]
theorem s_countFamilies (h : cSheet σ.1 s T) : zrun zP 54 [zR 13 s] σ = zok (zsum (fun t => if rpr (T.2 t) = -1 then 1 else 0) 0 T.1) σ := by
  rw [e_X3_countFamilies, s_countChildren h, zcI_ok]
theorem s_par (h : cSheet σ.1 s T) (hw : zwp T) {t : Nat} (ht : t < T.1) : (¬ rpr (T.2 t) < 0 ∧ rpr (T.2 t) < nI T.1) ↔ ¬ rpr (T.2 t) = -1 := by
  have h6 := h.2.1
  constructor
  · rintro ⟨h1, -⟩ e
    rw [e] at h1
    exact h1 (by decide)
  · intro hne
    obtain ⟨h1, h2⟩ := zwp_par hw ht h6 hne
    rw [h2]
    exact ⟨nI_pos (by omega), nI_lt (by omega) (by omega)⟩
theorem s_parentMark (h : cSheet σ.1 s T) (hw : zwp T) {t k : Nat} (ht : t < T.1) (hk : k < rct (T.2 t)) : zrun zP 59 [zR 13 s, zI (nI t), zI (nI k)] σ = zok (pPM T t k) σ := by
  have h6 := h.2.1
  obtain ⟨q1, q2, q3⟩ := s_in h ht
  have hr := (h.2.2 t ht).1
  have h40 := hr.2.2.2.2.1
  have f2 := hr.2.2.1
  have fk := hr.2.2.2.2.2 k hk
  have hmk : ¬ nI k < 0 ∧ nI k < nI (rct (T.2 t)) := ⟨nI_pos (by omega), nI_lt hk (by omega)⟩
  have hi2 := nIk (k := k) (N := 40) (by omega) (by omega)
  have hc2 := nI_clamp (n := k) (by omega)
  rw [e_X3_parentMark]
  simp only [q2, q1, if_false, f2]
  rw [s_hasTier h, zcI_ok]
  unfold pPM
  by_cases hp : rpr (T.2 t) = -1
  · rw [if_pos hp, zb_f (fun e => (s_par h hw ht).mp e hp), if_pos rfl]
  · obtain ⟨p1, p2⟩ := zwp_par hw ht h6 hp
    rw [if_neg hp, zb_t ((s_par h hw ht).mpr hp), if_neg (by decide), r_hasMark hr, zcI_ok, zb_t hmk, if_neg (by decide)]
    have hpi := nIk (k := zpt T t) (N := 6) (by omega) (by omega)
    have hpc := nI_clamp (n := zpt T t) (by omega)
    generalize hz : zpt T t = z at *
    simp only [f2, p2, hpc, hpi, if_false, hc2, hi2, fk]
    rw [r_markAround (h.2.2 z (by omega)).1, zcI_ok]
    rfl
theorem s_haveSameParent (h : cSheet σ.1 s T) (hw : zwp T) {t k k' : Nat} (ht : t < T.1) (hk : k < rct (T.2 t)) (hk' : k' < rct (T.2 t)) : zrun zP 60 [zR 13 s, zI (nI t), zI (nI k), zI (nI k')] σ = zok (zb (pPM T t k = pPM T t k')) σ := by
  rw [e_X3_haveSameParent, s_parentMark h hw ht hk, zcI_ok, s_parentMark h hw ht hk', zcI_ok]
  simp only [zk_10, zk_01, zk_0b, zk_b0, zk_1b, zk_b1, zk_bb]
/-- lies in a mark of the parent -/
def pLP (T : zSheet) (t : Nat) (a b : Int32) : Prop := ¬ rpr (T.2 t) = -1 ∧ ¬ pAround (T.2 (zpt T t)) a b = -1
theorem s_liesInParent (h : cSheet σ.1 s T) (hw : zwp T) {t : Nat} (ht : t < T.1) (a b : Int32) : zrun zP 62 [zR 13 s, zR 12 (6 * s + t), zI a, zI b] σ = zok (zb (pLP T t a b)) σ := by
  have h6 := h.2.1
  have hr := (h.2.2 t ht).1
  have f2 := hr.2.2.1
  rw [e_X3_liesInParent, f2, s_hasTier h, zcI_ok]
  unfold pLP
  by_cases hp : rpr (T.2 t) = -1
  · rw [zb_f (fun e => (s_par h hw ht).mp e hp), if_pos rfl, zb_f (fun e => e.1 hp)]
  · obtain ⟨p1, p2⟩ := zwp_par hw ht h6 hp
    rw [zb_t ((s_par h hw ht).mpr hp), if_neg (by decide)]
    have hpi := nIk (k := zpt T t) (N := 6) (by omega) (by omega)
    have hpc := nI_clamp (n := zpt T t) (by omega)
    generalize hz : zpt T t = z at *
    simp only [f2, p2, hpc, hpi, if_false]
    rw [r_markAround (h.2.2 z (by omega)).1, zcI_ok]
    simp only [zk_10, zk_01, zk_0b, zk_b0, zk_1b, zk_b1, zk_bb]
    refine congrArg (fun x => zok x σ) (zb_congr ?_)
    exact ⟨fun e => ⟨nI_m1 z (by omega), e⟩, fun e => e.2⟩
def pMayPut (T : zSheet) (t : Nat) (a b : Int32) : Prop := (rkd (T.2 t) = 0 ∨ rkd (T.2 t) = 2) ∧ ¬ (∃ k, k < rct (T.2 t) ∧ pOver (T.2 t) k a b) ∧ (rkd (T.2 t) = 0 ∨ pLP T t a b)
theorem s_allowsMark (h : cSheet σ.1 s T) (hw : zwp T) {t : Nat} (ht : t < T.1) (a b : Int32) : zrun zP 63 [zR 13 s, zI (nI t), zI a, zI b] σ = zok (zb (pMayPut T t a b)) σ := by
  obtain ⟨q1, q2, q3⟩ := s_in h ht
  have hr := (h.2.2 t ht).1
  have f1 := hr.2.1
  rw [e_X3_allowsMark]
  simp only [q2, q1, if_false, f1]
  simp only [r_hasOver hr, zcI_ok, f1, s_liesInParent h hw ht, zb_0]
  refine Eq.trans ?_ (rfl : zok (zb (pMayPut T t a b)) σ = _)
  unfold pMayPut
  by_cases c0 : rkd (T.2 t) = 0
  · by_cases c1 : ∃ k, k < rct (T.2 t) ∧ pOver (T.2 t) k a b
    · rw [if_pos c0, if_neg (fun e => e c1), zb_f (fun e => e.2.1 c1)]
    · rw [if_pos c0, if_pos c1, if_pos c0, zb_t ⟨Or.inl c0, c1, Or.inl c0⟩]
  · rw [if_neg c0]
    by_cases c2 : rkd (T.2 t) = 2
    · rw [if_pos c2]
      by_cases c1 : ∃ k, k < rct (T.2 t) ∧ pOver (T.2 t) k a b
      · rw [if_neg (fun e => e c1), zb_f (fun e => e.2.1 c1)]
      · rw [if_pos c1, if_neg c0]
        by_cases c3 : pLP T t a b
        · rw [zb_t c3, if_neg (by decide), zb_t ⟨Or.inr c2, c1, Or.inr c3⟩]
        · rw [zb_f c3, if_pos rfl, zb_f (fun e => e.2.2.elim c0 c3)]
    · rw [if_neg c2, zb_f (fun e => e.1.elim c0 c2)]
def pMayPoint (T : zSheet) (t : Nat) (a : Int32) : Prop := rkd (T.2 t) = 3 ∧ zfI (pAt (T.2 t) a) (rct (T.2 t)) = -1 ∧ (rpr (T.2 t) = -1 ∨ pLP T t a a)
theorem s_allowsPoint (h : cSheet σ.1 s T) (hw : zwp T) {t : Nat} (ht : t < T.1) (a : Int32) : zrun zP 66 [zR 13 s, zI (nI t), zI a] σ = zok (zb (pMayPoint T t a)) σ := by
  obtain ⟨q1, q2, q3⟩ := s_in h ht
  have hr := (h.2.2 t ht).1
  have f1 := hr.2.1
  have f2 := hr.2.2.1
  rw [e_X3_allowsPoint]
  simp only [q2, q1, if_false, f1]
  simp only [r_markAt hr, zcI_ok, f2, s_liesInParent h hw ht, zb_0]
  refine Eq.trans ?_ (rfl : zok (zb (pMayPoint T t a)) σ = _)
  unfold pMayPoint
  by_cases c0 : rkd (T.2 t) = 3
  · by_cases c1 : zfI (pAt (T.2 t) a) (rct (T.2 t)) = -1
    · by_cases c2 : rpr (T.2 t) = -1
      · rw [if_pos c0, if_pos c1, if_pos c2, zb_t ⟨c0, c1, Or.inl c2⟩]
      · by_cases c3 : pLP T t a a
        · rw [if_pos c0, if_pos c1, if_neg c2, zb_t c3, if_neg (by decide), zb_t ⟨c0, c1, Or.inr c3⟩]
        · rw [if_pos c0, if_pos c1, if_neg c2, zb_f c3, if_pos rfl, zb_f (fun e => e.2.2.elim c2 c3)]
    · rw [if_pos c0, if_neg c1, zb_f (fun e => c1 e.2.1)]
  · rw [if_neg c0, zb_f (fun e => c0 e.1)]
end ZSH
