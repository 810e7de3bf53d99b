/-! rows: cut, join, map -/
section ZI2
variable {r r' : zTier}
theorem tTo_v {m k : Nat} {x : Int32} : rto (tTo r m x) k = if k = m then x else rto r k := rfl
theorem zRo_cut (h : zRo r) (h3 : ¬ rkd r = 3) {m : Nat} (hm : m < rct r) {x : Int32} (h1 : rfr r m < x) (h2 : x < rto r m) : zRo (tCut r m x) := by
  obtain ⟨s, t, lb⟩ := h
  obtain ⟨⟨a, a1, a2⟩, b, b1, b2⟩ := t m hm
  have hx : ∃ n, n ≤ 999 ∧ x = nI n := by
    have e1 := iI_n (n := a) (by omega)
    have e2 := iI_n (n := b) (by omega)
    rw [a2, iI_lt] at h1
    rw [b2, iI_lt] at h2
    refine ⟨x.toInt.toNat, by omega, ?_⟩
    rw [iI_eq, iI_n (by omega)]
    omega
  have h0 : zRo (tTo r m x) := by
    refine ⟨⟨fun k hk => ?_, fun j k hj hk => ?_⟩, fun k hk => ?_, lb⟩
    · have hk' : k < rct r := hk
      show (rkd r = 3 ∧ (if k = m then x else rto r k) = rfr r k) ∨ (¬ rkd r = 3 ∧ rfr r k < (if k = m then x else rto r k))
      by_cases c : k = m
      · rw [if_pos c, c]; exact Or.inr ⟨h3, h1⟩
      · rw [if_neg c]; exact s.1 k hk'
    · have hk' : k < rct r := hk
      show ¬ rfr r k < (if j = m then x else rto r j)
      by_cases c : j = m
      · rw [if_pos c]
        have q := s.2 m k (by omega) hk'
        rw [iI_lt] at q h2 ⊢
        omega
      · rw [if_neg c]; exact s.2 j k hj hk'
    · have hk' : k < rct r := hk
      refine ⟨(t k hk').1, ?_⟩
      show ∃ n, n ≤ 999 ∧ (if k = m then x else rto r k) = nI n
      by_cases c : k = m
      · rw [if_pos c]; exact hx
      · rw [if_neg c]; exact (t k hk').2
  refine zRo_ins h0 (Or.inr ⟨h3, h2⟩) hx ⟨b, b1, b2⟩ (lb m hm) (fun _ k hk => ?_)
  have hk' : k < rct r := hk
  show ¬ (rfr r k < rto r m ∧ x < (if k = m then x else rto r k))
  rintro ⟨q1, q2⟩
  by_cases c : k = m
  · rw [if_pos c, iI_lt] at q2; omega
  · rw [if_neg c] at q2
    rcases Nat.lt_or_ge k m with c2 | c2
    · have q := s.2 k m c2 hm
      rw [iI_lt] at q q2 h1
      omega
    · have q := s.2 m k (by omega) hk'
      rw [iI_lt] at q q1
      omega
theorem in_to {m : Nat} (hm : m < rct r) {x f g : Int32} : inR (tTo r m x) f g ↔ (∃ k, k < rct r ∧ k ≠ m ∧ rfr r k = f ∧ rto r k = g) ∨ (f = rfr r m ∧ g = x) := by
  constructor
  · rintro ⟨k, k1, k2, k3⟩
    have k1' : k < rct r := k1
    have k3' : (if k = m then x else rto r k) = g := k3
    by_cases c : k = m
    · rw [if_pos c] at k3'
      exact Or.inr ⟨c ▸ k2.symm, k3'.symm⟩
    · rw [if_neg c] at k3'
      exact Or.inl ⟨k, k1', c, k2, k3'⟩
  · rintro (⟨k, k1, k2, k3, k4⟩ | ⟨e1, e2⟩)
    · exact ⟨k, k1, k3, (if_neg k2).trans k4⟩
    · exact ⟨m, hm, e1.symm, (if_pos rfl).trans e2.symm⟩
theorem cutAt_cases (r : zTier) (x : Int32) : (tCutAt r x = r ∧ ∀ k, k < rct r → ¬ (rfr r k < x ∧ x < rto r k)) ∨ ∃ m, m < rct r ∧ (rfr r m < x ∧ x < rto r m) ∧ tCutAt r x = tCut r m x := by
  unfold tCutAt
  cases hz : zfst (fun k => rfr r k < x ∧ x < rto r k) 0 (rct r) with
  | none => exact Or.inl ⟨rfl, fun k hk => (zfst_none _ _).mp hz k (by omega) (by omega)⟩
  | some m =>
    obtain ⟨z1, z2, z3, -⟩ := (zfst_spec _ _ _).mp hz
    exact Or.inr ⟨m, by omega, z3, rfl⟩
theorem zRo_cutAt (h : zRo r) (h3 : ¬ rkd r = 3) (x : Int32) : zRo (tCutAt r x) := by
  rcases cutAt_cases r x with e | ⟨m, m1, m2, m3⟩
  · rw [e.1]; exact h
  · rw [m3]; exact zRo_cut h h3 m1 m2.1 m2.2
theorem in_cutAt (h : zSrt r) (h3 : ¬ rkd r = 3) {x f g : Int32} : inR (tCutAt r x) f g ↔ (inR r f g ∧ ¬ (f < x ∧ x < g)) ∨ (g = x ∧ ∃ G, inR r f G ∧ f < x ∧ x < G) ∨ (f = x ∧ ∃ F, inR r F g ∧ F < x ∧ x < g) := by
  rcases cutAt_cases r x with ⟨e1, e2⟩ | ⟨m, m1, m2, m3⟩
  · rw [e1]
    constructor
    · rintro ⟨k, k1, k2, k3⟩
      exact Or.inl ⟨⟨k, k1, k2, k3⟩, by rw [← k2, ← k3]; exact e2 k k1⟩
    · rintro (q | ⟨-, G, ⟨k, k1, k2, k3⟩, q1, q2⟩ | ⟨-, F, ⟨k, k1, k2, k3⟩, q1, q2⟩)
      · exact q.1
      · exact absurd ⟨k2 ▸ q1, k3 ▸ q2⟩ (e2 k k1)
      · exact absurd ⟨k2 ▸ q1, k3 ▸ q2⟩ (e2 k k1)
  · rw [m3]
    have hu : ∀ k, k < rct r → (rfr r k < x ∧ x < rto r k) → k = m := fun k hk q => by
      rcases Nat.lt_trichotomy k m with c | c | c
      · have a := h.2 k m c m1
        obtain ⟨q1, q2⟩ := q
        obtain ⟨n1, n2⟩ := m2
        rw [iI_lt] at a q2 n1
        omega
      · exact c
      · have a := h.2 m k c hk
        obtain ⟨q1, q2⟩ := q
        obtain ⟨n1, n2⟩ := m2
        rw [iI_lt] at a q1 n2
        omega
    have e : inR (tCut r m x) f g ↔ inR (tTo r m x) f g ∨ (f = x ∧ g = rto r m) := in_ins
    rw [e, in_to m1]
    constructor
    · rintro ((⟨k, k1, k2, k3, k4⟩ | ⟨e1, e2⟩) | ⟨e1, e2⟩)
      · exact Or.inl ⟨⟨k, k1, k3, k4⟩, fun q => k2 (hu k k1 ⟨k3 ▸ q.1, k4 ▸ q.2⟩)⟩
      · exact Or.inr (Or.inl ⟨e2, rto r m, ⟨m, m1, e1.symm, rfl⟩, e1 ▸ m2.1, m2.2⟩)
      · exact Or.inr (Or.inr ⟨e1, rfr r m, ⟨m, m1, rfl, e2.symm⟩, m2.1, e2 ▸ m2.2⟩)
    · rintro (⟨⟨k, k1, k2, k3⟩, q⟩ | ⟨e1, G, ⟨k, k1, k2, k3⟩, q1, q2⟩ | ⟨e1, F, ⟨k, k1, k2, k3⟩, q1, q2⟩)
      · refine Or.inl (Or.inl ⟨k, k1, fun c => q ?_, k2, k3⟩)
        rw [← k2, ← k3, c]
        exact m2
      · have c := hu k k1 ⟨k2 ▸ q1, k3 ▸ q2⟩
        exact Or.inl (Or.inr ⟨c ▸ k2.symm, e1⟩)
      · have c := hu k k1 ⟨k2 ▸ q1, k3 ▸ q2⟩
        exact Or.inr ⟨e1, c ▸ k3.symm⟩
/-- two neighbours have become one -/
def isJoin (r r' : zTier) (m : Nat) : Prop := rkd r' = rkd r ∧ m + 1 < rct r ∧ rct r' = rct r - 1 ∧ ∀ k, k < rct r - 1 → rfr r' k = rfr r (if k ≤ m then k else k + 1) ∧ rto r' k = rto r (if k < m then k else k + 1)
theorem join_j {m : Nat} (hm : m + 1 < rct r) : isJoin r (tJoin r m) m := by
  refine ⟨rfl, hm, rfl, fun k hk => ?_⟩
  obtain ⟨a, b, -⟩ := tRem_f (r := tTo r m (rto r (m + 1))) (m := m + 1) (k := k)
  refine ⟨a.trans ?_, b.trans ?_⟩
  · show rfr r _ = rfr r _
    by_cases c : k ≤ m
    · rw [if_pos c, if_pos (by omega)]
    · rw [if_neg c, if_neg (by omega)]
  · rw [tTo_v]
    by_cases c : k < m
    · rw [if_pos c, if_pos (show k < m + 1 by omega), if_neg (by omega)]
    · rw [if_neg c]
      by_cases e : k = m
      · rw [e, if_pos (show m < m + 1 by omega), if_pos rfl]
      · rw [if_neg (show ¬ k < m + 1 by omega), if_neg (by omega)]
theorem join_a {m : Nat} (hm : m + 1 < rct r) : isJoin r (tRem (tFrom r (m + 1) (rfr r m)) m) m := by
  refine ⟨rfl, hm, rfl, fun k hk => ?_⟩
  obtain ⟨a, b, -⟩ := tRem_f (r := tFrom r (m + 1) (rfr r m)) (m := m) (k := k)
  refine ⟨a.trans ?_, b.trans ?_⟩
  · show (if (if k < m then k else k + 1) = m + 1 then rfr r m else rfr r (if k < m then k else k + 1)) = _
    by_cases c : k < m
    · rw [if_pos c, if_pos (show k ≤ m by omega), if_neg (by omega)]
    · rw [if_neg c]
      by_cases e : k = m
      · rw [e, if_pos rfl, if_pos (Nat.le_refl _)]
      · rw [if_neg (by omega), if_neg (by omega)]
  · rfl
theorem zSrt_join (h : zSrt r) (h3 : ¬ rkd r = 3) {m : Nat} (hj : isJoin r r' m) : zSrt r' := by
  obtain ⟨j1, j2, j3, j4⟩ := hj
  have e : ∀ j, j < rct r → rfr r j < rto r j := fun j hj => by
    rcases h.1 j hj with q | q
    · exact absurd q.1 h3
    · exact q.2
  refine ⟨fun k hk => ?_, fun j k hjk hk => ?_⟩
  · obtain ⟨a, b⟩ := j4 k (by omega)
    rw [a, b, j1]
    refine Or.inr ⟨h3, ?_⟩
    by_cases c : k < m
    · rw [if_pos (by omega), if_pos c]; exact e k (by omega)
    · rw [if_neg c]
      by_cases c2 : k = m
      · rw [if_pos (by omega)]
        have q1 := e k (by omega)
        have q2 := e (k + 1) (by omega)
        have q3 := h.2 k (k + 1) (by omega) (by omega)
        rw [iI_lt] at q1 q2 q3 ⊢
        omega
      · rw [if_neg (by omega)]; exact e (k + 1) (by omega)
  · obtain ⟨a, -⟩ := j4 k (by omega)
    obtain ⟨-, b⟩ := j4 j (by omega)
    rw [a, b]
    by_cases c : j < m
    · rw [if_pos c]
      by_cases c2 : k ≤ m
      · rw [if_pos c2]; exact h.2 j k hjk (by omega)
      · rw [if_neg c2]; exact h.2 j (k + 1) (by omega) (by omega)
    · rw [if_neg c, if_neg (by omega)]
      exact h.2 (j + 1) (k + 1) (by omega) (by omega)
theorem zRt_join (h : zRt r) {m : Nat} (hj : isJoin r r' m) : zRt r' := by
  obtain ⟨j1, j2, j3, j4⟩ := hj
  intro k hk
  obtain ⟨a, b⟩ := j4 k (by omega)
  rw [a, b]
  refine ⟨(h _ ?_).1, (h _ ?_).2⟩
  · by_cases c : k ≤ m
    · rw [if_pos c]; omega
    · rw [if_neg c]; omega
  · by_cases c : k < m
    · rw [if_pos c]; omega
    · rw [if_neg c]; omega
/-- an old mark lies in a new one -/
theorem in_join (h : zSrt r) {m : Nat} (hj : isJoin r r' m) {f g : Int32} (hi : inR r f g) : ∃ F G, inR r' F G ∧ ¬ f < F ∧ ¬ G < g := by
  obtain ⟨j1, j2, j3, j4⟩ := hj
  obtain ⟨k, k1, k2, k3⟩ := hi
  have rfl_ : ∀ x : Int32, ¬ x < x := fun x => by rw [iI_lt]; omega
  by_cases c : k < m
  · obtain ⟨a, b⟩ := j4 k (by omega)
    rw [if_pos (by omega)] at a
    rw [if_pos c] at b
    exact ⟨f, g, ⟨k, by omega, a.trans k2, b.trans k3⟩, rfl_ _, rfl_ _⟩
  · by_cases c2 : k ≤ m + 1
    · obtain ⟨a, b⟩ := j4 m (by omega)
      rw [if_pos (Nat.le_refl _)] at a
      rw [if_neg (Nat.lt_irrefl _)] at b
      refine ⟨_, _, ⟨m, by omega, a, b⟩, ?_, ?_⟩
      · rw [← k2]; exact zSrt_ff h (by omega) k1
      · rw [← k3]
        by_cases e : k = m + 1
        · rw [e]; exact rfl_ _
        · have q1 := h.2 k (m + 1) (by omega) (by omega)
          have q2 := zSrt_ft h (k := m + 1) (by omega)
          rw [iI_lt] at q1 q2 ⊢
          omega
    · obtain ⟨a, b⟩ := j4 (k - 1) (by omega)
      rw [if_neg (by omega), show k - 1 + 1 = k by omega] at a
      rw [if_neg (by omega), show k - 1 + 1 = k by omega] at b
      exact ⟨f, g, ⟨k - 1, by omega, a.trans k2, b.trans k3⟩, rfl_ _, rfl_ _⟩
/-- a new mark is an old one, or the two -/
theorem in_join' {m : Nat} (hj : isJoin r r' m) {f g : Int32} (hi : inR r' f g) : inR r f g ∨ (f = rfr r m ∧ g = rto r (m + 1)) := by
  obtain ⟨j1, j2, j3, j4⟩ := hj
  obtain ⟨k, k1, k2, k3⟩ := hi
  obtain ⟨a, b⟩ := j4 k (by omega)
  rw [a] at k2
  rw [b] at k3
  by_cases c : k < m
  · rw [if_pos (by omega)] at k2
    rw [if_pos c] at k3
    exact Or.inl ⟨k, by omega, k2, k3⟩
  · rw [if_neg c] at k3
    by_cases c2 : k = m
    · rw [if_pos (by omega)] at k2
      exact Or.inr ⟨c2 ▸ k2.symm, c2 ▸ k3.symm⟩
    · rw [if_neg (by omega)] at k2
      exact Or.inl ⟨k + 1, by omega, k2, k3⟩
/-! maps of times -/
def gOk (E : Int32 → Prop) (g : Int32 → Int32) : Prop := (∀ x, E x → ∃ n, n ≤ 999 ∧ g x = nI n) ∧ ∀ x y, E x → E y → (x < y ↔ g x < g y)
def endR (r : zTier) (x : Int32) : Prop := ∃ k, k < rct r ∧ (rfr r k = x ∨ rto r k = x)
theorem zRo_map {E : Int32 → Prop} {g : Int32 → Int32} (h : zRo r) (hg : gOk E g) (hE : ∀ x, endR r x → E x) : zRo (tMap r g) := by
  obtain ⟨s, t, lb⟩ := h
  have e1 : ∀ k, k < rct r → E (rfr r k) := fun k hk => hE _ ⟨k, hk, Or.inl rfl⟩
  have e2 : ∀ k, k < rct r → E (rto r k) := fun k hk => hE _ ⟨k, hk, Or.inr rfl⟩
  refine ⟨⟨fun k hk => ?_, fun j k hj hk => ?_⟩, fun k hk => ⟨hg.1 _ (e1 k hk), hg.1 _ (e2 k hk)⟩, lb⟩
  · have hk' : k < rct r := hk
    show (rkd r = 3 ∧ g (rto r k) = g (rfr r k)) ∨ (¬ rkd r = 3 ∧ g (rfr r k) < g (rto r k))
    rcases s.1 k hk' with q | q
    · exact Or.inl ⟨q.1, by rw [q.2]⟩
    · exact Or.inr ⟨q.1, (hg.2 _ _ (e1 k hk') (e2 k hk')).mp q.2⟩
  · have hk' : k < rct r := hk
    show ¬ g (rfr r k) < g (rto r j)
    exact fun q => s.2 j k hj hk' ((hg.2 _ _ (e1 k hk') (e2 j (by omega))).mpr q)
theorem in_map {g : Int32 → Int32} {f h : Int32} : inR (tMap r g) f h ↔ ∃ a b, inR r a b ∧ f = g a ∧ h = g b := by
  constructor
  · rintro ⟨k, k1, k2, k3⟩
    exact ⟨rfr r k, rto r k, ⟨k, k1, rfl, rfl⟩, k2.symm, k3.symm⟩
  · rintro ⟨a, b, ⟨k, k1, k2, k3⟩, e1, e2⟩
    exact ⟨k, k1, by rw [e1, ← k2]; rfl, by rw [e2, ← k3]; rfl⟩
end ZI2
