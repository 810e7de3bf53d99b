/-! rows: what edits keep -/
section ZIV
variable {r r' : zTier}
theorem zSrt_ft (h : zSrt r) {k : Nat} (hk : k < rct r) : ¬ rto r k < rfr r k := by
  rcases h.1 k hk with e | e
  · rw [e.2, iI_lt]; omega
  · have := e.2; rw [iI_lt] at this ⊢; omega
theorem zSrt_ff (h : zSrt r) {j k : Nat} (hj : j ≤ k) (hk : k < rct r) : ¬ rfr r k < rfr r j := by
  by_cases e : j = k
  · rw [e, iI_lt]; omega
  · have a := h.2 j k (by omega) hk
    have b := zSrt_ft h (k := j) (by omega)
    rw [iI_lt] at a b ⊢
    omega
theorem zRo_sub (h : zRo r) (hk : rkd r' = rkd r) (φ : Nat → Nat) (h1 : ∀ k, k < rct r' → φ k < rct r ∧ rfr r' k = rfr r (φ k) ∧ rto r' k = rto r (φ k) ∧ rlb r' k = rlb r (φ k)) (h2 : ∀ j k, j < k → k < rct r' → φ j < φ k) : zRo r' := by
  obtain ⟨⟨s1, s2⟩, t, l⟩ := h
  refine ⟨⟨fun k hk' => ?_, fun j k hj hk' => ?_⟩, fun k hk' => ?_, fun k hk' => ?_⟩
  · obtain ⟨a, b, c, d⟩ := h1 k hk'
    rw [b, c, hk]
    exact s1 _ a
  · obtain ⟨a, b, c, d⟩ := h1 k hk'
    obtain ⟨a', b', c', d'⟩ := h1 j (by omega)
    rw [b, c']
    exact s2 _ _ (h2 j k hj hk') a
  · obtain ⟨a, b, c, d⟩ := h1 k hk'
    rw [b, c]
    exact t _ a
  · obtain ⟨a, b, c, d⟩ := h1 k hk'
    rw [d]
    exact l _ a
theorem tRem_f {m k : Nat} : rfr (tRem r m) k = rfr r (if k < m then k else k + 1) ∧ rto (tRem r m) k = rto r (if k < m then k else k + 1) ∧ rlb (tRem r m) k = rlb r (if k < m then k else k + 1) := by
  by_cases c : k < m
  · rw [if_pos c]; exact ⟨if_pos c, if_pos c, if_pos c⟩
  · rw [if_neg c]; exact ⟨if_neg c, if_neg c, if_neg c⟩
theorem tRem_n {m : Nat} : rct (tRem r m) = rct r - 1 := rfl
theorem zRo_rem (h : zRo r) (m : Nat) : zRo (tRem r m) := by
  refine zRo_sub h rfl (fun k => if k < m then k else k + 1) (fun k hk => ?_) (fun j k hj hk => ?_)
  · obtain ⟨a, b, c⟩ := tRem_f (r := r) (m := m) (k := k)
    have hk2 : k < rct r - 1 := hk
    refine ⟨?_, a, b, c⟩
    show (if k < m then k else k + 1) < rct r
    by_cases c : k < m
    · rw [if_pos c]; omega
    · rw [if_neg c]; omega
  · show (if j < m then j else j + 1) < (if k < m then k else k + 1)
    by_cases c : k < m
    · rw [if_pos c, if_pos (by omega)]; omega
    · rw [if_neg c]
      by_cases c2 : j < m
      · rw [if_pos c2]; omega
      · rw [if_neg c2]; omega
theorem in_rem {m : Nat} {f g : Int32} (h : inR (tRem r m) f g) : inR r f g := by
  obtain ⟨k, k1, k2, k3⟩ := h
  obtain ⟨a, b, -⟩ := tRem_f (r := r) (m := m) (k := k)
  have k1' : k < rct r - 1 := k1
  refine ⟨if k < m then k else k + 1, ?_, a ▸ k2, b ▸ k3⟩
  by_cases c : k < m
  · rw [if_pos c]; omega
  · rw [if_neg c]; omega
theorem in_remE {m : Nat} (hm : m < rct r) {f g : Int32} (h : inR r f g) : inR (tRem r m) f g ∨ (rfr r m = f ∧ rto r m = g) := by
  obtain ⟨k, k1, k2, k3⟩ := h
  by_cases e : k = m
  · rw [← e]; exact Or.inr ⟨k2, k3⟩
  · refine Or.inl ?_
    by_cases c : k < m
    · obtain ⟨a, b, -⟩ := tRem_f (r := r) (m := m) (k := k)
      rw [if_pos c] at a b
      exact ⟨k, show k < rct r - 1 by omega, a.trans k2, b.trans k3⟩
    · obtain ⟨a, b, -⟩ := tRem_f (r := r) (m := m) (k := k - 1)
      rw [if_neg (by omega), show k - 1 + 1 = k by omega] at a b
      exact ⟨k - 1, show k - 1 < rct r - 1 by omega, a.trans k2, b.trans k3⟩
theorem tRW_RP {a b : Int32} : ∀ m (r : zTier) g, tRW a b m r g = tRP (fun f t => ¬ f < a ∧ ¬ b < t) m r g := by
  intro m
  induction m with
  | zero => intro r g; rfl
  | succ m ih =>
    intro r g
    by_cases c : ¬ rfr r m < a ∧ ¬ b < rto r m
    · rw [tRP_t (P := fun f t => ¬ f < a ∧ ¬ b < t) c, ← ih]
      exact @if_pos _ (Classical.propDecidable _) c _ _ _
    · rw [tRP_f (P := fun f t => ¬ f < a ∧ ¬ b < t) c, ← ih]
      exact @if_neg _ (Classical.propDecidable _) c _ _ _
theorem tRP_ro {P : Int32 → Int32 → Prop} : ∀ m (r : zTier) g, zRo r → zRo (tRP P m r g).1 := by
  intro m
  induction m with
  | zero => intro r g h; exact h
  | succ m ih =>
    intro r g h
    by_cases c : P (rfr r m) (rto r m)
    · rw [tRP_t c]; exact ih _ _ (zRo_rem h m)
    · rw [tRP_f c]; exact ih _ _ h
theorem in_rp {P : Int32 → Int32 → Prop} : ∀ m (r : zTier) g, m ≤ rct r → (∀ k, m ≤ k → k < rct r → ¬ P (rfr r k) (rto r k)) → ∀ f h, inR (tRP P m r g).1 f h ↔ inR r f h ∧ ¬ P f h := by
  intro m
  induction m with
  | zero =>
    intro r g hm hk f h
    constructor
    · rintro ⟨k, k1, k2, k3⟩
      exact ⟨⟨k, k1, k2, k3⟩, by rw [← k2, ← k3]; exact hk k (by omega) k1⟩
    · exact fun e => e.1
  | succ m ih =>
    intro r g hm hk f h
    by_cases c : P (rfr r m) (rto r m)
    · rw [tRP_t c, ih (tRem r m) (g + 1) (show m ≤ rct r - 1 by omega) (fun k k1 k2 => by
        obtain ⟨a, b, -⟩ := tRem_f (r := r) (m := m) (k := k)
        rw [if_neg (by omega)] at a b
        rw [a, b]
        exact hk (k + 1) (by omega) (by have : k < rct r - 1 := k2; omega)) f h]
      constructor
      · exact fun e => ⟨in_rem e.1, e.2⟩
      · intro e
        refine ⟨(in_remE (m := m) (by omega) e.1).resolve_right (fun q => e.2 ?_), e.2⟩
        rw [← q.1, ← q.2]; exact c
    · rw [tRP_f c]
      exact ih r g (by omega) (fun k k1 k2 => by
        by_cases e : k = m
        · rw [e]; exact c
        · exact hk k (by omega) k2) f h
theorem in_rp' {P : Int32 → Int32 → Prop} {g : Int32} (f h : Int32) : inR (tRP P (rct r) r g).1 f h ↔ inR r f h ∧ ¬ P f h := in_rp (rct r) r g (Nat.le_refl _) (fun k k1 k2 => by omega) f h
theorem tRP_no {P : Int32 → Int32 → Prop} : ∀ m (r : zTier) g, (∀ k, k < m → ¬ P (rfr r k) (rto r k)) → tRP P m r g = (r, g) := by
  intro m
  induction m with
  | zero => intro r g _; rfl
  | succ m ih =>
    intro r g h
    rw [tRP_f (h m (by omega))]
    exact ih r g (fun k hk => h k (by omega))
theorem tRP_one {P : Int32 → Int32 → Prop} {k0 : Nat} : ∀ m (r : zTier), k0 < m → P (rfr r k0) (rto r k0) → (∀ k, k < m → k ≠ k0 → ¬ P (rfr r k) (rto r k)) → tRP P m r 0 = (tRem r k0, 1) := by
  intro m
  induction m with
  | zero => intro r h; omega
  | succ m ih =>
    intro r h1 h2 h3
    by_cases e : m = k0
    · rw [e, tRP_t h2, tRP_no k0 (tRem r k0) (0 + 1) (fun k hk => by
        obtain ⟨a, b⟩ := tRem_lt (r := r) hk
        rw [a, b]
        exact h3 k (by omega) (by omega))]
      rfl
    · rw [tRP_f (h3 m (by omega) e)]
      exact ih r (by omega) h2 (fun k hk => h3 k (by omega))
theorem kF_one {T : zSheet} {t k : Nat} (h : zSrt (T.2 t)) (h3 : ¬ rkd (T.2 t) = 3) (hk : k < rct (T.2 t)) : kF T (rfr (T.2 t) k) (rto (T.2 t) k) t = (tRem (T.2 t) k, 1) := by
  have e : ∀ j, j < rct (T.2 t) → rfr (T.2 t) j < rto (T.2 t) j := fun j hj => by
    rcases h.1 j hj with q | q
    · exact absurd q.1 h3
    · exact q.2
  show tRW _ _ _ _ _ = _
  rw [tRW_RP]
  refine tRP_one _ _ hk ⟨by rw [iI_lt]; omega, by rw [iI_lt]; omega⟩ (fun j hj hne => ?_)
  rintro ⟨q1, q2⟩
  have ej := e j hj
  have ek := e k hk
  rcases Nat.lt_or_ge j k with c | c
  · have := h.2 j k c hk
    rw [iI_lt] at q1 q2 ej ek this
    omega
  · have := h.2 k j (by omega) hj
    rw [iI_lt] at q1 q2 ej ek this
    omega
/-! insertion -/
theorem pPl_ge {f : Nat → Int32} {a : Int32} : ∀ n j, pPl f a n ≤ j → j < n → a < f j := by
  intro n
  induction n with
  | zero => intro j _ h; omega
  | succ n ih =>
    intro j h1 h2
    by_cases c : a < f n
    · rw [show pPl f a (n + 1) = pPl f a n from if_pos c] at h1
      by_cases e : j = n
      · rw [e]; exact c
      · exact ih j h1 (by omega)
    · rw [show pPl f a (n + 1) = n + 1 from if_neg c] at h1
      omega
theorem pPl_lt {f : Nat → Int32} {a : Int32} : ∀ n, 0 < pPl f a n → ¬ a < f (pPl f a n - 1) := by
  intro n
  induction n with
  | zero => intro h; exact absurd h (Nat.lt_irrefl _)
  | succ n ih =>
    intro h
    by_cases c : a < f n
    · rw [show pPl f a (n + 1) = pPl f a n from if_pos c] at h ⊢
      exact ih h
    · rw [show pPl f a (n + 1) = n + 1 from if_neg c]
      exact c
theorem insF_v {f : Nat → Int32} {p j : Nat} {x : Int32} : insF f p x j = (if j = p then x else f (if j < p then j else j - 1)) := by
  unfold insF
  by_cases c : j < p
  · rw [if_pos c, if_neg (by omega), if_pos c]
  · rw [if_neg c]
    by_cases e : j = p
    · rw [if_pos e, if_pos e]
    · rw [if_neg e, if_neg e, if_neg c]
theorem zRo_ins (h : zRo r) {a b l : Int32} (hk : (rkd r = 3 ∧ b = a) ∨ (¬ rkd r = 3 ∧ a < b)) (ha : ∃ n, n ≤ 999 ∧ a = nI n) (hb : ∃ n, n ≤ 999 ∧ b = nI n) (hl : ∃ v, v < 2 ^ 31 ∧ l = nI v) (hd : ¬ rkd r = 3 → ∀ k, k < rct r → ¬ (rfr r k < b ∧ a < rto r k)) : zRo (tIns r a b l) := by
  obtain ⟨s, t, lb⟩ := h
  have hp := pPl_le (rfr r) a (rct r)
  have hge := fun j h1 h2 => pPl_ge (f := rfr r) (a := a) (rct r) j h1 h2
  have hlo : ∀ j, j < pPl (rfr r) a (rct r) → ¬ a < rfr r j := fun j hj => by
    have q1 := pPl_lt (f := rfr r) (a := a) (rct r) (by omega)
    have q2 := zSrt_ff s (j := j) (k := pPl (rfr r) a (rct r) - 1) (by omega) (by omega)
    rw [iI_lt] at q1 q2 ⊢
    omega
  have hab : ¬ b < a := by
    rcases hk with e | e
    · rw [e.2, iI_lt]; omega
    · have := e.2; rw [iI_lt] at this ⊢; omega
  generalize hpe : pPl (rfr r) a (rct r) = p at hp hge hlo
  have ef : ∀ k, rfr (tIns r a b l) k = (if k = p then a else rfr r (if k < p then k else k - 1)) := fun k => by rw [← hpe]; exact insF_v
  have et : ∀ k, rto (tIns r a b l) k = (if k = p then b else rto r (if k < p then k else k - 1)) := fun k => by rw [← hpe]; exact insF_v
  have el : ∀ k, rlb (tIns r a b l) k = (if k = p then l else rlb r (if k < p then k else k - 1)) := fun k => by rw [← hpe]; exact insF_v
  have ix : ∀ k, k < rct r + 1 → k ≠ p → (if k < p then k else k - 1) < rct r := fun k h1 h2 => by
    by_cases c : k < p
    · rw [if_pos c]; omega
    · rw [if_neg c]; omega
  refine ⟨⟨fun k hk' => ?_, fun j k hj hk' => ?_⟩, fun k hk' => ?_, fun k hk' => ?_⟩
  · have hk2 : k < rct r + 1 := hk'
    rw [ef, et]
    by_cases c : k = p
    · rw [if_pos c, if_pos c]; exact hk
    · rw [if_neg c, if_neg c]; exact s.1 _ (ix k hk2 c)
  · have hk2 : k < rct r + 1 := hk'
    rw [ef, et]
    by_cases c : k = p
    · rw [if_pos c, if_neg (by omega), if_pos (by omega)]
      have q := hlo j (by omega)
      rcases hk with e | e
      · rcases s.1 j (by omega) with q2 | q2
        · rw [q2.2]; exact q
        · exact absurd e.1 q2.1
      · have d := hd e.1 j (by omega)
        have e2 := e.2
        intro c2
        refine d ⟨?_, c2⟩
        rw [iI_lt] at q e2 ⊢
        omega
    · rw [if_neg c]
      by_cases c2 : j = p
      · rw [if_pos c2, if_neg (by omega)]
        have q := hge (k - 1) (by omega) (by omega)
        rcases hk with e | e
        · rw [e.2, iI_lt]; rw [iI_lt] at q; omega
        · have d := hd e.1 (k - 1) (by omega)
          have q3 := zSrt_ft s (k := k - 1) (by omega)
          intro c3
          refine d ⟨c3, ?_⟩
          rw [iI_lt] at q q3 ⊢
          omega
      · rw [if_neg c2]
        refine s.2 _ _ ?_ (ix k hk2 c)
        by_cases c3 : k < p
        · rw [if_pos c3, if_pos (by omega)]; omega
        · rw [if_neg c3]
          by_cases c4 : j < p
          · rw [if_pos c4]; omega
          · rw [if_neg c4]; omega
  · have hk2 : k < rct r + 1 := hk'
    rw [ef, et]
    by_cases c : k = p
    · rw [if_pos c, if_pos c]; exact ⟨ha, hb⟩
    · rw [if_neg c, if_neg c]; exact t _ (ix k hk2 c)
  · have hk2 : k < rct r + 1 := hk'
    rw [el]
    by_cases c : k = p
    · rw [if_pos c]; exact hl
    · rw [if_neg c]; exact lb _ (ix k hk2 c)
theorem in_ins {a b l f g : Int32} : inR (tIns r a b l) f g ↔ inR r f g ∨ (f = a ∧ g = b) := by
  have hp := pPl_le (rfr r) a (rct r)
  generalize hpe : pPl (rfr r) a (rct r) = p at hp
  have ef : ∀ k, rfr (tIns r a b l) k = (if k = p then a else rfr r (if k < p then k else k - 1)) := fun k => by rw [← hpe]; exact insF_v
  have et : ∀ k, rto (tIns r a b l) k = (if k = p then b else rto r (if k < p then k else k - 1)) := fun k => by rw [← hpe]; exact insF_v
  constructor
  · rintro ⟨k, k1, k2, k3⟩
    have hk2 : k < rct r + 1 := k1
    rw [ef] at k2
    rw [et] at k3
    by_cases c : k = p
    · rw [if_pos c] at k2 k3
      exact Or.inr ⟨k2.symm, k3.symm⟩
    · rw [if_neg c] at k2 k3
      refine Or.inl ⟨_, ?_, k2, k3⟩
      by_cases c : k < p
      · rw [if_pos c]; omega
      · rw [if_neg c]; omega
  · rintro (⟨k, k1, k2, k3⟩ | ⟨e1, e2⟩)
    · by_cases c : k < p
      · refine ⟨k, show k < rct r + 1 by omega, ?_, ?_⟩
        · rw [ef, if_neg (by omega), if_pos c]; exact k2
        · rw [et, if_neg (by omega), if_pos c]; exact k3
      · refine ⟨k + 1, show k + 1 < rct r + 1 by omega, ?_, ?_⟩
        · rw [ef, if_neg (by omega), if_neg (by omega)]; exact k2
        · rw [et, if_neg (by omega), if_neg (by omega)]; exact k3
    · refine ⟨p, show p < rct r + 1 by omega, ?_, ?_⟩
      · rw [ef, if_pos rfl, e1]
      · rw [et, if_pos rfl, e2]
end ZIV
