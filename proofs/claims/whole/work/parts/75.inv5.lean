/-! sheets: what a take of a whole mark, a move and a silence keep -/
section ZI5
variable {T : zSheet}
theorem tRP_ct {P : Int32 → Int32 → Prop} : ∀ m (r : zTier) g, rct (tRP P m r g).1 ≤ rct r := by
  intro m
  induction m with
  | zero => intro r g; exact Nat.le_refl _
  | succ m ih =>
    intro r g
    by_cases c : P (rfr r m) (rto r m)
    · rw [tRP_t c]
      have := ih (tRem r m) (g + 1)
      have e : rct (tRem r m) = rct r - 1 := rfl
      omega
    · rw [tRP_f c]; exact ih _ _
theorem kF_rp {x y : Int32} {v : Nat} : kF T x y v = tRP (fun f t => ¬ f < x ∧ ¬ y < t) (rct (T.2 v)) (T.2 v) 0 := tRW_RP _ _ _
theorem in_kF {x y : Int32} {v : Nat} (f g : Int32) : inR (kF T x y v).1 f g ↔ inR (T.2 v) f g ∧ ¬ (¬ f < x ∧ ¬ y < g) := by
  rw [kF_rp]
  exact in_rp' f g
/-- a mark goes with all that hangs on it -/
theorem ok_take (h : zOk T) (h6 : T.1 ≤ 6) (h40 : ∀ u, u < T.1 → rct (T.2 u) ≤ 40) {a : Nat} (ha : a < T.1) (x y : Int32) : zOk (sTk T a x y) := by
  obtain ⟨hw, w2, w3, w4, w5⟩ := h
  have row : ∀ v, v < T.1 → ((v = a ∨ (pBelow T v a ∧ ¬ rkd (T.2 v) = 3)) ∧ (sTk T a x y).2 v = (kF T x y v).1) ∨ (v ≠ a ∧ (pBelow T v a ∧ rkd (T.2 v) = 3) ∧ (sTk T a x y).2 v = (kG T a x y v).1) ∨ (v ≠ a ∧ ¬ pBelow T v a ∧ (sTk T a x y).2 v = T.2 v) := by
    intro v hv
    by_cases c : v = a ∨ pBelow T v a
    · have e : (sTk T a x y).2 v = (kH T a x y v).1 := sMapK_t ⟨hv, hv, c⟩
      by_cases c2 : v ≠ a ∧ rkd (T.2 v) = 3
      · exact Or.inr (Or.inl ⟨c2.1, ⟨c.resolve_left c2.1, c2.2⟩, e.trans (congrArg Prod.fst (if_pos c2))⟩)
      · refine Or.inl ⟨?_, e.trans (congrArg Prod.fst (if_neg c2))⟩
        by_cases c3 : v = a
        · exact Or.inl c3
        · exact Or.inr ⟨c.resolve_left c3, fun q => c2 ⟨c3, q⟩⟩
    · exact Or.inr (Or.inr ⟨fun q => c (Or.inl q), fun q => c (Or.inr q), sMapK_f (fun q => c q.2.2)⟩)
  have par : ∀ v, v < T.1 → ¬ rpr (T.2 v) = -1 → pBelow T v a → zpt T v < T.1 ∧ (sTk T a x y).2 (zpt T v) = (kF T x y (zpt T v)).1 ∧ kP T a x y (zpt T v) = (kF T x y (zpt T v)).1 := by
    intro v hv hpr hb
    have hlt := zpt_ne hw h6 hv hpr
    have c := ((below_s hw h6 hv).mp hb).2
    refine ⟨by omega, ?_, @if_pos _ (Classical.propDecidable _) c _ _ _⟩
    rcases row (zpt T v) (by omega) with e | e | e
    · exact e.2
    · exact absurd e.2.1.2 (w3 v hv hpr)
    · exact absurd c (fun q => q.elim e.1 e.2.1)
  refine zOk_of ⟨hw, w2, w3, w4, w5⟩ h6 (sMapK_eq (fun v => kH_3 v)) (fun v hv => ?_) (fun v hv hpr f g hi => ?_)
  · rcases row v hv with e | e | e
    · rw [e.2, kF_rp]; exact tRP_ro _ _ _ (w4 v hv)
    · rw [e.2.2]; exact tRP_ro _ _ _ (w4 v hv)
    · rw [e.2.2]; exact w4 v hv
  · have hlt := zpt_ne hw h6 hv hpr
    rcases row v hv with e | e | e
    · rw [e.2] at hi
      obtain ⟨q1, q2⟩ := (in_kF f g).mp hi
      obtain ⟨F, G, a1, a2, a3⟩ := w5 v hv hpr f g q1
      rcases e.1 with c | c
      · have e' : (sTk T a x y).2 (zpt T v) = T.2 (zpt T v) := by
          rcases row (zpt T v) (by omega) with z | z | z
          · rcases z.1 with z1 | z1
            · omega
            · have := zbelow_lt hw h6 6 _ (by omega) z1.1; omega
          · have := zbelow_lt hw h6 6 _ (by omega) z.2.1.1; omega
          · exact z.2.2
        rw [e']
        exact ⟨F, G, a1, a2, a3⟩
      · obtain ⟨-, e', -⟩ := par v hv hpr c.1
        rw [e']
        refine ⟨F, G, (in_kF F G).mpr ⟨a1, fun z => q2 ⟨?_, ?_⟩⟩, a2, a3⟩
        · have := z.1; rw [iI_lt] at this a2 ⊢; omega
        · have := z.2; rw [iI_lt] at this a3 ⊢; omega
    · rw [e.2.2] at hi
      obtain ⟨p1, e', p3⟩ := par v hv hpr e.2.1.1
      obtain ⟨q1, q2⟩ := (in_rp' (P := fun f t => pAround (kP T a x y (zpt T v)) f t = -1) f g).mp hi
      rw [e']
      rw [p3] at q2
      refine (around_ex ?_).mp q2
      rw [kF_rp]
      exact Nat.le_trans (tRP_ct _ _ _) (h40 _ p1)
    · rw [e.2.2] at hi
      have e' : (sTk T a x y).2 (zpt T v) = T.2 (zpt T v) := by
        have nb : ¬ (zpt T v = a ∨ pBelow T (zpt T v) a) := fun q => e.2.1 ((below_s hw h6 hv).mpr ⟨hpr, q⟩)
        rcases row (zpt T v) (by omega) with z | z | z
        · exact absurd (z.1.imp id (fun q => q.1)) nb
        · exact absurd (Or.inr z.2.1.1) nb
        · exact z.2.2
      rw [e']
      exact w5 v hv hpr f g hi
theorem root_par (hw : zwp T) (h6 : T.1 ≤ 6) {t : Nat} (ht : t < T.1) (hpr : ¬ rpr (T.2 t) = -1) : pRoot T (zpt T t) = pRoot T t := by
  have hlt := zpt_ne hw h6 ht hpr
  have e : pRoot T t = zrt T 5 (zpt T t) := if_neg hpr
  rw [e]
  exact zrt_fuel hw h6 6 5 _ (by omega) (by omega) (by omega)
/-- all times of chosen families are mapped -/
theorem ok_map (h : zOk T) (h6 : T.1 ≤ 6) {c : Nat → Prop} {g : Int32 → Int32} {E : Int32 → Prop} (hg : gOk E g) (hE : ∀ t, t < T.1 → c t → ∀ x, endR (T.2 t) x → E x) (hc : ∀ t, t < T.1 → ¬ rpr (T.2 t) = -1 → (c (zpt T t) ↔ c t)) : zOk (sMapA T c g) := by
  obtain ⟨hw, w2, w3, w4, w5⟩ := h
  have row : ∀ v, v < T.1 → (c v ∧ (sMapA T c g).2 v = tMap (T.2 v) g) ∨ (¬ c v ∧ (sMapA T c g).2 v = T.2 v) := fun v hv => by
    by_cases q : c v
    · exact Or.inl ⟨q, sMapK_t ⟨hv, hv, q⟩⟩
    · exact Or.inr ⟨q, sMapK_f (fun e => q e.2.2)⟩
  refine zOk_of ⟨hw, w2, w3, w4, w5⟩ h6 (sMapA_eq (u := T.1)) (fun v hv => ?_) (fun v hv hpr f k hi => ?_)
  · rcases row v hv with e | e
    · rw [e.2]; exact zRo_map (w4 v hv) hg (hE v hv e.1)
    · rw [e.2]; exact w4 v hv
  · have hlt := zpt_ne hw h6 hv hpr
    have hcp := hc v hv hpr
    rcases row v hv with ⟨e1, e2⟩ | ⟨e1, e2⟩
    · rw [e2] at hi
      obtain ⟨a, b, i1, i2, i3⟩ := in_map.mp hi
      obtain ⟨F, G, a1, a2, a3⟩ := w5 v hv hpr a b i1
      have cp := hcp.mpr e1
      have e' : (sMapA T c g).2 (zpt T v) = tMap (T.2 (zpt T v)) g := by
        rcases row (zpt T v) (by omega) with z | z
        · exact z.2
        · exact absurd cp z.1
      obtain ⟨j, j1, j2, j3⟩ := i1
      obtain ⟨j', k1, k2, k3⟩ := a1
      have Ea : E a := hE v hv e1 a ⟨j, j1, Or.inl j2⟩
      have Eb : E b := hE v hv e1 b ⟨j, j1, Or.inr j3⟩
      have EF : E F := hE _ (by omega) cp F ⟨j', k1, Or.inl k2⟩
      have EG : E G := hE _ (by omega) cp G ⟨j', k1, Or.inr k3⟩
      rw [e', i2, i3]
      exact ⟨g F, g G, in_map.mpr ⟨F, G, ⟨j', k1, k2, k3⟩, rfl, rfl⟩, fun q => a2 ((hg.2 _ _ Ea EF).mpr q), fun q => a3 ((hg.2 _ _ EG Eb).mpr q)⟩
    · rw [e2] at hi
      have e' : (sMapA T c g).2 (zpt T v) = T.2 (zpt T v) := by
        rcases row (zpt T v) (by omega) with z | z
        · exact absurd (hcp.mp z.1) e1
        · exact z.2
      rw [e']
      exact w5 v hv hpr f k hi
theorem ok_move (h : zOk T) (h6 : T.1 ≤ 6) {top x : Nat} {z : Int32} (hx : x ≤ 999) (hz : pTm z) (hm : pMayMove T top x z) : zOk (sMapA T (fun u => pRoot T u = top) (gShift (nI x) z)) := by
  obtain ⟨v, w, l1, l2, l3, l4⟩ := hm
  have hv := l1.1
  have hw9 := l2.1
  have i0 := iI_0
  have i9 := iI_999
  have ix := iI_n (n := x) (by omega)
  have iv := iI_n (n := v) (by omega)
  have iw := iI_n (n := w) (by omega)
  obtain ⟨z1, z2⟩ := hz
  rw [iI_lt] at z1 z2 l3 l4
  have hzn : ∃ n, n ≤ 999 ∧ z = nI n := ⟨z.toInt.toNat, by omega, by rw [iI_eq, iI_n (by omega)]; omega⟩
  refine ok_map h h6 (E := fun e => ∃ n, n ≤ 999 ∧ e = nI n ∧ pStopIn T top n) ⟨?_, ?_⟩ ?_ ?_
  · rintro e ⟨n, n1, n2, n3⟩
    by_cases c : e = nI x
    · rw [show gShift (nI x) z e = z from if_pos c]; exact hzn
    · rw [show gShift (nI x) z e = e from if_neg c]; exact ⟨n, n1, n2⟩
  · rintro e e' ⟨n, n1, n2, n3⟩ ⟨m, m1, m2, m3⟩
    have in1 := iI_n (n := n) (by omega)
    have im1 := iI_n (n := m) (by omega)
    have lo : ∀ q, q ≤ 999 → pStopIn T top q → q < x → q < v := fun q _ hq hl => l1.2.1 q hl hq
    have hi : ∀ q, q ≤ 999 → pStopIn T top q → x < q → w < q := fun q h9 hq hl => l2.2.1 q hl h9 hq
    by_cases c : e = nI x
    · rw [show gShift (nI x) z e = z from if_pos c]
      by_cases c' : e' = nI x
      · rw [show gShift (nI x) z e' = z from if_pos c', c, c', iI_lt, iI_lt]; omega
      · rw [show gShift (nI x) z e' = e' from if_neg c', c, m2, iI_lt, iI_lt]
        have hne : m ≠ x := fun q => c' (by rw [m2, q])
        have a := lo m m1 m3
        have b := hi m m1 m3
        omega
    · rw [show gShift (nI x) z e = e from if_neg c]
      have hne : n ≠ x := fun q => c (by rw [n2, q])
      by_cases c' : e' = nI x
      · rw [show gShift (nI x) z e' = z from if_pos c', c', n2, iI_lt, iI_lt]
        have a := lo n n1 n3
        have b := hi n n1 n3
        omega
      · rw [show gShift (nI x) z e' = e' from if_neg c']
  · rintro t ht ct e ⟨k, k1, k2⟩
    obtain ⟨⟨a, a1, a2⟩, b, b1, b2⟩ := (h.2.2.2.1 t ht).2.1 k k1
    rcases k2 with q | q
    · exact ⟨a, a1, by rw [← q]; exact a2, t, ht, ct, k, k1, Or.inl a2⟩
    · exact ⟨b, b1, by rw [← q]; exact b2, t, ht, ct, k, k1, Or.inr b2⟩
  · intro t ht hpr
    show pRoot T (zpt T t) = top ↔ pRoot T t = top
    rw [root_par h.1 h6 ht hpr]
theorem ok_sil (h : zOk T) (h6 : T.1 ≤ 6) {x : Nat} {l : Int32} (hx : x ≤ 999) (hl : pLn l) (hs : pSil T (nI x) l) : zOk (sMapA T (fun _ => True) (gSil (nI x) l)) := by
  have i1 := iI_1
  have i9 := iI_999
  have ix := iI_n (n := x) (by omega)
  obtain ⟨q1, q2⟩ := hl
  rw [iI_lt] at q1 q2
  refine ok_map h h6 (E := fun e => ∃ n, n ≤ 999 ∧ e = nI n ∧ ¬ (nI x < e ∧ 999 < e + l)) ⟨?_, ?_⟩ ?_ (fun _ _ _ => Iff.rfl)
  · rintro e ⟨n, n1, n2, n3⟩
    by_cases c : nI x < e
    · rw [show gSil (nI x) l e = e + l from if_pos c]
      have in1 := iI_n (n := n) (by omega)
      have ea : (e + l).toInt = n + l.toInt := by rw [n2, iI_add (by omega) (by omega)]; omega
      have n4 : ¬ 999 < e + l := fun q => n3 ⟨c, q⟩
      rw [iI_lt] at n4
      refine ⟨(e + l).toInt.toNat, by omega, ?_⟩
      rw [iI_eq, iI_n (by omega)]
      omega
    · rw [show gSil (nI x) l e = e from if_neg c]; exact ⟨n, n1, n2⟩
  · rintro e e' ⟨n, n1, n2, n3⟩ ⟨m, m1, m2, m3⟩
    have in1 := iI_n (n := n) (by omega)
    have im1 := iI_n (n := m) (by omega)
    have ea : (e + l).toInt = n + l.toInt := by rw [n2, iI_add (by omega) (by omega)]; omega
    have eb : (e' + l).toInt = m + l.toInt := by rw [m2, iI_add (by omega) (by omega)]; omega
    have e1 : e.toInt = n := by rw [n2]; exact in1
    have e2 : e'.toInt = m := by rw [m2]; exact im1
    by_cases c : nI x < e
    · rw [show gSil (nI x) l e = e + l from if_pos c]
      by_cases c' : nI x < e'
      · rw [show gSil (nI x) l e' = e' + l from if_pos c', iI_lt, iI_lt]; omega
      · rw [show gSil (nI x) l e' = e' from if_neg c', iI_lt, iI_lt]
        rw [iI_lt] at c c'
        omega
    · rw [show gSil (nI x) l e = e from if_neg c]
      by_cases c' : nI x < e'
      · rw [show gSil (nI x) l e' = e' + l from if_pos c', iI_lt, iI_lt]
        rw [iI_lt] at c c'
        omega
      · rw [show gSil (nI x) l e' = e' from if_neg c']
  · rintro t ht - e ⟨k, k1, k2⟩
    obtain ⟨s, zt, -⟩ := h.2.2.2.1 t ht
    obtain ⟨⟨a, a1, a2⟩, b, b1, b2⟩ := zt k k1
    have sk := hs t ht k k1
    rcases k2 with q | q
    · refine ⟨a, a1, by rw [← q]; exact a2, fun z => sk ?_⟩
      rw [← q] at z
      exact sil_mono ⟨by rw [iI_lt]; exact q1, by rw [iI_lt]; exact q2⟩ a1 b1 a2 b2 (zSrt_ft s k1) z
    · exact ⟨b, b1, by rw [← q]; exact b2, by rw [← q]; exact sk⟩
end ZI5
