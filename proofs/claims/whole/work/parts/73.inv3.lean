/-! sheets: what edits keep -/
section ZI3
variable {T T' : zSheet}
theorem sEq_wq (h : sEq T T') (hw : zwp T) (h6 : T.1 ≤ 6) (hq : zwq T) : zwq T' := by
  intro t ht hp
  have e1 := h.1
  have ht' : t < T.1 := by omega
  have e2 : rpr (T'.2 t) = rpr (T.2 t) := (h.2 t).2.2
  have e3 : zpt T' t = zpt T t := by show (rpr (T'.2 t)).toNatClampNeg = _; rw [e2]
  rw [e3, (h.2 _).2.1]
  exact hq t ht' (by rw [← e2]; exact hp)
theorem zOk_of (h : zOk T) (h6 : T.1 ≤ 6) (he : sEq T T') (hr : ∀ t, t < T.1 → zRo (T'.2 t)) (hn : ∀ t, t < T.1 → ¬ rpr (T.2 t) = -1 → ∀ f g, inR (T'.2 t) f g → ∃ F G, inR (T'.2 (zpt T t)) F G ∧ ¬ f < F ∧ ¬ G < g) : zOk T' := by
  obtain ⟨w1, w2, w3, w4, w5⟩ := h
  have e1 := he.1
  refine ⟨sEq_wp he w1, sEq_wk he w2, sEq_wq he w1 h6 w3, fun t ht => hr t (by omega), fun t ht hp f g hi => ?_⟩
  have e2 : rpr (T'.2 t) = rpr (T.2 t) := (he.2 t).2.2
  have e3 : zpt T' t = zpt T t := by show (rpr (T'.2 t)).toNatClampNeg = _; rw [e2]
  rw [e3]
  exact hn t (by omega) (by rw [← e2]; exact hp) f g hi
theorem i_rf (x : Int32) : ¬ x < x := by rw [iI_lt]; omega
theorem around_cases (r : zTier) (f g : Int32) : (pAround r f g = -1 ∧ ∀ k, k < rct r → ¬ (¬ f < rfr r k ∧ ¬ rto r k < g)) ∨ ∃ j, j < rct r ∧ pAround r f g = nI j ∧ ¬ f < rfr r j ∧ ¬ rto r j < g := by
  unfold pAround zfI
  cases hz : zfst (fun k => ¬ f < rfr r k ∧ ¬ rto r k < g) 0 (rct r) with
  | none => exact Or.inl ⟨rfl, fun k hk => (zfst_none _ _).mp hz k (by omega) (by omega)⟩
  | some j =>
    obtain ⟨z1, z2, z3, -⟩ := (zfst_spec _ _ _).mp hz
    exact Or.inr ⟨j, by omega, rfl, z3⟩
theorem around_ex {r : zTier} (h40 : rct r ≤ 40) {f g : Int32} : (¬ pAround r f g = -1) ↔ ∃ F G, inR r F G ∧ ¬ f < F ∧ ¬ G < g := by
  rcases around_cases r f g with ⟨e1, e2⟩ | ⟨j, j1, j2, j3, j4⟩
  · refine ⟨fun e => absurd e1 e, ?_⟩
    rintro ⟨F, G, ⟨k, k1, k2, k3⟩, q1, q2⟩
    exact absurd ⟨by rw [k2]; exact q1, by rw [k3]; exact q2⟩ (e2 k k1)
  · exact ⟨fun _ => ⟨_, _, ⟨j, j1, rfl, rfl⟩, j3, j4⟩, fun _ => by rw [j2]; exact nI_m1 _ (by omega)⟩
theorem zpt_ne (hw : zwp T) (h6 : T.1 ≤ 6) {t : Nat} (ht : t < T.1) (hp : ¬ rpr (T.2 t) = -1) : zpt T t < t := (zwp_par hw ht h6 hp).1
/-- a label is changed -/
theorem ok_lab (h : zOk T) (h6 : T.1 ≤ 6) {t k : Nat} {l : Int32} (hl : ∃ v, v < 2 ^ 31 ∧ l = nI v) : zOk (sUp T t (tLab (T.2 t) k l)) := by
  have he : ∀ u f g, inR ((sUp T t (tLab (T.2 t) k l)).2 u) f g ↔ inR (T.2 u) f g := fun u f g => by
    by_cases c : u = t
    · rw [c, sUp_eq]; exact Iff.rfl
    · rw [sUp_ne c]
  refine zOk_of h h6 (sEq_up sEq_rf rfl rfl rfl) (fun u hu => ?_) (fun u hu hp f g hi => ?_)
  · by_cases c : u = t
    · rw [c, sUp_eq]
      obtain ⟨s, q, lb⟩ := h.2.2.2.1 u hu
      rw [c] at s q lb
      refine ⟨s, q, fun j hj => ?_⟩
      show ∃ v, v < 2 ^ 31 ∧ (if j = k then l else rlb (T.2 t) j) = nI v
      by_cases e : j = k
      · rw [if_pos e]; exact hl
      · rw [if_neg e]; exact lb j hj
    · rw [sUp_ne c]; exact h.2.2.2.1 u hu
  · obtain ⟨F, G, a, b⟩ := h.2.2.2.2 u hu hp f g ((he u f g).mp hi)
    exact ⟨F, G, (he _ F G).mpr a, b⟩
/-- a point goes -/
theorem ok_rem3 (h : zOk T) (h6 : T.1 ≤ 6) {t k : Nat} (ht : t < T.1) (h3 : rkd (T.2 t) = 3) : zOk (sUp T t (tRem (T.2 t) k)) := by
  refine zOk_of h h6 (sEq_up sEq_rf rfl rfl rfl) (fun u hu => ?_) (fun u hu hp f g hi => ?_)
  · by_cases c : u = t
    · rw [c, sUp_eq]; exact zRo_rem (h.2.2.2.1 t ht) k
    · rw [sUp_ne c]; exact h.2.2.2.1 u hu
  · have hne : zpt T u ≠ t := fun e => h.2.2.1 u hu hp (e ▸ h3)
    rw [sUp_ne hne]
    refine h.2.2.2.2 u hu hp f g ?_
    by_cases c : u = t
    · rw [c, sUp_eq] at hi; rw [c]; exact in_rem hi
    · rw [sUp_ne c] at hi; exact hi
/-- a point comes -/
theorem ok_point (h : zOk T) (h6 : T.1 ≤ 6) (h40 : ∀ u, u < T.1 → rct (T.2 u) ≤ 40) {t : Nat} (ht : t < T.1) {a l : Int32} (hp : pMayPoint T t a) (ha : ∃ n, n ≤ 999 ∧ a = nI n) (hl : ∃ v, v < 2 ^ 31 ∧ l = nI v) : zOk (sUp T t (tIns (T.2 t) a a l)) := by
  obtain ⟨h3, p2, p3⟩ := hp
  refine zOk_of h h6 (sEq_up sEq_rf rfl rfl rfl) (fun u hu => ?_) (fun u hu hpr f g hi => ?_)
  · by_cases c : u = t
    · rw [c, sUp_eq]; exact zRo_ins (h.2.2.2.1 t ht) (Or.inl ⟨h3, rfl⟩) ha ha hl (fun e => absurd h3 e)
    · rw [sUp_ne c]; exact h.2.2.2.1 u hu
  · have hne : zpt T u ≠ t := fun e => h.2.2.1 u hu hpr (e ▸ h3)
    have hlt := zpt_ne h.1 h6 hu hpr
    rw [sUp_ne hne]
    by_cases c : u = t
    · rw [c, sUp_eq] at hi
      rcases in_ins.mp hi with e | ⟨e1, e2⟩
      · rw [c]; exact h.2.2.2.2 t ht (c ▸ hpr) f g e
      · rw [e1, e2]
        rw [c] at hpr
        have q := (p3.resolve_left hpr).2
        rw [c]
        exact (around_ex (h40 _ (by rw [c] at hlt; omega))).mp q
    · rw [sUp_ne c] at hi; exact h.2.2.2.2 u hu hpr f g hi
/-- two neighbours become one -/
theorem ok_join (h : zOk T) (h6 : T.1 ≤ 6) (h40 : ∀ u, u < T.1 → rct (T.2 u) ≤ 40) {t m : Nat} (ht : t < T.1) (h3 : ¬ rkd (T.2 t) = 3) {r' : zTier} (hj : isJoin (T.2 t) r' m) (hn : rnm r' = rnm (T.2 t)) (hpr' : rpr r' = rpr (T.2 t)) (hl : zLb r') (hpm : pPM T t m = pPM T t (m + 1)) : zOk (sUp T t r') := by
  obtain ⟨s, q, lb⟩ := h.2.2.2.1 t ht
  refine zOk_of h h6 (sEq_up sEq_rf hn hj.1 hpr') (fun u hu => ?_) (fun u hu hpr f g hi => ?_)
  · by_cases c : u = t
    · rw [c, sUp_eq]; exact ⟨zSrt_join s h3 hj, zRt_join q hj, hl⟩
    · rw [sUp_ne c]; exact h.2.2.2.1 u hu
  · have hlt := zpt_ne h.1 h6 hu hpr
    by_cases c : u = t
    · rw [c] at hpr hlt hi ⊢
      rw [sUp_eq] at hi
      rw [sUp_ne (by omega)]
      rcases in_join' hj hi with e | ⟨e1, e2⟩
      · exact h.2.2.2.2 t ht hpr f g e
      · have hp40 := h40 (zpt T t) (by omega)
        have d : ∀ k, k < rct (T.2 t) → ¬ pAround (T.2 (zpt T t)) (rfr (T.2 t) k) (rto (T.2 t) k) = -1 := fun k hk => (around_ex hp40).mpr (h.2.2.2.2 t ht hpr _ _ ⟨k, hk, rfl, rfl⟩)
        have hpm' : pAround (T.2 (zpt T t)) (rfr (T.2 t) m) (rto (T.2 t) m) = pAround (T.2 (zpt T t)) (rfr (T.2 t) (m + 1)) (rto (T.2 t) (m + 1)) := by
          have a1 : pPM T t m = _ := if_neg hpr
          have a2 : pPM T t (m + 1) = _ := if_neg hpr
          rw [← a1, ← a2]; exact hpm
        have hm := hj.2.1
        rcases around_cases (T.2 (zpt T t)) (rfr (T.2 t) m) (rto (T.2 t) m) with ⟨z, -⟩ | ⟨j, j1, j2, j3, j4⟩
        · exact absurd z (d m (by omega))
        · rcases around_cases (T.2 (zpt T t)) (rfr (T.2 t) (m + 1)) (rto (T.2 t) (m + 1)) with ⟨z, -⟩ | ⟨j', k1, k2, k3, k4⟩
          · exact absurd z (d (m + 1) (by omega))
          · rw [j2, k2] at hpm'
            have e := (nI_eq (by omega) (by omega)).mp hpm'
            rw [← e] at k4
            rw [e1, e2]
            exact ⟨_, _, ⟨j, j1, rfl, rfl⟩, j3, k4⟩
    · rw [sUp_ne c] at hi
      obtain ⟨F, G, a, b1, b2⟩ := h.2.2.2.2 u hu hpr f g hi
      by_cases c2 : zpt T u = t
      · rw [c2, sUp_eq]
        rw [c2] at a
        obtain ⟨F', G', a', d1, d2⟩ := in_join s hj a
        refine ⟨F', G', a', ?_, ?_⟩
        · rw [iI_lt] at b1 d1 ⊢; omega
        · rw [iI_lt] at b2 d2 ⊢; omega
      · rw [sUp_ne c2]; exact ⟨F, G, a, b1, b2⟩
theorem zLb_rem {r : zTier} (h : zLb r) (m : Nat) : zLb (tRem r m) := fun k hk => by
  obtain ⟨-, -, c⟩ := tRem_f (r := r) (m := m) (k := k)
  rw [c]
  have hk' : k < rct r - 1 := hk
  refine h _ ?_
  by_cases c : k < m
  · rw [if_pos c]; omega
  · rw [if_neg c]; omega
theorem ok_joins (h : zOk T) (h6 : T.1 ≤ 6) (h40 : ∀ u, u < T.1 → rct (T.2 u) ≤ 40) {t k : Nat} (ht : t < T.1) (hj : pMayJoin T t k) : zOk (sUp T t (tJoin (T.2 t) k)) := ok_join h h6 h40 ht hj.1 (join_j hj.2.1) rfl rfl (zLb_rem (h.2.2.2.1 t ht).2.2 _) hj.2.2.2
theorem ok_piece (h : zOk T) (h6 : T.1 ≤ 6) (h40 : ∀ u, u < T.1 → rct (T.2 u) ≤ 40) {t k : Nat} (ht : t < T.1) (h1 : rkd (T.2 t) = 1) (hk : k < rct (T.2 t)) (hh : pHb T t k ∨ pHa T t k) : zOk (sUp T t (tPc T t k)) := by
  have h3 : ¬ rkd (T.2 t) = 3 := by rw [h1]; decide
  have lb := (h.2.2.2.1 t ht).2.2
  by_cases c : pHb T t k
  · rw [tPc_b c]
    obtain ⟨b, rfl⟩ : ∃ b, k = b + 1 := ⟨k - 1, by have := c.1; omega⟩
    exact ok_join h h6 h40 ht h3 (m := b) (join_j hk) rfl rfl (zLb_rem (show zLb (tTo _ _ _) from lb) _) c.2
  · rw [tPc_a c]
    have c2 := hh.resolve_left c
    exact ok_join h h6 h40 ht h3 (m := k) (join_a c2.1) rfl rfl (zLb_rem (show zLb (tFrom _ _ _) from lb) _) c2.2
end ZI3
