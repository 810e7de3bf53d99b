/-! a tier more -/
def tCp (e r : zTier) : Nat → zTier
  | 0 => e
  | k + 1 => tIns (tCp e r k) (rfr r k) (rto r k) 0
def eRow (nm kd pr : Int32) : zTier := (nm, kd, pr, 0, fun _ => 0, fun _ => 0, fun _ => 0)
def nwR (T : zSheet) (nm kd pr : Int32) : zTier := if kd = 1 then tCp (eRow nm kd pr) (T.2 pr.toNatClampNeg) (rct (T.2 pr.toNatClampNeg)) else eRow nm kd pr
def sAdd (T : zSheet) (nm kd pr : Int32) : zSheet := (T.1 + 1, fun u => if u = T.1 then nwR T nm kd pr else T.2 u)
/-- kind and parent go together -/
def kpOk (T : zSheet) (kd pr : Int32) : Prop := (kd = 0 ∧ pr = -1) ∨ (kd = 3 ∧ pr = -1) ∨ ((kd = 1 ∨ kd = 2 ∨ kd = 3) ∧ ∃ q, q < T.1 ∧ pr = nI q ∧ ¬ rkd (T.2 q) = 3)
section ZAT
variable {T : zSheet} {nm kd pr : Int32} {s i : Nat} {M : zMem} {ρ : Int64 × Nat} {e r : zTier}
theorem tCp_3 : ∀ k, rnm (tCp e r k) = rnm e ∧ rkd (tCp e r k) = rkd e ∧ rpr (tCp e r k) = rpr e ∧ rct (tCp e r k) = rct e + k := by
  intro k
  induction k with
  | zero => exact ⟨rfl, rfl, rfl, rfl⟩
  | succ k ih => exact ⟨ih.1, ih.2.1, ih.2.2.1, by show rct (tCp e r k) + 1 = _; rw [ih.2.2.2]; omega⟩
theorem nwR_3 : rnm (nwR T nm kd pr) = nm ∧ rkd (nwR T nm kd pr) = kd ∧ rpr (nwR T nm kd pr) = pr := by
  unfold nwR
  by_cases c : kd = 1
  · rw [if_pos c]
    have h := tCp_3 (e := eRow nm kd pr) (r := T.2 pr.toNatClampNeg) (rct (T.2 pr.toNatClampNeg))
    exact ⟨h.1, h.2.1, h.2.2.1⟩
  · rw [if_neg c]; exact ⟨rfl, rfl, rfl⟩
theorem sAdd_o {u : Nat} (h : u ≠ T.1) : (sAdd T nm kd pr).2 u = T.2 u := if_neg h
theorem sAdd_n : (sAdd T nm kd pr).2 T.1 = nwR T nm kd pr := if_pos rfl
theorem sAdd_rt (hw : zwp T) (h6 : T.1 ≤ 6) : ∀ f t, t < T.1 → zrt (sAdd T nm kd pr) f t = zrt T f t ∧ zdp (sAdd T nm kd pr) f t = zdp T f t := by
  intro f
  induction f with
  | zero => intro t _; exact ⟨rfl, rfl⟩
  | succ f ih =>
    intro t ht
    have e : (sAdd T nm kd pr).2 t = T.2 t := sAdd_o (by omega)
    have ez : zpt (sAdd T nm kd pr) t = zpt T t := by show (rpr ((sAdd T nm kd pr).2 t)).toNatClampNeg = _; rw [e]
    simp only [zrt, zdp, e, ez]
    by_cases c : rpr (T.2 t) = -1
    · rw [if_pos c, if_pos c, if_pos c, if_pos c]; exact ⟨rfl, rfl⟩
    · have hl := zpt_ne hw h6 ht c
      obtain ⟨i1, i2⟩ := ih (zpt T t) (by omega)
      rw [if_neg c, if_neg c, if_neg c, if_neg c, i1, i2]; exact ⟨rfl, rfl⟩
theorem sAdd_new (hw : zwp T) (h6 : T.1 < 6) : (pr = -1 → pRoot (sAdd T nm kd pr) T.1 = T.1 ∧ pDep (sAdd T nm kd pr) T.1 = 0) ∧ (∀ q, q < T.1 → pr = nI q → pRoot (sAdd T nm kd pr) T.1 = pRoot T q ∧ pDep (sAdd T nm kd pr) T.1 = pDep T q + 1) := by
  have er : rpr ((sAdd T nm kd pr).2 T.1) = pr := by rw [sAdd_n]; exact nwR_3.2.2
  constructor
  · intro h
    exact ⟨if_pos (er.trans h), if_pos (er.trans h)⟩
  · intro q hq h
    have hne : ¬ rpr ((sAdd T nm kd pr).2 T.1) = -1 := by rw [er, h]; exact nI_m1 _ (by omega)
    have ez : zpt (sAdd T nm kd pr) T.1 = q := by show (rpr ((sAdd T nm kd pr).2 T.1)).toNatClampNeg = q; rw [er, h, nI_clamp (by omega)]
    have e1 : pRoot (sAdd T nm kd pr) T.1 = zrt (sAdd T nm kd pr) 5 (zpt (sAdd T nm kd pr) T.1) := if_neg hne
    have e2 : pDep (sAdd T nm kd pr) T.1 = zdp (sAdd T nm kd pr) 5 (zpt (sAdd T nm kd pr) T.1) + 1 := if_neg hne
    obtain ⟨i1, i2⟩ := sAdd_rt (nm := nm) (kd := kd) (pr := pr) hw (by omega) 5 q hq
    rw [ez, i1] at e1
    rw [ez, i2] at e2
    refine ⟨e1.trans (zrt_fuel hw (by omega) 5 6 q hq (by omega) (by omega)), e2.trans ?_⟩
    have key : ∀ f f' p, p < T.1 → p ≤ f → p ≤ f' → zdp T f p = zdp T f' p := by
      intro f
      induction f with
      | zero =>
        intro f' p hp h1 h2
        have h0 : rpr (T.2 p) = -1 := Classical.byContradiction (fun c => by have := zpt_ne hw (by omega) hp c; omega)
        cases f' with
        | zero => rfl
        | succ f' => exact (if_pos h0).symm
      | succ f ih =>
        intro f' p hp h1 h2
        cases f' with
        | zero =>
          have h0 : rpr (T.2 p) = -1 := Classical.byContradiction (fun c => by have := zpt_ne hw (by omega) hp c; omega)
          exact if_pos h0
        | succ f' =>
          simp only [zdp]
          by_cases c : rpr (T.2 p) = -1
          · rw [if_pos c, if_pos c]
          · have hl := zpt_ne hw (by omega) hp c
            rw [if_neg c, if_neg c, ih f' (zpt T p) (by omega) (by omega) (by omega)]
    rw [key 5 6 q hq (by omega) (by omega)]
theorem in_tCp : ∀ k, k ≤ rct r → ∀ f g, inR (tCp (eRow nm kd pr) r k) f g → ∃ j, j < k ∧ rfr r j = f ∧ rto r j = g := by
  intro k
  induction k with
  | zero => intro _ f g ⟨j, j1, _⟩; exact absurd j1 (Nat.not_lt_zero _)
  | succ k ih =>
    intro hk f g h
    rcases in_ins.mp h with h | h
    · obtain ⟨j, j1, j2⟩ := ih (by omega) f g h
      exact ⟨j, by omega, j2⟩
    · exact ⟨k, by omega, h.1.symm, h.2.symm⟩
theorem ro_tCp (hr : zRo r) (hk1 : kd = 1) (hk3 : ¬ rkd r = 3) : ∀ k, k ≤ rct r → zRo (tCp (eRow nm kd pr) r k) := by
  intro k
  induction k with
  | zero => intro _; exact ⟨⟨fun j hj => absurd hj (Nat.not_lt_zero _), fun j k _ hk => absurd hk (Nat.not_lt_zero _)⟩, fun j hj => absurd hj (Nat.not_lt_zero _), fun j hj => absurd hj (Nat.not_lt_zero _)⟩
  | succ k ih =>
    intro hk
    have h3 : ¬ rkd (tCp (eRow nm kd pr) r k) = 3 := by rw [(tCp_3 k).2.1, show rkd (eRow nm kd pr) = kd from rfl, hk1]; decide
    have ft : rfr r k < rto r k := by
      rcases hr.1.1 k (by omega) with q | q
      · exact absurd q.1 hk3
      · exact q.2
    refine zRo_ins (ih (by omega)) (Or.inr ⟨h3, ft⟩) (hr.2.1 k (by omega)).1 (hr.2.1 k (by omega)).2 l0_ok (fun _ j hj => ?_)
    obtain ⟨l, l1, l2, l3⟩ := in_tCp k (by omega) _ _ ⟨j, hj, rfl, rfl⟩
    rw [← l2, ← l3]
    have := hr.1.2 l k l1 (by omega)
    exact fun q => this q.2
theorem ok_add (h : zOk T) (h6 : T.1 < 6) (hk : kpOk T kd pr) : zOk (sAdd T nm kd pr) := by
  obtain ⟨hw, w2, w3, w4, w5⟩ := h
  have n3 := nwR_3 (T := T) (nm := nm) (kd := kd) (pr := pr)
  have ez : ∀ t, t < T.1 → zpt (sAdd T nm kd pr) t = zpt T t := fun t ht => by show (rpr ((sAdd T nm kd pr).2 t)).toNatClampNeg = _; rw [sAdd_o (by omega)]
  refine ⟨fun t ht => ?_, fun t ht => ?_, fun t ht hp => ?_, fun t ht => ?_, fun t ht hp f g hi => ?_⟩
  · by_cases c : t = T.1
    · rw [c, sAdd_n, n3.2.2]
      rcases hk with q | q | ⟨-, q, q1, q2, -⟩
      · exact Or.inl q.2
      · exact Or.inl q.2
      · exact Or.inr ⟨q, q1, q2⟩
    · rw [sAdd_o c]; exact hw t (by have : t < T.1 + 1 := ht; omega)
  · by_cases c : t = T.1
    · rw [c, sAdd_n, n3.2.2, n3.2.1]
      rcases hk with q | q | ⟨q0, q, q1, q2, -⟩
      · exact Or.inl q
      · exact Or.inr (Or.inr (Or.inr q.1))
      · have hne : ¬ pr = -1 := by rw [q2]; exact nI_m1 _ (by omega)
        rcases q0 with z | z | z
        · exact Or.inr (Or.inl ⟨z, hne⟩)
        · exact Or.inr (Or.inr (Or.inl ⟨z, hne⟩))
        · exact Or.inr (Or.inr (Or.inr z))
    · rw [sAdd_o c]; exact w2 t (by have : t < T.1 + 1 := ht; omega)
  · by_cases c : t = T.1
    · rw [c, sAdd_n, n3.2.2] at hp
      rcases hk with q | q | ⟨-, q, q1, q2, q3⟩
      · exact absurd q.2 hp
      · exact absurd q.2 hp
      · have e : zpt (sAdd T nm kd pr) t = q := by show (rpr ((sAdd T nm kd pr).2 t)).toNatClampNeg = q; rw [c, sAdd_n, n3.2.2, q2, nI_clamp (by omega)]
        rw [e, sAdd_o (by omega)]
        exact q3
    · have ht' : t < T.1 := by have : t < T.1 + 1 := ht; omega
      rw [sAdd_o c] at hp
      have hl := zpt_ne hw (by omega) ht' hp
      rw [ez t ht', sAdd_o (by omega)]
      exact w3 t ht' hp
  · by_cases c : t = T.1
    · rw [c, sAdd_n]
      unfold nwR
      by_cases c1 : kd = 1
      · rw [if_pos c1]
        rcases hk with q | q | ⟨-, q, q1, q2, q3⟩
        · rw [c1] at q; exact absurd q.1 (by decide)
        · rw [c1] at q; exact absurd q.1 (by decide)
        · rw [q2, nI_clamp (by omega)]
          exact ro_tCp (w4 q q1) c1 q3 _ (Nat.le_refl _)
      · rw [if_neg c1]
        exact ⟨⟨fun j hj => absurd hj (Nat.not_lt_zero _), fun j k _ hk => absurd hk (Nat.not_lt_zero _)⟩, fun j hj => absurd hj (Nat.not_lt_zero _), fun j hj => absurd hj (Nat.not_lt_zero _)⟩
    · rw [sAdd_o c]; exact w4 t (by have : t < T.1 + 1 := ht; omega)
  · by_cases c : t = T.1
    · rw [c, sAdd_n] at hi
      unfold nwR at hi
      by_cases c1 : kd = 1
      · rw [if_pos c1] at hi
        rcases hk with q | q | ⟨-, q, q1, q2, q3⟩
        · rw [c1] at q; exact absurd q.1 (by decide)
        · rw [c1] at q; exact absurd q.1 (by decide)
        · have e : zpt (sAdd T nm kd pr) t = q := by show (rpr ((sAdd T nm kd pr).2 t)).toNatClampNeg = q; rw [c, sAdd_n, n3.2.2, q2, nI_clamp (by omega)]
          rw [q2, nI_clamp (by omega)] at hi
          obtain ⟨l, l1, l2, l3⟩ := in_tCp _ (Nat.le_refl _) f g hi
          rw [e, sAdd_o (by omega)]
          exact ⟨f, g, ⟨l, l1, l2, l3⟩, i_rf _, i_rf _⟩
      · rw [if_neg c1] at hi
        obtain ⟨j, j1, -⟩ := hi
        exact absurd j1 (Nat.not_lt_zero _)
    · have ht' : t < T.1 := by have : t < T.1 + 1 := ht; omega
      rw [sAdd_o c] at hp hi
      have hl := zpt_ne hw (by omega) ht' hp
      rw [ez t ht', sAdd_o (by omega)]
      exact w5 t ht' hp f g hi
end ZAT
