/-! a sheet is copied -/
/-- nothing but one row has changed -/
def wrFr (M M' : zMem) (i : Nat) : Prop := ∀ k j q, ¬ (j = i ∧ (k = 12 ∨ k = 20 ∨ k = 21 ∨ k = 22)) → M' k j q = M k j q
/-- nothing but one sheet and its rows has changed -/
def wsFr (M M' : zMem) (s : Nat) : Prop := ∀ k j q, ¬ ((k = 13 ∧ j = s ∧ q = 0) ∨ (6 * s ≤ j ∧ j < 6 * s + 6 ∧ (k = 12 ∨ k = 20 ∨ k = 21 ∨ k = 22))) → M' k j q = M k j q
theorem wsFr_rf {M : zMem} {s : Nat} : wsFr M M s := fun _ _ _ _ => rfl
theorem wsFr_tr {M M1 M2 : zMem} {s : Nat} (h1 : wsFr M M1 s) (h2 : wsFr M1 M2 s) : wsFr M M2 s := fun k j q h => (h2 k j q h).trans (h1 k j q h)
theorem wrFr_s {M M' : zMem} {s t : Nat} (ht : t < 6) (h : wrFr M M' (6 * s + t)) : wsFr M M' s := fun k j q hne => h k j q (fun e => hne (Or.inr ⟨by omega, by omega, e.2⟩))
theorem sFr_ws {M M' : zMem} {s : Nat} (h : sFr M M' s) : wsFr M M' s := fun k j q hne => h k j q (fun e => hne (Or.inr ⟨e.1, e.2.1, by rcases e.2.2 with q | q | q | q <;> omega⟩))
theorem wsFr_ot {M M' : zMem} {s s2 : Nat} {T : zSheet} (hs : s2 ≠ s) (hf : wsFr M M' s) (h : cSheet M s2 T) : cSheet M' s2 T := by
  obtain ⟨h1, h6, h3⟩ := h
  refine ⟨(hf 13 s2 0 (by omega)).trans h1, h6, fun u hu => ?_⟩
  obtain ⟨⟨g0, g1, g2, gc, gn, gk⟩, g3, g4⟩ := h3 u hu
  refine ⟨⟨(hf _ _ _ (by omega)).trans g0, (hf _ _ _ (by omega)).trans g1, (hf _ _ _ (by omega)).trans g2, (hf _ _ _ (by omega)).trans gc, gn, fun k hk => ?_⟩, (hf _ _ _ (by omega)).trans g3, (hf _ _ _ (by omega)).trans g4⟩
  obtain ⟨a1, a2, a3⟩ := gk k hk
  exact ⟨(hf _ _ _ (by omega)).trans a1, (hf _ _ _ (by omega)).trans a2, (hf _ _ _ (by omega)).trans a3⟩
section ZCP
variable {s i : Nat} {T : zSheet} {M : zMem} {ρ : Int64 × Nat} {σ : zSt}
theorem r_copyFrom {i0 i1 : Nat} (hne : i1 ≠ i0) : ∃ M', zrun zP 25 [zR 12 i0, zR 12 i1] (M, ρ) = zvd (M', ρ) ∧ (∀ q, q < 6 → M' 12 i0 q = M 12 i1 q) ∧ (∀ q, q < 40 → M' 20 i0 q = M 20 i1 q ∧ M' 21 i0 q = M 21 i1 q ∧ M' 22 i0 q = M 22 i1 q) ∧ wrFr M M' i0 := by
  rw [e_X2_copyFrom, if_pos (by decide), if_pos (by decide), if_pos (by decide)]
  refine ⟨_, rfl, ?_, ?_, ?_⟩
  · intro q hq
    have : q = 0 ∨ q = 1 ∨ q = 2 ∨ q = 3 ∨ q = 4 ∨ q = 5 := by omega
    rcases this with rfl | rfl | rfl | rfl | rfl | rfl <;> simp [zmr, zms, hne]
  · intro q hq
    have e0 : Int32.toNatClampNeg 0 = 0 := by decide
    have e40 : Int32.toNatClampNeg 40 = 40 := by decide
    simp [zmr, zms, va_cpy, e0, e40, hq]
  · intro k j q hn
    have n1 : ¬ (k = 12 ∧ j = i0) := fun e => hn ⟨e.2, Or.inl e.1⟩
    have n2 : ¬ (k = 20 ∧ j = i0) := fun e => hn ⟨e.2, Or.inr (Or.inl e.1)⟩
    have n3 : ¬ (k = 21 ∧ j = i0) := fun e => hn ⟨e.2, Or.inr (Or.inr (Or.inl e.1))⟩
    have n4 : ¬ (k = 22 ∧ j = i0) := fun e => hn ⟨e.2, Or.inr (Or.inr (Or.inr e.1))⟩
    have n1' : ∀ z, ¬ (k = 12 ∧ j = i0 ∧ q = z) := fun z e => n1 ⟨e.1, e.2.1⟩
    simp only [zmr, zms, n2, n3, n4, n1', if_false]
theorem s_copy_loop {s0 s1 : Nat} (hne : s1 ≠ s0) : ∀ d u M', u + d = T.1 → M' 13 s0 0 = nI T.1 → cSheet M' s1 T → (∀ t, t < u → cRow M' (6 * s0 + t) (T.2 t) ∧ M' 12 (6 * s0 + t) 3 = nI (pRoot T t) ∧ M' 12 (6 * s0 + t) 4 = nI (pDep T t)) → ∃ M'', zX zP zK_X3_copyFrom (10, [zR 13 s0, zR 13 s1, zI (nI u)], []) (M', ρ) = zvd (M'', ρ) ∧ cSheet M'' s0 T ∧ wsFr M' M'' s0 := by
  intro d
  induction d with
  | zero =>
    intro u M' hd h0 h hr
    have h6 : T.1 ≤ 6 := h.2.1
    have hua : u = T.1 := by omega
    subst hua
    refine ⟨M', ?_, ⟨h0, h6, hr⟩, wsFr_rf⟩
    rw [e_X3_copyFrom_10, show (M', ρ).1 = M' from rfl, h0, if_neg (nI_nlt (Nat.le_refl _) (by omega))]
  | succ d ih =>
    intro u M' hd h0 h hr
    have h6 : T.1 ≤ 6 := h.2.1
    have hun : u < T.1 := by omega
    obtain ⟨q1, q2, q3⟩ := s_in (σ := (M', ρ)) h (t := u) hun
    obtain ⟨M1, e1, e2, e3, e4⟩ := r_copyFrom (M := M') (ρ := ρ) (i0 := 6 * s0 + u) (i1 := 6 * s1 + u) (by omega)
    have hws := wrFr_s (by omega) e4
    have hS1 : cSheet M1 s1 T := wsFr_ot hne hws h
    obtain ⟨⟨g0, g1, g2, gc, gn, gk⟩, g3, g4⟩ := h.2.2 u hun
    obtain ⟨M2, f1, f2, f3⟩ := ih (u + 1) M1 (by omega) ((e4 _ _ _ (by omega)).trans h0) hS1 (fun t ht => by
      by_cases e : t = u
      · subst e
        refine ⟨⟨(e2 0 (by omega)).trans g0, (e2 1 (by omega)).trans g1, (e2 2 (by omega)).trans g2, (e2 5 (by omega)).trans gc, gn, fun k hk => ?_⟩, (e2 3 (by omega)).trans g3, (e2 4 (by omega)).trans g4⟩
        obtain ⟨a1, a2, a3⟩ := gk k hk
        obtain ⟨b1, b2, b3⟩ := e3 k (by omega)
        exact ⟨b1.trans a1, b2.trans a2, b3.trans a3⟩
      · obtain ⟨⟨k0, k1, k2, kc, kn, kk⟩, k3, k4⟩ := hr t (by omega)
        refine ⟨⟨(e4 _ _ _ (by omega)).trans k0, (e4 _ _ _ (by omega)).trans k1, (e4 _ _ _ (by omega)).trans k2, (e4 _ _ _ (by omega)).trans kc, kn, fun k hk => ?_⟩, (e4 _ _ _ (by omega)).trans k3, (e4 _ _ _ (by omega)).trans k4⟩
        obtain ⟨a1, a2, a3⟩ := kk k hk
        exact ⟨(e4 _ _ _ (by omega)).trans a1, (e4 _ _ _ (by omega)).trans a2, (e4 _ _ _ (by omega)).trans a3⟩)
    refine ⟨M2, ?_, f2, wsFr_tr hws f3⟩
    rw [e_X3_copyFrom_10, show (M', ρ).1 = M' from rfl, h0, if_pos (nI_lt hun (by omega)), nI_1]
    simp only [q2, q1, if_false]
    rw [e1, zcV_ok]
    exact f1
theorem s_copyFrom {s0 s1 : Nat} (hne : s1 ≠ s0) (h : cSheet M s1 T) : ∃ M', zrun zP 50 [zR 13 s0, zR 13 s1] (M, ρ) = zvd (M', ρ) ∧ cSheet M' s0 T ∧ wsFr M M' s0 := by
  have hf : wsFr M (zms M 13 s0 0 (M 13 s1 0)) s0 := fun k j q hn => zms_ne (fun e => hn (Or.inl e))
  obtain ⟨M', e1, e2, e3⟩ := s_copy_loop (ρ := ρ) hne T.1 0 (zms M 13 s0 0 (M 13 s1 0)) (by omega) (by rw [zms_eq]; exact h.1) (wsFr_ot hne hf h) (fun t ht => by omega)
  rw [nI_0] at e1
  exact ⟨M', by rw [e_X3_copyFrom, e1], e2, wsFr_tr hf e3⟩
end ZCP
