/-! the ring gives back; the reference's row of what was -/
def unFr (M M' : zMem) : Prop := ∀ k j q, ¬ (k = 10 ∧ j = 0) → ¬ (k = 13 ∧ j = 0) → ¬ (j < 6 ∧ (k = 12 ∨ k = 20 ∨ k = 21 ∨ k = 22)) → M' k j q = M k j q
section ZHB
variable {i : Nat} {T : zSheet} {M : zMem} {ρ : Int64 × Nat} {σ : zSt}
theorem h_recall0 {H : Nat → zSheet} (hh : cHist M 0 H) : zrun zP 2 [zR 10 0, zR 13 0] (M, ρ) = zok 0 (M, ρ) := by
  obtain ⟨hn, N, hN, h1, h2, h3⟩ := hh
  rw [e_X0_recall, show (M, ρ).1 = M from rfl, h2, nI_0, if_pos rfl]
theorem h_recall {n : Nat} {H : Nat → zSheet} (hh : cHist M (n + 1) H) : ∃ M', zrun zP 2 [zR 10 0, zR 13 0] (M, ρ) = zok 1 (M', ρ) ∧ cSheet M' 0 (H 0) ∧ cHist M' n (fun j => H (j + 1)) ∧ unFr M M' := by
  obtain ⟨hn, N, hN, h1, h2, h3⟩ := hh
  have key : ∀ N', N' = (N + 11) % 12 → ∃ M', zrun zP 50 [zR 13 0, zR 13 (2 + N')] (zms (zms M 10 0 1 (nI N')) 10 0 2 (nI n), ρ) = zvd (M', ρ) ∧ cSheet M' 0 (H 0) ∧ cHist M' n (fun j => H (j + 1)) ∧ unFr M M' := by
    intro N' hN'
    have hf : ∀ k j q, ¬ (k = 10 ∧ j = 0) → zms (zms M 10 0 1 (nI N')) 10 0 2 (nI n) k j q = M k j q := by
      intro k j q hne
      rw [zms_ne (fun e => hne ⟨e.1, e.2.1⟩), zms_ne (fun e => hne ⟨e.1, e.2.1⟩)]
    have hc : ∀ s T', cSheet M s T' → cSheet (zms (zms M 10 0 1 (nI N')) 10 0 2 (nI n)) s T' := fun s T' => cSheet_congr (fun k j q hk => hf k j q (by omega))
    have hs := hc _ _ (h3 0 (by omega))
    rw [show (N + 11 - 0) % 12 = N' by omega] at hs
    obtain ⟨M1, e1, e2, e3⟩ := s_copyFrom (ρ := ρ) (s0 := 0) (s1 := 2 + N') (by omega) hs
    refine ⟨M1, e1, e2, ⟨by omega, N', by omega, ?_, ?_, fun j hj => ?_⟩, fun k j q c1 c2 c3 => ?_⟩
    · rw [e3 _ _ _ (by omega), zms_ne (by omega), zms_eq]
    · rw [e3 _ _ _ (by omega), zms_eq]
    · have hq := hc _ _ (h3 (j + 1) (by omega))
      rw [show (N + 11 - (j + 1)) % 12 = (N' + 11 - j) % 12 by omega] at hq
      exact wsFr_ot (by omega) e3 hq
    · rw [e3 k j q (by omega)]
      exact hf k j q c1
  have r1 : ∀ v w, zms (zms M 10 0 1 v) 10 0 2 w 10 0 1 = v := fun v w => (zms_ne (by omega)).trans zms_eq
  have r2 : ∀ v, zms M 10 0 1 v 10 0 2 = nI (n + 1) := fun v => (zms_ne (by omega)).trans h2
  rw [e_X0_recall]
  simp only [show (M, ρ).1 = M from rfl, h1, h2, r1, r2, nI_pred]
  have e0 : (nI (n + 1) = 0) = False := eq_false (fun e => by
    have := (nI_ne (a := n + 1) (b := 0) (by omega) (by omega)).mp e
    omega)
  have e00 : (nI N = 0) = (N = 0) := nI_ne (b := 0) (by omega) (by omega)
  simp only [e0, e00, if_false]
  by_cases c : N = 0
  · rw [if_pos c]
    obtain ⟨M1, a1, a2, a3, a4⟩ := key 11 (by omega)
    refine ⟨M1, ?_, a2, a3, a4⟩
    rw [if_neg (by decide), show Int32.toNatClampNeg 11 = 11 by decide, show (11 : Int32) = nI 11 from rfl, a1, zcV_ok]
  · rw [if_neg c]
    obtain ⟨N', hN'⟩ : ∃ N', N = N' + 1 := ⟨N - 1, by omega⟩
    subst hN'
    obtain ⟨M1, a1, a2, a3, a4⟩ := key N' (by omega)
    refine ⟨M1, ?_, a2, a3, a4⟩
    have hin := nIk (k := N') (N := 12) (by omega) (by omega)
    have hcl := nI_clamp (n := N') (by omega)
    simp only [nI_pred, hcl, hin, if_false]
    rw [a1, zcV_ok]
theorem h_forget {n : Nat} {H : Nat → zSheet} (hh : cHist M n H) : ∃ M', zrun zP 0 [zR 10 0] (M, ρ) = zvd (M', ρ) ∧ cHist M' 0 H ∧ ∀ k j q, ¬ (k = 10 ∧ j = 0) → M' k j q = M k j q := by
  rw [e_X0_forget]
  refine ⟨_, rfl, ⟨by omega, 0, by omega, ?_, ?_, fun j hj => by omega⟩, fun k j q hne => ?_⟩
  · exact (zms_ne (by omega)).trans zms_eq
  · exact zms_eq
  · exact (zms_ne (fun e => hne ⟨e.1, e.2.1⟩)).trans (zms_ne (fun e => hne ⟨e.1, e.2.1⟩))
end ZHB
