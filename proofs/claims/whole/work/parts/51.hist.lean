/-! the ring of what was -/
def rgFr (M M' : zMem) : Prop := ∀ k j q, ¬ (k = 10 ∧ j = 0) → ¬ (k = 13 ∧ 2 ≤ j ∧ j < 14) → ¬ (12 ≤ j ∧ j < 84 ∧ (k = 12 ∨ k = 20 ∨ k = 21 ∨ k = 22)) → M' k j q = M k j q
/-- n sheets are kept, the newest first -/
def cHist (M : zMem) (n : Nat) (H : Nat → zSheet) : Prop := n ≤ 12 ∧ ∃ N, N < 12 ∧ M 10 0 1 = nI N ∧ M 10 0 2 = nI n ∧ ∀ j, j < n → cSheet M (2 + (N + 11 - j) % 12) (H j)
def hPush (T : zSheet) (H : Nat → zSheet) : Nat → zSheet
  | 0 => T
  | j + 1 => H j
theorem cSheet_congr {M M' : zMem} {s : Nat} {T : zSheet} (hf : ∀ k j q, (k = 12 ∨ k = 13 ∨ k = 20 ∨ k = 21 ∨ k = 22) → M' k j q = M k j q) (h : cSheet M s T) : cSheet M' s T := by
  obtain ⟨h1, h6, h3⟩ := h
  refine ⟨(hf 13 s 0 (by omega)).trans h1, h6, fun u hu => ?_⟩
  obtain ⟨⟨g0, g1, g2, gc, gn, gk⟩, g3, g4⟩ := h3 u hu
  refine ⟨⟨(hf _ _ _ (by omega)).trans g0, (hf _ _ _ (by omega)).trans g1, (hf _ _ _ (by omega)).trans g2, (hf _ _ _ (by omega)).trans gc, gn, fun k hk => ?_⟩, (hf _ _ _ (by omega)).trans g3, (hf _ _ _ (by omega)).trans g4⟩
  obtain ⟨a1, a2, a3⟩ := gk k hk
  exact ⟨(hf _ _ _ (by omega)).trans a1, (hf _ _ _ (by omega)).trans a2, (hf _ _ _ (by omega)).trans a3⟩
section ZHI
variable {T : zSheet} {M : zMem} {ρ : Int64 × Nat} {σ : zSt}
theorem h_remember {n : Nat} {H : Nat → zSheet} (h : cSheet M 0 T) (hh : cHist M n H) : ∃ M', zrun zP 1 [zR 10 0, zR 13 0] (M, ρ) = zvd (M', ρ) ∧ cSheet M' 0 T ∧ cHist M' (min (n + 1) 12) (hPush T H) ∧ rgFr M M' := by
  obtain ⟨hn, N, hN, h1, h2, h3⟩ := hh
  obtain ⟨M1, e1, e2, e3⟩ := s_copyFrom (ρ := ρ) (s0 := 2 + N) (s1 := 0) (by omega) h
  have k1 : M1 10 0 1 = nI N := (e3 _ _ _ (by omega)).trans h1
  have k2 : M1 10 0 2 = nI n := (e3 _ _ _ (by omega)).trans h2
  have hin := nIk (k := N) (N := 12) (by omega) (by omega)
  have hcl := nI_clamp (n := N) (by omega)
  have key : ∀ N', N' = (N + 1) % 12 → ∀ M2 : zMem, M2 = zms (zms M1 10 0 1 (nI N')) 10 0 2 (nI (min (n + 1) 12)) → cSheet M2 0 T ∧ cHist M2 (min (n + 1) 12) (hPush T H) ∧ rgFr M M2 := by
    intro N' hN' M2 hM2
    have hf : ∀ k j q, ¬ (k = 10 ∧ j = 0) → M2 k j q = M1 k j q := by
      intro k j q hne
      rw [hM2, zms_ne (fun e => hne ⟨e.1, e.2.1⟩), zms_ne (fun e => hne ⟨e.1, e.2.1⟩)]
    have hc : ∀ s T', cSheet M1 s T' → cSheet M2 s T' := fun s T' => cSheet_congr (fun k j q hk => hf k j q (by omega))
    refine ⟨hc _ _ (wsFr_ot (by omega) e3 h), ⟨by omega, N', by omega, ?_, ?_, ?_⟩, ?_⟩
    · rw [hM2, zms_ne (by omega), zms_eq]
    · rw [hM2, zms_eq]
    · intro j hj
      refine hc _ _ ?_
      cases j with
      | zero =>
        have : (N' + 11 - 0) % 12 = N := by omega
        rw [this]
        exact e2
      | succ j =>
        have q1 : (N' + 11 - (j + 1)) % 12 = (N + 11 - j) % 12 := by omega
        rw [q1]
        exact wsFr_ot (by omega) e3 (h3 j (by omega))
    · intro k j q c1 c2 c3
      rw [hf k j q c1]
      exact e3 k j q (by omega)
  have hmin : (if (12 : Int32) < nI n + 1 then (12 : Int32) else nI n + 1) = nI (min (n + 1) 12) := by
    rw [nI_1]
    have := nI_lp (a := 12) (b := n + 1) (by omega) (by omega)
    rw [show (12 : Int32) = nI 12 from rfl]
    simp only [this]
    by_cases c : 12 < n + 1
    · rw [if_pos c, Nat.min_eq_right (by omega)]
    · rw [if_neg c, Nat.min_eq_left (by omega)]
  rw [e_X0_remember]
  simp only [show (M, ρ).1 = M from rfl, h1, hcl, hin, if_false]
  rw [e1, zcV_ok]
  simp only [show (M1, ρ).1 = M1 from rfl, k1]
  have hk2 : ∀ v, zms M1 10 0 1 v 10 0 2 = nI n := fun v => (zms_ne (by omega)).trans k2
  simp only [hk2, hmin]
  have e12 : (nI N + 1 = 12) = (N + 1 = 12) := by
    rw [nI_1]; exact nI_ne (b := 12) (by omega) (by omega)
  simp only [e12]
  by_cases c : N + 1 = 12
  · rw [if_pos c]
    have hN' : 0 = (N + 1) % 12 := by omega
    obtain ⟨a1, a2, a3⟩ := key 0 hN' _ rfl
    exact ⟨_, rfl, a1, a2, a3⟩
  · rw [if_neg c, nI_1]
    have hN' : N + 1 = (N + 1) % 12 := by omega
    obtain ⟨a1, a2, a3⟩ := key (N + 1) hN' _ rfl
    exact ⟨_, rfl, a1, a2, a3⟩
end ZHI
