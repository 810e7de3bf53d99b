/-! refusals, both sides -/
/-- the class throws, and counts it -/
def cTh (e i : Nat) (σ : zSt) : zRes := some (.inr e, (zms σ.1 15 i (9 + e) (σ.1 15 i (9 + e) + 1), σ.2.1, σ.2.2 + 1))
/-- the reference's memory after a refusal -/
def mTh (i : Nat) (c : Int32) (w : Nat) (σ : zSt) : zSt := (zms (zms σ.1 16 i 0 c) 30 0 w (σ.1 30 0 w + 1), σ.2)
section ZRF
variable {i : Nat} {T : zSheet} {M : zMem} {ρ : Int64 × Nat} {σ : zSt}
theorem zcV_cTh {e : Nat} {k : zSt → zRes} : zcV (cTh e i σ) k = cTh e i σ := rfl
theorem zcI_cTh {e : Nat} {k : Int32 → zSt → zRes} : zcI (cTh e i σ) k = cTh e i σ := rfl
theorem n_missing : zrun zP 122 [zR 15 i] σ = cTh 0 i σ := e_X5_refuseMissing i σ
theorem n_argument : zrun zP 123 [zR 15 i] σ = cTh 1 i σ := e_X5_refuseArgument i σ
theorem n_state_t : zrun zP 124 [zR 15 i, zI 1] σ = zvd σ := by
  rw [e_X5_needState, if_neg (by decide)]
theorem n_state_f : zrun zP 124 [zR 15 i, zI 0] σ = cTh 2 i σ := by
  rw [e_X5_needState, if_pos rfl]
  rfl
theorem n_state (p : Prop) : (p → zrun zP 124 [zR 15 i, zI (zb p)] σ = zvd σ) ∧ (¬ p → zrun zP 124 [zR 15 i, zI (zb p)] σ = cTh 2 i σ) := by
  refine ⟨fun h => ?_, fun h => ?_⟩
  · rw [zb_t h]; exact n_state_t
  · rw [zb_f h]; exact n_state_f
theorem n_tier (h : cSheet σ.1 0 T) (x : Int32) : (¬ x < 0 ∧ x < nI T.1 → zrun zP 125 [zR 15 i, zI x] σ = zvd σ) ∧ (¬ (¬ x < 0 ∧ x < nI T.1) → zrun zP 125 [zR 15 i, zI x] σ = cTh 0 i σ) := by
  rw [e_X5_needTier, s_hasTier h, zcI_ok]
  refine ⟨fun c => ?_, fun c => ?_⟩
  · rw [zb_t c, if_neg (by decide)]
  · rw [zb_f c, if_pos rfl, n_missing, zcV_cTh]
theorem zI_of {x : Int32} {n : Nat} (h1 : ¬ x < 0) (h2 : x < nI n) (hn : n < 2 ^ 31) : ∃ t, t < n ∧ x = nI t := by
  have a1 : (0 : Int32) ≤ x := Int32.not_lt.mp h1
  have a2 : 0 ≤ x.toInt := by
    have := Int32.le_iff_toInt_le.mp a1
    simpa using this
  refine ⟨x.toInt.toNat, ?_, ?_⟩
  · have b := Int32.lt_iff_toInt_lt.mp h2
    have hni : (nI n).toInt = n := by
      have e := nI_clamp (n := n) hn
      have p : ¬ nI n < 0 := nI_pos hn
      have p1 : (0 : Int32) ≤ nI n := Int32.not_lt.mp p
      have p2 : 0 ≤ (nI n).toInt := by
        have := Int32.le_iff_toInt_le.mp p1
        simpa using this
      have e' : (nI n).toInt.toNat = n := e
      omega
    rw [hni] at b
    omega
  · apply Int32.toInt_inj.mp
    have hlt : x.toInt.toNat < 2 ^ 31 := by
      have := x.toInt_lt
      omega
    have e := nI_clamp (n := x.toInt.toNat) hlt
    have p : ¬ nI x.toInt.toNat < 0 := nI_pos hlt
    have p1 : (0 : Int32) ≤ nI x.toInt.toNat := Int32.not_lt.mp p
    have p2 : 0 ≤ (nI x.toInt.toNat).toInt := by
      have := Int32.le_iff_toInt_le.mp p1
      simpa using this
    have e' : (nI x.toInt.toNat).toInt.toNat = x.toInt.toNat := e
    omega
theorem n_range (x a b : Int32) : (¬ x < a ∧ ¬ b < x → zrun zP 128 [zR 15 i, zI x, zI a, zI b] σ = zvd σ) ∧ (¬ (¬ x < a ∧ ¬ b < x) → zrun zP 128 [zR 15 i, zI x, zI a, zI b] σ = cTh 1 i σ) := by
  rw [e_X5_needRange, n_argument, zcV_cTh]
  refine ⟨fun c => ?_, fun c => ?_⟩
  · rw [if_neg c.1, if_neg c.2]
  · by_cases c1 : x < a
    · rw [if_pos c1]
    · rw [if_neg c1, if_pos (Classical.byContradiction (fun e => c ⟨c1, e⟩))]
theorem n_time (x : Int32) : (¬ x < 0 ∧ ¬ 999 < x → zrun zP 129 [zR 15 i, zI x] σ = zvd σ) ∧ (¬ (¬ x < 0 ∧ ¬ 999 < x) → zrun zP 129 [zR 15 i, zI x] σ = cTh 1 i σ) := by
  rw [e_X5_needTime]
  refine ⟨fun c => ?_, fun c => ?_⟩
  · rw [(n_range x 0 999).1 c, zcV_ok]
  · rw [(n_range x 0 999).2 c, zcV_cTh]
theorem m_fine1 (hz : σ.1 16 i 0 = 0) (c w : Int32) : zrun zP 136 [zR 16 i, zI 1, zI c, zI w] σ = zok 1 σ := by
  rw [e_X6_isFine, if_neg (by decide), if_pos hz]
theorem m_fine0 (hz : σ.1 16 i 0 = 0) {c : Int32} (hc : ¬ c = 0) {w : Nat} (hw : w < 3) : zrun zP 136 [zR 16 i, zI 0, zI c, zI (nI w)] σ = zok 0 (mTh i c w σ) := by
  have h1 := nIk (k := w) (N := 3) hw (by omega)
  have h2 := nI_clamp (n := w) (by omega)
  rw [e_X6_isFine, if_pos rfl, if_pos hz]
  simp only [h1, h2, if_false, zms_eq, hc]
  rfl
theorem m_fine (hz : σ.1 16 i 0 = 0) (p : Prop) {c : Int32} (hc : ¬ c = 0) {w : Nat} (hw : w < 3) : (p → zrun zP 136 [zR 16 i, zI (zb p), zI c, zI (nI w)] σ = zok 1 σ) ∧ (¬ p → zrun zP 136 [zR 16 i, zI (zb p), zI c, zI (nI w)] σ = zok 0 (mTh i c w σ)) := by
  refine ⟨fun h => ?_, fun h => ?_⟩
  · rw [zb_t h]; exact m_fine1 hz c (nI w)
  · rw [zb_f h]; exact m_fine0 hz hc hw
end ZRF
