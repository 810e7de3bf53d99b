/-! a tier more and a known name, the reference's side -/
section ZMA
variable {tx : Nat → Int32} {n p : Nat} {b w : Int32} {T : zSheet} {nm kd pr : Int32} {M : zMem} {ρ : Int64 × Nat}
def mnS (M : zMem) (T : zSheet) (r : zTier) : Prop := M 31 0 0 = nI (T.1 + 1) ∧ (∀ u, u < T.1 → mRow M 31 u (T.2 u)) ∧ mRow M 31 T.1 r
theorem mnS_end (h6 : T.1 < 6) (h : mnS M T (nwR T nm kd pr)) : mSheet M 31 (sAdd T nm kd pr) := by
  refine ⟨h.1, h6, fun t ht => ?_⟩
  by_cases c : t = T.1
  · rw [c, sAdd_n]; exact h.2.2
  · rw [sAdd_o c]; exact h.2.1 t (by have : t < T.1 + 1 := ht; omega)
theorem madd_loop (h6 : T.1 < 6) {q : Nat} (hq : q < T.1) (hk : kd = 1) (x1 x2 : Int32) : ∀ d k M', k + d = rct (T.2 q) → mnS M' T (tCp (eRow nm kd pr) (T.2 q) k) → ∃ M'', zX zP zK_X6_tierTold (276, [zR 16 0, zI x1, zI x2, zI kd, zI (nI q), zI (nI T.1), zI (nI k)], []) (M', ρ) = zvd (M'', ρ) ∧ mnS M'' T (tCp (eRow nm kd pr) (T.2 q) (rct (T.2 q))) ∧ oFr M' M'' := by
  intro d
  induction d with
  | zero =>
    intro k M' hd h
    have hr := h.2.1 q hq
    have h40 := hr.2.2.2.2.1
    refine ⟨M', ?_, by rw [show rct (T.2 q) = k by omega]; exact h, oFr_rf⟩
    rw [e_X6_tierTold_276, if_pos hk, m_many (σ := (M', ρ)) hr (by omega), zcI_ok, if_neg (nI_nlt (by omega) (by omega))]
  | succ d ih =>
    intro k M' hd h
    have hr := h.2.1 q hq
    have h40 := hr.2.2.2.2.1
    have ct : rct (tCp (eRow nm kd pr) (T.2 q) k) = k := by rw [(tCp_3 k).2.2.2]; show 0 + k = k; omega
    obtain ⟨M1, g1, g2, g3⟩ := m_inserts (i := 0) (ρ := ρ) h.2.2 h6 (by rw [ct]; omega) (rfr (T.2 q) k) (rto (T.2 q) k) 0
    obtain ⟨M2, k1, k2, k3⟩ := ih (k + 1) M1 (by omega) ⟨(g3 _ _ _ (by omega)).trans h.1, fun u hu => mRow_kept (h.2.1 u hu) g3 (by omega), g2⟩
    refine ⟨M2, ?_, k2, oFr_tr (mFr_o g3) k3⟩
    rw [e_X6_tierTold_276, if_pos hk, m_many (σ := (M', ρ)) hr (by omega), zcI_ok, if_pos (nI_lt (by omega) (by omega)), m_from (σ := (M', ρ)) hr (by omega) (by omega), zcI_ok, m_to (σ := (M', ρ)) hr (by omega) (by omega), zcI_ok, g1, zcI_ok, nI_1]
    exact k1
theorem m_addT (h : mSheet M 31 T) (hf : M 16 0 14 = 0) (h6 : T.1 < 6) (hk : kpOk T kd pr) (x1 : Int32) (v5 v6 : zAV) : ∃ M', zX zP zK_X6_tierTold (200, [zR 16 0, zI x1, zI nm, zI kd, zI pr, v5, v6], []) (M, ρ) = zvd (M', ρ) ∧ mSheet M' 31 (sAdd T nm kd pr) ∧ oFr M M' := by
  have a1 := nIk (k := 1 + 124 * T.1) (N := 745) (by omega) (by omega)
  have a2 := nI_clamp (n := 1 + 124 * T.1) (by omega)
  have a3 := nIk (k := 2 + 124 * T.1) (N := 745) (by omega) (by omega)
  have a4 := nI_clamp (n := 2 + 124 * T.1) (by omega)
  have a5 := nIk (k := 3 + 124 * T.1) (N := 745) (by omega) (by omega)
  have a6 := nI_clamp (n := 3 + 124 * T.1) (by omega)
  have a7 := nIk (k := 4 + 124 * T.1) (N := 745) (by omega) (by omega)
  have a8 := nI_clamp (n := 4 + 124 * T.1) (by omega)
  have z1 := nIk (k := 0) (N := 745) (by omega) (by omega)
  have z2 := nI_clamp (n := 0) (by omega)
  rw [nI_0] at z1 z2
  have base : mnS (zms (zms (zms (zms (zms M 31 0 (1 + 124 * T.1) kd) 31 0 (2 + 124 * T.1) pr) 31 0 (3 + 124 * T.1) 0) 31 0 (4 + 124 * T.1) nm) 31 0 0 (nI (T.1 + 1))) T (eRow nm kd pr) := by
    refine ⟨zms_eq, fun u hu => ?_, ⟨?_, ?_, ?_, ?_, Nat.zero_le _, fun k hk => absurd hk (Nat.not_lt_zero _)⟩⟩
    · obtain ⟨r0, r1, r2, r3, r4, r5⟩ := h.2.2 u hu
      have e : ∀ z, 1 + 124 * u ≤ z → z < 125 + 124 * u → zms (zms (zms (zms (zms M 31 0 (1 + 124 * T.1) kd) 31 0 (2 + 124 * T.1) pr) 31 0 (3 + 124 * T.1) 0) 31 0 (4 + 124 * T.1) nm) 31 0 0 (nI (T.1 + 1)) 31 0 z = M 31 0 z := fun z h1 h2 => by
        rw [zms_ne (by omega), zms_ne (by omega), zms_ne (by omega), zms_ne (by omega), zms_ne (by omega)]
      exact ⟨(e _ (by omega) (by omega)).trans r0, (e _ (by omega) (by omega)).trans r1, (e _ (by omega) (by omega)).trans r2, (e _ (by omega) (by omega)).trans r3, r4, fun k hk => ⟨(e _ (by omega) (by omega)).trans (r5 k hk).1, (e _ (by omega) (by omega)).trans (r5 k hk).2.1, (e _ (by omega) (by omega)).trans (r5 k hk).2.2⟩⟩
    · rw [zms_ne (by omega), zms_ne (by omega), zms_ne (by omega), zms_ne (by omega), zms_eq]; rfl
    · rw [zms_ne (by omega), zms_ne (by omega), zms_ne (by omega), zms_eq]; rfl
    · rw [zms_ne (by omega), zms_ne (by omega), zms_eq]; rfl
    · rw [zms_ne (by omega), zms_eq]; rfl
  have bfr : oFr M (zms (zms (zms (zms (zms M 31 0 (1 + 124 * T.1) kd) 31 0 (2 + 124 * T.1) pr) 31 0 (3 + 124 * T.1) 0) 31 0 (4 + 124 * T.1) nm) 31 0 0 (nI (T.1 + 1))) := fun k j z hne => by
    rw [zms_ne (by omega), zms_ne (by omega), zms_ne (by omega), zms_ne (by omega), zms_ne (by omega)]
  have e0 : zms (zms (zms (zms M 31 0 (1 + 124 * T.1) kd) 31 0 (2 + 124 * T.1) pr) 31 0 (3 + 124 * T.1) 0) 31 0 (4 + 124 * T.1) nm 31 0 0 = nI T.1 := by
    rw [zms_ne (by omega), zms_ne (by omega), zms_ne (by omega), zms_ne (by omega)]; exact h.1
  have run : zX zP zK_X6_tierTold (200, [zR 16 0, zI x1, zI nm, zI kd, zI pr, v5, v6], []) (M, ρ) = zX zP zK_X6_tierTold (276, [zR 16 0, zI x1, zI nm, zI kd, zI pr, zI (nI T.1), zI 0], []) (zms (zms (zms (zms (zms M 31 0 (1 + 124 * T.1) kd) 31 0 (2 + 124 * T.1) pr) 31 0 (3 + 124 * T.1) 0) 31 0 (4 + 124 * T.1) nm) 31 0 0 (nI (T.1 + 1)), ρ) := by
    rw [e_X6_tierTold_200, show (M, ρ).1 16 0 14 = 0 from hf, if_neg (by decide), m_tiers' (σ := (M, ρ)) h, zcI_ok, m_pos0, zcI_ok]
    simp only [a1, a2, if_false]
    rw [m_pos1, zcI_ok]
    simp only [a3, a4, if_false]
    rw [m_pos2, zcI_ok]
    simp only [a5, a6, if_false]
    rw [m_pos3, zcI_ok]
    simp only [a7, a8, z1, z2, if_false]
    rw [e0, nI_1]
  rw [run]
  by_cases c : kd = 1
  · rcases hk with q | q | ⟨-, q, q1, q2, q3⟩
    · rw [c] at q; exact absurd q.1 (by decide)
    · rw [c] at q; exact absurd q.1 (by decide)
    · have en : nwR T nm kd pr = tCp (eRow nm kd pr) (T.2 q) (rct (T.2 q)) := by
        unfold nwR
        rw [if_pos c, q2, nI_clamp (by omega)]
      obtain ⟨M2, g1, g2, g3⟩ := madd_loop (ρ := ρ) (nm := nm) (pr := pr) h6 q1 c x1 nm (rct (T.2 q)) 0 _ (by omega) base
      rw [nI_0, ← q2] at g1
      exact ⟨M2, g1, mnS_end h6 (en ▸ g2), oFr_tr bfr g3⟩
  · have en : nwR T nm kd pr = eRow nm kd pr := if_neg c
    refine ⟨_, ?_, mnS_end h6 (en ▸ base), bfr⟩
    rw [e_X6_tierTold_276, if_neg c]
theorem m_name (hp : p ≤ n) (hx : mTx M tx n) (hm : ms M p b 0 w) : ∃ M', zrun zP 172 [zR 16 0, zI 6, zI 1] (M, ρ) = zok (nI (nmv tx n (sk tx n p))) (M', ρ) ∧ nxF M M' ∧ (shW tx n (sk tx n p) 6 → ms M' (te tx n (sk tx n p)) (nI (sk tx n p)) 0 w) ∧ (¬ shW tx n (sk tx n p) 6 → ms M' (we tx n (sk tx n p)) (nI (sk tx n p)) 1 (nI (sk tx n p))) := by
  obtain ⟨M1, g1, g2, g3, g4⟩ := m_word (mo := 6) (ρ := ρ) (by omega) hp hx hm True
  rw [zb_t trivial, zif_t trivial] at g1
  exact ⟨M1, g1, g2, fun s => by rw [te_lt s.1 s.2.1]; exact g3 s, g4⟩
theorem m_known (hp : p ≤ n) (hx : mTx M tx n) (hm : ms M p b 0 w) (hS : mSheet M 31 T) : (shW tx n (sk tx n p) 6 → ¬ ixN T (nmv tx n (sk tx n p)) = -1 → ∃ M', zrun zP 176 [zR 16 0] (M, ρ) = zok (ixN T (nmv tx n (sk tx n p))) (M', ρ) ∧ nxF M M' ∧ ms M' (te tx n (sk tx n p)) (nI (sk tx n p)) 0 w) ∧ (shW tx n (sk tx n p) 6 → ixN T (nmv tx n (sk tx n p)) = -1 → ∃ M', zrun zP 176 [zR 16 0] (M, ρ) = zok 0 (M', ρ) ∧ nxF M M' ∧ ms M' (te tx n (sk tx n p)) (nI (sk tx n p)) 5 (nI (sk tx n p))) ∧ (¬ shW tx n (sk tx n p) 6 → ∃ M', zrun zP 176 [zR 16 0] (M, ρ) = zok 0 (M', ρ) ∧ nxF M M' ∧ ms M' (we tx n (sk tx n p)) (nI (sk tx n p)) 1 (nI (sk tx n p))) := by
  obtain ⟨M1, g1, g2, g3, g4⟩ := m_name (ρ := ρ) hp hx hm
  have hS1 := nxF_sh g2 hS
  have tn : zrun zP 175 [zR 16 0, zR 31 0, zI (nI (nmv tx n (sk tx n p)))] (M1, ρ) = zok (ixN T (nmv tx n (sk tx n p))) (M1, ρ) := m_tierNamed (a := 30) (σ := (M1, ρ)) rfl hS1 _
  refine ⟨fun s q => ?_, fun s q => ?_, fun s => ?_⟩
  · have m1 := g3 s
    refine ⟨M1, ?_, g2, m1⟩
    rw [e_X6_known, g1, zcI_ok, show (M1, ρ).1 16 0 14 = 0 from m1.2.2.1, if_pos rfl, tn, zcI_ok, if_neg q, show (M1, ρ).1 16 0 14 = 0 from m1.2.2.1, if_pos rfl]
  · have m1 := g3 s
    obtain ⟨M2, k1, k2, k3⟩ := m_wrong0 (ρ := ρ) m1 5 (nI (sk tx n p))
    refine ⟨M2, ?_, nxF_tr g2 k3, k2⟩
    rw [e_X6_known, g1, zcI_ok, show (M1, ρ).1 16 0 14 = 0 from m1.2.2.1, if_pos rfl, tn, zcI_ok, if_pos q, show (M1, ρ).1 16 0 13 = _ from m1.2.1, k1, zcV_ok, show (M2, ρ).1 16 0 14 = 5 from k2.2.2.1, if_neg (by decide)]
  · have m1 := g4 s
    refine ⟨M1, ?_, g2, m1⟩
    rw [e_X6_known, g1, zcI_ok, show (M1, ρ).1 16 0 14 = 1 from m1.2.2.1, if_neg (by decide), if_neg (by decide), if_neg (by decide)]
end ZMA
