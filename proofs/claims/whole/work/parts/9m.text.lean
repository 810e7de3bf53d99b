/-! the call text -/
section ZTX
variable {tx : Nat → Int32} {n p c m : Nat} {T : zSheet} {M N : zMem} {ρ : Int64 × Nat}
def s00 : zSheet := (0, fun _ => eRow 0 0 0)
theorem ok_00 : zOk s00 := by
  refine ⟨fun t ht => ?_, fun t ht => ?_, fun t ht => ?_, fun t ht => ?_, fun t ht => ?_⟩ <;> exact absurd ht (Nat.not_lt_zero t)
theorem c_read (hm : m ≤ c) (hc : c ≤ 400) (h1 : M 11 0 1 = nI c) : ∃ Mx, cAll Mx ρ (lnAll (fun q => M 27 0 q) m 400 s00 (sk (fun q => M 27 0 q) m 0)) (zrun zP 4 [zR 11 0, zI (nI m)] (M, ρ)) ∧ Mx 11 0 1 = 0 ∧ Mx 11 0 4 = -1 ∧ ∀ k j q, ¬ (k = 11 ∧ j = 0 ∧ (q = 1 ∨ q = 3 ∨ q = 4 ∨ q = 5 ∨ q = 6)) → ¬ (k = 13 ∧ j = 14) → Mx k j q = M k j q := by
  have hE : (if (0 : Int32) < (if nI c < nI m then nI c else nI m) then (if nI c < nI m then nI c else nI m) else 0) = nI m := by
    rw [if_neg (nI_nlt (show m ≤ c from hm) (by omega))]
    by_cases z : m = 0
    · subst z; rfl
    · rw [if_pos (show (0 : Int32) < nI m from (nI_lt (a := 0) (by omega) (by omega) : nI 0 < nI m))]
  refine ⟨zms (zms (zms (zms (zms (zms M 11 0 5 (nI m)) 11 0 1 0) 11 0 6 0) 11 0 3 0) 11 0 4 (-1)) 13 14 0 0, ?_, ?_, ?_, fun k j q h1 h2 => ?_⟩
  · rw [e_X1_readText, show (M, ρ).1 11 0 1 = nI c from h1, hE, e_X3_clear, zcV_ok]
    have hx : cTx (zms (zms (zms (zms (zms (zms M 11 0 5 (nI m)) 11 0 1 0) 11 0 6 0) 11 0 3 0) 11 0 4 (-1)) 13 14 0 0) (fun q => M 27 0 q) m := by
      refine ⟨by omega, ?_, fun q hq => ?_⟩
      · rw [zms_ne (by omega), zms_ne (by omega), zms_ne (by omega), zms_ne (by omega), zms_ne (by omega), zms_eq]
      · rw [zms_ne (by omega), zms_ne (by omega), zms_ne (by omega), zms_ne (by omega), zms_ne (by omega), zms_ne (by omega)]
    have h6 : (zms (zms (zms (zms (zms (zms M 11 0 5 (nI m)) 11 0 1 0) 11 0 6 0) 11 0 3 0) 11 0 4 (-1)) 13 14 0 0) 11 0 6 = nI 0 := by
      rw [zms_ne (by omega), zms_ne (by omega), zms_ne (by omega), zms_eq]; rfl
    have hS : cSheet (zms (zms (zms (zms (zms (zms M 11 0 5 (nI m)) 11 0 1 0) 11 0 6 0) 11 0 3 0) 11 0 4 (-1)) 13 14 0 0) 14 s00 := ⟨zms_eq, by show 0 ≤ 6; omega, fun t ht => absurd ht (Nat.not_lt_zero t)⟩
    obtain ⟨M1, g1, g2, g3⟩ := c_advance0 (ρ := ρ) hx h6
    show cAll _ ρ _ (zcV (zrun zP 6 [zR 11 0] (zms (zms (zms (zms (zms (zms M 11 0 5 (nI m)) 11 0 1 0) 11 0 6 0) 11 0 3 0) 11 0 4 (-1)) 13 14 0 0, ρ)) _)
    rw [g1, zcV_ok]
    exact cAll_le (tkF_rd g3) (c_lines (nI m) 400 s00 _ M1 0 _ (by omega) (Nat.zero_le _) ok_00 (tkFr_tx g3 hx) g2 (tkF_sh g3 hS))
  · rw [zms_ne (by omega), zms_ne (by omega), zms_ne (by omega), zms_ne (by omega), zms_eq]
  · rw [zms_ne (by omega), zms_eq]
  · rw [zms_ne (by omega), zms_ne (by omega), zms_ne (by omega), zms_ne (by omega), zms_ne (by omega), zms_ne (by omega)]
theorem m_read (hm : m ≤ c) (hc : c ≤ 400) (h1 : N 16 0 10 = nI c) (hb : ∀ q, q < m → Int8.toInt32 (Int32.toInt8 (N 35 0 q)) = tx q) : ∃ N1, mAll N1 ρ (lnAll tx m 400 s00 (sk tx m 0)) (zrun zP 186 [zR 16 0, zI (nI m)] (N, ρ)) ∧ (∀ q, q < 745 → N1 33 0 q = N 31 0 q) ∧ N1 16 0 10 = 0 ∧ N1 16 0 0 = 0 ∧ ∀ k j q, ¬ (k = 16 ∧ j = 0 ∧ (q = 0 ∨ (10 ≤ q ∧ q ≤ 15))) → ¬ (k = 31 ∧ j = 0) → ¬ (k = 33 ∧ j = 0) → ¬ (k = 36 ∧ j = 0) → N1 k j q = N k j q := by
  have z10 : zms N 16 0 0 0 16 0 10 = nI c := (zms_ne (by omega)).trans h1
  obtain ⟨Na, a1, a2, a3⟩ := m_take_loop (ρ := ρ) (show m ≤ 400 by omega) m 0 (zms N 16 0 0 0) (by omega)
  obtain ⟨Nc, c1, c2, c3⟩ := m_copies (ρ := ρ) (a := 30) (b := 32) (by omega) rfl rfl 745 0 (zms (zms (zms (zms Na 16 0 10 0) 16 0 11 (nI m)) 16 0 12 0) 16 0 14 0) (by omega)
  obtain ⟨Nd, d1, d2, d3⟩ := m_zero_loop (ρ := ρ) (nI m) 745 0 Nc (by omega)
  have fr : ∀ k j q, ¬ (k = 16 ∧ j = 0 ∧ (q = 0 ∨ (10 ≤ q ∧ q ≤ 15))) → ¬ (k = 31 ∧ j = 0) → ¬ (k = 33 ∧ j = 0) → ¬ (k = 36 ∧ j = 0) → Nd k j q = N k j q := fun k j q e1 e2 e3 e4 => by
    rw [d3 _ _ _ (by omega), c3 _ _ _ (by omega), zms_ne (by omega), zms_ne (by omega), zms_ne (by omega), zms_ne (by omega), a3 _ _ _ (by omega), zms_ne (by omega)]
  refine ⟨Nd, ?_, fun q hq => ?_, ?_, ?_, fr⟩
  · have hx : mTx Nd tx m := by
      refine ⟨by omega, ?_, fun q hq => ?_⟩
      · rw [d3 _ _ _ (by omega), c3 _ _ _ (by omega), zms_ne (by omega), zms_ne (by omega), zms_eq]
      · rw [d3 _ _ _ (by omega), c3 _ _ _ (by omega), zms_ne (by omega), zms_ne (by omega), zms_ne (by omega), zms_ne (by omega), a2 q (by omega) hq, zms_ne (by omega), hb q hq]
    have hms : ms Nd 0 (Nd 16 0 13) 0 (Nd 16 0 15) := by
      refine ⟨?_, rfl, ?_, rfl⟩
      · rw [d3 _ _ _ (by omega), c3 _ _ _ (by omega), zms_ne (by omega), zms_eq]; rfl
      · rw [d3 _ _ _ (by omega), c3 _ _ _ (by omega), zms_eq]
    have hS : mSheet Nd 31 s00 := ⟨d2 0 (by omega) (by omega), by show 0 ≤ 6; omega, fun t ht => absurd ht (Nat.not_lt_zero t)⟩
    have L := m_lines (tx := tx) (n := m) (ρ := ρ) (nI m) (nI 745) 400 s00 0 Nd _ _ (by omega) (Nat.zero_le _) ok_00 hx hms hS
    rw [← d1] at L
    rw [e_X6_text]
    show mAll Nd ρ _ (zcI (zrun zP 137 [zI (nI m), zI 0, zI (zms N 16 0 0 0 16 0 10)] (zms N 16 0 0 0, ρ)) _)
    rw [z10, m_isIn, zcI_ok, zb_t ⟨nI_pos (by omega), nI_nlt hm (by omega)⟩, m_f1, zcI_ok, if_neg (by decide)]
    rw [nI_0] at a1 c1 L
    rw [a1, e_X6_text_27, if_neg (nI_nlt (Nat.le_refl m) (by omega)), e_X6_copies]
    show mAll Nd ρ _ (zcV (zX zP zK_X6_copies (2, [zR 31 0, zR 33 0, zI 0], []) (zms (zms (zms (zms Na 16 0 10 0) 16 0 11 (nI m)) 16 0 12 0) 16 0 14 0, ρ)) _)
    rw [c1, zcV_ok]
    exact L
  · rw [d3 _ _ _ (by omega), c2 q (by omega) hq, zms_ne (by omega), zms_ne (by omega), zms_ne (by omega), zms_ne (by omega), a3 _ _ _ (by omega), zms_ne (by omega)]
  · rw [d3 _ _ _ (by omega), c3 _ _ _ (by omega), zms_ne (by omega), zms_ne (by omega), zms_ne (by omega), zms_eq]
  · rw [d3 _ _ _ (by omega), c3 _ _ _ (by omega), zms_ne (by omega), zms_ne (by omega), zms_ne (by omega), zms_ne (by omega), a3 _ _ _ (by omega), zms_eq]
theorem keKept {M M' : zMem} (hf : ∀ k j q, (k = 15 ∨ (k = 16 ∧ j = 0 ∧ q = 7) ∨ (k = 13 ∧ j = 1) ∨ (6 ≤ j ∧ j < 12 ∧ (k = 12 ∨ k = 20 ∨ k = 21 ∨ k = 22)) ∨ k = 32) → M' k j q = M k j q) (h : zKept M) : zKept M' := by
  rcases h with ⟨a, b⟩ | ⟨a, b, O, o1, o2, o3⟩
  · exact Or.inl ⟨(hf _ _ _ (by omega)).trans a, (hf _ _ _ (by omega)).trans b⟩
  · exact Or.inr ⟨(hf _ _ _ (by omega)).trans a, (hf _ _ _ (by omega)).trans b, O, cSheet_lo (fun k j q e => hf k j q (by omega)) o1, mSheet_congr (fun q hq => hf _ _ _ (by omega)) o2, o3⟩
theorem a_text (h : zRel M) (x : Int32) : zAg 92 186 [zI x] cdI M := by
  obtain ⟨T, n, H, hR⟩ := h
  obtain ⟨c, c1, c2, c3, c4, c5⟩ := hR.2.2.2.1
  by_cases cx : ¬ x < 0 ∧ ¬ nI c < x
  · obtain ⟨m, hm, rfl⟩ : ∃ m, m ≤ c ∧ x = nI m := by
      obtain ⟨h1, h2⟩ := cx
      rw [iI_lt, show (0 : Int32).toInt = 0 from by decide] at h1
      rw [iI_lt, iI_n (by omega)] at h2
      exact ⟨x.toInt.toNat, by omega, by rw [iI_eq, iI_n (by omega)]; omega⟩
    intro ρ ρ'
    have hr := (n_range (i := 0) (σ := (M, ρ)) (nI m) 0 (nI c)).1 cx
    obtain ⟨Mx, ct, x1, x4, xf⟩ := c_read (ρ := ρ) hm c1 c2
    obtain ⟨⟨a1, a2, a3⟩, ⟨b1, b2, b3⟩, k1, k2, k3⟩ := hR
    cases hL : lnAll (fun q => M 27 0 q) m 400 s00 (sk (fun q => M 27 0 q) m 0) with
    | inl e =>
      obtain ⟨k, q⟩ := e
      rw [hL] at ct
      obtain ⟨M1, g1, g2, g3, g4⟩ := ct
      have f1 : ∀ k j q, ¬ (k = 11 ∧ j = 0) → ¬ (k = 13 ∧ j = 14) → ¬ (84 ≤ j ∧ j < 90 ∧ (k = 12 ∨ k = 20 ∨ k = 21 ∨ k = 22)) → M1 k j q = M k j q := fun k j q e1 e2 e3 => (g4 k j q (by omega) e2 e3).trans (xf k j q (by omega) e2)
      obtain ⟨N1, l1, l2, l3, l4, l5⟩ := m_read (tx := fun q => M 27 0 q) (ρ := ρ') (N := M1) hm c1 ((f1 _ _ _ (by omega) (by omega) (by omega)).trans c3) (fun z hz => by rw [f1 _ _ _ (by omega) (by omega) (by omega), (c4 z (by omega)).2, (c4 z (by omega)).1])
      rw [hL] at l1
      obtain ⟨N2, i1, i2, i3⟩ := l1
      obtain ⟨N3, j1, j2, j3⟩ := m_copies (ρ := ρ') (a := 32) (b := 30) (by omega) rfl rfl 745 0 (zms N2 16 0 16 (nI q)) (by omega)
      have f3 : ∀ k j q, ¬ (k = 16 ∧ j = 0 ∧ (q = 0 ∨ (10 ≤ q ∧ q ≤ 16))) → ¬ (k = 31 ∧ j = 0) → ¬ (k = 33 ∧ j = 0) → ¬ (k = 36 ∧ j = 0) → N3 k j q = M1 k j q := fun k j q e1 e2 e3 e4 => by
        rw [j3 _ _ _ (by omega), zms_ne (by omega), i3 _ _ _ (by omega) e2, l5 _ _ _ (by omega) e2 e3 e4]
      have f4 : ∀ k j q, ¬ (k = 16 ∧ j = 0 ∧ (q = 0 ∨ (10 ≤ q ∧ q ≤ 16))) → ¬ (k = 31 ∧ j = 0) → ¬ (k = 33 ∧ j = 0) → ¬ (k = 36 ∧ j = 0) → ¬ (k = 11 ∧ j = 0) → ¬ (k = 13 ∧ j = 14) → ¬ (84 ≤ j ∧ j < 90 ∧ (k = 12 ∨ k = 20 ∨ k = 21 ∨ k = 22)) → N3 k j q = M k j q := fun k j q e1 e2 e3 e4 e5 e6 e7 => (f3 k j q e1 e2 e3 e4).trans (f1 k j q e5 e6 e7)
      have e14 : N3 16 0 14 = k := by rw [j3 _ _ _ (by omega), zms_ne (by omega)]; exact i2
      refine Or.inl ⟨k - 10, M1, N3, ?_, ?_, ?_, T, n, H, ⟨?_, ?_, a3⟩, ⟨?_, ?_, b3⟩, ?_, ⟨0, by omega, ?_, ?_, fun q hq => absurd hq (Nat.not_lt_zero q), ?_⟩, ?_⟩
      · rw [e_X5_text, show (M, ρ).1 11 0 1 = nI c from c2, hr, zcV_ok, g1, zcI_ok, if_pos rfl, show (M1, ρ).1 11 0 3 = k from g2]
      · rw [i1, e_X6_copies]
        show zcV (zX zP zK_X6_copies (2, [zR 33 0, zR 31 0, zI 0], []) (zms N2 16 0 16 (nI q), ρ')) _ = _
        rw [nI_0] at j1
        rw [j1, zcV_ok, show (N3, ρ').1 16 0 14 = k from e14]
      · rw [j3 _ _ _ (by omega), zms_ne (by omega), i3 _ _ _ (by omega) (by omega)]; exact l4
      · exact cSheet_lo (fun k j q e => f4 k j q (by omega) (by omega) (by omega) (by omega) (by omega) (by omega) (by omega)) a1
      · refine mSheet_congr (fun z hz => ?_) a2
        rw [j2 z (by omega) hz, zms_ne (by omega), i3 _ _ _ (by omega) (by omega), l2 z hz, f1 _ _ _ (by omega) (by omega) (by omega)]
      · obtain ⟨hn, N, hN, h1, h2, h3⟩ := b1
        exact ⟨hn, N, hN, (f4 _ _ _ (by omega) (by omega) (by omega) (by omega) (by omega) (by omega) (by omega)).trans h1, (f4 _ _ _ (by omega) (by omega) (by omega) (by omega) (by omega) (by omega) (by omega)).trans h2, fun j hj => cSheet_lo (fun k j q e => f4 k j q (by omega) (by omega) (by omega) (by omega) (by omega) (by omega) (by omega)) (h3 j hj)⟩
      · exact mHist_congr (f4 _ _ _ (by omega) (by omega) (by omega) (by omega) (by omega) (by omega) (by omega)) (fun q => f4 _ _ _ (by omega) (by omega) (by omega) (by omega) (by omega) (by omega) (by omega)) b2
      · exact keKept (fun k j q e => f4 k j q (by omega) (by omega) (by omega) (by omega) (by omega) (by omega) (by omega)) k1
      · rw [f3 _ _ _ (by omega) (by omega) (by omega) (by omega), g4 _ _ _ (by omega) (by omega) (by omega)]; exact x1
      · rw [j3 _ _ _ (by omega), zms_ne (by omega), i3 _ _ _ (by omega) (by omega)]; exact l3
      · rw [f3 _ _ _ (by omega) (by omega) (by omega) (by omega), g3, j3 _ _ _ (by omega), zms_eq]
      · intro e he
        rw [f4 _ _ _ (by omega) (by omega) (by omega) (by omega) (by omega) (by omega) (by omega), f4 _ _ _ (by omega) (by omega) (by omega) (by omega) (by omega) (by omega) (by omega)]
        exact k3 e he
    | inr T' =>
      rw [hL] at ct
      obtain ⟨M1, g1, g2, g3, g4⟩ := ct
      have f1 : ∀ k j q, ¬ (k = 11 ∧ j = 0) → ¬ (k = 13 ∧ j = 14) → ¬ (84 ≤ j ∧ j < 90 ∧ (k = 12 ∨ k = 20 ∨ k = 21 ∨ k = 22)) → M1 k j q = M k j q := fun k j q e1 e2 e3 => (g4 k j q (by omega) e2 e3).trans (xf k j q (by omega) e2)
      obtain ⟨M2, u1, u2, u3⟩ := s_copyFrom (ρ := ρ) (s0 := 0) (s1 := 14) (by omega) g2
      have b1' : cHist M2 n H := by
        obtain ⟨hn, N, hN, h1, h2, h3⟩ := b1
        exact ⟨hn, N, hN, (u3 _ _ _ (by omega)).trans ((f1 _ _ _ (by omega) (by omega) (by omega)).trans h1), (u3 _ _ _ (by omega)).trans ((f1 _ _ _ (by omega) (by omega) (by omega)).trans h2), fun j hj => cSheet_lo (fun k j q e => (u3 k j q (by omega)).trans (f1 k j q (by omega) (by omega) (by omega))) (h3 j hj)⟩
      obtain ⟨M3, v1, v2, v3⟩ := h_forget (ρ := ρ) b1'
      have s3 : cSheet M3 0 T' := cSheet_congr (fun k j q e => v3 k j q (by omega)) u2
      have f2 : ∀ k j q, ¬ (k = 10 ∧ j = 0) → ¬ ((k = 13 ∧ j = 0 ∧ q = 0) ∨ (j < 6 ∧ (k = 12 ∨ k = 20 ∨ k = 21 ∨ k = 22))) → M3 k j q = M1 k j q := fun k j q e1 e2 => (v3 k j q e1).trans (u3 k j q (by omega))
      obtain ⟨N1, l1, l2, l3, l4, l5⟩ := m_read (tx := fun q => M 27 0 q) (ρ := ρ') (N := M3) hm c1 ((f2 _ _ _ (by omega) (by omega)).trans ((f1 _ _ _ (by omega) (by omega) (by omega)).trans c3)) (fun z hz => by rw [f2 _ _ _ (by omega) (by omega), f1 _ _ _ (by omega) (by omega) (by omega), (c4 z (by omega)).2, (c4 z (by omega)).1])
      rw [hL] at l1
      obtain ⟨N2, i1, i2, i3⟩ := l1
      have i2' : mSheet (zms (zms N2 16 0 16 (-1)) 16 0 6 0) 31 T' := mSheet_congr (fun z hz => (zms_ne (by omega)).trans (zms_ne (by omega))) i2
      have f3 : ∀ k j q, ¬ (k = 16 ∧ j = 0 ∧ (q = 0 ∨ q = 6 ∨ (10 ≤ q ∧ q ≤ 16))) → ¬ (k = 31 ∧ j = 0) → ¬ (k = 33 ∧ j = 0) → ¬ (k = 36 ∧ j = 0) → zms (zms N2 16 0 16 (-1)) 16 0 6 0 k j q = M3 k j q := fun k j q e1 e2 e3 e4 => by
        rw [zms_ne (by omega), zms_ne (by omega), i3 _ _ _ (by omega) e2, l5 _ _ _ (by omega) e2 e3 e4]
      have f4 : ∀ k j q, ¬ (k = 16 ∧ j = 0 ∧ (q = 0 ∨ q = 6 ∨ (10 ≤ q ∧ q ≤ 16))) → ¬ (k = 31 ∧ j = 0) → ¬ (k = 33 ∧ j = 0) → ¬ (k = 36 ∧ j = 0) → ¬ (k = 10 ∧ j = 0) → ¬ ((k = 13 ∧ j = 0 ∧ q = 0) ∨ (j < 6 ∧ (k = 12 ∨ k = 20 ∨ k = 21 ∨ k = 22))) → ¬ (k = 11 ∧ j = 0) → ¬ (k = 13 ∧ j = 14) → ¬ (84 ≤ j ∧ j < 90 ∧ (k = 12 ∨ k = 20 ∨ k = 21 ∨ k = 22)) → zms (zms N2 16 0 16 (-1)) 16 0 6 0 k j q = M k j q := fun k j q e1 e2 e3 e4 e5 e6 e7 e8 e9 => (f3 k j q e1 e2 e3 e4).trans ((f2 k j q e5 e6).trans (f1 k j q e7 e8 e9))
      refine Or.inl ⟨zsum (fun t => nI (rct (T'.2 t))) 0 T'.1, M3, zms (zms N2 16 0 16 (-1)) 16 0 6 0, ?_, ?_, ?_, T', 0, H, ⟨?_, i2', g3⟩, ⟨?_, ?_, fun j hj => absurd hj (Nat.not_lt_zero j)⟩, ?_, ⟨0, by omega, ?_, ?_, fun q hq => absurd hq (Nat.not_lt_zero q), ?_⟩, ?_⟩
      · rw [e_X5_text, show (M, ρ).1 11 0 1 = nI c from c2, hr, zcV_ok, g1, zcI_ok, if_neg (by decide), u1, zcV_ok, v1, zcV_ok, s_countMarks (σ := (M3, ρ)) s3, zcI_ok]
      · rw [i1, m_allMarks (a := 30) (σ := (zms (zms N2 16 0 16 (-1)) 16 0 6 0, ρ')) rfl i2', zcI_ok]
      · rw [zms_ne (by omega), zms_ne (by omega), i3 _ _ _ (by omega) (by omega)]; exact l4
      · exact cSheet_congr (fun k j q e => f3 k j q (by omega) (by omega) (by omega) (by omega)) s3
      · exact cHist_congr (fun k j q e => f3 k j q (by omega) (by omega) (by omega) (by omega)) v2
      · exact ⟨by omega, zms_eq, fun j hj => absurd hj (Nat.not_lt_zero j)⟩
      · exact keKept (fun k j q e => f4 k j q (by omega) (by omega) (by omega) (by omega) (by omega) (by omega) (by omega) (by omega) (by omega)) k1
      · rw [f3 _ _ _ (by omega) (by omega) (by omega) (by omega), f2 _ _ _ (by omega) (by omega), g4 _ _ _ (by omega) (by omega) (by omega)]; exact x1
      · rw [zms_ne (by omega), zms_ne (by omega), i3 _ _ _ (by omega) (by omega)]; exact l3
      · rw [f3 _ _ _ (by omega) (by omega) (by omega) (by omega), f2 _ _ _ (by omega) (by omega), g4 _ _ _ (by omega) (by omega) (by omega), x4, zms_ne (by omega), zms_eq]
      · intro e he
        rw [f4 _ _ _ (by omega) (by omega) (by omega) (by omega) (by omega) (by omega) (by omega) (by omega) (by omega), f4 _ _ _ (by omega) (by omega) (by omega) (by omega) (by omega) (by omega) (by omega) (by omega) (by omega)]
        exact k3 e he
  · have r10 : zms (rfM M 1) 16 0 0 0 16 0 10 = nI c := ((zms_ne (by omega)).trans (zms_ne (by omega))).trans c3
    refine ag_ref hR (e := 1) (by omega) (fun ρ => ?_) (fun ρ' => ?_)
    · rw [e_X5_text, show (M, ρ).1 11 0 1 = nI c from c2, (n_range (i := 0) (σ := (M, ρ)) x 0 (nI c)).2 cx, zcV_cTh]
    · rw [e_X6_text]
      show zcI (zrun zP 137 [zI x, zI 0, zI (zms (rfM M 1) 16 0 0 0 16 0 10)] (zms (rfM M 1) 16 0 0 0, ρ')) _ = _
      rw [r10, m_isIn, zcI_ok, zb_f cx, m_fineA zms_eq 1 (by decide), zcI_ok, if_pos rfl]
      rfl
end ZTX
