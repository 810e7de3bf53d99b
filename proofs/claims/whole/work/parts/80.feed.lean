/-! the call feed -/
section ZFE
variable {M : zMem} {ρ : Int64 × Nat}
theorem bs_ok (x : Int32) : ∀ v ∈ bs x, Int8.toInt32 (Int32.toInt8 v) = v := by
  have h : ∀ y : Int8, Int8.toInt32 (Int32.toInt8 (Int8.toInt32 y)) = Int8.toInt32 y := fun y => by rw [Int8.toInt8_toInt32]
  intro v hv
  simp only [bs, List.mem_cons, List.not_mem_nil, or_false] at hv
  rcases hv with e | e | e | e <;> rw [e] <;> exact h _
theorem a_feed (h : zRel M) (a b c d e : Int32) : zAg 91 166 [zI a, zI b, zI c, zI d, zI e] cdN M := by
  obtain ⟨T, n, H, hR⟩ := h
  obtain ⟨⟨a1, a2, a3⟩, ⟨b1, b2, b3⟩, k1, ⟨p, p1, p2, p3, p4, p5⟩, k3⟩ := hR
  have hz : zms M 16 0 0 0 16 0 10 = nI p := (zms_ne (by omega)).trans p3
  have e20 : nI p + 20 = nI (p + 20) := nI_add p 20
  by_cases cp : (400 : Int32) < nI p + 20
  · refine ag_rd ⟨⟨a1, a2, a3⟩, ⟨b1, b2, b3⟩, k1, ⟨p, p1, p2, p3, p4, p5⟩, k3⟩ (x := -1) (fun ρ => ?_) (fun ρ' => ?_)
    · rw [e_X5_feed, show (M, ρ).1 11 0 1 = nI p from p2, if_pos cp]
    · rw [e_X6_feed, hz, if_pos cp]
  · have hp : p + 20 ≤ 400 := by
      rw [e20] at cp
      have q : ¬ nI 400 < nI (p + 20) := cp
      rw [nI_lp (by omega) (by omega)] at q
      omega
    have l4 : ∀ x, (bs x).length = 4 := fun _ => rfl
    have cl : ∀ ρ, zrun zP 91 [zR 15 0, zI a, zI b, zI c, zI d, zI e] (M, ρ) = zok (nI (p + 20)) (stL 27 11 1 M p (bs a ++ (bs b ++ (bs c ++ (bs d ++ bs e)))), ρ) := fun ρ => by
      rw [stL_app, stL_app, stL_app, stL_app, l4, l4, l4, l4]
      have c1 := stL_ct (kt := 27) (ko := 11) (so := 1) (by omega) (bs a) M p p2
      have c2 := stL_ct (kt := 27) (ko := 11) (so := 1) (by omega) (bs b) _ _ c1
      have c3 := stL_ct (kt := 27) (ko := 11) (so := 1) (by omega) (bs c) _ _ c2
      have c4 := stL_ct (kt := 27) (ko := 11) (so := 1) (by omega) (bs d) _ _ c3
      have c5 := stL_ct (kt := 27) (ko := 11) (so := 1) (by omega) (bs e) _ _ c4
      rw [l4] at c1
      rw [l4, l4] at c2
      rw [l4, l4, l4] at c3
      rw [l4, l4, l4, l4] at c4
      rw [l4, l4, l4, l4, l4] at c5
      rw [e_X5_feed, show (M, ρ).1 11 0 1 = nI p from p2, if_neg cp, r_append (by omega) p2, zcV_ok, r_append (by omega) c1, zcV_ok, r_append (by omega) c2, zcV_ok, r_append (by omega) c3, zcV_ok, r_append (by omega) c4, zcV_ok]
      exact congrArg (fun x => zok x _) c5
    have ml : ∀ N ρ', N 16 0 10 = nI p → zrun zP 166 [zR 16 0, zI a, zI b, zI c, zI d, zI e] (N, ρ') = zok (nI (p + 20)) (stL 35 16 10 (zms N 16 0 0 0) p (bs a ++ (bs b ++ (bs c ++ (bs d ++ bs e)))), ρ') := fun N ρ' hN => by
      have hz : zms N 16 0 0 0 16 0 10 = nI p := (zms_ne (by omega)).trans hN
      rw [stL_app, stL_app, stL_app, stL_app, l4, l4, l4, l4]
      have c1 := stL_ct (kt := 35) (ko := 16) (so := 10) (by omega) (bs a) (zms N 16 0 0 0) p hz
      have c2 := stL_ct (kt := 35) (ko := 16) (so := 10) (by omega) (bs b) _ _ c1
      have c3 := stL_ct (kt := 35) (ko := 16) (so := 10) (by omega) (bs c) _ _ c2
      have c4 := stL_ct (kt := 35) (ko := 16) (so := 10) (by omega) (bs d) _ _ c3
      have c5 := stL_ct (kt := 35) (ko := 16) (so := 10) (by omega) (bs e) _ _ c4
      rw [l4] at c1
      rw [l4, l4] at c2
      rw [l4, l4, l4] at c3
      rw [l4, l4, l4, l4] at c4
      rw [l4, l4, l4, l4, l4] at c5
      rw [e_X6_feed, hz, if_neg cp, m_append (by omega) hz, zcV_ok, m_append (by omega) c1, zcV_ok, m_append (by omega) c2, zcV_ok, m_append (by omega) c3, zcV_ok, m_append (by omega) c4, zcV_ok]
      exact congrArg (fun x => zok x _) c5
    intro ρ ρ'
    have hlen : (bs a ++ (bs b ++ (bs c ++ (bs d ++ bs e)))).length = 20 := rfl
    have hb : ∀ v ∈ bs a ++ (bs b ++ (bs c ++ (bs d ++ bs e))), Int8.toInt32 (Int32.toInt8 v) = v := fun v hv => by
      simp only [List.mem_append] at hv
      rcases hv with h | h | h | h | h <;> exact bs_ok _ v h
    revert cl ml hlen hb
    generalize bs a ++ (bs b ++ (bs c ++ (bs d ++ bs e))) = vs
    intro cl ml hlen hb
    have f1 : ∀ k j q, ¬ (k = 27 ∧ j = 0 ∧ p ≤ q) → ¬ (k = 11 ∧ j = 0 ∧ q = 1) → stL 27 11 1 M p vs k j q = M k j q := fun k j q h1 h2 => stL_fr vs M p k j q (by omega) h2
    have f2 : ∀ k j q, ¬ (k = 35 ∧ j = 0 ∧ p ≤ q) → ¬ (k = 16 ∧ j = 0 ∧ (q = 0 ∨ q = 10)) → stL 35 16 10 (zms (stL 27 11 1 M p vs) 16 0 0 0) p vs k j q = stL 27 11 1 M p vs k j q := fun k j q h1 h2 => by
      rw [stL_fr vs _ p k j q (by omega) (by omega), zms_ne (by omega)]
    have f3 : ∀ k j q, ¬ (k = 35 ∧ j = 0 ∧ p ≤ q) → ¬ (k = 16 ∧ j = 0 ∧ (q = 0 ∨ q = 10)) → ¬ (k = 27 ∧ j = 0 ∧ p ≤ q) → ¬ (k = 11 ∧ j = 0 ∧ q = 1) → stL 35 16 10 (zms (stL 27 11 1 M p vs) 16 0 0 0) p vs k j q = M k j q := fun k j q h1 h2 h3 h4 => (f2 k j q h1 h2).trans (f1 k j q h3 h4)
    have m10 : stL 27 11 1 M p vs 16 0 10 = nI p := (f1 _ _ _ (by omega) (by omega)).trans p3
    refine Or.inl ⟨nI (p + 20), _, _, cl ρ, ml _ ρ' m10, ?_, T, n, H, ⟨?_, ?_, a3⟩, ⟨?_, ?_, b3⟩, ?_, ⟨p + 20, hp, ?_, ?_, fun q hq => ?_, ?_⟩, ?_⟩
    · rw [stL_fr vs _ p _ _ _ (by omega) (by omega), zms_eq]
    · exact cSheet_congr (fun k j q e => f3 k j q (by omega) (by omega) (by omega) (by omega)) a1
    · exact mSheet_congr (fun q hq => f3 _ _ _ (by omega) (by omega) (by omega) (by omega)) a2
    · exact cHist_congr (fun k j q e => f3 k j q (by omega) (by omega) (by omega) (by omega)) b1
    · exact mHist_congr (f3 _ _ _ (by omega) (by omega) (by omega) (by omega)) (fun q => f3 _ _ _ (by omega) (by omega) (by omega) (by omega)) b2
    · rcases k1 with ⟨q1, q2⟩ | ⟨q1, q2, O, o1, o2, o3⟩
      · exact Or.inl ⟨(f3 _ _ _ (by omega) (by omega) (by omega) (by omega)).trans q1, (f3 _ _ _ (by omega) (by omega) (by omega) (by omega)).trans q2⟩
      · exact Or.inr ⟨(f3 _ _ _ (by omega) (by omega) (by omega) (by omega)).trans q1, (f3 _ _ _ (by omega) (by omega) (by omega) (by omega)).trans q2, O, cSheet_congr (fun k j q e => f3 k j q (by omega) (by omega) (by omega) (by omega)) o1, mSheet_congr (fun q hq => f3 _ _ _ (by omega) (by omega) (by omega) (by omega)) o2, o3⟩
    · rw [f2 _ _ _ (by omega) (by omega), stL_ct (by omega) vs M p p2, hlen]
    · rw [stL_ct (by omega) vs _ p ((zms_ne (by omega)).trans m10), hlen]
    · by_cases cq : q < p
      · rw [f3 _ _ _ (by omega) (by omega) (by omega) (by omega), f3 _ _ _ (by omega) (by omega) (by omega) (by omega)]
        exact p4 q cq
      · obtain ⟨j, rfl⟩ : ∃ j, q = p + j := ⟨q - p, by omega⟩
        rw [f2 _ _ _ (by omega) (by omega), stL_at (by omega) vs M p j (by omega), stL_at (by omega) vs _ p j (by omega)]
        exact ⟨rfl, hb _ (List.getElem_mem _)⟩
    · rw [f3 _ _ _ (by omega) (by omega) (by omega) (by omega), f3 _ _ _ (by omega) (by omega) (by omega) (by omega)]
      exact p5
    · intro e he
      rw [f3 _ _ _ (by omega) (by omega) (by omega) (by omega), f3 _ _ _ (by omega) (by omega) (by omega) (by omega)]
      exact k3 e he
end ZFE
