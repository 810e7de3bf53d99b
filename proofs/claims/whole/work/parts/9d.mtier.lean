/-! a line of a tier, the reference's side -/
def mpF (M M' : zMem) : Prop := ∀ k j q, ¬ (k = 16 ∧ j = 0 ∧ 12 ≤ q ∧ q ≤ 15) → ¬ (k = 31 ∧ j = 0) → M' k j q = M k j q
def mOut (tx : Nat → Int32) (n : Nat) (M : zMem) (ρ : Int64 × Nat) (out : zLo) (r : zRes) : Prop := match out with
  | .inl (k, q) => ∃ M', r = zvd (M', ρ) ∧ M' 16 0 14 = k ∧ M' 16 0 15 = nI q ∧ mpF M M'
  | .inr (T', q) => ∃ M' p' b w, r = zvd (M', ρ) ∧ ms M' p' b 0 w ∧ p' ≤ n ∧ sk tx n p' = q ∧ mSheet M' 31 T' ∧ mpF M M'
section ZMT2
variable {tx : Nat → Int32} {n p : Nat} {b w : Int32} {T : zSheet} {M M0 : zMem} {ρ : Int64 × Nat}
theorem mpF_tr {M1 M2 : zMem} (h1 : mpF M M1) (h2 : mpF M1 M2) : mpF M M2 := fun k j q a b => (h2 k j q a b).trans (h1 k j q a b)
theorem nxF_mp {M' : zMem} (h : nxF M M') : mpF M M' := fun k j q a b => h k j q a
theorem oFr_mp {M' : zMem} (h : oFr M M') : mpF M M' := fun k j q a b => h k j q b
theorem mpF_tx {M' : zMem} (h : mpF M M') (ht : mTx M tx n) : mTx M' tx n := ⟨ht.1, (h _ _ _ (by omega) (by omega)).trans ht.2.1, fun q hq => (h _ _ _ (by omega) (by omega)).trans (ht.2.2 q hq)⟩
theorem te_w {k : Nat} (hk : k < 9) (h : wordIs tx n p (zstr k)) : p < n ∧ isLt (tx p) ∧ te tx n p = p + (zstr k).length := by
  obtain ⟨l1, l2, l3⟩ := zstr_ok k hk
  have h0 := h.1 0 l1
  rw [Nat.add_zero] at h0
  have lt : isLt (tx p) := by rw [h0.2]; exact l3 0 l1
  refine ⟨h0.1, lt, ?_⟩
  rw [te_lt h0.1 lt]
  exact we_u (by omega) (fun z z1 z2 => by
    have qz := h.1 (z - p) (by omega)
    rw [show p + (z - p) = z by omega] at qz
    exact ⟨qz.1, by rw [qz.2]; exact l3 _ (by omega)⟩) h.2
theorem bad_out {k : Int32} {q : Nat} {p' : Nat} (hf : mpF M0 M) (hm : ms M p' b k (nI q)) : mOut tx n M0 ρ (.inl (k, q)) (zvd (M, ρ)) := ⟨M, rfl, hm.2.2.1, hm.2.2.2, hf⟩
theorem m_200bad {f : Int32} (h : M 16 0 14 = f) (hf : 0 < f) (x1 x2 x3 x4 : Int32) (v5 v6 : zAV) : zX zP zK_X6_tierTold (200, [zR 16 0, zI x1, zI x2, zI x3, zI x4, v5, v6], []) (M, ρ) = zvd (M, ρ) := by
  rw [e_X6_tierTold_200, show (M, ρ).1 16 0 14 = f from h, if_pos hf]
theorem m_par (hx : mTx M tx n) (hp : p ≤ n) (hm : ms M p b 0 w) (hS : mSheet M 31 T) (h6 : T.1 < 6) {kd : Int32} (hkd : kd = 1 ∨ kd = 2 ∨ kd = 3) (nm : Nat) (x1 : Int32) (v5 v6 : zAV) (hf : mpF M0 M) : mOut tx n M0 ρ (lnPar tx n T nm kd (sk tx n p)) (zcI (zrun zP 176 [zR 16 0] (M, ρ)) (fun r1 s1 => if (s1.1 16 0 14) = 0 then (zcI (zrun zP 140 [zR 16 0, zI r1] s1) (fun r2 s2 => if r2 = 3 then (zcV (zrun zP 168 [zR 16 0, zI 5, zI (s2.1 16 0 13)] s2) (fun s3 => zX zP zK_X6_tierTold (200, [zR 16 0, zI x1, zI (nI nm), zI kd, zI r1, v5, v6], []) s3)) else (zX zP zK_X6_tierTold (200, [zR 16 0, zI x1, zI (nI nm), zI kd, zI r1, v5, v6], []) s2))) else (zX zP zK_X6_tierTold (200, [zR 16 0, zI x1, zI (nI nm), zI kd, zI r1, v5, v6], []) s1))) := by
  obtain ⟨k1, k2, k3⟩ := m_known (ρ := ρ) hp hx hm hS
  have hq := (sk_spec (tx := tx) (n := n) p).2.1 hp
  unfold lnPar
  by_cases c1 : shW tx n (sk tx n p) 6
  · rw [zif_f (fun e => e c1)]
    by_cases c2 : ixN T (nmv tx n (sk tx n p)) = -1
    · obtain ⟨M1, g1, g2, g3⟩ := k2 c1 c2
      rw [zif_t c2, g1, zcI_ok, show (M1, ρ).1 16 0 14 = 5 from g3.2.2.1, if_neg (by decide), m_200bad g3.2.2.1 (by decide)]
      exact bad_out (mpF_tr hf (nxF_mp g2)) g3
    · obtain ⟨M1, g1, g2, g3⟩ := k1 c1 c2
      obtain ⟨q, q1, q2⟩ := ixN_n (by omega) c2
      have s1 := nxF_sh g2 hS
      rw [zif_f c2, g1, zcI_ok, show (M1, ρ).1 16 0 14 = 0 from g3.2.2.1, if_pos rfl, q2, m_kind (σ := (M1, ρ)) (s1.2.2 q q1) (by omega), zcI_ok, nI_clamp (show q < 2 ^ 31 by omega)]
      by_cases c3 : rkd (T.2 q) = 3
      · obtain ⟨M2, l1, l2, l3⟩ := m_wrong0 (ρ := ρ) g3 5 (nI (sk tx n p))
        rw [if_pos c3, zif_t c3, show (M1, ρ).1 16 0 13 = _ from g3.2.1, l1, zcV_ok, m_200bad l2.2.2.1 (by decide)]
        exact bad_out (mpF_tr hf (mpF_tr (nxF_mp g2) (nxF_mp l3))) l2
      · obtain ⟨M2, l1, l2, l3⟩ := m_addT (ρ := ρ) (nm := nI nm) (kd := kd) (pr := nI q) s1 g3.2.2.1 h6 (Or.inr (Or.inr ⟨hkd, q, q1, rfl, c3⟩)) x1 v5 v6
        rw [if_neg c3, zif_f c3, l1]
        exact ⟨M2, te tx n (sk tx n p), nI (sk tx n p), w, rfl, ⟨(l3 _ _ _ (by omega)).trans g3.1, (l3 _ _ _ (by omega)).trans g3.2.1, (l3 _ _ _ (by omega)).trans g3.2.2.1, (l3 _ _ _ (by omega)).trans g3.2.2.2⟩, (te_le hq).2.1, rfl, l2, mpF_tr hf (mpF_tr (nxF_mp g2) (oFr_mp l3))⟩
  · obtain ⟨M1, g1, g2, g3⟩ := k3 c1
    rw [zif_t c1, g1, zcI_ok, show (M1, ρ).1 16 0 14 = 1 from g3.2.2.1, if_neg (by decide), m_200bad g3.2.2.1 (by decide)]
    exact bad_out (mpF_tr hf (nxF_mp g2)) g3
theorem m_kinds (hx : mTx M tx n) (hp : p ≤ n) (hm : ms M p b 0 w) (x1 x2 : Int32) (v3 v4 v5 v6 : zAV) : ∃ M' b', zX zP zK_X6_tierTold (60, [zR 16 0, zI x1, zI x2, v3, v4, v5, v6], []) (M, ρ) = zX zP zK_X6_tierTold (122, [zR 16 0, zI x1, zI x2, zI (kdW tx n (sk tx n p)), v4, v5, v6], []) (M', ρ) ∧ nxF M M' ∧ (kdW tx n (sk tx n p) = -1 → ms M' (sk tx n p) b' 0 w) ∧ (¬ kdW tx n (sk tx n p) = -1 → ms M' (te tx n (sk tx n p)) b' 0 w) := by
  have hq := (sk_spec (tx := tx) (n := n) p).2.1 hp
  have ss := sk_sk (tx := tx) (n := n) p
  rw [e_X6_tierTold_60, show (M, ρ).1 16 0 14 = 0 from hm.2.2.1, if_neg (by decide)]
  unfold kdW
  obtain ⟨a1, a2⟩ := m_passes (ρ := ρ) hp hx hm (k := 1) (by omega)
  by_cases c1 : wordIs tx n (sk tx n p) (zstr 1)
  · obtain ⟨M1, g1, g2, g3⟩ := a1 c1
    refine ⟨M1, nI (sk tx n p), by rw [g1, zcI_ok, if_neg (by decide), zif_t c1], g3, fun e => by rw [zif_t c1] at e; exact absurd e (by decide), fun _ => ?_⟩
    · rw [(te_w (by omega) c1).2.2]; exact g2
  · obtain ⟨M1, g1, g2, g3⟩ := a2 c1
    obtain ⟨b1, b2⟩ := m_passes (ρ := ρ) hq (nxF_tx g3 hx) g2 (k := 2) (by omega)
    rw [ss] at b1 b2
    rw [g1, zcI_ok, if_pos rfl, zif_f c1]
    by_cases c2 : wordIs tx n (sk tx n p) (zstr 2)
    · obtain ⟨M2, l1, l2, l3⟩ := b1 c2
      refine ⟨M2, nI (sk tx n p), by rw [l1, zcI_ok, if_neg (by decide), zif_t c2], nxF_tr g3 l3, fun e => by rw [zif_t c2] at e; exact absurd e (by decide), fun _ => ?_⟩
      · rw [(te_w (by omega) c2).2.2]; exact l2
    · obtain ⟨M2, l1, l2, l3⟩ := b2 c2
      obtain ⟨d1, d2⟩ := m_passes (ρ := ρ) hq (nxF_tx l3 (nxF_tx g3 hx)) l2 (k := 3) (by omega)
      rw [ss] at d1 d2
      rw [l1, zcI_ok, if_pos rfl, zif_f c2]
      by_cases c3 : wordIs tx n (sk tx n p) (zstr 3)
      · obtain ⟨M3, k1, k2, k3⟩ := d1 c3
        refine ⟨M3, nI (sk tx n p), by rw [k1, zcI_ok, if_neg (by decide), zif_t c3], nxF_tr g3 (nxF_tr l3 k3), fun e => by rw [zif_t c3] at e; exact absurd e (by decide), fun _ => ?_⟩
        · rw [(te_w (by omega) c3).2.2]; exact k2
      · obtain ⟨M3, k1, k2, k3⟩ := d2 c3
        obtain ⟨e1, e2⟩ := m_passes (ρ := ρ) hq (nxF_tx k3 (nxF_tx l3 (nxF_tx g3 hx))) k2 (k := 4) (by omega)
        rw [ss] at e1 e2
        rw [k1, zcI_ok, if_pos rfl, zif_f c3]
        by_cases c4 : wordIs tx n (sk tx n p) (zstr 4)
        · obtain ⟨M4, h1, h2, h3⟩ := e1 c4
          refine ⟨M4, nI (sk tx n p), by rw [h1, zcI_ok, if_neg (by decide), zif_t c4], nxF_tr g3 (nxF_tr l3 (nxF_tr k3 h3)), fun e => by rw [zif_t c4] at e; exact absurd e (by decide), fun _ => ?_⟩
          · rw [(te_w (by omega) c4).2.2]; exact h2
        · obtain ⟨M4, h1, h2, h3⟩ := e2 c4
          refine ⟨M4, b, by rw [h1, zcI_ok, if_pos rfl, zif_f c4], nxF_tr g3 (nxF_tr l3 (nxF_tr k3 h3)), fun _ => h2, fun e => by rw [zif_f c4] at e; exact absurd rfl e⟩
theorem m_tierTold (hx : mTx M tx n) (hp : p ≤ n) (hm : ms M (te tx n p) b 0 w) (hS : mSheet M 31 T) : mOut tx n M ρ (lnTier tx n T p) (zrun zP 177 [zR 16 0, zI (nI p)] (M, ρ)) := by
  have h6 := hS.2.1
  have te1 := te_le (tx := tx) hp
  have rf : mpF M M := fun _ _ _ _ _ => rfl
  rw [e_X6_tierTold, m_tiers' (σ := (M, ρ)) hS, zcI_ok]
  unfold lnTier
  by_cases c0 : T.1 < 6
  · rw [if_neg (show ¬ nI T.1 = 6 from fun e => by have := (nI_eq (b := 6) (by omega) (by omega)).mp e; omega), zif_f (fun e => e c0), e_X6_tierTold_15, show (M, ρ).1 16 0 14 = 0 from hm.2.2.1, if_neg (by decide)]
    obtain ⟨M1, g1, g2, g3, g4⟩ := m_name (ρ := ρ) te1.2.1 hx hm
    have x1 := nxF_tx g2 hx
    have s1 := nxF_sh g2 hS
    have f1 := nxF_mp g2
    have hq := (sk_spec (tx := tx) (n := n) (te tx n p)).2.1 te1.2.1
    rw [g1, zcI_ok]
    show mOut tx n M ρ (zif (¬ shW tx n (sk tx n (te tx n p)) 6) (.inl (1, sk tx n (te tx n p))) _) _
    by_cases c1 : shW tx n (sk tx n (te tx n p)) 6
    · have m1 := g3 c1
      have tn : zrun zP 175 [zR 16 0, zR 31 0, zI (nI (nmv tx n (sk tx n (te tx n p))))] (M1, ρ) = zok (ixN T (nmv tx n (sk tx n (te tx n p)))) (M1, ρ) := m_tierNamed (a := 30) (σ := (M1, ρ)) rfl s1 _
      rw [zif_f (fun e => e c1), show (M1, ρ).1 16 0 14 = 0 from m1.2.2.1, if_pos rfl, tn, zcI_ok]
      show mOut tx n M ρ (zif (¬ ixN T (nmv tx n (sk tx n (te tx n p))) = -1) (.inl (4, sk tx n (te tx n p))) _) _
      by_cases c2 : ixN T (nmv tx n (sk tx n (te tx n p))) = -1
      · rw [if_pos c2, zif_f (fun e => e c2)]
        have te2 := te_le (tx := tx) hq
        obtain ⟨M2, b2, l1, l2, l3, l4⟩ := m_kinds (ρ := ρ) x1 te2.2.1 m1 (nI p) (nI (nmv tx n (sk tx n (te tx n p)))) zJunk zJunk zJunk zJunk
        have x2 := nxF_tx l2 x1
        have s2 := nxF_sh l2 s1
        have f2 := mpF_tr f1 (nxF_mp l2)
        have hr := (sk_spec (tx := tx) (n := n) (te tx n (sk tx n (te tx n p)))).2.1 te2.2.1
        rw [l1, e_X6_tierTold_122]
        show mOut tx n M ρ (lnKind tx n T (nmv tx n (sk tx n (te tx n p))) (sk tx n (te tx n (sk tx n (te tx n p))))) _
        generalize hrr : sk tx n (te tx n (sk tx n (te tx n p))) = rr at l3 l4 hr ⊢
        unfold lnKind
        have kv := kdW_v (tx := tx) (n := n) (p := rr)
        by_cases c3 : kdW tx n rr = -1
        · have m2 := l3 c3
          obtain ⟨M3, k1, k2, k3⟩ := m_wrong0 (ρ := ρ) m2 1 (nI rr)
          rw [if_pos c3, zif_t c3, show (M2, ρ).1 16 0 12 = _ from m2.1, k1, zcV_ok, e_X6_tierTold_139, show (M3, ρ).1 16 0 14 = 1 from k2.2.2.1, if_neg (by decide), m_200bad k2.2.2.1 (by decide)]
          exact bad_out (mpF_tr f2 (nxF_mp k3)) k2
        · have m2 := l4 c3
          have te3 := te_le (tx := tx) hr
          rw [if_neg c3, zif_f c3, e_X6_tierTold_139, show (M2, ρ).1 16 0 14 = 0 from m2.2.2.1, if_pos rfl]
          show mOut tx n M ρ (zif (kdW tx n rr = 0 ∨ (kdW tx n rr = 3 ∧ ¬ (sk tx n (te tx n rr) < n ∧ isLt (tx (sk tx n (te tx n rr)))))) _ (lnPar tx n T (nmv tx n (sk tx n (te tx n p))) (kdW tx n rr) (sk tx n (te tx n rr)))) _
          rcases kv with e | e | e | e | e
          · obtain ⟨M3, k1, k2, k3⟩ := m_addT (ρ := ρ) (nm := nI (nmv tx n (sk tx n (te tx n p)))) (kd := 0) (pr := -1) s2 m2.2.2.1 c0 (Or.inl ⟨rfl, rfl⟩) (nI p) zJunk zJunk
            rw [e, if_neg (by decide), if_neg (by decide), if_neg (by decide), zif_t (Or.inl rfl), k1]
            exact ⟨M3, te tx n rr, b2, w, rfl, ⟨(k3 _ _ _ (by omega)).trans m2.1, (k3 _ _ _ (by omega)).trans m2.2.1, (k3 _ _ _ (by omega)).trans m2.2.2.1, (k3 _ _ _ (by omega)).trans m2.2.2.2⟩, te3.2.1, rfl, k2, mpF_tr f2 (oFr_mp k3)⟩
          · rw [e, if_pos rfl, zif_f (fun z => z.elim (by decide) (fun z => absurd z.1 (by decide)))]
            exact m_par x2 te3.2.1 m2 s2 c0 (Or.inl rfl) _ _ _ _ f2
          · rw [e, if_neg (by decide), if_pos rfl, zif_f (fun z => z.elim (by decide) (fun z => absurd z.1 (by decide)))]
            exact m_par x2 te3.2.1 m2 s2 c0 (Or.inr (Or.inl rfl)) _ _ _ _ f2
          · obtain ⟨M3, k1, k2, k3⟩ := m_isWordHere0 (ρ := ρ) te3.2.1 x2 m2
            have s3 := nxF_sh k3 s2
            have hsq := (sk_spec (tx := tx) (n := n) (te tx n rr)).2.1 te3.2.1
            rw [e, if_neg (by decide), if_neg (by decide), if_pos rfl, k1, zcI_ok]
            by_cases c5 : sk tx n (te tx n rr) < n ∧ isLt (tx (sk tx n (te tx n rr)))
            · rw [zb_t c5, if_neg (by decide), zif_f (fun z => z.elim (by decide) (fun z => z.2 c5))]
              have q := m_par (ρ := ρ) (M0 := M) (T := T) (nxF_tx k3 x2) hsq k2 s3 c0 (kd := 3) (Or.inr (Or.inr rfl)) (nmv tx n (sk tx n (te tx n p))) (nI p) zJunk zJunk (mpF_tr f2 (nxF_mp k3))
              rw [sk_sk] at q
              exact q
            · obtain ⟨M4, h1, h2, h3⟩ := m_addT (ρ := ρ) (nm := nI (nmv tx n (sk tx n (te tx n p)))) (kd := 3) (pr := -1) s3 k2.2.2.1 c0 (Or.inr (Or.inl ⟨rfl, rfl⟩)) (nI p) zJunk zJunk
              rw [zb_f c5, if_pos rfl, zif_t (Or.inr ⟨rfl, c5⟩), h1]
              exact ⟨M4, sk tx n (te tx n rr), b2, w, rfl, ⟨(h3 _ _ _ (by omega)).trans k2.1, (h3 _ _ _ (by omega)).trans k2.2.1, (h3 _ _ _ (by omega)).trans k2.2.2.1, (h3 _ _ _ (by omega)).trans k2.2.2.2⟩, hsq, sk_sk _, h2, mpF_tr f2 (mpF_tr (nxF_mp k3) (oFr_mp h3))⟩
          · exact absurd e c3
      · obtain ⟨M2, l1, l2, l3⟩ := m_wrong0 (ρ := ρ) m1 4 (nI (sk tx n (te tx n p)))
        rw [if_neg c2, zif_t c2, show (M1, ρ).1 16 0 13 = _ from m1.2.1, l1, zcV_ok, e_X6_tierTold_60, show (M2, ρ).1 16 0 14 = 4 from l2.2.2.1, if_pos (by decide)]
        exact bad_out (mpF_tr f1 (nxF_mp l3)) l2
    · have m1 := g4 c1
      rw [zif_t c1, show (M1, ρ).1 16 0 14 = 1 from m1.2.2.1, if_neg (by decide), e_X6_tierTold_60, show (M1, ρ).1 16 0 14 = 1 from m1.2.2.1, if_pos (by decide)]
      exact bad_out f1 m1
  · obtain ⟨M1, g1, g2, g3⟩ := m_wrong0 (ρ := ρ) hm 3 (nI p)
    rw [if_pos (show nI T.1 = 6 from (nI_eq (b := 6) (by omega) (by omega)).mpr (by omega)), zif_t c0, g1, zcV_ok, e_X6_tierTold_15, show (M1, ρ).1 16 0 14 = 3 from g2.2.2.1, if_pos (by decide)]
    exact bad_out (nxF_mp g3) g2
end ZMT2
