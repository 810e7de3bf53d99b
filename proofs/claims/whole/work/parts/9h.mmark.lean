/-! a line of a mark, the reference's side -/
section ZMM
variable {tx : Nat → Int32} {n p : Nat} {b f w : Int32} {T : zSheet} {M M0 : zMem} {ρ : Int64 × Nat}
theorem mkF_46 : ∀ k, k ≤ 4 → mkF tx 4 p k = mkF tx 6 p k := by
  intro k
  induction k with
  | zero => intro _; rfl
  | succ k ih =>
    intro hk
    show (if k < 4 then 32 * mkF tx 4 p k + lv tx (p + k) else _) = (if k < 6 then 32 * mkF tx 6 p k + lv tx (p + k) else _)
    rw [if_pos (by omega), if_pos (by omega), ih (by omega)]
theorem m_word4 (hp : p ≤ n) (hx : mTx M tx n) (hm : ms M p b 0 w) : ∃ M' v, zrun zP 172 [zR 16 0, zI 4, zI 0] (M, ρ) = zok v (M', ρ) ∧ nxF M M' ∧ (shW tx n (sk tx n p) 4 → v = lbV tx n (sk tx n p) ∧ ms M' (te tx n (sk tx n p)) (nI (sk tx n p)) 0 w) ∧ (¬ shW tx n (sk tx n p) 4 → ms M' (we tx n (sk tx n p)) (nI (sk tx n p)) 1 (nI (sk tx n p))) := by
  obtain ⟨M1, g1, g2, g3, g4⟩ := m_word (mo := 4) (ρ := ρ) (by omega) hp hx hm False
  rw [zb_f id, zif_f id] at g1
  refine ⟨M1, _, g1, g2, fun s => ⟨?_, by rw [te_lt s.1 s.2.1]; exact g3 s⟩, g4⟩
  rw [mkF_46 _ s.2.2]
  rfl
theorem m_lab0 (hp : p ≤ n) (hx : mTx M tx n) (hm : ms M p b 0 w) : ∃ M' v, zrun zP 178 [zR 16 0] (M, ρ) = zok v (M', ρ) ∧ nxF M M' ∧ (¬ (sk tx n p < n ∧ isLt (tx (sk tx n p))) → v = 0 ∧ ms M' (sk tx n p) b 0 w) ∧ (sk tx n p < n ∧ isLt (tx (sk tx n p)) → shW tx n (sk tx n p) 4 → v = lbV tx n (sk tx n p) ∧ ms M' (te tx n (sk tx n p)) (nI (sk tx n p)) 0 w) ∧ (sk tx n p < n ∧ isLt (tx (sk tx n p)) → ¬ shW tx n (sk tx n p) 4 → ms M' (we tx n (sk tx n p)) (nI (sk tx n p)) 1 (nI (sk tx n p))) := by
  obtain ⟨M1, g1, g2, g3⟩ := m_isWordHere0 (ρ := ρ) hp hx hm
  have hq := (sk_spec (tx := tx) (n := n) p).2.1 hp
  by_cases c : sk tx n p < n ∧ isLt (tx (sk tx n p))
  · obtain ⟨M2, v, l1, l2, l3, l4⟩ := m_word4 (ρ := ρ) hq (nxF_tx g3 hx) g2
    rw [sk_sk] at l3 l4
    refine ⟨M2, v, ?_, nxF_tr g3 l2, fun e => absurd c e, fun _ => l3, fun _ => l4⟩
    rw [e_X6_labelHere, g1, zcI_ok, zb_t c, if_neg (by decide), l1, zcI_ok]
  · refine ⟨M1, 0, ?_, g3, fun _ => ⟨rfl, g2⟩, fun e => absurd e c, fun e => absurd e c⟩
    rw [e_X6_labelHere, g1, zcI_ok, zb_f c, if_pos rfl]
theorem m_lab1 (hp : p ≤ n) (hx : mTx M tx n) (hm : ms M p b f w) (hf : ¬ f = 0) : ∃ M', zrun zP 178 [zR 16 0] (M, ρ) = zok 0 (M', ρ) ∧ nxF M M' ∧ ms M' (sk tx n p) b f w := by
  obtain ⟨M1, g1, g2, g3⟩ := m_isWordHere1 (ρ := ρ) hp hx hm hf
  refine ⟨M1, ?_, g3, g2⟩
  rw [e_X6_labelHere, g1, zcI_ok, if_pos rfl]
/-- a name that is known, and a time -/
theorem m_front (hp : p ≤ n) (hx : mTx M tx n) (hm : ms M p b 0 w) (hS : mSheet M 31 T) (v : Int32) : ∃ M1 M2 r1 r2, zrun zP 176 [zR 16 0] (M, ρ) = zok r1 (M1, ρ) ∧ zrun zP 174 [zR 16 0, zI 0] (M1, ρ) = zok r2 (M2, ρ) ∧ nxF M M2 ∧ ((∃ k pl p2 b2, 0 < k ∧ p2 ≤ n ∧ ms M2 p2 b2 k (nI pl) ∧ lnKno tx n T v (sk tx n p) = .inl (k, pl)) ∨ (∃ t, t < T.1 ∧ r1 = nI t ∧ M1 16 0 13 = nI (sk tx n p) ∧ r2 = nI (nmT tx n (nx tx n (sk tx n p))) ∧ nmT tx n (nx tx n (sk tx n p)) ≤ 999 ∧ ms M2 (te tx n (nx tx n (sk tx n p))) (nI (sk tx n p)) 0 w ∧ nx tx n (sk tx n p) ≤ n ∧ lnKno tx n T v (sk tx n p) = lnVrb tx n T v t (nmT tx n (nx tx n (sk tx n p))) (sk tx n p) (nx tx n (nx tx n (sk tx n p))))) := by
  obtain ⟨k1, k2, k3⟩ := m_known (ρ := ρ) hp hx hm hS
  have h6 := hS.2.1
  have hq := (sk_spec (tx := tx) (n := n) p).2.1 hp
  have te1 := te_le (tx := tx) hq
  have ws := we_spec (tx := tx) (n := n) (sk tx n p)
  unfold lnKno
  by_cases c1 : shW tx n (sk tx n p) 6
  · rw [zif_f (fun e => e c1)]
    by_cases c2 : ixN T (nmv tx n (sk tx n p)) = -1
    · obtain ⟨M1, g1, g2, g3⟩ := k2 c1 c2
      obtain ⟨M2, l1, l2, l3⟩ := m_number1 (ρ := ρ) 0 te1.2.1 (nxF_tx g2 hx) g3 (by decide)
      rw [zif_t c2]
      exact ⟨M1, M2, _, _, g1, l1, nxF_tr g2 l2, Or.inl ⟨5, sk tx n p, _, _, by decide, (sk_spec (tx := tx) (n := n) _).2.1 te1.2.1, l3, rfl⟩⟩
    · obtain ⟨M1, g1, g2, g3⟩ := k1 c1 c2
      obtain ⟨t, t1, t2⟩ := ixN_n h6 c2
      rw [zif_f c2, t2, nI_clamp (show t < 2 ^ 31 by omega)]
      rw [t2] at g1
      obtain ⟨M2, v2, l1, l2, l3, l4⟩ := m_number0 (ρ := ρ) 0 (by omega) te1.2.1 (nxF_tx g2 hx) g3
      have hr := (sk_spec (tx := tx) (n := n) (te tx n (sk tx n p))).2.1 te1.2.1
      have te2 := te_le (tx := tx) hr
      unfold lnTim
      show ∃ M1 M2 r1 r2, _ ∧ _ ∧ _ ∧ ((∃ k pl p2 b2, 0 < k ∧ p2 ≤ n ∧ ms M2 p2 b2 k (nI pl) ∧ zif (¬ isTm tx n (sk tx n (te tx n (sk tx n p)))) (Sum.inl (1, sk tx n (te tx n (sk tx n p)))) (zif (¬ nmT tx n (sk tx n (te tx n (sk tx n p))) ≤ 999) (Sum.inl (2, sk tx n (te tx n (sk tx n p)))) _) = _) ∨ _)
      by_cases c3 : isTm tx n (sk tx n (te tx n (sk tx n p)))
      · obtain ⟨e1, e2, e3⟩ := l4 c3
        have nt := nmT_M (tx := tx) (n := n) (sk tx n (te tx n (sk tx n p)))
        have td := te_dg c3.1 c3.2
        by_cases c4 : nmT tx n (sk tx n (te tx n (sk tx n p))) ≤ 999
        · have e2' := e2 ⟨Nat.zero_le _, by omega⟩
          refine ⟨M1, M2, _, _, g1, l1, nxF_tr g2 l2, Or.inr ⟨t, t1, rfl, g3.2.1, ?_, c4, ?_, hr, ?_⟩⟩
          · show v2 = nI (nmT tx n (sk tx n (te tx n (sk tx n p))))
            rw [e1]; congr 1; omega
          · show ms M2 (te tx n (sk tx n (te tx n (sk tx n p)))) _ 0 w
            rw [td]; exact e2'
          · show zif _ _ (zif _ _ _) = _
            rw [zif_f (show ¬ ¬ isTm tx n (nx tx n (sk tx n p)) from fun e => e c3), zif_f (show ¬ ¬ nmT tx n (nx tx n (sk tx n p)) ≤ 999 from fun e => e c4)]
        · have e3' := e3 (fun e => c4 (by omega))
          refine ⟨M1, M2, _, _, g1, l1, nxF_tr g2 l2, Or.inl ⟨2, sk tx n (te tx n (sk tx n p)), _, _, by decide, (de_spec (tx := tx) (n := n) _).2.1 hr, e3', ?_⟩⟩
          rw [zif_f (fun e => e c3), zif_t c4]
      · refine ⟨M1, M2, _, _, g1, l1, nxF_tr g2 l2, Or.inl ⟨1, sk tx n (te tx n (sk tx n p)), _, _, by decide, hr, l3 c3, ?_⟩⟩
        rw [zif_t c3]
  · obtain ⟨M1, g1, g2, g3⟩ := k3 c1
    obtain ⟨M2, l1, l2, l3⟩ := m_number1 (ρ := ρ) 0 (ws.2.1 hq) (nxF_tx g2 hx) g3 (by decide)
    rw [zif_t c1]
    exact ⟨M1, M2, _, _, g1, l1, nxF_tr g2 l2, Or.inl ⟨1, sk tx n p, _, _, by decide, (sk_spec (tx := tx) (n := n) _).2.1 (ws.2.1 hq), l3, rfl⟩⟩
/-- the label, then the mark comes -/
theorem m_fin (hp : p ≤ n) (hx : mTx M tx n) (hm : ms M p b 0 w) {j : zSt → Int32 → zRes} {F : Int32 → zSheet} (hF : mpF M0 M) (hj : ∀ M' l, nxF M M' → ∃ M'', j (M', ρ) l = zvd (M'', ρ) ∧ mSheet M'' 31 (F l) ∧ oFr M' M'') : mOut tx n M0 ρ (lnLab tx n (sk tx n p) (F 0) F) (zcI (zrun zP 178 [zR 16 0] (M, ρ)) (fun r s => if (s.1 16 0 14) = 0 then j s r else zvd s)) := by
  obtain ⟨M1, v, g1, g2, g3, g4, g5⟩ := m_lab0 (ρ := ρ) hp hx hm
  have hq := (sk_spec (tx := tx) (n := n) p).2.1 hp
  rw [g1, zcI_ok]
  unfold lnLab
  obtain ⟨M2, k1, k2, k3⟩ := hj M1 v g2
  have keep : ∀ {p' : Nat} {b' w' : Int32}, ms M1 p' b' 0 w' → ms M2 p' b' 0 w' := fun h => ⟨(k3 _ _ _ (by omega)).trans h.1, (k3 _ _ _ (by omega)).trans h.2.1, (k3 _ _ _ (by omega)).trans h.2.2.1, (k3 _ _ _ (by omega)).trans h.2.2.2⟩
  by_cases c : sk tx n p < n ∧ isLt (tx (sk tx n p))
  · rw [zif_t c]
    by_cases c1 : shW tx n (sk tx n p) 4
    · obtain ⟨e1, e2⟩ := g4 c c1
      rw [zif_f (fun e => e c1), show (M1, ρ).1 16 0 14 = 0 from e2.2.2.1, if_pos rfl, k1]
      rw [e1] at k2
      exact ⟨M2, te tx n (sk tx n p), _, _, rfl, keep e2, (te_le hq).2.1, rfl, k2, mpF_tr hF (mpF_tr (nxF_mp g2) (oFr_mp k3))⟩
    · have e2 := g5 c c1
      rw [zif_t c1, show (M1, ρ).1 16 0 14 = 1 from e2.2.2.1, if_neg (by decide)]
      exact bad_out (mpF_tr hF (nxF_mp g2)) e2
  · obtain ⟨e1, e2⟩ := g3 c
    rw [zif_f c, show (M1, ρ).1 16 0 14 = 0 from e2.2.2.1, if_pos rfl, k1]
    rw [e1] at k2
    exact ⟨M2, sk tx n p, _, _, rfl, keep e2, hq, sk_sk _, k2, mpF_tr hF (mpF_tr (nxF_mp g2) (oFr_mp k3))⟩
theorem m_finbad (hp : p ≤ n) (hx : mTx M tx n) {q : Nat} (hm : ms M p b f (nI q)) (hf : ¬ f = 0) {j : zSt → Int32 → zRes} (hF : mpF M0 M) : mOut tx n M0 ρ (.inl (f, q)) (zcI (zrun zP 178 [zR 16 0] (M, ρ)) (fun r s => if (s.1 16 0 14) = 0 then j s r else zvd s)) := by
  obtain ⟨M1, g1, g2, g3⟩ := m_lab1 (ρ := ρ) hp hx hm hf
  rw [g1, zcI_ok, show (M1, ρ).1 16 0 14 = f from g3.2.2.1, if_neg hf]
  exact bad_out (mpF_tr hF (nxF_mp g2)) g3
theorem m_markTold (ok : zOk T) (hp : p ≤ n) (hx : mTx M tx n) (hm : ms M p b 0 w) (hS : mSheet M 31 T) : mOut tx n M ρ (lnKno tx n T 1 (sk tx n p)) (zrun zP 179 [zR 16 0] (M, ρ)) := by
  obtain ⟨M1, M2, r1, r2, g1, g2, g3, g4⟩ := m_front (ρ := ρ) hp hx hm hS 1
  have x2 := nxF_tx g3 hx
  have s2 := nxF_sh g3 hS
  have f2 := nxF_mp g3
  rw [e_X6_markTold, g1, zcI_ok, g2, zcI_ok]
  rcases g4 with ⟨k, pl, p2, b2, k0, k1, k2, k3⟩ | ⟨t, t1, t2, t3, t4, t5, t6, t7, t8⟩
  · have kn : ¬ k = 0 := fun e => by rw [e] at k0; exact absurd k0 (by decide)
    obtain ⟨M3, l1, l2, l3⟩ := m_number1 (ρ := ρ) 0 k1 x2 k2 k0
    have hq := (sk_spec (tx := tx) (n := n) p2).2.1 k1
    rw [k3, show (M2, ρ).1 16 0 14 = k from k2.2.2.1, if_neg kn, l1, zcI_ok, show (M3, ρ).1 16 0 14 = k from l3.2.2.1, if_neg kn, if_neg kn]
    exact m_finbad hq (nxF_tx l2 x2) l3 kn (mpF_tr f2 (nxF_mp l2))
  · subst t2
    subst t4
    rw [t8]
    unfold lnVrb
    rw [if_pos rfl, show (M2, ρ).1 16 0 14 = 0 from t6.2.2.1, if_pos rfl, nI_1]
    have te2 := te_le (tx := tx) t7
    obtain ⟨M3, v3, l1, l2, l3, l4⟩ := m_number0 (ρ := ρ) (nmT tx n (nx tx n (sk tx n p)) + 1) (by omega) te2.2.1 x2 t6
    have hs := (sk_spec (tx := tx) (n := n) (te tx n (nx tx n (sk tx n p)))).2.1 te2.2.1
    have x3 := nxF_tx l2 x2
    have s3 := nxF_sh l2 s2
    have f3 := mpF_tr f2 (nxF_mp l2)
    have h13 : (M1, ρ).1 16 0 13 = nI (sk tx n p) := t3
    rw [l1, zcI_ok]
    unfold lnPut
    show mOut tx n M ρ (zif (¬ isTm tx n (sk tx n (te tx n (nx tx n (sk tx n p))))) (Sum.inl (1, sk tx n (te tx n (nx tx n (sk tx n p))))) _) _
    by_cases c3 : isTm tx n (sk tx n (te tx n (nx tx n (sk tx n p))))
    · rw [zif_f (fun e => e c3)]
      obtain ⟨e1, e2, e3⟩ := l4 c3
      have nt := nmT_M (tx := tx) (n := n) (sk tx n (te tx n (nx tx n (sk tx n p))))
      have td := te_dg c3.1 c3.2
      show mOut tx n M ρ (zif (¬ (nmT tx n (sk tx n (te tx n (nx tx n (sk tx n p)))) ≤ 999 ∧ nmT tx n (nx tx n (sk tx n p)) < nmT tx n (sk tx n (te tx n (nx tx n (sk tx n p)))))) (Sum.inl (2, sk tx n (te tx n (nx tx n (sk tx n p))))) _) _
      by_cases c4 : nmT tx n (sk tx n (te tx n (nx tx n (sk tx n p)))) ≤ 999 ∧ nmT tx n (nx tx n (sk tx n p)) < nmT tx n (sk tx n (te tx n (nx tx n (sk tx n p))))
      · have e2' := e2 ⟨by omega, by omega⟩
        have ev : v3 = nI (nmT tx n (sk tx n (te tx n (nx tx n (sk tx n p))))) := by rw [e1]; congr 1; omega
        subst ev
        have te3 := te_le (tx := tx) hs
        rw [td] at te3
        rw [zif_f (fun e => e c4), show (M3, ρ).1 16 0 14 = 0 from e2'.2.2.1, if_pos rfl, m_mayPut (σ := (M3, ρ)) s3 ok.1 ok.2.1 t1, zcI_ok, h13]
        show mOut tx n M ρ (zif (¬ pMayPut T t (nI (nmT tx n (nx tx n (sk tx n p)))) (nI (nmT tx n (sk tx n (te tx n (nx tx n (sk tx n p))))))) _ _) _
        by_cases c5 : pMayPut T t (nI (nmT tx n (nx tx n (sk tx n p)))) (nI (nmT tx n (sk tx n (te tx n (nx tx n (sk tx n p))))))
        · rw [zb_t c5, if_neg (by decide), zif_f (fun e => e c5), show (M3, ρ).1 16 0 14 = 0 from e2'.2.2.1, if_pos rfl, m_hasRoom (σ := (M3, ρ)) s3 ok.1 t1, zcI_ok]
          by_cases c6 : pRoomM T t
          · rw [zb_t c6, if_neg (by decide), zif_f (fun e => e c6)]
            have q := m_fin (ρ := ρ) (M0 := M) te3.2.1 x3 e2' (j := fun s r => zcI (zrun zP 159 [zR 16 0, zI (nI t), zI (nI (nmT tx n (nx tx n (sk tx n p)))), zI (nI (nmT tx n (sk tx n (te tx n (nx tx n (sk tx n p)))))), zI r] s) (fun r19 s19 => zvd s19)) (F := fun l => sPut T t (nI (nmT tx n (nx tx n (sk tx n p)))) (nI (nmT tx n (sk tx n (te tx n (nx tx n (sk tx n p)))))) l) f3 (fun M' l hM' => by
              obtain ⟨M5, h1, h2, h3⟩ := m_puts (i := 0) (ρ := ρ) (nxF_sh hM' s3) ok.1 t1 c6 (nI (nmT tx n (nx tx n (sk tx n p)))) (nI (nmT tx n (sk tx n (te tx n (nx tx n (sk tx n p)))))) l
              exact ⟨M5, by show zcI _ _ = _; rw [h1, zcI_ok], h2, h3⟩)
            rw [← td] at q
            exact q
          · obtain ⟨M4, h1, h2, h3⟩ := m_wrong0 (ρ := ρ) e2' 3 (nI (sk tx n p))
            rw [zb_f c6, if_pos rfl, zif_t c6, h1, zcV_ok]
            exact m_finbad te3.2.1 (nxF_tx h3 x3) h2 (by decide) (mpF_tr f3 (nxF_mp h3))
        · obtain ⟨M4, h1, h2, h3⟩ := m_wrong0 (ρ := ρ) e2' 6 (nI (sk tx n p))
          rw [zb_f c5, if_pos rfl, zif_t c5, h1, zcV_ok, show (M4, ρ).1 16 0 14 = 6 from h2.2.2.1, if_neg (by decide)]
          exact m_finbad te3.2.1 (nxF_tx h3 x3) h2 (by decide) (mpF_tr f3 (nxF_mp h3))
      · have e3' := e3 (fun e => c4 ⟨by omega, by omega⟩)
        rw [zif_t c4, show (M3, ρ).1 16 0 14 = 2 from e3'.2.2.1, if_neg (by decide), if_neg (by decide)]
        exact m_finbad ((de_spec (tx := tx) (n := n) _).2.1 hs) x3 e3' (by decide) f3
    · have e3' := l3 c3
      rw [zif_t c3, show (M3, ρ).1 16 0 14 = 1 from e3'.2.2.1, if_neg (by decide), if_neg (by decide)]
      exact m_finbad hs x3 e3' (by decide) f3
end ZMM
