/-! lines of points, cuts and labels, the reference's side -/
section ZMP
variable {tx : Nat → Int32} {n p : Nat} {b f w : Int32} {T : zSheet} {M M0 : zMem} {ρ : Int64 × Nat}
theorem oFr_ms {M' : zMem} {p' : Nat} {b' f' w' : Int32} (k3 : oFr M M') (h : ms M p' b' f' w') : ms M' p' b' f' w' := ⟨(k3 _ _ _ (by omega)).trans h.1, (k3 _ _ _ (by omega)).trans h.2.1, (k3 _ _ _ (by omega)).trans h.2.2.1, (k3 _ _ _ (by omega)).trans h.2.2.2⟩
theorem m_pointTold (ok : zOk T) (hp : p ≤ n) (hx : mTx M tx n) (hm : ms M p b 0 w) (hS : mSheet M 31 T) : mOut tx n M ρ (lnKno tx n T 2 (sk tx n p)) (zrun zP 180 [zR 16 0] (M, ρ)) := by
  obtain ⟨M1, M2, r1, r2, g1, g2, g3, g4⟩ := m_front (ρ := ρ) hp hx hm hS 2
  have h6 := hS.2.1
  have x2 := nxF_tx g3 hx
  have s2 := nxF_sh g3 hS
  have f2 := nxF_mp g3
  rw [e_X6_pointTold, g1, zcI_ok, g2, zcI_ok]
  rcases g4 with ⟨k, pl, p2, b2, k0, k1, k2, k3⟩ | ⟨t, t1, t2, t3, t4, t5, t6, t7, t8⟩
  · have kn : ¬ k = 0 := fun e => by rw [e] at k0; exact absurd k0 (by decide)
    rw [k3, show (M2, ρ).1 16 0 14 = k from k2.2.2.1, if_neg kn, if_neg kn]
    exact m_finbad k1 x2 k2 kn f2
  · subst t2
    subst t4
    rw [t8]
    have te2 := te_le (tx := tx) t7
    have h13 : (M1, ρ).1 16 0 13 = nI (sk tx n p) := t3
    have hr := s2.2.2 t t1
    have h40 := hr.2.2.2.2.1
    unfold lnVrb
    rw [if_neg (by decide), if_pos rfl, show (M2, ρ).1 16 0 14 = 0 from t6.2.2.1, if_pos rfl, m_mayPoint (σ := (M2, ρ)) s2 ok.1 (zOk_po ok) t1, zcI_ok, h13]
    unfold lnPoi
    by_cases c5 : pMayPoint T t (nI (nmT tx n (nx tx n (sk tx n p))))
    · rw [zb_t c5, if_neg (by decide), zif_f (fun e => e c5), show (M2, ρ).1 16 0 14 = 0 from t6.2.2.1, if_pos rfl, m_many (σ := (M2, ρ)) hr (by omega), zcI_ok]
      by_cases c6 : rct (T.2 t) < 40
      · rw [if_neg (fun e => absurd ((nI_40 h40).mpr c6) (by rw [e]; decide)), zif_f (fun e => e c6)]
        exact m_fin (ρ := ρ) (M0 := M) te2.2.1 x2 t6 (j := fun s r => zcI (zrun zP 153 [zR 16 0, zI (nI t), zI (nI (nmT tx n (nx tx n (sk tx n p)))), zI (nI (nmT tx n (nx tx n (sk tx n p)))), zI r] s) (fun r19 s19 => zvd s19)) (F := fun l => sUp T t (tIns (T.2 t) (nI (nmT tx n (nx tx n (sk tx n p)))) (nI (nmT tx n (nx tx n (sk tx n p)))) l)) f2 (fun M' l hM' => by
          have s' := nxF_sh hM' s2
          obtain ⟨M5, h1, h2, h3⟩ := m_inserts (i := 0) (ρ := ρ) (s'.2.2 t t1) (by omega) c6 (nI (nmT tx n (nx tx n (sk tx n p)))) (nI (nmT tx n (nx tx n (sk tx n p)))) l
          exact ⟨M5, by show zcI _ _ = _; rw [h1, zcI_ok], mSheet_up s' t1 h2 h3, mFr_o h3⟩)
      · obtain ⟨M4, h1, h2, h3⟩ := m_wrong0 (ρ := ρ) t6 3 (nI (sk tx n p))
        rw [if_pos (show nI (rct (T.2 t)) = 40 by rw [show rct (T.2 t) = 40 by omega]; rfl), zif_t c6, h1, zcV_ok]
        exact m_finbad te2.2.1 (nxF_tx h3 x2) h2 (by decide) (mpF_tr f2 (nxF_mp h3))
    · obtain ⟨M4, h1, h2, h3⟩ := m_wrong0 (ρ := ρ) t6 6 (nI (sk tx n p))
      rw [zb_f c5, if_pos rfl, zif_t c5, h1, zcV_ok, show (M4, ρ).1 16 0 14 = 6 from h2.2.2.1, if_neg (by decide)]
      exact m_finbad te2.2.1 (nxF_tx h3 x2) h2 (by decide) (mpF_tr f2 (nxF_mp h3))
theorem m_spbad (hp : p ≤ n) (hx : mTx M tx n) {q : Nat} (hm : ms M p b f (nI q)) (hf : 0 < f) {j : zSt → Int32 → Int32 → zRes} (hF : mpF M0 M) : mOut tx n M0 ρ (.inl (f, q)) (zcI (zrun zP 173 [zR 16 0] (M, ρ)) (fun r7 s7 => zcI (zrun zP 178 [zR 16 0] s7) (fun r8 s8 => if (0 : Int32) < (s8.1 16 0 14) then zvd s8 else j s8 r7 r8))) := by
  have kn : ¬ f = 0 := fun e => by rw [e] at hf; exact absurd hf (by decide)
  obtain ⟨M1, g1, g2, g3⟩ := m_isWordHere1 (ρ := ρ) hp hx hm kn
  have hq := (sk_spec (tx := tx) (n := n) p).2.1 hp
  obtain ⟨M2, l1, l2, l3⟩ := m_lab1 (ρ := ρ) hq (nxF_tx g3 hx) g2 kn
  rw [g1, zcI_ok, l1, zcI_ok, show (M2, ρ).1 16 0 14 = f from l3.2.2.1, if_pos hf]
  exact bad_out (mpF_tr hF (mpF_tr (nxF_mp g3) (nxF_mp l2))) l3
theorem m_setlab {S : zSheet} (hS : mSheet M 31 S) {t k : Nat} (ht : t < S.1) (hk : k < rct (S.2 t)) (l : Int32) : zcI (zrun zP 143 [zI (nI t), zI (nI k), zI 2] (M, ρ)) (fun r11 s11 => if r11 < 0 ∨ 745 ≤ Int32.toNatClampNeg r11 then none else zvd (zms s11.1 31 0 (Int32.toNatClampNeg r11) l, s11.2)) = zvd (zms M 31 0 (7 + 124 * t + 3 * k) l, ρ) ∧ mSheet (zms M 31 0 (7 + 124 * t + 3 * k) l) 31 (sUp S t (tLab (S.2 t) k l)) ∧ oFr M (zms M 31 0 (7 + 124 * t + 3 * k) l) := by
  have h6 := hS.2.1
  have hr := hS.2.2 t ht
  have h40 := hr.2.2.2.2.1
  have c1 := nIk (k := 7 + 124 * t + 3 * k) (N := 745) (by omega) (by omega)
  have d1 := nI_clamp (n := 7 + 124 * t + 3 * k) (by omega)
  have hfr : mFr M (zms M 31 0 (7 + 124 * t + 3 * k) l) t := mse_fr (c := 2) (by omega) (by omega)
  refine ⟨?_, mSheet_up hS ht (ms_lab (m := k) hr l) hfr, mFr_o hfr⟩
  rw [m_cell2, zcI_ok]
  simp only [c1, d1, if_false]
theorem m_spfin (ok : zOk T) (hp : p ≤ n) (hx : mTx M tx n) (hm : ms M p b 0 w) (hS : mSheet M 31 T) {t : Nat} (t1 : t < T.1) {x : Int32} (c1 : pSplT T t x) (c2 : pRoomC T t x) (hF : mpF M0 M) : mOut tx n M0 ρ (lnLab tx n (sk tx n p) (sCut T t x) (fun l => sCutL T t x l)) (zcI (zrun zP 173 [zR 16 0] (M, ρ)) (fun r7 s7 => zcI (zrun zP 178 [zR 16 0] s7) (fun r8 s8 => if (0 : Int32) < (s8.1 16 0 14) then zvd s8 else (zcI (zrun zP 162 [zR 16 0, zI (nI t), zI x] s8) (fun r9 s9 => zcI (zrun zP 165 [zR 16 0, zI (nI t), zI x] s9) (fun r10 s10 => if r7 = 0 then zvd s10 else (zcI (zrun zP 143 [zI (nI t), zI (r9 + 1), zI 2] s10) (fun r11 s11 => if r11 < 0 ∨ 745 ≤ Int32.toNatClampNeg r11 then none else zvd (zms s11.1 31 0 (Int32.toNatClampNeg r11) r8, s11.2))))))))) := by
  have h6 := hS.2.1
  have hr := hS.2.2 t t1
  have h40 := hr.2.2.2.2.1
  obtain ⟨k, kk, ki, kc, -⟩ := cut_at (ok.2.2.2.1 t t1).1 c1.1 (c2 t t1 ⟨Or.inl rfl, c1.2.1⟩) c1.2.1
  obtain ⟨M1, g1, g2, g3⟩ := m_isWordHere0 (ρ := ρ) hp hx hm
  have hq := (sk_spec (tx := tx) (n := n) p).2.1 hp
  obtain ⟨M2, v, l1, l2, l3, l4, l5⟩ := m_lab0 (ρ := ρ) hq (nxF_tx g3 hx) g2
  rw [sk_sk] at l3 l4 l5
  have fr2 := nxF_tr g3 l2
  have s2 := nxF_sh fr2 hS
  obtain ⟨M3, k1, k2, k3⟩ := m_splits (i := 0) (ρ := ρ) s2 ok.1 t1 x c2
  have e2 : (sCut T t x).2 t = tCutAt (T.2 t) x := sMapK_t ⟨t1, t1, Or.inl rfl⟩
  rw [g1, zcI_ok, l1, zcI_ok]
  unfold lnLab
  by_cases c : sk tx n p < n ∧ isLt (tx (sk tx n p))
  · rw [zif_t c]
    by_cases c3 : shW tx n (sk tx n p) 4
    · obtain ⟨e1, e3⟩ := l4 c c3
      obtain ⟨q1, q2, q3⟩ := m_setlab (ρ := ρ) k2 (t := t) (k := k + 1) t1 (by rw [e2, kc]; omega) v
      rw [zif_f (fun e => e c3), show (M2, ρ).1 16 0 14 = 0 from e3.2.2.1, if_neg (by decide), m_markWithP (σ := (M2, ρ)) (s2.2.2 t t1) (by omega), zcI_ok, k1, zcI_ok, zb_t c, if_neg (by decide), ki, nI_1, q1]
      refine ⟨_, te tx n (sk tx n p), _, _, rfl, oFr_ms (oFr_tr k3 q3) e3, (te_le hq).2.1, rfl, ?_, mpF_tr hF (mpF_tr (nxF_mp fr2) (oFr_mp (oFr_tr k3 q3)))⟩
      unfold sCutL
      rw [ki, nI_clamp (show k < 2 ^ 31 by omega), ← e1]
      exact q2
    · have e3 := l5 c c3
      rw [zif_t c3, show (M2, ρ).1 16 0 14 = 1 from e3.2.2.1, if_pos (by decide)]
      exact bad_out (mpF_tr hF (nxF_mp fr2)) e3
  · obtain ⟨e1, e3⟩ := l3 c
    rw [zif_f c, show (M2, ρ).1 16 0 14 = 0 from e3.2.2.1, if_neg (by decide), m_markWithP (σ := (M2, ρ)) (s2.2.2 t t1) (by omega), zcI_ok, k1, zcI_ok, zb_f c, if_pos rfl]
    exact ⟨M3, sk tx n p, _, _, rfl, oFr_ms k3 e3, hq, sk_sk _, k2, mpF_tr hF (mpF_tr (nxF_mp fr2) (oFr_mp k3))⟩
theorem m_splitTold (ok : zOk T) (hp : p ≤ n) (hx : mTx M tx n) (hm : ms M p b 0 w) (hS : mSheet M 31 T) : mOut tx n M ρ (lnKno tx n T 3 (sk tx n p)) (zrun zP 181 [zR 16 0] (M, ρ)) := by
  obtain ⟨M1, M2, r1, r2, g1, g2, g3, g4⟩ := m_front (ρ := ρ) hp hx hm hS 3
  have h6 := hS.2.1
  have x2 := nxF_tx g3 hx
  have s2 := nxF_sh g3 hS
  have f2 := nxF_mp g3
  rw [e_X6_splitTold, g1, zcI_ok, g2, zcI_ok]
  rcases g4 with ⟨k, pl, p2, b2, k0, k1, k2, k3⟩ | ⟨t, t1, t2, t3, t4, t5, t6, t7, t8⟩
  · have kn : ¬ k = 0 := fun e => by rw [e] at k0; exact absurd k0 (by decide)
    rw [k3, show (M2, ρ).1 16 0 14 = k from k2.2.2.1, if_neg kn, if_neg kn]
    exact m_spbad k1 x2 k2 k0 f2
  · subst t2
    subst t4
    rw [t8]
    have te2 := te_le (tx := tx) t7
    have h13 : (M1, ρ).1 16 0 13 = nI (sk tx n p) := t3
    have hr := s2.2.2 t t1
    have h40 := hr.2.2.2.2.1
    unfold lnVrb
    rw [if_neg (by decide), if_neg (by decide), if_pos rfl, show (M2, ρ).1 16 0 14 = 0 from t6.2.2.1, if_pos rfl, m_kind (σ := (M2, ρ)) hr (by omega), zcI_ok, h13]
    unfold lnSpl
    generalize nI (nmT tx n (nx tx n (sk tx n p))) = x
    obtain ⟨M4, h1, h2, h3⟩ := m_wrong0 (ρ := ρ) t6 6 (nI (sk tx n p))
    by_cases d1 : rkd (T.2 t) = 3
    · rw [if_pos d1, zif_t (show ¬ pSplT T t x from fun e => e.1 d1), h1, zcV_ok, show (M4, ρ).1 16 0 14 = 6 from h2.2.2.1, if_neg (by decide)]
      exact m_spbad te2.2.1 (nxF_tx h3 x2) h2 (by decide) (mpF_tr f2 (nxF_mp h3))
    · rw [if_neg d1, m_markWithP (σ := (M2, ρ)) hr (by omega), zcI_ok]
      by_cases d2 : pIn (T.2 t) x = -1
      · rw [if_pos d2, zif_t (show ¬ pSplT T t x from fun e => e.2.1 d2), h1, zcV_ok, show (M4, ρ).1 16 0 14 = 6 from h2.2.2.1, if_neg (by decide)]
        exact m_spbad te2.2.1 (nxF_tx h3 x2) h2 (by decide) (mpF_tr f2 (nxF_mp h3))
      · rw [if_neg d2, m_maySplit (σ := (M2, ρ)) s2 ok.1 t1, zcI_ok]
        by_cases d3 : pNoIn T t x
        · rw [zb_t d3, if_neg (by decide), zif_f (fun e => e ⟨d1, d2, d3⟩), show (M2, ρ).1 16 0 14 = 0 from t6.2.2.1, if_pos rfl, m_hasRoomToSplit (σ := (M2, ρ)) s2 ok.1 t1, zcI_ok]
          by_cases d4 : pRoomC T t x
          · rw [zb_t d4, if_neg (by decide), zif_f (fun e => e d4)]
            exact m_spfin ok te2.2.1 x2 t6 s2 t1 ⟨d1, d2, d3⟩ d4 f2
          · obtain ⟨M5, h1, h2, h3⟩ := m_wrong0 (ρ := ρ) t6 3 (nI (sk tx n p))
            rw [zb_f d4, if_pos rfl, zif_t d4, h1, zcV_ok]
            exact m_spbad te2.2.1 (nxF_tx h3 x2) h2 (by decide) (mpF_tr f2 (nxF_mp h3))
        · rw [zb_f d3, if_pos rfl, zif_t (show ¬ pSplT T t x from fun e => d3 e.2.2), h1, zcV_ok, show (M4, ρ).1 16 0 14 = 6 from h2.2.2.1, if_neg (by decide)]
          exact m_spbad te2.2.1 (nxF_tx h3 x2) h2 (by decide) (mpF_tr f2 (nxF_mp h3))
theorem at_k {t : Nat} {x : Int32} (c1 : ¬ atI T t x = -1) : ∃ k, k < rct (T.2 t) ∧ atI T t x = nI k := by
  unfold atI zfI at c1 ⊢
  cases hz : zfst (pAt (T.2 t) x) 0 (rct (T.2 t)) with
  | none => rw [hz] at c1; exact absurd rfl c1
  | some k =>
    obtain ⟨z1, z2, -⟩ := (zfst_spec _ _ _).mp hz
    exact ⟨k, by omega, rfl⟩
theorem m_labelTold (hp : p ≤ n) (hx : mTx M tx n) (hm : ms M p b 0 w) (hS : mSheet M 31 T) : mOut tx n M ρ (lnKno tx n T 4 (sk tx n p)) (zrun zP 183 [zR 16 0] (M, ρ)) := by
  obtain ⟨M1, M2, r1, r2, g1, g2, g3, g4⟩ := m_front (ρ := ρ) hp hx hm hS 4
  have h6 := hS.2.1
  have x2 := nxF_tx g3 hx
  have s2 := nxF_sh g3 hS
  have f2 := nxF_mp g3
  rw [e_X6_labelTold, g1, zcI_ok, g2, zcI_ok]
  rcases g4 with ⟨k, pl, p2, b2, k0, k1, k2, k3⟩ | ⟨t, t1, t2, t3, t4, t5, t6, t7, t8⟩
  · have kn : ¬ k = 0 := fun e => by rw [e] at k0; exact absurd k0 (by decide)
    rw [k3, show (M2, ρ).1 16 0 14 = k from k2.2.2.1, if_neg kn, if_neg kn, if_neg kn]
    exact bad_out f2 k2
  · subst t2
    subst t4
    rw [t8]
    have te2 := te_le (tx := tx) t7
    have h13 : (M1, ρ).1 16 0 13 = nI (sk tx n p) := t3
    have hr := s2.2.2 t t1
    have h40 := hr.2.2.2.2.1
    have ma : ∀ M' : zMem, mSheet M' 31 T → ∀ x, zrun zP 182 [zR 16 0, zI (nI t), zI x] (M', ρ) = zok (atI T t x) (M', ρ) := fun M' s' x => m_markAt (σ := (M', ρ)) (s'.2.2 t t1) (by omega) x
    unfold lnVrb
    rw [if_neg (by decide), if_neg (by decide), if_neg (by decide), show (M2, ρ).1 16 0 14 = 0 from t6.2.2.1, if_pos rfl, ma M2 s2, zcI_ok, h13]
    unfold lnLbl
    generalize nI (nmT tx n (nx tx n (sk tx n p))) = x
    by_cases d1 : atI T t x = -1
    · obtain ⟨M4, h1, h2, h3⟩ := m_wrong0 (ρ := ρ) t6 6 (nI (sk tx n p))
      rw [if_pos d1, zif_t d1, h1, zcV_ok, show (M4, ρ).1 16 0 14 = 6 from h2.2.2.1, if_neg (by decide), if_neg (by decide)]
      exact bad_out (mpF_tr f2 (nxF_mp h3)) h2
    · obtain ⟨k, kk, ki⟩ := at_k d1
      obtain ⟨M3, v, l1, l2, l3, l4⟩ := m_word4 (ρ := ρ) te2.2.1 x2 t6
      have s3 := nxF_sh l2 s2
      have f3 := mpF_tr f2 (nxF_mp l2)
      rw [if_neg d1, zif_f d1, show (M2, ρ).1 16 0 14 = 0 from t6.2.2.1, if_pos rfl, l1, zcI_ok]
      show mOut tx n M ρ (zif (¬ shW tx n (sk tx n (te tx n (nx tx n (sk tx n p)))) 4) (Sum.inl (1, sk tx n (te tx n (nx tx n (sk tx n p))))) _) _
      have hs := (sk_spec (tx := tx) (n := n) (te tx n (nx tx n (sk tx n p)))).2.1 te2.2.1
      by_cases d2 : shW tx n (sk tx n (te tx n (nx tx n (sk tx n p)))) 4
      · obtain ⟨e1, e3⟩ := l3 d2
        obtain ⟨q1, q2, q3⟩ := m_setlab (ρ := ρ) s3 t1 kk v
        rw [zif_f (fun e => e d2), show (M3, ρ).1 16 0 14 = 0 from e3.2.2.1, if_pos rfl, ma M3 s3, zcI_ok, ki, q1, nI_clamp (show k < 2 ^ 31 by omega)]
        refine ⟨_, te tx n (sk tx n (te tx n (nx tx n (sk tx n p)))), _, _, rfl, oFr_ms q3 e3, (te_le hs).2.1, rfl, ?_, mpF_tr f3 (oFr_mp q3)⟩
        rw [e1] at q2
        rw [e1]
        exact q2
      · have e3 := l4 d2
        rw [zif_t d2, show (M3, ρ).1 16 0 14 = 1 from e3.2.2.1, if_neg (by decide)]
        exact bad_out f3 e3
end ZMP
