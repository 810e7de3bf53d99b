/-! the reference's words and numbers -/
section ZMW
variable {tx : Nat → Int32} {n p : Nat} {b f w : Int32} {M : zMem} {T : zSheet} {σ : zSt} {ρ : Int64 × Nat}
theorem m_word102 {mo : Nat} (hm : mo ≤ 100) (x3 : Int32) : ∀ d k v, mo - k = d → k ≤ 1000 → zX zP zK_X6_word (102, [zR 16 0, zI (nI mo), zI 1, zI x3, zI (nI v), zI (nI k)], []) σ = zok (nI (v * 32 ^ (mo - k))) σ := by
  intro d
  induction d with
  | zero =>
    intro k v hd hk
    rw [e_X6_word_102, if_neg (by decide), if_neg (nI_nlt (by omega) (by omega)), hd, Nat.pow_zero, Nat.mul_one]
  | succ d ih =>
    intro k v hd hk
    rw [e_X6_word_102, if_neg (by decide), if_pos (nI_lt (by omega) (by omega)), show (32 : Int32) = nI 32 from rfl, pk_mul, nI_1, ih (k + 1) (v * 32) (by omega) (by omega), show mo - k = (mo - (k + 1)) + 1 by omega, Nat.pow_succ, Nat.mul_assoc, Nat.mul_comm 32]
theorem m_word_loop {mo : Nat} (hmo : mo ≤ 6) (x2 : Int32) (hp : p ≤ n) (hx : mTx M tx n) (hm : ms M p (nI p) 0 w) : ∀ d k v, we tx n p - (p + k) = d → p + k ≤ we tx n p → ∃ M', zX zP zK_X6_word (18, [zR 16 0, zI (nI mo), zI x2, zI (nI k), zI (nI (mkF tx mo p k)), v], []) (M, ρ) = zX zP zK_X6_word (102, [zR 16 0, zI (nI mo), zI x2, zI (nI (we tx n p - p)), zI (nI (mkF tx mo p (we tx n p - p))), zI (nI (we tx n p - p))], []) (M', ρ) ∧ nxF M M' ∧ (shW tx n p mo → ms M' (we tx n p) (nI p) 0 w) ∧ (¬ shW tx n p mo → ms M' (we tx n p) (nI p) 1 (nI p)) := by
  have ws := we_spec (tx := tx) (n := n) p
  have wn := ws.2.1 hp
  have hn := hx.1
  intro d
  induction d with
  | zero =>
    intro k v hd hk
    have e : p + k = we tx n p := by omega
    have ek : k = we tx n p - p := by omega
    have sm := m_isSmall (σ := (M, ρ)) hx (q := p + k) (by omega)
    have h12 : (M, ρ).1 16 0 12 = nI p := hm.1
    have h13 : (M, ρ).1 16 0 13 = nI p := hm.2.1
    have hz : ¬ (p + k < n ∧ isLt (tx (p + k))) := by rw [e]; exact ws.2.2.2
    have s0 : shW tx n p mo ↔ ¬ k = 0 ∧ ¬ mo < k := by
      constructor
      · intro s
        have := te_le (tx := tx) (n := n) hp
        rw [te_lt s.1 s.2.1] at this
        have := this.2.2 s.1
        have := s.2.2
        omega
      · intro s
        have := ws.2.2.1 p (Nat.le_refl _) (by omega)
        exact ⟨this.1, this.2, by omega⟩
    rw [e_X6_word_18, h12, nI_add, sm, zcI_ok, zb_f hz, if_pos rfl, h13]
    by_cases c0 : k = 0
    · obtain ⟨M1, g1, g2, g3⟩ := m_wrong0 (ρ := ρ) hm 1 (nI p)
      refine ⟨zms M1 16 0 12 (nI (we tx n p)), ?_, nxF_tr g3 (fun a j z h => zms_ne (by omega)), fun s => absurd c0 (s0.mp s).1, fun _ => ⟨zms_eq, (zms_ne (by omega)).trans g2.2.1, (zms_ne (by omega)).trans g2.2.2.1, (zms_ne (by omega)).trans g2.2.2.2⟩⟩
      rw [if_pos (show nI k = 0 by rw [c0]; rfl), g1, zcV_ok, show (M1, ρ).1 16 0 12 = nI p from g2.1, nI_add, e, ek]
    · rw [if_neg (show ¬ nI k = 0 from fun q => c0 ((nI_eq (b := 0) (by omega) (by omega)).mp q))]
      by_cases c1 : mo < k
      · obtain ⟨M1, g1, g2, g3⟩ := m_wrong0 (ρ := ρ) hm 1 (nI p)
        refine ⟨zms M1 16 0 12 (nI (we tx n p)), ?_, nxF_tr g3 (fun a j z h => zms_ne (by omega)), fun s => absurd c1 (s0.mp s).2, fun _ => ⟨zms_eq, (zms_ne (by omega)).trans g2.2.1, (zms_ne (by omega)).trans g2.2.2.1, (zms_ne (by omega)).trans g2.2.2.2⟩⟩
        rw [if_pos (nI_lt c1 (by omega)), g1, zcV_ok, show (M1, ρ).1 16 0 12 = nI p from g2.1, nI_add, e, ek]
      · refine ⟨zms M 16 0 12 (nI (we tx n p)), ?_, fun a j z h => zms_ne (by omega), fun _ => ⟨zms_eq, (zms_ne (by omega)).trans hm.2.1, (zms_ne (by omega)).trans hm.2.2.1, (zms_ne (by omega)).trans hm.2.2.2⟩, fun s => absurd (s0.mpr ⟨c0, c1⟩) s⟩
        rw [if_neg (nI_nlt (by omega) (by omega)), h12, nI_add, e, ek]
  | succ d ih =>
    intro k v hd hk
    obtain ⟨c, hl⟩ := ws.2.2.1 (p + k) (by omega) (by omega)
    have lq := lv_le hl
    have sm := m_isSmall (σ := (M, ρ)) hx (q := p + k) (by omega)
    have h12 : (M, ρ).1 16 0 12 = nI p := hm.1
    have c1 := nIk (k := p + k) (N := 400) (by omega) (by omega)
    have c2 := nI_clamp (n := p + k) (by omega)
    obtain ⟨M1, g1, g2, g3⟩ := ih (k + 1) v (by omega) (by omega)
    refine ⟨M1, ?_, g2, g3⟩
    have sp : mkF tx mo p (k + 1) = (if k < mo then 32 * mkF tx mo p k + lv tx (p + k) else mkF tx mo p k) := rfl
    rw [e_X6_word_18, h12, nI_add, sm, zcI_ok, zb_t ⟨c, hl⟩, if_neg (by decide), h12, nI_add, nI_1]
    simp only [c1, c2, if_false]
    rw [hx.2.2 _ c]
    by_cases ck : k < mo
    · rw [if_pos ck] at sp
      have el : ((32 * nI (mkF tx mo p k)) + tx (p + k)) - 97 + 1 = nI (mkF tx mo p (k + 1)) := by
        rw [sp, lq.2.2, show (32 : Int32) = nI 32 from rfl, pk_mul, nI_add, show (97 : Int32) = nI 97 from rfl, nI_sub (by omega), nI_1]
        congr 1
        omega
      rw [if_pos (nI_lt ck (by omega)), el]
      exact g1
    · rw [if_neg ck] at sp
      rw [if_neg (nI_nlt (by omega) (by omega)), ← sp]
      exact g1
theorem m_word {mo : Nat} (hmo : mo ≤ 6) (hp : p ≤ n) (hx : mTx M tx n) (hm : ms M p b 0 w) (q : Prop) : ∃ M', zrun zP 172 [zR 16 0, zI (nI mo), zI (zb q)] (M, ρ) = zok (zif q (nI (mkF tx mo (sk tx n p) (we tx n (sk tx n p) - sk tx n p) * 32 ^ (mo - (we tx n (sk tx n p) - sk tx n p)))) (nI (mkF tx mo (sk tx n p) (we tx n (sk tx n p) - sk tx n p)))) (M', ρ) ∧ nxF M M' ∧ (shW tx n (sk tx n p) mo → ms M' (we tx n (sk tx n p)) (nI (sk tx n p)) 0 w) ∧ (¬ shW tx n (sk tx n p) mo → ms M' (we tx n (sk tx n p)) (nI (sk tx n p)) 1 (nI (sk tx n p))) := by
  obtain ⟨M1, g1, g2, g3⟩ := m_sign (ρ := ρ) hp hx hm
  have hq := (sk_spec (tx := tx) (n := n) p).2.1 hp
  have hx1 := nxF_tx g3 hx
  have hn := hx.1
  have ws := we_spec (tx := tx) (n := n) (sk tx n p)
  have wn := ws.2.1 hq
  have m2 : ms (zms M1 16 0 13 (nI (sk tx n p))) (sk tx n p) (nI (sk tx n p)) 0 w := ⟨(zms_ne (by omega)).trans g2.1, zms_eq, (zms_ne (by omega)).trans g2.2.2.1, (zms_ne (by omega)).trans g2.2.2.2⟩
  have f2 : nxF M1 (zms M1 16 0 13 (nI (sk tx n p))) := fun a j z h => zms_ne (by omega)
  obtain ⟨M3, k1, k2, k3, k4⟩ := m_word_loop (ρ := ρ) hmo (zb q) hq (nxF_tx f2 hx1) m2 _ 0 zJunk rfl ws.1
  refine ⟨M3, ?_, nxF_tr (nxF_tr g3 f2) k2, k3, k4⟩
  have e0 : mkF tx mo (sk tx n p) 0 = 0 := rfl
  rw [e0, nI_0] at k1
  rw [e_X6_word, g1, zcI_ok, show (M1, ρ).1 16 0 12 = _ from g2.1]
  refine k1.trans ?_
  by_cases c : q
  · rw [zb_t c, zif_t c]
    exact m_word102 (by omega) _ _ _ _ rfl (by omega)
  · rw [zb_f c, zif_f c, e_X6_word_102, if_pos rfl]
noncomputable def nmM (tx : Nat → Int32) (n p : Nat) : Nat := nmF tx 100000 p (de tx n p - p)
theorem nmT_M (p : Nat) : nmT tx n p = min (nmM tx n p) 1000 := nmF_cap _
theorem num_st2 {v d : Nat} (hv : v ≤ 100000) (hd : d ≤ 9) : (if 100000 < (((10 * nI v) + nI (d + 48)) - 48) then 100000 else (((10 * nI v) + nI (d + 48)) - 48)) = nI (min (10 * v + d) 100000) := by
  have e : ((10 * nI v) + nI (d + 48)) - 48 = nI (10 * v + d) := by
    rw [show (10 : Int32) = nI 10 from rfl, pk_mul, nI_add, show (48 : Int32) = nI 48 from rfl, nI_sub (by omega)]
    congr 1
  rw [e]
  by_cases c : 100000 < 10 * v + d
  · rw [if_pos (show (100000 : Int32) < nI (10 * v + d) from (nI_lt c (by omega) : nI 100000 < nI (10 * v + d))), Nat.min_eq_right (by omega)]
    rfl
  · rw [if_neg (show ¬ (100000 : Int32) < nI (10 * v + d) from (nI_nlt (by omega) (by omega) : ¬ nI 100000 < nI (10 * v + d))), Nat.min_eq_left (by omega)]
theorem m_num_loop (l : Nat) (hl : l ≤ 1000) (x2 : Int32) (hp : p ≤ n) : ∀ d q M', de tx n p - q = d → p ≤ q → q ≤ de tx n p → mTx M' tx n → ms M' q b 0 w → ∃ M'', zX zP zK_X6_number (50, [zR 16 0, zI (nI l), zI x2, zI (nI p), zI (nI (nmF tx 100000 p (q - p)))], []) (M', ρ) = zok (nI (nmM tx n p)) (M'', ρ) ∧ nxF M' M'' ∧ (l ≤ nmM tx n p ∧ nmM tx n p ≤ 999 → ms M'' (de tx n p) b 0 w) ∧ (¬ (l ≤ nmM tx n p ∧ nmM tx n p ≤ 999) → ms M'' (de tx n p) b 2 (nI p)) := by
  have ws := de_spec (tx := tx) (n := n) p
  have wn := ws.2.1 hp
  have nl : nmM tx n p ≤ 100000 := nmF_le _
  have iff1 : (¬ nI (nmM tx n p) < nI l ∧ ¬ 999 < nI (nmM tx n p)) ↔ (l ≤ nmM tx n p ∧ nmM tx n p ≤ 999) := by
    rw [nI_lp (by omega) (by omega), nI_999 (by omega)]
    omega
  intro d
  induction d with
  | zero =>
    intro q M' hd hpq hq hx hm
    have e : q = de tx n p := by omega
    have hn := hx.1
    have en : nmF tx 100000 p (q - p) = nmM tx n p := by rw [e]; rfl
    have fin : ∀ (M' : zMem), ms M' (de tx n p) b 0 w → ∃ M'', (zcI (zrun zP 137 [zI (nI (nmM tx n p)), zI (nI l), zI 999] (M', ρ)) (fun r1 s1 => if r1 = 0 then (zcV (zrun zP 168 [zR 16 0, zI 2, zI (nI p)] s1) (fun s2 => zok (nI (nmM tx n p)) s2)) else zok (nI (nmM tx n p)) s1)) = zok (nI (nmM tx n p)) (M'', ρ) ∧ nxF M' M'' ∧ (l ≤ nmM tx n p ∧ nmM tx n p ≤ 999 → ms M'' (de tx n p) b 0 w) ∧ (¬ (l ≤ nmM tx n p ∧ nmM tx n p ≤ 999) → ms M'' (de tx n p) b 2 (nI p)) := fun M' hm => by
      rw [m_isIn, zcI_ok, zb_congr iff1]
      by_cases c : l ≤ nmM tx n p ∧ nmM tx n p ≤ 999
      · rw [zb_t c, if_neg (by decide)]
        exact ⟨M', rfl, nxF_rf, fun _ => hm, fun z => absurd c z⟩
      · obtain ⟨M1, g1, g2, g3⟩ := m_wrong0 (ρ := ρ) hm 2 (nI p)
        rw [zb_f c, if_pos rfl, g1, zcV_ok]
        exact ⟨M1, rfl, g3, fun z => absurd z c, fun _ => g2⟩
    have hm' : ms M' (de tx n p) b 0 w := e ▸ hm
    rw [e_X6_number_50, en, show (M', ρ).1 16 0 12 = nI q from hm.1, show (M', ρ).1 16 0 11 = _ from hx.2.1]
    by_cases c : q < n
    · have c1 := nIk (k := q) (N := 400) (by omega) (by omega)
      have c2 := nI_clamp (n := q) (by omega)
      have nd : ¬ isDg (tx q) := fun z => ws.2.2.2 (e ▸ ⟨c, z⟩)
      rw [if_pos (nI_lt c (by omega))]
      simp only [c1, c2, if_false]
      rw [hx.2.2 q c]
      by_cases d1 : tx q < 48
      · rw [if_pos d1]; exact fin M' hm'
      · rw [if_neg d1, if_pos (Classical.byContradiction (fun z => nd ⟨d1, z⟩))]; exact fin M' hm'
    · rw [if_neg (nI_nlt (by omega) (by omega))]; exact fin M' hm'
  | succ d ih =>
    intro q M' hd hpq hq hx hm
    have hn := hx.1
    obtain ⟨c, hdg⟩ := ws.2.2.1 q hpq (by omega)
    have dq := dv_le hdg
    have c1 := nIk (k := q) (N := 400) (by omega) (by omega)
    have c2 := nI_clamp (n := q) (by omega)
    have sp : nmF tx 100000 p (q + 1 - p) = min (10 * nmF tx 100000 p (q - p) + dv tx q) 100000 := by
      rw [show q + 1 - p = (q - p) + 1 by omega]
      show min (10 * nmF tx 100000 p (q - p) + dv tx (p + (q - p))) 100000 = _
      rw [show p + (q - p) = q by omega]
    have st := num_st2 (nmF_le (tx := tx) (cap := 100000) (p := p) (q - p)) dq.1
    rw [← sp, ← dq.2] at st
    obtain ⟨M2, g1, g2, g3⟩ := ih (q + 1) (zms M' 16 0 12 (nI (q + 1))) (by omega) (by omega) (by omega) ⟨hn, (zms_ne (by omega)).trans hx.2.1, fun z hz => (zms_ne (by omega)).trans (hx.2.2 z hz)⟩ ⟨zms_eq, (zms_ne (by omega)).trans hm.2.1, (zms_ne (by omega)).trans hm.2.2.1, (zms_ne (by omega)).trans hm.2.2.2⟩
    refine ⟨M2, ?_, nxF_tr (fun a j z h => zms_ne (by omega)) g2, g3⟩
    rw [e_X6_number_50, show (M', ρ).1 16 0 12 = nI q from hm.1, show (M', ρ).1 16 0 11 = _ from hx.2.1, if_pos (nI_lt c (by omega))]
    simp only [c1, c2, if_false]
    rw [hx.2.2 q c, if_neg hdg.1, if_neg hdg.2, st, nI_1]
    exact g1
theorem m_number0 (l : Nat) (hl : l ≤ 1000) (hp : p ≤ n) (hx : mTx M tx n) (hm : ms M p b 0 w) : ∃ M' v, zrun zP 174 [zR 16 0, zI (nI l)] (M, ρ) = zok v (M', ρ) ∧ nxF M M' ∧ (¬ isTm tx n (sk tx n p) → ms M' (sk tx n p) b 1 (nI (sk tx n p))) ∧ (isTm tx n (sk tx n p) → v = nI (nmM tx n (sk tx n p)) ∧ (l ≤ nmM tx n (sk tx n p) ∧ nmM tx n (sk tx n p) ≤ 999 → ms M' (de tx n (sk tx n p)) b 0 w) ∧ (¬ (l ≤ nmM tx n (sk tx n p) ∧ nmM tx n (sk tx n p) ≤ 999) → ms M' (de tx n (sk tx n p)) b 2 (nI (sk tx n p)))) := by
  obtain ⟨M1, g1, g2, g3⟩ := m_sign (ρ := ρ) hp hx hm
  have hq := (sk_spec (tx := tx) (n := n) p).2.1 hp
  have h14 : (M1, ρ).1 16 0 14 = 0 := g2.2.2.1
  have h12 : (M1, ρ).1 16 0 12 = nI (sk tx n p) := g2.1
  rw [e_X6_number, g1, zcI_ok, h14, if_pos rfl]
  by_cases c : isTm tx n (sk tx n p)
  · have es : sgv tx n (sk tx n p) = tx (sk tx n p) := zif_t c.1
    obtain ⟨M2, k1, k2, k3, k4⟩ := m_num_loop (ρ := ρ) (tx := tx) (n := n) l hl (tx (sk tx n p)) hq _ (sk tx n p) M1 rfl (Nat.le_refl _) (de_spec _).1 (nxF_tx g3 hx) g2
    rw [Nat.sub_self] at k1
    refine ⟨M2, nI (nmM tx n (sk tx n p)), ?_, nxF_tr g3 k2, fun z => absurd c z, fun _ => ⟨rfl, k3, k4⟩⟩
    rw [es, if_neg c.2.1, if_neg c.2.2, if_neg (by decide), h12]
    exact k1
  · obtain ⟨M2, k1, k2, k3⟩ := m_wrong0 (ρ := ρ) g2 1 (nI (sk tx n p))
    refine ⟨M2, 0, ?_, nxF_tr g3 k3, fun _ => k2, fun z => absurd z c⟩
    have h14' : (M2, ρ).1 16 0 14 = 1 := k2.2.2.1
    rw [h12]
    by_cases d1 : sgv tx n (sk tx n p) < 48
    · rw [if_pos d1, k1, zcV_ok, h14', if_pos (by decide)]
    · have d2 : 57 < sgv tx n (sk tx n p) := Classical.byContradiction (fun z => by
        by_cases e : sk tx n p < n
        · have es : sgv tx n (sk tx n p) = tx (sk tx n p) := zif_t e
          rw [es] at d1 z
          exact c ⟨e, d1, z⟩
        · have es : sgv tx n (sk tx n p) = 0 := zif_f e
          rw [es] at d1
          exact d1 (by decide))
      rw [if_neg d1, if_pos d2, k1, zcV_ok, h14', if_pos (by decide)]
theorem m_number1 (x : Int32) (hp : p ≤ n) (hx : mTx M tx n) (hm : ms M p b f w) (hf : 0 < f) : ∃ M', zrun zP 174 [zR 16 0, zI x] (M, ρ) = zok 0 (M', ρ) ∧ nxF M M' ∧ ms M' (sk tx n p) b f w := by
  obtain ⟨M1, g1, g2, g3⟩ := m_sign (ρ := ρ) hp hx hm
  refine ⟨M1, ?_, g3, g2⟩
  have h14 : (M1, ρ).1 16 0 14 = f := g2.2.2.1
  rw [e_X6_number, g1, zcI_ok, h14, if_neg (fun e => by rw [e] at hf; exact absurd hf (by decide)), if_pos hf]
end ZMW
