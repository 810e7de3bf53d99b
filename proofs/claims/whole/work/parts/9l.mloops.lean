/-! all the lines of a text, the reference's side -/
section ZMLP
variable {tx : Nat → Int32} {n p : Nat} {b f w : Int32} {T : zSheet} {M M0 : zMem} {ρ : Int64 × Nat}
def mAll (M : zMem) (ρ : Int64 × Nat) (out : (Int32 × Nat) ⊕ zSheet) (r : zRes) : Prop := match out with
  | .inl (k, q) => ∃ M', r = zcV (zrun zP 147 [zR 33 0, zR 31 0] (zms M' 16 0 16 (nI q), ρ)) (fun s3 => zok ((s3.1 16 0 14) - 10) s3) ∧ M' 16 0 14 = k ∧ mpF M M'
  | .inr T' => ∃ M', r = zcI (zrun zP 185 [zR 16 0, zR 31 0] (zms (zms M' 16 0 16 (-1)) 16 0 6 0, ρ)) (fun r4 s4 => zok r4 s4) ∧ mSheet M' 31 T' ∧ mpF M M'
theorem mAll_le {M1 : zMem} {out : (Int32 × Nat) ⊕ zSheet} {r : zRes} (hf : mpF M M1) (h : mAll M1 ρ out r) : mAll M ρ out r := by
  cases out with
  | inl e =>
    obtain ⟨M2, g1, g2, g3⟩ := h
    exact ⟨M2, g1, g2, mpF_tr hf g3⟩
  | inr e =>
    obtain ⟨M2, g1, g2, g3⟩ := h
    exact ⟨M2, g1, g2, mpF_tr hf g3⟩
theorem m_lines (x1 x2 : Int32) : ∀ d T p M b w, n - sk tx n p ≤ d → p ≤ n → zOk T → mTx M tx n → ms M p b 0 w → mSheet M 31 T → mAll M ρ (lnAll tx n d T (sk tx n p)) (zX zP zK_X6_text (103, [zR 16 0, zI x1, zI x2], []) (M, ρ)) := by
  intro d
  have fin : ∀ d T p M b w, ¬ sk tx n p < n → p ≤ n → mTx M tx n → ms M p b 0 w → mSheet M 31 T → mAll M ρ (lnAll tx n d T (sk tx n p)) (zX zP zK_X6_text (103, [zR 16 0, zI x1, zI x2], []) (M, ρ)) := by
    intro d T p M b w hp hpn hx hm hS
    have hq := (sk_spec (tx := tx) (n := n) p).2.1 hpn
    have hn := hx.1
    obtain ⟨M1, g1, g2, g3⟩ := m_sign (ρ := ρ) hpn hx hm
    have x1' := nxF_tx g3 hx
    have e14 : (M1, ρ).1 16 0 14 = 0 := g2.2.2.1
    have e14' : zms M1 16 0 16 (-1) 16 0 14 = 0 := (zms_ne (by omega)).trans g2.2.2.1
    rw [lnAll_n d hp, e_X6_text_103, show (M, ρ).1 16 0 14 = 0 from hm.2.2.1, if_pos rfl, g1, zcI_ok, show sgv tx n (sk tx n p) = 0 from zif_f hp, if_pos rfl, show (M1, ρ).1 16 0 12 = _ from g2.1, show (M1, ρ).1 16 0 11 = _ from x1'.2.1, if_neg (nI_nlt (by omega) (by omega)), e14, if_neg (by decide)]
    show mAll M ρ (.inr T) (if (0 : Int32) < zms M1 16 0 16 (-1) 16 0 14 then _ else _)
    rw [e14', if_neg (by decide)]
    exact ⟨M1, rfl, nxF_sh g3 hS, nxF_mp g3⟩
  induction d with
  | zero =>
    intro T p M b w hd hpn ok hx hm hS
    exact fin 0 T p M b w (by omega) hpn hx hm hS
  | succ d ih =>
    intro T p M b w hd hpn ok hx hm hS
    by_cases hp : sk tx n p < n
    · have hq := (sk_spec (tx := tx) (n := n) p).2.1 hpn
      have hn := hx.1
      obtain ⟨M1, g1, g2, g3⟩ := m_sign (ρ := ρ) hpn hx hm
      have x1' := nxF_tx g3 hx
      have s1' := nxF_sh g3 hS
      have key : mAll M ρ (lnAll tx n (d + 1) T (sk tx n p)) (zcV (zrun zP 184 [zR 16 0] (M1, ρ)) (fun s7 => zX zP zK_X6_text (103, [zR 16 0, zI x1, zI x2], []) s7)) := by
        have hg := lnE_g (tx := tx) (lnG_1 (tx := tx) ok hS.2.1 (fun u hu => (hS.2.2 u hu).2.2.2.2.1) hq)
        have ol := m_oneLine (ρ := ρ) ok hq x1' g2 s1'
        rw [sk_sk] at ol
        cases hE : lnE tx n (ln1 tx n T (sk tx n p)) with
        | inl e =>
          obtain ⟨k, q⟩ := e
          rw [hE] at ol hg
          obtain ⟨M2, l1, l2, l3, l4⟩ := ol
          have k0 : 0 < k := hg
          have kn : ¬ k = 0 := fun e => by rw [e] at k0; exact absurd k0 (by decide)
          have e14 : (M2, ρ).1 16 0 14 = k := l2
          have e15 : (M2, ρ).1 16 0 15 = nI q := l3
          have e14' : zms M2 16 0 16 (nI q) 16 0 14 = k := (zms_ne (by omega)).trans l2
          rw [lnAll_l hp hE, l1, zcV_ok, e_X6_text_103, e14, if_neg kn, if_pos k0, e15]
          show mAll M ρ (.inl (k, q)) (if (0 : Int32) < zms M2 16 0 16 (nI q) 16 0 14 then _ else _)
          rw [e14', if_pos k0]
          exact ⟨M2, rfl, l2, mpF_tr (nxF_mp g3) l4⟩
        | inr e =>
          obtain ⟨T', q⟩ := e
          obtain ⟨le1, le2, le3⟩ := lnE_i hE
          rw [hE] at ol hg
          obtain ⟨M2, b2, w2, l1, l2, l3, l4, l5⟩ := ol
          have hkk := hg.2.1
          have hk := (sk_spec (tx := tx) (n := n) (q + 1)).1
          rw [lnAll_r hp hE, nx_59 le2 le3, l1, zcV_ok]
          exact mAll_le (mpF_tr (nxF_mp g3) l5) (ih T' (q + 1) M2 b2 w2 (by omega) (by omega) hg.1 (mpF_tx l5 x1') l2 l4)
      rw [e_X6_text_103, show (M, ρ).1 16 0 14 = 0 from hm.2.2.1, if_pos rfl, g1, zcI_ok]
      by_cases c : sgv tx n (sk tx n p) = 0
      · rw [if_pos c, show (M1, ρ).1 16 0 12 = _ from g2.1, show (M1, ρ).1 16 0 11 = _ from x1'.2.1, if_pos (nI_lt hp (by omega))]
        exact key
      · rw [if_neg c]
        exact key
    · exact fin (d + 1) T p M b w hp hpn hx hm hS
/-- the reference takes the text from the tape -/
theorem m_take_loop {m : Nat} (hm : m ≤ 400) : ∀ d q M', q + d = m → ∃ M'', zX zP zK_X6_text (27, [zR 16 0, zI (nI m), zI (nI q)], []) (M', ρ) = zX zP zK_X6_text (27, [zR 16 0, zI (nI m), zI (nI m)], []) (M'', ρ) ∧ (∀ p, q ≤ p → p < m → M'' 36 0 p = Int8.toInt32 (Int32.toInt8 (M' 35 0 p))) ∧ ∀ k j p, ¬ (k = 36 ∧ j = 0 ∧ q ≤ p ∧ p < m) → M'' k j p = M' k j p := by
  intro d
  induction d with
  | zero =>
    intro q M' hq
    obtain rfl : q = m := by omega
    exact ⟨M', rfl, fun p h1 h2 => by omega, fun _ _ _ _ => rfl⟩
  | succ d ih =>
    intro q M' hq
    have ein := nIk (k := q) (N := 400) (by omega) (by omega)
    have ecl := nI_clamp (n := q) (by omega)
    obtain ⟨M2, g1, g2, g3⟩ := ih (q + 1) (zms M' 36 0 q (Int8.toInt32 (Int32.toInt8 (M' 35 0 q)))) (by omega)
    refine ⟨M2, ?_, fun p h1 h2 => ?_, fun k j p h => ?_⟩
    · rw [e_X6_text_27, if_pos (nI_lt (show q < m by omega) (by omega)), nI_1]
      simp only [ecl, ein, if_false]
      exact g1
    · by_cases e : p = q
      · rw [g3 _ _ _ (by omega), e, zms_eq]
      · rw [g2 p (by omega) h2, zms_ne (by omega)]
    · rw [g3 _ _ _ (by omega), zms_ne (by omega)]
theorem m_zero_loop (x1 : Int32) : ∀ d q M', q + d = 745 → ∃ M'', zX zP zK_X6_text (83, [zR 16 0, zI x1, zI (nI q)], []) (M', ρ) = zX zP zK_X6_text (103, [zR 16 0, zI x1, zI (nI 745)], []) (M'', ρ) ∧ (∀ p, q ≤ p → p < 745 → M'' 31 0 p = 0) ∧ ∀ k j p, ¬ (k = 31 ∧ j = 0 ∧ q ≤ p) → M'' k j p = M' k j p := by
  intro d
  induction d with
  | zero =>
    intro q M' hq
    obtain rfl : q = 745 := by omega
    exact ⟨M', by rw [e_X6_text_83, if_neg (show ¬ nI 745 < 745 by decide)], fun p h1 h2 => by omega, fun _ _ _ _ => rfl⟩
  | succ d ih =>
    intro q M' hq
    have ein := nIk (k := q) (N := 745) (by omega) (by omega)
    have ecl := nI_clamp (n := q) (by omega)
    obtain ⟨M2, g1, g2, g3⟩ := ih (q + 1) (zms M' 31 0 q 0) (by omega)
    refine ⟨M2, ?_, fun p h1 h2 => ?_, fun k j p h => ?_⟩
    · rw [e_X6_text_83, if_pos (show nI q < 745 from (nI_lt (by omega) (by omega) : nI q < nI 745)), nI_1]
      simp only [ecl, ein, if_false]
      exact g1
    · by_cases e : p = q
      · rw [g3 _ _ _ (by omega), e, zms_eq]
      · exact g2 p (by omega) h2
    · rw [g3 _ _ _ (by omega), zms_ne (by omega)]
end ZMLP
