/-! the class's next token, and what it asks of it -/
section ZAV
variable {tx : Nat → Int32} {n i : Nat} {M : zMem} {σ : zSt} {ρ : Int64 × Nat}
theorem nmF_le {cap p : Nat} : ∀ k, nmF tx cap p k ≤ cap := by
  intro k
  cases k with
  | zero => exact Nat.zero_le _
  | succ k => exact Nat.min_le_right _ _
theorem nmF_cap {p : Nat} : ∀ k, nmF tx 1000 p k = min (nmF tx 100000 p k) 1000 := by
  intro k
  induction k with
  | zero => rfl
  | succ k ih =>
    show min (10 * nmF tx 1000 p k + dv tx (p + k)) 1000 = min (min (10 * nmF tx 100000 p k + dv tx (p + k)) 100000) 1000
    rw [ih]
    omega
theorem num_st {cap v d : Nat} (hc : cap ≤ 100000) (hv : v ≤ cap) (hd : d ≤ 9) : (if nI cap < (((nI v * 10) + nI (d + 48)) - 48) then nI cap else (((nI v * 10) + nI (d + 48)) - 48)) = nI (min (10 * v + d) cap) := by
  have e : ((nI v * 10) + nI (d + 48)) - 48 = nI (10 * v + d) := by
    rw [show (10 : Int32) = nI 10 from rfl, pk_mul, nI_add, show (48 : Int32) = nI 48 from rfl, nI_sub (by omega)]
    congr 1
    omega
  rw [e]
  by_cases c : cap < 10 * v + d
  · rw [if_pos (nI_lt c (by omega)), Nat.min_eq_right (by omega)]
  · rw [if_neg (nI_nlt (by omega) (by omega)), Nat.min_eq_left (by omega)]
theorem c_scanNum_loop {p : Nat} : ∀ d q M', de tx n p - q = d → p ≤ q → q ≤ de tx n p → p ≤ n → cTx M' tx n → M' 11 0 6 = nI q → M' 11 0 11 = nI (nmF tx 1000 p (q - p)) → ∃ M'', zX zP zK_X1_scanNumber (10, [zR 11 0], []) (M', ρ) = zvd (M'', ρ) ∧ M'' 11 0 6 = nI (de tx n p) ∧ M'' 11 0 11 = nI (nmF tx 1000 p (de tx n p - p)) ∧ ∀ k j z, ¬ (k = 11 ∧ j = 0 ∧ (z = 6 ∨ z = 11)) → M'' k j z = M' k j z := by
  have ws := de_spec (tx := tx) (n := n) p
  intro d
  induction d with
  | zero =>
    intro q M' hd hpq hq hpn hx h6 h11
    have e : q = de tx n p := by omega
    have hn := hx.1
    have wn := ws.2.1 hpn
    refine ⟨M', ?_, by rw [← e]; exact h6, by rw [← e]; exact h11, fun _ _ _ _ => rfl⟩
    rw [e_X1_scanNumber_10, show (M', ρ).1 11 0 6 = nI q from h6, show (M', ρ).1 11 0 5 = nI n from hx.2.1]
    by_cases c : q < n
    · have ein := nIk (k := q) (N := 400) (by omega) (by omega)
      have ecl := nI_clamp (n := q) (by omega)
      rw [if_pos (nI_lt c (by omega))]
      simp only [ecl, ein, if_false]
      rw [hx.2.2 q c, c_isDg, zcI_ok, zb_f (fun z => ws.2.2.2 (e ▸ ⟨c, z⟩)), if_pos rfl]
    · rw [if_neg (nI_nlt (by omega) (by omega))]
  | succ d ih =>
    intro q M' hd hpq hq hpn hx h6 h11
    have hn := hx.1
    obtain ⟨c, hl⟩ := ws.2.2.1 q hpq (by omega)
    have dq := dv_le hl
    have ein := nIk (k := q) (N := 400) (by omega) (by omega)
    have ecl := nI_clamp (n := q) (by omega)
    have sp : nmF tx 1000 p (q + 1 - p) = min (10 * nmF tx 1000 p (q - p) + dv tx q) 1000 := by
      rw [show q + 1 - p = (q - p) + 1 by omega]
      show min (10 * nmF tx 1000 p (q - p) + dv tx (p + (q - p))) 1000 = _
      rw [show p + (q - p) = q by omega]
    have st := num_st (cap := 1000) (by omega) (nmF_le (tx := tx) (cap := 1000) (p := p) (q - p)) dq.1
    rw [← sp, ← dq.2] at st
    obtain ⟨M2, g1, g2, g3, g4⟩ := ih (q + 1) (zms (zms M' 11 0 11 (nI (nmF tx 1000 p (q + 1 - p)))) 11 0 6 (nI (q + 1))) (by omega) (by omega) (by omega) hpn ⟨hn, (zms_ne (by omega)).trans ((zms_ne (by omega)).trans hx.2.1), fun z hz => (zms_ne (by omega)).trans ((zms_ne (by omega)).trans (hx.2.2 z hz))⟩ zms_eq ((zms_ne (by omega)).trans zms_eq)
    refine ⟨M2, ?_, g2, g3, fun k j z h => (g4 k j z h).trans ((zms_ne (by omega)).trans (zms_ne (by omega)))⟩
    rw [e_X1_scanNumber_10, show (M', ρ).1 11 0 6 = nI q from h6, show (M', ρ).1 11 0 5 = nI n from hx.2.1, if_pos (nI_lt c (by omega))]
    simp only [ecl, ein, if_false]
    rw [hx.2.2 q c, c_isDg, zcI_ok, zb_t hl, if_neg (by decide), show (M', ρ).1 11 0 6 = nI q from h6]
    simp only [ecl, ein, if_false]
    rw [hx.2.2 q c, h11, show (1000 : Int32) = nI 1000 from rfl, st, zms_ne (by omega), h6, nI_1]
    exact g1
theorem te_lt {p : Nat} (h : p < n) (hl : isLt (tx p)) : te tx n p = we tx n p := (zif_t h).trans (zif_t hl)
theorem te_dg {p : Nat} (h : p < n) (hl : isDg (tx p)) : te tx n p = de tx n p := (zif_t h).trans ((zif_f (fun e => lt_dg e hl)).trans (zif_t hl))
theorem te_sg {p : Nat} (h : p < n) (h1 : ¬ isLt (tx p)) (h2 : ¬ isDg (tx p)) : te tx n p = p + 1 := (zif_t h).trans ((zif_f h1).trans (zif_f h2))
theorem te_en {p : Nat} (h : ¬ p < n) : te tx n p = p := zif_f h
theorem adv_tok {q : Nat} (hq : q ≤ n) (hx : cTx M tx n) (h6 : M 11 0 6 = nI q) (hs : ¬ (q < n ∧ tx q = 32)) : ∃ M', zX zP zK_X1_advance (0, [zR 11 0], []) (M, ρ) = zvd (M', ρ) ∧ cTok M' tx n q ∧ tkFr M M' := by
  have hn := hx.1
  rw [e_X1_advance_0, show (M, ρ).1 11 0 6 = nI q from h6, show (M, ρ).1 11 0 5 = nI n from hx.2.1]
  have a6 : zms M 11 0 8 (nI q) 11 0 6 = nI q := (zms_ne (by omega)).trans h6
  have a5 : zms M 11 0 8 (nI q) 11 0 5 = nI n := (zms_ne (by omega)).trans hx.2.1
  have ax : cTx (zms M 11 0 8 (nI q)) tx n := ⟨hn, a5, fun z hz => (zms_ne (by omega)).trans (hx.2.2 z hz)⟩
  have af : tkFr M (zms M 11 0 8 (nI q)) := fun k j z h => zms_ne (by omega)
  by_cases c : q < n
  · have ein := nIk (k := q) (N := 400) (by omega) (by omega)
    have ecl := nI_clamp (n := q) (by omega)
    have clt := nI_lt c (show n < 2 ^ 31 by omega)
    rw [if_pos clt]
    simp only [ecl, ein, if_false]
    rw [hx.2.2 q c, if_neg (fun e => hs ⟨c, e⟩), a6, a5, if_pos clt]
    simp only [ecl, ein, if_false]
    rw [hx.2.2 q c, c_isLt, zcI_ok]
    by_cases cl : isLt (tx q)
    · rw [zb_t cl, if_neg (by decide), e_X1_scanWord]
      obtain ⟨M2, g1, g2, g3, g4, g5⟩ := c_scanWord_loop (ρ := ρ) (tx := tx) (n := n) (p := q) (we tx n q - q) q (zms (zms (zms M 11 0 8 (nI q)) 11 0 7 1) 11 0 10 0) rfl (Nat.le_refl _) (we_spec q).1 hq ⟨hn, (zms_ne (by omega)).trans ((zms_ne (by omega)).trans a5), fun z hz => (zms_ne (by omega)).trans ((zms_ne (by omega)).trans (ax.2.2 z hz))⟩ ((zms_ne (by omega)).trans ((zms_ne (by omega)).trans zms_eq)) ((zms_ne (by omega)).trans ((zms_ne (by omega)).trans a6)) (by rw [zms_eq, Nat.sub_self]; rfl)
      refine ⟨M2, by rw [g1, zcV_ok], ⟨?_, by rw [te_lt c cl]; exact g3, hq, fun e => absurd c e, fun _ _ => ⟨?_, g2, g4⟩, fun _ e => absurd e (lt_dg cl), fun _ e => absurd cl e⟩, fun k j z h => ?_⟩
      · rw [g5 _ _ _ (by omega), zms_ne (by omega), zms_ne (by omega), zms_eq]
      · rw [g5 _ _ _ (by omega), zms_ne (by omega), zms_eq]
      · rw [g5 _ _ _ (by omega), zms_ne (by omega), zms_ne (by omega), zms_ne (by omega)]
    · rw [zb_f cl, if_pos rfl, show (zms M 11 0 8 (nI q), ρ).1 11 0 6 = nI q from a6]
      simp only [ecl, ein, if_false]
      rw [ax.2.2 q c, c_isDg, zcI_ok]
      by_cases cd : isDg (tx q)
      · rw [zb_t cd, if_neg (by decide), e_X1_scanNumber]
        obtain ⟨M2, g1, g2, g3, g4⟩ := c_scanNum_loop (ρ := ρ) (tx := tx) (n := n) (p := q) (de tx n q - q) q (zms (zms (zms M 11 0 8 (nI q)) 11 0 7 2) 11 0 11 0) rfl (Nat.le_refl _) (de_spec q).1 hq ⟨hn, (zms_ne (by omega)).trans ((zms_ne (by omega)).trans a5), fun z hz => (zms_ne (by omega)).trans ((zms_ne (by omega)).trans (ax.2.2 z hz))⟩ ((zms_ne (by omega)).trans ((zms_ne (by omega)).trans a6)) (by rw [zms_eq, Nat.sub_self]; rfl)
        refine ⟨M2, by rw [g1, zcV_ok], ⟨?_, by rw [te_dg c cd]; exact g2, hq, fun e => absurd c e, fun _ e => absurd e cl, fun _ _ => ⟨?_, g3⟩, fun _ _ e => absurd cd e⟩, fun k j z h => ?_⟩
        · rw [g4 _ _ _ (by omega), zms_ne (by omega), zms_ne (by omega), zms_eq]
        · rw [g4 _ _ _ (by omega), zms_ne (by omega), zms_eq]
        · rw [g4 _ _ _ (by omega), zms_ne (by omega), zms_ne (by omega), zms_ne (by omega)]
      · rw [zb_f cd, if_pos rfl, zms_ne (by omega), show (zms M 11 0 8 (nI q), ρ).1 11 0 6 = nI q from a6, nI_1]
        refine ⟨zms (zms (zms M 11 0 8 (nI q)) 11 0 7 3) 11 0 6 (nI (q + 1)), rfl, ⟨?_, by rw [zms_eq, te_sg c cl cd], hq, fun e => absurd c e, fun _ e => absurd e cl, fun _ e => absurd e cd, fun _ _ _ => ?_⟩, fun k j z h => ?_⟩
        · rw [zms_ne (by omega), zms_ne (by omega), zms_eq]
        · rw [zms_ne (by omega), zms_eq]
        · rw [zms_ne (by omega), zms_ne (by omega), zms_ne (by omega)]
  · have cn := nI_nlt (show n ≤ q by omega) (show q < 2 ^ 31 by omega)
    rw [if_neg cn, a6, a5, if_neg cn]
    refine ⟨_, rfl, ⟨?_, ?_, hq, fun _ => zms_eq, fun e => absurd e c, fun e => absurd e c, fun e => absurd e c⟩, fun k j z h => ?_⟩
    · rw [zms_ne (by omega), zms_eq]
    · rw [zms_ne (by omega), a6, te_en c]
    · rw [zms_ne (by omega), zms_ne (by omega)]
theorem adv_loop : ∀ d q M', n - q = d → q ≤ n → cTx M' tx n → M' 11 0 6 = nI q → ∃ M'', zX zP zK_X1_advance (0, [zR 11 0], []) (M', ρ) = zvd (M'', ρ) ∧ cTok M'' tx n (sk tx n q) ∧ tkFr M' M'' := by
  intro d
  induction d with
  | zero =>
    intro q M' hd hq hx h6
    have hs : ¬ (q < n ∧ tx q = 32) := fun e => by have := e.1; omega
    rw [sk_id hs]
    exact adv_tok hq hx h6 hs
  | succ d ih =>
    intro q M' hd hq hx h6
    by_cases hs : q < n ∧ tx q = 32
    · have hn := hx.1
      have ein := nIk (k := q) (N := 400) (by omega) (by omega)
      have ecl := nI_clamp (n := q) (by omega)
      obtain ⟨M2, g1, g2, g3⟩ := ih (q + 1) (zms M' 11 0 6 (nI (q + 1))) (by omega) (by omega) ⟨hn, (zms_ne (by omega)).trans hx.2.1, fun z hz => (zms_ne (by omega)).trans (hx.2.2 z hz)⟩ zms_eq
      have es : sk tx n q = sk tx n (q + 1) := eE_t (c := fun q => q < n ∧ tx q = 32) hs hs.1
      rw [← es] at g2
      refine ⟨M2, ?_, g2, fun k j z h => (g3 k j z h).trans (zms_ne (by omega))⟩
      rw [e_X1_advance_0, show (M', ρ).1 11 0 6 = nI q from h6, show (M', ρ).1 11 0 5 = nI n from hx.2.1, if_pos (nI_lt hs.1 (by omega))]
      simp only [ecl, ein, if_false]
      rw [hx.2.2 q hs.1, if_pos hs.2, nI_1]
      exact g1
    · rw [sk_id hs]
      exact adv_tok hq hx h6 hs
theorem te_le {p : Nat} (hp : p ≤ n) : p ≤ te tx n p ∧ te tx n p ≤ n ∧ (p < n → p < te tx n p) := by
  by_cases c : p < n
  · by_cases cl : isLt (tx p)
    · have w := we_spec (tx := tx) (n := n) p
      rw [te_lt c cl]
      refine ⟨w.1, w.2.1 hp, fun _ => ?_⟩
      have : we tx n p ≠ p := fun e => w.2.2.2 (by rw [e]; exact ⟨c, cl⟩)
      have := w.1
      omega
    · by_cases cd : isDg (tx p)
      · have w := de_spec (tx := tx) (n := n) p
        rw [te_dg c cd]
        refine ⟨w.1, w.2.1 hp, fun _ => ?_⟩
        have : de tx n p ≠ p := fun e => w.2.2.2 (by rw [e]; exact ⟨c, cd⟩)
        have := w.1
        omega
      · rw [te_sg c cl cd]
        exact ⟨by omega, by omega, fun _ => by omega⟩
  · rw [te_en c]
    exact ⟨Nat.le_refl _, hp, fun e => absurd e c⟩
/-- from the token at p to the next one -/
noncomputable def nx (tx : Nat → Int32) (n p : Nat) : Nat := sk tx n (te tx n p)
theorem c_advance {p : Nat} (hx : cTx M tx n) (ht : cTok M tx n p) : ∃ M', zrun zP 6 [zR 11 0] (M, ρ) = zvd (M', ρ) ∧ cTok M' tx n (nx tx n p) ∧ tkFr M M' := by
  obtain ⟨M2, g1, g2, g3⟩ := adv_loop (ρ := ρ) _ (te tx n p) M rfl (te_le ht.2.2.1).2.1 hx ht.2.1
  exact ⟨M2, ((e_X1_advance 0 (M, ρ)).trans (e_X1_advance_0 0 (M, ρ)).symm).trans g1, g2, g3⟩
theorem c_advance0 (hx : cTx M tx n) (h6 : M 11 0 6 = nI 0) : ∃ M', zrun zP 6 [zR 11 0] (M, ρ) = zvd (M', ρ) ∧ cTok M' tx n (sk tx n 0) ∧ tkFr M M' := by
  obtain ⟨M2, g1, g2, g3⟩ := adv_loop (ρ := ρ) _ 0 M rfl (Nat.zero_le _) hx h6
  exact ⟨M2, ((e_X1_advance 0 (M, ρ)).trans (e_X1_advance_0 0 (M, ρ)).symm).trans g1, g2, g3⟩
end ZAV
