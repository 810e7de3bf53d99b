/-! all the lines of a text, both sides -/
section ZLP
variable {tx : Nat → Int32} {n p : Nat} {b f w : Int32} {T : zSheet} {M M0 : zMem} {ρ : Int64 × Nat}
theorem lnE_g {out : zLo} (h : lnG p n out) : lnG p n (lnE tx n out) := by
  cases out with
  | inl e => exact h
  | inr e =>
    obtain ⟨T', q⟩ := e
    exact lnG_if (fun _ => h) (fun _ => by show (0 : Int32) < 1; decide)
theorem lnE_i {out : zLo} {T' : zSheet} {q : Nat} (h : lnE tx n out = .inr (T', q)) : out = .inr (T', q) ∧ q < n ∧ tx q = 59 := by
  cases out with
  | inl e => exact absurd h (by intro e; cases e)
  | inr e =>
    obtain ⟨T1, q1⟩ := e
    change zif (q1 < n ∧ tx q1 = 59) (.inr (T1, q1)) (.inl (1, q1)) = (Sum.inr (T', q) : zLo) at h
    by_cases c : q1 < n ∧ tx q1 = 59
    · rw [zif_t c] at h
      cases h
      exact ⟨rfl, c⟩
    · rw [zif_f c] at h
      cases h
theorem lnAll_n (d : Nat) (h : ¬ p < n) : lnAll tx n d T p = .inr T := by
  cases d with
  | zero => rfl
  | succ d => exact zif_f h
theorem lnAll_l {d : Nat} {e : Int32 × Nat} (h : p < n) (hE : lnE tx n (ln1 tx n T p) = .inl e) : lnAll tx n (d + 1) T p = .inl e := by
  refine (zif_t h).trans ?_
  rw [hE]
theorem lnAll_r {d : Nat} {T' : zSheet} {q : Nat} (h : p < n) (hE : lnE tx n (ln1 tx n T p) = .inr (T', q)) : lnAll tx n (d + 1) T p = lnAll tx n d T' (nx tx n q) := by
  refine (zif_t h).trans ?_
  rw [hE]
theorem nx_59 {q : Nat} (hq : q < n) (h : tx q = 59) : nx tx n q = sk tx n (q + 1) := by
  unfold nx
  rw [te_sg hq (by rw [h]; unfold isLt; decide) (by rw [h]; unfold isDg; decide)]
theorem c_semi (hx : cTx M tx n) (ht : cTok M tx n p) : zrun zP 11 [zR 11 0] (M, ρ) = zok (zb (p < n ∧ tx p = 59)) (M, ρ) := by
  have hn := hx.1
  rw [e_X1_isSemicolon]
  by_cases c : p < n
  · by_cases c1 : tx p = 59
    · have ein := nIk (k := p) (N := 400) (by omega) (by omega)
      have ecl := nI_clamp (n := p) (by omega)
      rw [show (M, ρ).1 11 0 7 = 3 from ht.2.2.2.2.2.2 c (by rw [c1]; unfold isLt; decide) (by rw [c1]; unfold isDg; decide), if_pos rfl, show (M, ρ).1 11 0 8 = _ from ht.1, show (M, ρ).1 11 0 5 = _ from hx.2.1, if_pos (nI_lt c (by omega))]
      simp only [ecl, ein, if_false]
      rw [hx.2.2 p c, if_pos c1, zb_t ⟨c, c1⟩]
    · rw [zb_f (fun e => c1 e.2)]
      have ein := nIk (k := p) (N := 400) (by omega) (by omega)
      have ecl := nI_clamp (n := p) (by omega)
      by_cases c2 : (M, ρ).1 11 0 7 = 3
      · rw [if_pos c2, show (M, ρ).1 11 0 8 = _ from ht.1, show (M, ρ).1 11 0 5 = _ from hx.2.1, if_pos (nI_lt c (by omega))]
        simp only [ecl, ein, if_false]
        rw [hx.2.2 p c, if_neg c1]
      · rw [if_neg c2]
  · rw [zb_f (fun e => c e.1), show (M, ρ).1 11 0 7 = 4 from ht.2.2.2.1 c, if_neg (by decide)]
theorem tok_4 (ht : cTok M tx n p) (c : p < n) : ¬ M 11 0 7 = 4 := by
  obtain ⟨h1, h2, h3, h4, h5, h6, h7⟩ := ht
  by_cases c1 : isLt (tx p)
  · rw [(h5 c c1).1]; decide
  · by_cases c2 : isDg (tx p)
    · rw [(h6 c c2).1]; decide
    · rw [h7 c c1 c2]; decide
def cAll (M : zMem) (ρ : Int64 × Nat) (out : (Int32 × Nat) ⊕ zSheet) (r : zRes) : Prop := match out with
  | .inl (k, q) => ∃ M', r = zok 0 (M', ρ) ∧ M' 11 0 3 = k ∧ M' 11 0 4 = nI q ∧ rdB M M'
  | .inr T' => ∃ M', r = zok 1 (M', ρ) ∧ cSheet M' 14 T' ∧ zOk T' ∧ rdF M M'
theorem cAll_le {M1 : zMem} {out : (Int32 × Nat) ⊕ zSheet} {r : zRes} (hf : rdF M M1) (h : cAll M1 ρ out r) : cAll M ρ out r := by
  cases out with
  | inl e =>
    obtain ⟨M2, g1, g2, g3, g4⟩ := h
    exact ⟨M2, g1, g2, g3, rdB_tr (rdF_B hf) g4⟩
  | inr e =>
    obtain ⟨M2, g1, g2, g3, g4⟩ := h
    exact ⟨M2, g1, g2, g3, rdF_tr hf g4⟩
theorem c_step {d : Nat} {x1 x2 : Int32} {r : zRes} (hg : lnG p n (ln1 tx n T p)) (hp : p < n) (hd : n - p ≤ d + 1) (h : cOut tx n M ρ (ln1 tx n T p) r) (ih : ∀ T' q M' v, zOk T' → cTx M' tx n → cTok M' tx n q → cSheet M' 14 T' → p < q → n - q ≤ d → cAll M' ρ (lnAll tx n d T' q) (zX zP zK_X1_readText (49, [zR 11 0, zI x1, zI x2, v], []) (M', ρ))) : cAll M ρ (lnAll tx n (d + 1) T p) (zcI r (fun r2 s2 => if r2 = 0 then zok 0 s2 else (zcI (zrun zP 11 [zR 11 0] s2) (fun r3 s3 => if r3 = 0 then (zcI (zrun zP 5 [zR 11 0, zI 1, zI (s3.1 11 0 8)] s3) (fun r4 s4 => if r4 = 0 ∨ r4 = 1 then zok r4 s4 else none)) else (zcV (zrun zP 6 [zR 11 0] s3) (fun s5 => zX zP zK_X1_readText (49, [zR 11 0, zI x1, zI x2, zI r2], []) s5)))))) := by
  cases hE : ln1 tx n T p with
  | inl e =>
    obtain ⟨k, q⟩ := e
    rw [hE] at h
    obtain ⟨M1, g1, g2, g3, g4⟩ := h
    rw [lnAll_l hp (by rw [hE]; rfl), g1, zcI_ok, if_pos rfl]
    exact ⟨M1, rfl, g2, g3, g4⟩
  | inr e =>
    obtain ⟨T', q⟩ := e
    rw [hE] at h hg
    obtain ⟨M1, g1, g2, g3, g4, g5⟩ := h
    rw [g1, zcI_ok, if_neg (by decide), c_semi g2 g3, zcI_ok]
    by_cases c : q < n ∧ tx q = 59
    · obtain ⟨M2, l1, l2, l3⟩ := c_advance (ρ := ρ) g2 g3
      have le : lnE tx n (ln1 tx n T p) = .inr (T', q) := by rw [hE]; exact zif_t c
      have hq := hg.2.1
      have hk := (sk_spec (tx := tx) (n := n) (q + 1)).1
      rw [← nx_59 c.1 c.2] at hk
      rw [lnAll_r hp le, zb_t c, if_neg (by decide), l1, zcV_ok]
      exact cAll_le (rdF_tr g5 (tkF_rd l3)) (ih T' _ M2 _ hg.1 (tkFr_tx l3 g2) l2 (tkF_sh l3 g4) (by omega) (by omega))
    · rw [lnAll_l hp (show lnE tx n (ln1 tx n T p) = .inl (1, q) by rw [hE]; exact zif_f c), zb_f c, if_pos rfl, show (M1, ρ).1 11 0 8 = _ from g3.1, e_X1_fail, zcI_ok, if_pos (Or.inl rfl)]
      exact ⟨flM M1 1 q, rfl, (zms_ne (by omega)).trans zms_eq, zms_eq, rdB_tr (rdF_B g5) flM_rd⟩
theorem c_lines (x1 : Int32) : ∀ d T p M l v, n - p ≤ d → l ≤ p → zOk T → cTx M tx n → cTok M tx n p → cSheet M 14 T → cAll M ρ (lnAll tx n d T p) (zX zP zK_X1_readText (49, [zR 11 0, zI x1, zI (nI l), v], []) (M, ρ)) := by
  intro d
  have fin : ∀ d T p M l v, ¬ p < n → zOk T → cTok M tx n p → cSheet M 14 T → cAll M ρ (lnAll tx n d T p) (zX zP zK_X1_readText (49, [zR 11 0, zI x1, zI (nI l), v], []) (M, ρ)) := by
    intro d T p M l v hp ok ht hS
    rw [lnAll_n d hp, e_X1_readText_49]
    refine ⟨M, ?_, hS, ok, fun _ _ _ _ _ _ => rfl⟩
    by_cases c : nI l < 400
    · rw [if_pos c, show (M, ρ).1 11 0 7 = 4 from ht.2.2.2.1 hp, if_pos rfl]
    · rw [if_neg c]
  induction d with
  | zero =>
    intro T p M l v hd hl ok hx ht hS
    exact fin 0 T p M l v (by omega) ok ht hS
  | succ d ih =>
    intro T p M l v hd hl ok hx ht hS
    by_cases hp : p < n
    · have hn := hx.1
      have hg := lnG_1 (tx := tx) ok hS.2.1 (fun u hu => (hS.2.2 u hu).1.2.2.2.2.1) (show p ≤ n by omega)
      have ih' : ∀ T' q M' v, zOk T' → cTx M' tx n → cTok M' tx n q → cSheet M' 14 T' → p < q → n - q ≤ d → cAll M' ρ (lnAll tx n d T' q) (zX zP zK_X1_readText (49, [zR 11 0, zI x1, zI (nI (l + 1)), v], []) (M', ρ)) := fun T' q M' v a1 a2 a3 a4 a5 a6 => ih T' q M' (l + 1) v a6 (by omega) a1 a2 a3 a4
      rw [e_X1_readText_49, if_pos (show nI l < 400 from (nI_lt (show l < 400 by omega) (by omega) : nI l < nI 400)), if_neg (tok_4 ht hp), c_isWord hx ht (by omega), zcI_ok, nI_1]
      by_cases c1 : wordIs tx n p (zstr 0)
      · rw [zb_t c1, if_neg (by decide)]
        have q := c_tierLine (ρ := ρ) hx ht hS ok.1
        rw [show lnTier tx n T p = ln1 tx n T p from (zif_t c1).symm] at q
        exact c_step hg hp hd q ih'
      · rw [zb_f c1, if_pos rfl]
        have q := c_markLine (ρ := ρ) ok hx ht hS
        rw [show lnMark tx n T p = ln1 tx n T p from (zif_f c1).symm] at q
        exact c_step hg hp hd q ih'
    · exact fin (d + 1) T p M l v hp ok ht hS
end ZLP
