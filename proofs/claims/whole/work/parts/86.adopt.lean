/-! adopt -/
noncomputable def adL (r r' : zTier) (k : Nat) : Int32 := if rlb r k = 0 then pLabelOf r' (rfr r k) (rto r k) else 0
noncomputable def tAd (r r' : zTier) (k : Nat) : zTier := (rnm r, rkd r, rpr r, rct r, rfr r, rto r, fun j => zif (j < k ∧ ¬ adL r r' j = 0) (adL r r' j) (rlb r j))
noncomputable def nAd (r r' : zTier) (k d : Nat) : Nat := nsum (fun j => ind (¬ adL r r' j = 0)) k d
theorem sUp_sUp {T : zSheet} {t : Nat} {r r' : zTier} : sUp (sUp T t r) t r' = sUp T t r' := by
  unfold sUp
  congr 1
  funext u
  by_cases c : u = t
  · rw [if_pos c, if_pos c]
  · rw [if_neg c, if_neg c]
    exact if_neg c
section ZAD
variable {r r' : zTier} {T O : zSheet} {n i : Nat} {H : Nat → zSheet} {M : zMem} {σ : zSt} {ρ : Int64 × Nat}
theorem tAd_k {k : Nat} : rlb (tAd r r' k) k = rlb r k := zif_f (fun e => Nat.lt_irrefl _ e.1)
theorem tAd_s {k : Nat} (h : ¬ adL r r' k = 0) : tLab (tAd r r' k) k (adL r r' k) = tAd r r' (k + 1) := by
  show (rnm r, rkd r, rpr r, rct r, rfr r, rto r, (fun j => if j = k then adL r r' k else zif (j < k ∧ ¬ adL r r' j = 0) (adL r r' j) (rlb r j))) = _
  unfold tAd
  congr 6
  funext j
  by_cases c : j = k
  · rw [if_pos c, c, zif_t ⟨Nat.lt_succ_self _, h⟩]
  · rw [if_neg c]
    by_cases c2 : j < k ∧ ¬ adL r r' j = 0
    · rw [zif_t c2, zif_t ⟨by omega, c2.2⟩]
    · rw [zif_f c2, zif_f (fun e => c2 ⟨by omega, e.2⟩)]
theorem tAd_n {k : Nat} (h : adL r r' k = 0) : tAd r r' k = tAd r r' (k + 1) := by
  unfold tAd
  congr 6
  funext j
  by_cases c2 : j < k ∧ ¬ adL r r' j = 0
  · rw [zif_t c2, zif_t ⟨by omega, c2.2⟩]
  · rw [zif_f c2, zif_f (fun e => c2 ⟨by
      have : j ≠ k := fun q => e.2 (q ▸ h)
      omega, e.2⟩)]
theorem tAd_0 {k : Nat} (h : ∀ j, j < k → adL r r' j = 0) : tAd r r' k = r := by
  unfold tAd
  have e : (fun j => zif (j < k ∧ ¬ adL r r' j = 0) (adL r r' j) (rlb r j)) = rlb r := funext (fun j => zif_f (fun e => e.2 (h j e.1)))
  rw [e]
theorem nAd_s {k d : Nat} : nAd r r' k (d + 1) = ind (¬ adL r r' k = 0) + nAd r r' (k + 1) d := rfl
theorem ad_loop (hne : rct r ≤ 40) {t u : Nat} (ht : t < T.1) (hu : u < O.1) (hr : T.2 t = r) (hr' : O.2 u = r') (x1 : Int32) : ∀ d k c M' v, k + d = rct r → 0 < c → c + d ≤ 40 → cSheet M' 0 (sUp T t (tAd r r' k)) → cSheet M' 1 O → ∃ M'', zX zP zK_X5_adopt (33, [zR 15 i, zI x1, zR 12 (6 * 0 + t), zR 12 (6 * 1 + u), zI (nI c), zI (nI k), v], []) (M', ρ) = zok (nI (c + nAd r r' k d)) (M'', ρ) ∧ cSheet M'' 0 (sUp T t (tAd r r' (rct r))) ∧ sFr M' M'' 0 := by
  intro d
  induction d with
  | zero =>
    intro k c M' v hk hc hcd h ho
    have hR : cRow M' (6 * 0 + t) (tAd r r' k) := by have := (h.2.2 t ht).1; rwa [sUp_eq] at this
    refine ⟨M', ?_, by rw [show rct r = k by omega]; exact h, sFr_rf⟩
    rw [e_X5_adopt_33, show (M', ρ).1 12 (6 * 0 + t) 5 = nI (rct r) from hR.2.2.2.1, if_neg (nI_nlt (by omega) (by omega))]
    rfl
  | succ d ih =>
    intro k c M' v hk hc hcd h ho
    have h6 := h.2.1
    have hR : cRow M' (6 * 0 + t) (tAd r r' k) := by have := (h.2.2 t ht).1; rwa [sUp_eq] at this
    have hk' : k < rct r := by omega
    have f := hR.2.2.2.2.2 k hk'
    have hO : cRow M' (6 * 1 + u) r' := hr' ▸ (ho.2.2 u hu).1
    have ein := nIk (k := k) (N := 40) (by omega) (by omega)
    have ecl := nI_clamp (n := k) (by omega)
    rw [tAd_k] at f
    have c0 : ¬ nI c = 0 := fun e => by have := (nI_eq (b := 0) (by omega) (by omega)).mp e; omega
    rw [e_X5_adopt_33, show (M', ρ).1 12 (6 * 0 + t) 5 = nI (rct r) from hR.2.2.2.1, if_pos (nI_lt hk' (by omega))]
    simp only [ecl, ein, if_false]
    rw [f.2.2, show M' 20 (6 * 0 + t) k = rfr r k from f.1, show M' 21 (6 * 0 + t) k = rto r k from f.2.1, r_labelOf (σ := (M', ρ)) hO, zcI_ok, nI_1, nAd_s]
    by_cases c1 : rlb r k = 0
    · have ea : adL r r' k = pLabelOf r' (rfr r k) (rto r k) := if_pos c1
      rw [if_pos c1, ← ea]
      by_cases c2 : adL r r' k = 0
      · rw [if_pos c2, ind_f (fun e => e c2), Nat.zero_add (nAd r r' (k + 1) d)]
        exact ih (k + 1) c M' _ (by omega) hc (by omega) (tAd_n c2 ▸ h) ho
      · rw [if_neg c2, if_neg c0, ind_t c2]
        have hf : rowFr M' (zms M' 22 (6 * 0 + t) k (adL r r' k)) (6 * 0 + t) := zm_fr22
        have hup := cSheet_up h (show t < (sUp T t (tAd r r' k)).1 from ht) (c_lab hR k (adL r r' k)) hf (by rw [sUp_eq]; rfl)
        rw [sUp_sUp, tAd_s c2] at hup
        have hs : sFr M' (zms M' 22 (6 * 0 + t) k (adL r r' k)) 0 := rowFr_s (by have : T.1 ≤ 6 := h6; omega) hf
        obtain ⟨M2, g1, g2, g3⟩ := ih (k + 1) (c + 1) _ (zI (adL r r' k)) (by omega) (by omega) (by omega) hup (wsFr_ot (by omega) (sFr_ws hs) ho)
        refine ⟨M2, ?_, g2, sFr_tr hs g3⟩
        rw [nI_1, ← Nat.add_assoc]
        exact g1
    · have ea : adL r r' k = 0 := if_neg c1
      rw [if_neg c1, if_pos trivial, ind_f (fun e => e ea), Nat.zero_add (nAd r r' (k + 1) d)]
      exact ih (k + 1) c M' _ (by omega) hc (by omega) (tAd_n ea ▸ h) ho
theorem c_adopt (hne : rct r ≤ 40) {t u : Nat} (ht : t < T.1) (hu : u < O.1) (hr : T.2 t = r) (hr' : O.2 u = r') (x1 : Int32) (h : cSheet M 0 T) (ho : cSheet M 1 O) (hh : cHist M n H) : ∀ d k v, k + d = rct r → (∀ j, j < k → adL r r' j = 0) → (nAd r r' k d = 0 → zX zP zK_X5_adopt (33, [zR 15 i, zI x1, zR 12 (6 * 0 + t), zR 12 (6 * 1 + u), zI 0, zI (nI k), v], []) (M, ρ) = zok 0 (M, ρ)) ∧ (¬ nAd r r' k d = 0 → cEd M n H T (sUp T t (tAd r r' (rct r))) (nI (nAd r r' k d)) ρ (zX zP zK_X5_adopt (33, [zR 15 i, zI x1, zR 12 (6 * 0 + t), zR 12 (6 * 1 + u), zI 0, zI (nI k), v], []) (M, ρ))) := by
  have h6 := h.2.1
  have hR : cRow M (6 * 0 + t) r := hr ▸ (h.2.2 t ht).1
  have hO : cRow M (6 * 1 + u) r' := hr' ▸ (ho.2.2 u hu).1
  intro d
  induction d with
  | zero =>
    intro k v hk hj
    refine ⟨fun _ => ?_, fun e => absurd rfl e⟩
    rw [e_X5_adopt_33, show (M, ρ).1 12 (6 * 0 + t) 5 = nI (rct r) from hR.2.2.2.1, if_neg (nI_nlt (by omega) (by omega))]
  | succ d ih =>
    intro k v hk hj
    have hk' : k < rct r := by omega
    have f := hR.2.2.2.2.2 k hk'
    have ein := nIk (k := k) (N := 40) (by omega) (by omega)
    have ecl := nI_clamp (n := k) (by omega)
    rw [e_X5_adopt_33, show (M, ρ).1 12 (6 * 0 + t) 5 = nI (rct r) from hR.2.2.2.1, if_pos (nI_lt hk' (by omega))]
    simp only [ecl, ein, if_false]
    rw [f.2.2, f.1, f.2.1, r_labelOf (σ := (M, ρ)) hO, zcI_ok, nI_1, nAd_s]
    by_cases c1 : rlb r k = 0
    · have ea : adL r r' k = pLabelOf r' (rfr r k) (rto r k) := if_pos c1
      rw [if_pos c1, ← ea]
      by_cases c2 : adL r r' k = 0
      · rw [if_pos c2, ind_f (fun e => e c2), Nat.zero_add (nAd r r' (k + 1) d)]
        exact ih (k + 1) _ (by omega) (fun j q => by
          by_cases e : j = k
          · rw [e]; exact c2
          · exact hj j (by omega))
      · rw [if_neg c2, if_pos trivial, ind_t c2]
        refine ⟨fun e => by omega, fun _ => ?_⟩
        obtain ⟨M1, e1, e2, e3⟩ := c_edit (ρ := ρ) h hh
        have hf : rowFr M1 (zms M1 22 (6 * 0 + t) k (adL r r' k)) (6 * 0 + t) := zm_fr22
        have hR1 : cRow M1 (6 * 0 + t) r := hr ▸ (e2.2.2 t ht).1
        have et : tAd r r' k = r := tAd_0 hj
        have hup := cSheet_up e2 ht (c_lab (et.symm ▸ hR1 : cRow M1 (6 * 0 + t) (tAd r r' k)) k (adL r r' k)) hf (by rw [hr, tAd_s c2]; rfl)
        rw [tAd_s c2] at hup
        have hs : sFr M1 (zms M1 22 (6 * 0 + t) k (adL r r' k)) 0 := rowFr_s (by omega) hf
        have ed := e3 M1 sFr_rf
        have ho1 : cSheet M1 1 O := cSheet_lo (fun k j q e => ed.2 k j q (by omega) (by omega) (by omega)) ho
        obtain ⟨M2, g1, g2, g3⟩ := ad_loop (i := i) (ρ := ρ) hne ht hu hr hr' x1 d (k + 1) 1 _ (zI (adL r r' k)) (by omega) (by omega) (by omega) hup (wsFr_ot (by omega) (sFr_ws hs) ho1)
        refine ⟨M2, ?_, g2, e3 M2 (sFr_tr hs g3)⟩
        rw [e1, zcV_ok]
        exact g1
    · have ea : adL r r' k = 0 := if_neg c1
      rw [if_neg c1, if_pos trivial, ind_f (fun e => e ea), Nat.zero_add (nAd r r' (k + 1) d)]
      exact ih (k + 1) _ (by omega) (fun j q => by
          by_cases e : j = k
          · rw [e]; exact ea
          · exact hj j (by omega))
/-! the reference -/
theorem m_adopted {t u : Nat} (h : mRow σ.1 31 t r) (h' : mRow σ.1 32 u r') (ht : t < 6) (hu : u < 6) {k : Nat} (hk : k < rct r) : zrun zP 212 [zR 16 i, zI (nI t), zI (nI k), zI (nI u)] σ = zok (adL r r' k) σ := by
  have h4 := h.2.2.2.2.1
  have h4' := h'.2.2.2.2.1
  rw [e_X6_adopted, m_labelOf h ht hk, zcI_ok]
  unfold adL
  by_cases c : rlb r k = 0
  · rw [if_pos c, if_pos c]
    have p1 := nIk (k := 3 + 124 * u) (N := 745) (by omega) (by omega)
    have p2 := nI_clamp (n := 3 + 124 * u) (by omega)
    have L := zfst_loop (X := fun o => zX zP zK_X6_adopted (14, [zR 16 i, zI (nI t), zI (nI k), zI (nI u), zI (nI o)], []) σ) (v := fun o => zok (rlb r' o) σ) (w := zok 0 σ) (p := fun o => rfr r' o = rfr r k ∧ rto r' o = rto r k) (n := rct r') (fun o ho => by
      have f := h'.2.2.2.2.2 o ho
      have c1 := nIk (k := 5 + 124 * u + 3 * o) (N := 745) (by omega) (by omega)
      have c2 := nI_clamp (n := 5 + 124 * u + 3 * o) (by omega)
      have c3 := nIk (k := 6 + 124 * u + 3 * o) (N := 745) (by omega) (by omega)
      have c4 := nI_clamp (n := 6 + 124 * u + 3 * o) (by omega)
      have c5 := nIk (k := 7 + 124 * u + 3 * o) (N := 745) (by omega) (by omega)
      have c6 := nI_clamp (n := 7 + 124 * u + 3 * o) (by omega)
      have step : zX zP zK_X6_adopted (14, [zR 16 i, zI (nI t), zI (nI k), zI (nI u), zI (nI o)], []) σ = (if rfr r' o = rfr r k then (if rto r' o = rto r k then zok (rlb r' o) σ else (zX zP zK_X6_adopted (14, [zR 16 i, zI (nI t), zI (nI k), zI (nI u), zI (nI (o + 1))], []) σ)) else (zX zP zK_X6_adopted (14, [zR 16 i, zI (nI t), zI (nI k), zI (nI u), zI (nI (o + 1))], []) σ)) := by
        rw [e_X6_adopted_14, m_pos2, zcI_ok]
        simp only [p1, p2, if_false]
        rw [h'.2.2.1, if_pos (nI_lt ho (by omega)), m_cell0, zcI_ok]
        simp only [c1, c2, if_false]
        rw [m_from h ht hk, zcI_ok, f.1, m_cell1, zcI_ok]
        simp only [c3, c4, if_false]
        rw [m_to h ht hk, zcI_ok, f.2.1, m_cell2, zcI_ok]
        simp only [c5, c6, if_false]
        rw [f.2.2, nI_1]
      constructor
      · intro e
        rw [step, if_pos e.1, if_pos e.2]
      · intro e
        rw [step]
        by_cases q : rfr r' o = rfr r k
        · rw [if_pos q, if_neg (fun z => e ⟨q, z⟩)]
        · rw [if_neg q]) (by
      rw [e_X6_adopted_14, m_pos2, zcI_ok]
      simp only [p1, p2, if_false]
      rw [h'.2.2.1, if_neg (nI_nlt (Nat.le_refl _) (by omega))]) (rct r') 0 (by omega)
    rw [nI_0] at L
    rw [L]
    unfold pLabelOf
    cases zfst (fun o => rfr r' o = rfr r k ∧ rto r' o = rto r k) 0 (rct r') <;> rfl
  · rw [if_neg c, if_neg c]
theorem adL_nn (hl : zLb r') (k : Nat) : (0 < adL r r' k) ↔ ¬ adL r r' k = 0 := by
  have key : ∃ v, v < 2 ^ 31 ∧ adL r r' k = nI v := by
    unfold adL
    by_cases c : rlb r k = 0
    · rw [if_pos c]
      unfold pLabelOf
      cases hz : zfst (fun o => rfr r' o = rfr r k ∧ rto r' o = rto r k) 0 (rct r') with
      | none => exact ⟨0, by omega, rfl⟩
      | some o =>
        obtain ⟨z1, z2, z3, -⟩ := (zfst_spec _ _ _).mp hz
        exact hl o (by omega)
    · rw [if_neg c]; exact ⟨0, by omega, rfl⟩
  obtain ⟨v, v1, v2⟩ := key
  rw [v2, nI_0l v1]
  have e : nI v = 0 ↔ v = 0 := nI_eq (b := 0) v1 (by omega)
  rw [e]
  omega
theorem adL_ok (hl : zLb r') (k : Nat) : ∃ v, v < 2 ^ 31 ∧ adL r r' k = nI v := by
  unfold adL
  by_cases c : rlb r k = 0
  · rw [if_pos c]
    unfold pLabelOf
    cases hz : zfst (fun o => rfr r' o = rfr r k ∧ rto r' o = rto r k) 0 (rct r') with
    | none => exact ⟨0, by omega, rfl⟩
    | some o =>
      obtain ⟨z1, z2, z3, -⟩ := (zfst_spec _ _ _).mp hz
      exact hl o (by omega)
  · rw [if_neg c]; exact ⟨0, by omega, rfl⟩
end ZAD
