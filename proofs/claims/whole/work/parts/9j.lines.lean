/-! what a line gives: the laws are kept, the place moves on -/
def lnG (p n : Nat) (out : zLo) : Prop := match out with
  | .inl (k, _) => 0 < k
  | .inr (T', q) => zOk T' ∧ p ≤ q ∧ q ≤ n
section ZLN
variable {tx : Nat → Int32} {n p : Nat} {T : zSheet}
theorem lnG_if {P : Prop} {a b : zLo} (ha : P → lnG p n a) (hb : ¬ P → lnG p n b) : lnG p n (zif P a b) := by
  by_cases c : P
  · rw [zif_t c]; exact ha c
  · rw [zif_f c]; exact hb c
theorem lnG_le {q : Nat} {a : zLo} (hq : p ≤ q) (h : lnG q n a) : lnG p n a := by
  cases a with
  | inl e => exact h
  | inr e => exact ⟨h.1, by have := h.2.1; omega, h.2.2⟩
theorem nx_le {p : Nat} (hp : p ≤ n) : p ≤ nx tx n p ∧ nx tx n p ≤ n := by
  have h1 := te_le (tx := tx) hp
  have h2 := sk_spec (tx := tx) (n := n) (te tx n p)
  exact ⟨by unfold nx; omega, h2.2.1 h1.2.1⟩
theorem lb_ok {u : Nat} (h : shW tx n u 4) : ∃ v, v < 2 ^ 31 ∧ lbV tx n u = nI v := by
  refine ⟨_, ?_, rfl⟩
  have ws := we_spec (tx := tx) (n := n) u
  have := mkF_lt (tx := tx) (mo := 6) (p := u) (we tx n u - u) (fun q hq => (ws.2.2.1 (u + q) (by omega) (by omega)).2)
  have h3 := h.2.2
  have : 32 ^ (min (we tx n u - u) 6) ≤ 32 ^ 4 := Nat.pow_le_pow_right (by omega) (by omega)
  omega
theorem lnG_lab {u : Nat} (hu : u ≤ n) {S : zSheet} {f : Int32 → zSheet} (hS : zOk S) (hf : ∀ l, (∃ v, v < 2 ^ 31 ∧ l = nI v) → zOk (f l)) : lnG u n (lnLab tx n u S f) := by
  unfold lnLab
  refine lnG_if (fun c => lnG_if (fun _ => by show (0 : Int32) < 1; decide) (fun c1 => ?_)) (fun _ => ⟨hS, Nat.le_refl _, hu⟩)
  have c2 : shW tx n u 4 := Classical.byContradiction c1
  have := nx_le (tx := tx) hu
  exact ⟨hf _ (lb_ok c2), this.1, this.2⟩
theorem lnG_ve (ok : zOk T) (h6 : T.1 ≤ 6) (h40 : ∀ u, u < T.1 → rct (T.2 u) ≤ 40) {t : Nat} (ht : t < T.1) {a : Nat} (ha : a ≤ 999) (q : Nat) (v : Int32) {s : Nat} (hs : s ≤ n) : lnG s n (lnVrb tx n T v t a q s) := by
  unfold lnVrb
  have z0 : ∃ v, v < 2 ^ 31 ∧ (0 : Int32) = nI v := ⟨0, by omega, rfl⟩
  by_cases c1 : v = 1
  · rw [if_pos c1]
    unfold lnPut
    refine lnG_if (fun _ => by show (0 : Int32) < 1; decide) (fun _ => lnG_if (fun _ => by show (0 : Int32) < 2; decide) (fun d2 => lnG_if (fun _ => by show (0 : Int32) < 6; decide) (fun d3 => lnG_if (fun _ => by show (0 : Int32) < 3; decide) (fun d4 => ?_))))
    have d2' := Classical.byContradiction d2
    have d3' := Classical.byContradiction d3
    have hn := nx_le (tx := tx) hs
    have P : ∀ l, (∃ v, v < 2 ^ 31 ∧ l = nI v) → zOk (sPut T t (nI a) (nI (nmT tx n s)) l) := fun l hl => ok_put ok h6 h40 ht d3' (nI_lt d2'.2 (by omega)) ⟨a, ha, rfl⟩ ⟨_, d2'.1, rfl⟩ hl
    exact lnG_le hn.1 (lnG_lab hn.2 (P 0 z0) P)
  · rw [if_neg c1]
    by_cases c2 : v = 2
    · rw [if_pos c2]
      unfold lnPoi
      refine lnG_if (fun _ => by show (0 : Int32) < 6; decide) (fun d3 => lnG_if (fun _ => by show (0 : Int32) < 3; decide) (fun d4 => ?_))
      have d3' := Classical.byContradiction d3
      have P : ∀ l, (∃ v, v < 2 ^ 31 ∧ l = nI v) → zOk (sUp T t (tIns (T.2 t) (nI a) (nI a) l)) := fun l hl => ok_point ok h6 h40 ht d3' ⟨a, ha, rfl⟩ hl
      exact lnG_lab hs (P 0 z0) P
    · rw [if_neg c2]
      by_cases c3 : v = 3
      · rw [if_pos c3]
        unfold lnSpl
        refine lnG_if (fun _ => by show (0 : Int32) < 6; decide) (fun d3 => lnG_if (fun _ => by show (0 : Int32) < 3; decide) (fun d4 => ?_))
        have d3' := Classical.byContradiction d3
        have K : zOk (sCut T t (nI a)) := ok_cut ok h6 h40 ht d3'.1 d3'.2.2
        exact lnG_lab hs K (fun l hl => ok_lab K h6 hl)
      · rw [if_neg c3]
        unfold lnLbl
        refine lnG_if (fun _ => by show (0 : Int32) < 6; decide) (fun d3 => lnG_if (fun _ => by show (0 : Int32) < 1; decide) (fun d4 => ?_))
        have hn := nx_le (tx := tx) hs
        exact ⟨ok_lab ok h6 (lb_ok (Classical.byContradiction d4)), hn.1, hn.2⟩
theorem lnG_mark (ok : zOk T) (h6 : T.1 ≤ 6) (h40 : ∀ u, u < T.1 → rct (T.2 u) ≤ 40) (hp : p ≤ n) : lnG p n (lnMark tx n T p) := by
  unfold lnMark
  have n1 := nx_le (tx := tx) hp
  have n2 := nx_le (tx := tx) n1.2
  have n3 := nx_le (tx := tx) n2.2
  refine lnG_if (fun _ => by show (0 : Int32) < 1; decide) (fun _ => ?_)
  unfold lnKno
  refine lnG_if (fun _ => by show (0 : Int32) < 1; decide) (fun _ => lnG_if (fun _ => by show (0 : Int32) < 5; decide) (fun c2 => ?_))
  obtain ⟨t, t1, t2⟩ := ixN_n h6 c2
  rw [t2, nI_clamp (show t < 2 ^ 31 by omega)]
  unfold lnTim
  refine lnG_if (fun _ => by show (0 : Int32) < 1; decide) (fun _ => lnG_if (fun _ => by show (0 : Int32) < 2; decide) (fun c4 => ?_))
  exact lnG_le (by omega) (lnG_ve ok h6 h40 t1 (Classical.byContradiction c4) _ _ n3.2)
theorem lnG_tier (ok : zOk T) (hp : p ≤ n) : lnG p n (lnTier tx n T p) := by
  unfold lnTier
  have n1 := nx_le (tx := tx) hp
  have n2 := nx_le (tx := tx) n1.2
  have n3 := nx_le (tx := tx) n2.2
  have n4 := nx_le (tx := tx) n3.2
  refine lnG_if (fun _ => by show (0 : Int32) < 3; decide) (fun c0 => lnG_if (fun _ => by show (0 : Int32) < 1; decide) (fun _ => lnG_if (fun _ => by show (0 : Int32) < 4; decide) (fun _ => ?_)))
  have h6 : T.1 < 6 := Classical.byContradiction c0
  unfold lnKind
  refine lnG_if (fun _ => by show (0 : Int32) < 1; decide) (fun c1 => lnG_if (fun c2 => ?_) (fun c2 => ?_))
  · refine ⟨ok_add ok h6 ?_, by omega, n3.2⟩
    rcases c2 with e | e
    · exact Or.inl ⟨e, rfl⟩
    · exact Or.inr (Or.inl ⟨e.1, rfl⟩)
  · unfold lnPar
    refine lnG_if (fun _ => by show (0 : Int32) < 1; decide) (fun _ => lnG_if (fun _ => by show (0 : Int32) < 5; decide) (fun c4 => lnG_if (fun _ => by show (0 : Int32) < 5; decide) (fun c5 => ?_)))
    obtain ⟨t, t1, t2⟩ := ixN_n (by omega) c4
    rw [t2, nI_clamp (show t < 2 ^ 31 by omega)] at c5
    refine ⟨ok_add ok h6 (Or.inr (Or.inr ⟨?_, t, t1, t2, c5⟩)), by omega, n4.2⟩
    rcases kdW_v (tx := tx) (n := n) (p := nx tx n (nx tx n p)) with e | e | e | e | e
    · exact absurd (Or.inl e) c2
    · exact Or.inl e
    · exact Or.inr (Or.inl e)
    · exact Or.inr (Or.inr e)
    · exact absurd e c1
end ZLN
noncomputable def ln1 (tx : Nat → Int32) (n : Nat) (T : zSheet) (p : Nat) : zLo := zif (wordIs tx n p (zstr 0)) (lnTier tx n T p) (lnMark tx n T p)
/-- a line, and the sign behind it -/
noncomputable def lnE (tx : Nat → Int32) (n : Nat) (out : zLo) : zLo := match out with
  | .inl e => .inl e
  | .inr (T', q) => zif (q < n ∧ tx q = 59) (.inr (T', q)) (.inl (1, q))
noncomputable def lnAll (tx : Nat → Int32) (n : Nat) : Nat → zSheet → Nat → (Int32 × Nat) ⊕ zSheet
  | 0, T, _ => .inr T
  | d + 1, T, p => zif (p < n) (match lnE tx n (ln1 tx n T p) with
    | .inl e => .inl e
    | .inr (T', q) => lnAll tx n d T' (nx tx n q)) (.inr T)
section ZLA
variable {tx : Nat → Int32} {n p : Nat} {b f w : Int32} {T : zSheet} {M M0 : zMem} {ρ : Int64 × Nat}
theorem lnG_1 (ok : zOk T) (h6 : T.1 ≤ 6) (h40 : ∀ u, u < T.1 → rct (T.2 u) ≤ 40) (hp : p ≤ n) : lnG p n (ln1 tx n T p) := lnG_if (fun _ => lnG_tier ok hp) (fun _ => lnG_mark ok h6 h40 hp)
def mOutE (n : Nat) (M : zMem) (ρ : Int64 × Nat) (out : zLo) (r : zRes) : Prop := match out with
  | .inl (k, q) => ∃ M', r = zvd (M', ρ) ∧ M' 16 0 14 = k ∧ M' 16 0 15 = nI q ∧ mpF M M'
  | .inr (T', q) => ∃ M' b w, r = zvd (M', ρ) ∧ ms M' (q + 1) b 0 w ∧ q < n ∧ mSheet M' 31 T' ∧ mpF M M'
theorem nx_12 {M : zMem} {v : Int32} : mpF M (zms M 16 0 12 v) := fun k j q a b => zms_ne (by omega)
theorem m_lend (hx : mTx M tx n) {out : zLo} {r : zRes} (hg : lnG p n out) (h : mOut tx n M ρ out r) : mOutE n M ρ (lnE tx n out) (zcV r (fun s6 => if (s6.1 16 0 14) = 0 then (zcI (zrun zP 169 [zR 16 0] s6) (fun r7 s7 => if r7 = 59 then (if (s7.1 16 0 12) = (s7.1 16 0 11) then (zcV (zrun zP 168 [zR 16 0, zI 1, zI (s7.1 16 0 12)] s7) (fun s8 => some (.inl none, (zms s8.1 16 0 12 ((s8.1 16 0 12) + 1), s8.2)))) else (some (.inl none, (zms s7.1 16 0 12 ((s7.1 16 0 12) + 1), s7.2)))) else (zcV (zrun zP 168 [zR 16 0, zI 1, zI (s7.1 16 0 12)] s7) (fun s9 => some (.inl none, (zms s9.1 16 0 12 ((s9.1 16 0 12) + 1), s9.2)))))) else (some (.inl none, (zms s6.1 16 0 12 ((s6.1 16 0 12) + 1), s6.2))))) := by
  cases out with
  | inl e =>
    obtain ⟨k, q⟩ := e
    obtain ⟨M1, g1, g2, g3, g4⟩ := h
    have k0 : 0 < k := hg
    have kn : ¬ k = 0 := fun e => by rw [e] at k0; exact absurd k0 (by decide)
    rw [g1, zcV_ok, show (M1, ρ).1 16 0 14 = k from g2, if_neg kn]
    exact ⟨_, rfl, (zms_ne (by omega)).trans g2, (zms_ne (by omega)).trans g3, mpF_tr g4 nx_12⟩
  | inr e =>
    obtain ⟨T', q⟩ := e
    obtain ⟨M1, p', b1, w1, g1, g2, g3, g4, g5, g6⟩ := h
    have x1 := mpF_tx g6 hx
    obtain ⟨M2, l1, l2, l3⟩ := m_sign (ρ := ρ) g3 x1 g2
    rw [g4] at l1 l2
    have x2 := nxF_tx l3 x1
    have s2 := nxF_sh l3 g5
    have hn := hx.1
    have hq : q ≤ n := hg.2.2
    have e12 : (M2, ρ).1 16 0 12 = nI q := l2.1
    have e11 : (M2, ρ).1 16 0 11 = nI n := x2.2.1
    rw [g1, zcV_ok, show (M1, ρ).1 16 0 14 = 0 from g2.2.2.1, if_pos rfl, l1, zcI_ok, e12, e11]
    show mOutE n M ρ (zif (q < n ∧ tx q = 59) (.inr (T', q)) (.inl (1, q))) _
    obtain ⟨M3, h1, h2, h3⟩ := m_wrong0 (ρ := ρ) l2 1 (nI q)
    unfold sgv
    by_cases c : q < n
    · rw [zif_t c]
      by_cases c1 : tx q = 59
      · rw [if_pos c1, if_neg (fun e => by have := (nI_eq (by omega) (by omega)).mp e; omega), zif_t ⟨c, c1⟩, nI_1]
        refine ⟨_, b1, w1, rfl, ⟨zms_eq, (zms_ne (by omega)).trans l2.2.1, (zms_ne (by omega)).trans l2.2.2.1, (zms_ne (by omega)).trans l2.2.2.2⟩, c, mSheet_congr (fun z hz => zms_ne (by omega)) s2, mpF_tr g6 (mpF_tr (nxF_mp l3) nx_12)⟩
      · rw [if_neg c1, zif_f (fun e => c1 e.2), h1, zcV_ok]
        exact ⟨_, rfl, (zms_ne (by omega)).trans h2.2.2.1, (zms_ne (by omega)).trans h2.2.2.2, mpF_tr g6 (mpF_tr (nxF_mp l3) (mpF_tr (nxF_mp h3) nx_12))⟩
    · rw [zif_f c, if_neg (by decide), zif_f (fun e => c e.1), h1, zcV_ok]
      exact ⟨_, rfl, (zms_ne (by omega)).trans h2.2.2.1, (zms_ne (by omega)).trans h2.2.2.2, mpF_tr g6 (mpF_tr (nxF_mp l3) (mpF_tr (nxF_mp h3) nx_12))⟩
theorem mOut_le {M1 : zMem} {out : zLo} {r : zRes} (hf : mpF M M1) (h : mOut tx n M1 ρ out r) : mOut tx n M ρ out r := by
  cases out with
  | inl e =>
    obtain ⟨k, q⟩ := e
    obtain ⟨M2, g1, g2, g3, g4⟩ := h
    exact ⟨M2, g1, g2, g3, mpF_tr hf g4⟩
  | inr e =>
    obtain ⟨T', q⟩ := e
    obtain ⟨M2, p', b1, w1, g1, g2, g3, g4, g5, g6⟩ := h
    exact ⟨M2, p', b1, w1, g1, g2, g3, g4, g5, mpF_tr hf g6⟩
theorem m_oneLine (ok : zOk T) (hp : p ≤ n) (hx : mTx M tx n) (hm : ms M p b 0 w) (hS : mSheet M 31 T) : mOutE n M ρ (lnE tx n (ln1 tx n T (sk tx n p))) (zrun zP 184 [zR 16 0] (M, ρ)) := by
  have hq := (sk_spec (tx := tx) (n := n) p).2.1 hp
  have hg := lnG_1 (tx := tx) ok hS.2.1 (fun u hu => (hS.2.2 u hu).2.2.2.2.1) hq
  have ss := sk_sk (tx := tx) (n := n) p
  rw [e_X6_oneLine]
  unfold ln1 at hg ⊢
  obtain ⟨a1, a2⟩ := m_passes (ρ := ρ) hp hx hm (k := 0) (by omega)
  by_cases c1 : wordIs tx n (sk tx n p) (zstr 0)
  · obtain ⟨M1, g1, g2, g3⟩ := a1 c1
    rw [← (te_w (by omega) c1).2.2] at g2
    rw [g1, zcI_ok, if_neg (by decide), show (M1, ρ).1 16 0 13 = _ from g2.2.1]
    rw [zif_t c1] at hg ⊢
    exact m_lend hx hg (mOut_le (nxF_mp g3) (m_tierTold (nxF_tx g3 hx) hq g2 (nxF_sh g3 hS)))
  · obtain ⟨M1, g1, g2, g3⟩ := a2 c1
    rw [zif_f c1] at hg ⊢
    rw [g1, zcI_ok, if_pos rfl]
    unfold lnMark vbW at hg ⊢
    obtain ⟨b1, b2⟩ := m_passes (ρ := ρ) hq (nxF_tx g3 hx) g2 (k := 5) (by omega)
    rw [ss] at b1 b2
    by_cases c2 : wordIs tx n (sk tx n p) (zstr 5)
    · obtain ⟨M2, l1, l2, l3⟩ := b1 c2
      have f2 := nxF_tr g3 l3
      have tw := (te_w (by omega) c2).2.2
      rw [← tw] at l2
      rw [zif_t c2, zif_f (by decide)] at hg ⊢
      rw [l1, zcI_ok, if_neg (by decide)]
      exact m_lend hx hg (mOut_le (nxF_mp f2) (m_markTold ok (te_le hq).2.1 (nxF_tx f2 hx) l2 (nxF_sh f2 hS)))
    · obtain ⟨M2, l1, l2, l3⟩ := b2 c2
      have f2 := nxF_tr g3 l3
      rw [zif_f c2] at hg ⊢
      rw [l1, zcI_ok, if_pos rfl]
      obtain ⟨d1, d2⟩ := m_passes (ρ := ρ) hq (nxF_tx f2 hx) l2 (k := 6) (by omega)
      rw [ss] at d1 d2
      by_cases c3 : wordIs tx n (sk tx n p) (zstr 6)
      · obtain ⟨M3, k1, k2, k3⟩ := d1 c3
        have f3 := nxF_tr f2 k3
        rw [← (te_w (by omega) c3).2.2] at k2
        rw [zif_t c3, zif_f (by decide)] at hg ⊢
        rw [k1, zcI_ok, if_neg (by decide)]
        exact m_lend hx hg (mOut_le (nxF_mp f3) (m_pointTold ok (te_le hq).2.1 (nxF_tx f3 hx) k2 (nxF_sh f3 hS)))
      · obtain ⟨M3, k1, k2, k3⟩ := d2 c3
        have f3 := nxF_tr f2 k3
        rw [zif_f c3] at hg ⊢
        rw [k1, zcI_ok, if_pos rfl]
        obtain ⟨e1, e2⟩ := m_passes (ρ := ρ) hq (nxF_tx f3 hx) k2 (k := 7) (by omega)
        rw [ss] at e1 e2
        by_cases c4 : wordIs tx n (sk tx n p) (zstr 7)
        · obtain ⟨M4, h1, h2, h3⟩ := e1 c4
          have f4 := nxF_tr f3 h3
          rw [← (te_w (by omega) c4).2.2] at h2
          rw [zif_t c4, zif_f (by decide)] at hg ⊢
          rw [h1, zcI_ok, if_neg (by decide)]
          exact m_lend hx hg (mOut_le (nxF_mp f4) (m_splitTold ok (te_le hq).2.1 (nxF_tx f4 hx) h2 (nxF_sh f4 hS)))
        · obtain ⟨M4, h1, h2, h3⟩ := e2 c4
          have f4 := nxF_tr f3 h3
          rw [zif_f c4] at hg ⊢
          rw [h1, zcI_ok, if_pos rfl]
          obtain ⟨j1, j2⟩ := m_passes (ρ := ρ) hq (nxF_tx f4 hx) h2 (k := 8) (by omega)
          rw [ss] at j1 j2
          by_cases c5 : wordIs tx n (sk tx n p) (zstr 8)
          · obtain ⟨M5, i1, i2, i3⟩ := j1 c5
            have f5 := nxF_tr f4 i3
            rw [← (te_w (by omega) c5).2.2] at i2
            rw [zif_t c5, zif_f (by decide)] at hg ⊢
            rw [i1, zcI_ok, if_neg (by decide)]
            exact m_lend hx hg (mOut_le (nxF_mp f5) (m_labelTold (te_le hq).2.1 (nxF_tx f5 hx) i2 (nxF_sh f5 hS)))
          · obtain ⟨M5, i1, i2, i3⟩ := j2 c5
            have f5 := nxF_tr f4 i3
            rw [zif_f c5, zif_t rfl] at hg ⊢
            obtain ⟨M6, u1, u2, u3⟩ := m_wrong0 (ρ := ρ) i2 1 (nI (sk tx n p))
            rw [i1, zcI_ok, if_pos rfl, show (M5, ρ).1 16 0 12 = _ from i2.1]
            exact m_lend hx hg (by rw [u1]; exact bad_out (mpF_tr (nxF_mp f5) (nxF_mp u3)) u2)
end ZLA
