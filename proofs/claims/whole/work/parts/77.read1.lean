/-! questions: fault, status, told, keep, at, room, stop, find -/
noncomputable def zif {α : Type} (p : Prop) (a b : α) : α := @ite α p (Classical.propDecidable p) a b
theorem zif_t {α : Type} {p : Prop} {a b : α} (h : p) : zif p a b = a := @if_pos p (Classical.propDecidable p) h α a b
theorem zif_f {α : Type} {p : Prop} {a b : α} (h : ¬ p) : zif p a b = b := @if_neg p (Classical.propDecidable p) h α a b
theorem zfold_loopV {α β V : Type} {X : Nat → α → V → β} {w : α → β} {f : Nat → α → α} {n : Nat} (hs : ∀ k a v, k < n → ∃ v', X k a v = X (k + 1) (f k a) v') (hn : ∀ a v, X n a v = w a) : ∀ d k a v, k + d = n → X k a v = w (zfold f k d a) := by
  intro d
  induction d with
  | zero => intro k a v h; rw [show k = n by omega]; exact hn a v
  | succ d ih =>
    intro k a v h
    obtain ⟨v', e⟩ := hs k a v (by omega)
    rw [e]
    exact ih (k + 1) _ v' (by omega)
theorem zfold_loopN {α β : Type} {X : Nat → α → β} {w : α → β} {f : Nat → α → α} {n : Nat} (hs : ∀ k a, k < n → X k a = X (k + 1) (f k a)) (hn : ∀ a, X n a = w a) : ∀ d k a, k + d = n → X k a = w (zfold f k d a) := by
  intro d
  induction d with
  | zero => intro k a h; rw [show k = n by omega]; exact hn a
  | succ d ih =>
    intro k a h
    rw [hs k a (by omega)]
    exact ih (k + 1) _ (by omega)
section ZQ1
variable {T : zSheet} {n i : Nat} {H : Nat → zSheet} {M : zMem} {σ : zSt} {ρ : Int64 × Nat}
theorem m_allMarks {a : Nat} (hl : zlenI (a + 1) 0 = 745) (h : mSheet σ.1 (a + 1) T) : zrun zP 185 [zR 16 i, zR (a + 1) 0] σ = zok (zsum (fun t => nI (rct (T.2 t))) 0 T.1) σ := by
  have h6 := h.2.1
  have p0 := nIk (k := 0) (N := 745) (by omega) (by omega)
  have p0' := nI_clamp (n := 0) (by omega)
  rw [nI_0] at p0 p0'
  have L := zsum_loop (X := fun k acc => zX zP zK_X6_allMarks (4, [zR 16 i, zR (a + 1) 0, zI acc, zI (nI k)], []) σ) (w := fun acc => zok acc σ) (f := fun t => nI (rct (T.2 t))) (n := T.1) (fun t acc ht => by
    have p1 := nIk (k := 3 + 124 * t) (N := 745) (by omega) (by omega)
    have p2 := nI_clamp (n := 3 + 124 * t) (by omega)
    rw [e_X6_allMarks_4]
    simp only [hl, p0, p0', if_false]
    rw [h.1, if_pos (nI_lt ht (by omega)), m_pos2, zcI_ok]
    simp only [hl, p1, p2, if_false]
    rw [(h.2.2 t ht).2.2.1, nI_1]) (fun acc => by
    rw [e_X6_allMarks_4]
    simp only [hl, p0, p0', if_false]
    rw [h.1, if_neg (nI_nlt (Nat.le_refl _) (by omega))]) T.1 0 0 (by omega)
  rw [nI_0, Int32.zero_add] at L
  exact (e_X6_allMarks i a 0 σ).trans L
theorem m_childMany (h : mSheet σ.1 31 T) (x : Int32) : zrun zP 223 [zR 16 i, zI x] σ = zok (zsum (fun t => if rpr (T.2 t) = x then 1 else 0) 0 T.1) σ := by
  have h6 := h.2.1
  have L := zsum_loop (X := fun k acc => zX zP zK_X6_childMany (4, [zR 16 i, zI x, zI acc, zI (nI k)], []) σ) (w := fun acc => zok acc σ) (f := fun t => if rpr (T.2 t) = x then 1 else 0) (n := T.1) (fun t acc ht => by
    rw [e_X6_childMany_4, m_tiers, zcI_ok, h.1, if_pos (nI_lt ht (by omega)), m_parent (h.2.2 t ht) (by omega), zcI_ok, nI_1]
    by_cases c : rpr (T.2 t) = x
    · rw [if_pos c, if_pos c]
    · rw [if_neg c, if_neg c]) (fun acc => by
    rw [e_X6_childMany_4, m_tiers, zcI_ok, h.1, if_neg (nI_nlt (Nat.le_refl _) (by omega))]) T.1 0 0 (by omega)
  rw [nI_0, Int32.zero_add] at L
  exact (e_X6_childMany i x σ).trans L
theorem m_families (h : mSheet σ.1 31 T) : zrun zP 220 [zR 16 i] σ = zok (zsum (fun t => if rpr (T.2 t) = -1 then 1 else 0) 0 T.1) σ := by
  have h6 := h.2.1
  have L := zsum_loop (X := fun k acc => zX zP zK_X6_families (4, [zR 16 i, zI acc, zI (nI k)], []) σ) (w := fun acc => zok acc σ) (f := fun t => if rpr (T.2 t) = -1 then 1 else 0) (n := T.1) (fun t acc ht => by
    rw [e_X6_families_4, m_tiers, zcI_ok, h.1, if_pos (nI_lt ht (by omega)), m_parent (h.2.2 t ht) (by omega), zcI_ok, nI_1]
    by_cases c : rpr (T.2 t) = -1
    · rw [if_pos c, if_pos c]
    · rw [if_neg c, if_neg c]) (fun acc => by
    rw [e_X6_families_4, m_tiers, zcI_ok, h.1, if_neg (nI_nlt (Nat.le_refl _) (by omega))]) T.1 0 0 (by omega)
  rw [nI_0, Int32.zero_add] at L
  exact (e_X6_families i σ).trans L
theorem ag_rd {c m : Nat} {args : List zAV} {cd : Nat → Int32} (hR : Rs M T n H) {x : Int32} (hc : ∀ ρ, zrun zP c (zR 15 0 :: args) (M, ρ) = zok x (M, ρ)) (hm : ∀ ρ', zrun zP m (zR 16 0 :: args) (M, ρ') = zok x (zms M 16 0 0 0, ρ')) : zAg c m args cd M := fun ρ ρ' => Or.inl ⟨x, M, zms M 16 0 0 0, hc ρ, hm ρ', zms_eq, T, n, H, Rs_sc hR scFr_z⟩
theorem m_f1 (c w : Int32) : zrun zP 136 [zR 16 0, zI 1, zI c, zI w] (zms M 16 0 0 0, ρ) = zok 1 (zms M 16 0 0 0, ρ) := m_fine1 (σ := (zms M 16 0 0 0, ρ)) zms_eq c w
theorem a_fault (h : zRel M) : zAg 93 187 [] cdN M := by
  obtain ⟨T, n, H, hR⟩ := h
  obtain ⟨c, c1, c2, c3, c4, c5⟩ := hR.2.2.2.1
  refine ag_rd hR (x := M 11 0 4) (fun ρ => e_X5_fault 0 _) (fun ρ' => ?_)
  have e : zms M 16 0 0 0 16 0 16 = M 11 0 4 := (zms_ne (by omega)).trans c5.symm
  refine (e_X6_fault 0 _).trans ?_
  show zok (zms M 16 0 0 0 16 0 16) (zms M 16 0 0 0, ρ') = _
  rw [e]
theorem a_status (h : zRel M) (x : Int32) : zAg 121 244 [zI x] cdN M := by
  obtain ⟨T, n, H, hR⟩ := h
  have k := hR.2.2.2.2
  have e0 : M 15 0 9 = M 30 0 0 := k 0 (by omega)
  have e1 : M 15 0 10 = M 30 0 1 := k 1 (by omega)
  have e2 : M 15 0 11 = M 30 0 2 := k 2 (by omega)
  by_cases c : ¬ x < 0 ∧ ¬ (2 : Int32) < x
  · have hx : x = nI 0 ∨ x = nI 1 ∨ x = nI 2 := by
      have a := c.1
      have b := c.2
      rw [iI_lt] at a b
      have i0 := iI_0
      have i2 : (2 : Int32).toInt = 2 := by decide
      simp only [iI_eq, iI_n (n := 0) (by omega), iI_n (n := 1) (by omega), iI_n (n := 2) (by omega)]
      omega
    have mm : ∀ ρ', zrun zP 244 [zR 16 0, zI x] (M, ρ') = (if x < 0 ∨ 3 ≤ x.toNatClampNeg then none else zok (M 30 0 x.toNatClampNeg) (zms M 16 0 0 0, ρ')) := fun ρ' => by
      rw [e_X6_status, m_isIn, zcI_ok, zb_t c, if_neg (by decide)]
      rfl
    rcases hx with rfl | rfl | rfl
    · refine ag_rd hR (x := M 30 0 0) (fun ρ => ?_) (fun ρ' => (mm ρ').trans (if_neg (by decide)))
      refine (e_X5_status 0 _ _).trans ?_
      rw [if_pos nI_0]
      exact congrArg (fun x => zok x (M, ρ)) e0
    · refine ag_rd hR (x := M 30 0 1) (fun ρ => ?_) (fun ρ' => (mm ρ').trans (if_neg (by decide)))
      refine (e_X5_status 0 _ _).trans ?_
      rw [if_neg (by decide), if_pos (by decide)]
      exact congrArg (fun x => zok x (M, ρ)) e1
    · refine ag_rd hR (x := M 30 0 2) (fun ρ => ?_) (fun ρ' => (mm ρ').trans (if_neg (by decide)))
      refine (e_X5_status 0 _ _).trans ?_
      rw [if_neg (by decide), if_neg (by decide), if_pos (by decide)]
      exact congrArg (fun x => zok x (M, ρ)) e2
  · refine ag_rd hR (x := -1) (fun ρ => ?_) (fun ρ' => ?_)
    · refine (e_X5_status 0 _ _).trans ?_
      rw [if_neg (fun e => c (by rw [e]; decide)), if_neg (fun e => c (by rw [e]; decide)), if_neg (fun e => c (by rw [e]; decide))]
    · refine (e_X6_status 0 _ _).trans ?_
      rw [m_isIn, zcI_ok, zb_f c, if_pos rfl]
theorem m_tiers' (h : mSheet σ.1 31 T) : zrun zP 138 [zR 16 i] σ = zok (nI T.1) σ := by rw [m_tiers, h.1]
theorem a_told (h : zRel M) (x : Int32) : zAg 106 221 [zI x] cdI M := by
  obtain ⟨T, n, H, hR⟩ := h
  have hS := hR.1.1
  have hz := mSheet_z (i := 0) hR.1.2.1
  by_cases c : ¬ x < 0 ∧ ¬ (5 : Int32) < x
  · have cc : ∀ ρ, zrun zP 128 [zR 15 0, zI x, zI 0, zI 5] (M, ρ) = zvd (M, ρ) := fun ρ => (n_range (σ := (M, ρ)) x 0 5).1 c
    have mf : ∀ ρ', zrun zP 136 [zR 16 0, zI 1, zI 1, zI 1] (zms M 16 0 0 0, ρ') = zok 1 (zms M 16 0 0 0, ρ') := fun ρ' => m_fine1 (σ := (zms M 16 0 0 0, ρ')) zms_eq 1 1
    by_cases c0 : x = 0
    · refine ag_rd hR (x := nI T.1) (fun ρ => ?_) (fun ρ' => ?_)
      · rw [e_X5_told, cc, zcV_ok, if_pos c0]
        exact congrArg (fun x => zok x (M, ρ)) hS.1
      · rw [e_X6_told, m_isIn, zcI_ok, zb_t c, mf, zcI_ok, if_neg (by decide), if_pos c0, m_tiers' (σ := (zms M 16 0 0 0, ρ')) hz, zcI_ok]
    · by_cases c1 : x = 0 + 1
      · refine ag_rd hR (x := zsum (fun t => nI (rct (T.2 t))) 0 T.1) (fun ρ => ?_) (fun ρ' => ?_)
        · rw [e_X5_told, cc, zcV_ok, if_neg c0, if_pos c1, s_countMarks (σ := (M, ρ)) hS, zcI_ok]
        · rw [e_X6_told, m_isIn, zcI_ok, zb_t c, mf, zcI_ok, if_neg (by decide), if_neg c0, if_pos c1, m_allMarks (a := 30) (σ := (zms M 16 0 0 0, ρ')) rfl hz, zcI_ok]
      · by_cases c2 : x = 0 + 1 + 1
        · refine ag_rd hR (x := zsum (fun t => if rpr (T.2 t) = -1 then 1 else 0) 0 T.1) (fun ρ => ?_) (fun ρ' => ?_)
          · rw [e_X5_told, cc, zcV_ok, if_neg c0, if_neg c1, if_pos c2, s_countFamilies (σ := (M, ρ)) hS, zcI_ok]
          · rw [e_X6_told, m_isIn, zcI_ok, zb_t c, mf, zcI_ok, if_neg (by decide), if_neg c0, if_neg c1, if_pos c2, m_families (σ := (zms M 16 0 0 0, ρ')) hz, zcI_ok]
        · by_cases c3 : x = 0 + 1 + 1 + 1
          · have e1 : M 10 0 2 = nI n := by obtain ⟨-, N, -, -, q, -⟩ := hR.2.1.1; exact q
            have e2 : zms M 16 0 0 0 16 0 6 = nI n := (zms_ne (by omega)).trans hR.2.1.2.1.2.1
            refine ag_rd hR (x := nI n) (fun ρ => ?_) (fun ρ' => ?_)
            · rw [e_X5_told, cc, zcV_ok, if_neg c0, if_neg c1, if_neg c2, if_pos c3]
              exact congrArg (fun x => zok x (M, ρ)) e1
            · rw [e_X6_told, m_isIn, zcI_ok, zb_t c, mf, zcI_ok, if_neg (by decide), if_neg c0, if_neg c1, if_neg c2, if_pos c3]
              exact congrArg (fun x => zok x (zms M 16 0 0 0, ρ')) e2
          · by_cases c4 : x = 0 + 1 + 1 + 1 + 1
            · obtain ⟨q, q1, q2, q3, -⟩ := hR.2.2.2.1
              have e2 : zms M 16 0 0 0 16 0 10 = nI q := (zms_ne (by omega)).trans q3
              refine ag_rd hR (x := nI q) (fun ρ => ?_) (fun ρ' => ?_)
              · rw [e_X5_told, cc, zcV_ok, if_neg c0, if_neg c1, if_neg c2, if_neg c3, if_pos c4]
                exact congrArg (fun x => zok x (M, ρ)) q2
              · rw [e_X6_told, m_isIn, zcI_ok, zb_t c, mf, zcI_ok, if_neg (by decide), if_neg c0, if_neg c1, if_neg c2, if_neg c3, if_pos c4]
                exact congrArg (fun x => zok x (zms M 16 0 0 0, ρ')) e2
            · rcases hR.2.2.1 with ⟨k1, k2⟩ | ⟨k1, k2, O, o1, o2, o3⟩
              · have e2 : zms M 16 0 0 0 16 0 7 = 0 := (zms_ne (by omega)).trans k2
                refine ag_rd hR (x := -1) (fun ρ => ?_) (fun ρ' => ?_)
                · rw [e_X5_told, cc, zcV_ok, if_neg c0, if_neg c1, if_neg c2, if_neg c3, if_neg c4, if_pos k1]
                · rw [e_X6_told, m_isIn, zcI_ok, zb_t c, mf, zcI_ok, if_neg (by decide), if_neg c0, if_neg c1, if_neg c2, if_neg c3, if_neg c4, if_pos e2]
              · have e2 : ¬ zms M 16 0 0 0 16 0 7 = 0 := fun e => by
                  rw [zms_ne (by omega), k2] at e
                  exact absurd e (by decide)
                have k1' : ¬ M 15 0 2 = 0 := fun e => by
                  rw [k1] at e
                  exact absurd e (by decide)
                have oz : mSheet (zms M 16 0 0 0) 32 O := mSheet_congr (fun q hq => zms_ne (by omega)) o2
                refine ag_rd hR (x := zsum (fun t => nI (rct (O.2 t))) 0 O.1) (fun ρ => ?_) (fun ρ' => ?_)
                · rw [e_X5_told, cc, zcV_ok, if_neg c0, if_neg c1, if_neg c2, if_neg c3, if_neg c4, if_neg k1', s_countMarks (σ := (M, ρ)) o1, zcI_ok]
                · rw [e_X6_told, m_isIn, zcI_ok, zb_t c, mf, zcI_ok, if_neg (by decide), if_neg c0, if_neg c1, if_neg c2, if_neg c3, if_neg c4, if_neg e2, m_allMarks (a := 31) (σ := (zms M 16 0 0 0, ρ')) rfl oz, zcI_ok]
  · refine ag_ref hR (e := 1) (by omega) (fun ρ => ?_) (fun ρ' => ?_)
    · rw [e_X5_told, (n_range (σ := (M, ρ)) x 0 5).2 c, zcV_cTh]
    · rw [e_X6_told, m_isIn, zcI_ok, zb_f c, m_fineA zms_eq 1 (by decide), zcI_ok, if_pos rfl]
      rfl
theorem a_at (h : zRel M) (x a : Int32) : zAg 109 228 [zI x, zI a] cdL M := by
  obtain ⟨T, n, H, hR⟩ := h
  have hS := hR.1.1
  have h6 := hS.2.1
  have hz := mSheet_z (i := 0) hR.1.2.1
  by_cases c : pTr T x
  · by_cases c2 : pTm a
    · obtain ⟨t, ht, rfl⟩ := pTr_n h6 c
      obtain ⟨q1, q2, q3⟩ := s_in (σ := (M, (0, 0))) hS ht
      refine ag_rd hR (x := zfI (pAt (T.2 t) a) (rct (T.2 t))) (fun ρ => ?_) (fun ρ' => ?_)
      · rw [e_X5_at, (n_tier (σ := (M, ρ)) hS _).1 c, zcV_ok, (n_time (σ := (M, ρ)) a).1 c2, zcV_ok]
        simp only [q2, q1, if_false]
        rw [r_markAt (σ := (M, ρ)) (hS.2.2 t ht).1, zcI_ok]
      · rw [e_X6_at, (m_isTier (σ := (zms M 16 0 0 0, ρ')) hz zms_eq _).1 c, zcI_ok, if_neg (by decide), m_isTm, zcI_ok, zb_t c2, m_f1, zcI_ok, if_neg (by decide), m_markAt (σ := (zms M 16 0 0 0, ρ')) (hz.2.2 t ht) (by omega), zcI_ok]
    · refine ag_ref hR (e := 1) (by omega) (fun ρ => ?_) (fun ρ' => ?_)
      · rw [e_X5_at, (n_tier (σ := (M, ρ)) hS _).1 c, zcV_ok, (n_time (σ := (M, ρ)) a).2 c2, zcV_cTh]
      · rw [e_X6_at, (m_isTier (σ := (zms (rfM M 1) 16 0 0 0, ρ')) (mSheet_z (rfM_m hR.1.2.1)) zms_eq _).1 c, zcI_ok, if_neg (by decide), m_isTm, zcI_ok, zb_f c2, m_fineA zms_eq 2 (by decide), zcI_ok, if_pos rfl]
        rfl
  · refine ag_ref hR (e := 0) (by omega) (fun ρ => ?_) (fun ρ' => ?_)
    · rw [e_X5_at, (n_tier (σ := (M, ρ)) hS _).2 c, zcV_cTh]
    · rw [e_X6_at, (m_isTier (σ := (zms (rfM M 0) 16 0 0 0, ρ')) (mSheet_z (rfM_m hR.1.2.1)) zms_eq _).2 c, zcI_ok, if_pos rfl]
      rfl
theorem a_room (h : zRel M) (x y z : Int32) : zAg 117 235 [zI x, zI y, zI z] cdL M := by
  obtain ⟨T, n, H, hR⟩ := h
  have hS := hR.1.1
  have h6 := hS.2.1
  have ok := hR.1.2.2
  have hz := mSheet_z (i := 0) hR.1.2.1
  by_cases c : pStopOf T x y
  · by_cases c2 : ¬ z < 0 ∧ ¬ (1 : Int32) < z
    · have c' := c
      obtain ⟨t, ht, rfl, hst⟩ := c'
      obtain ⟨s, hs, rfl⟩ := pStopX_n (zOk_wt ok) hst
      have hro := pRoot_lt ok.1 h6 ht
      obtain ⟨q1, q2, q3⟩ := s_in (σ := (M, (0, 0))) hS ht
      by_cases c0 : z = 0
      · obtain ⟨v, -, v2⟩ := s_leastFor (σ := (M, (0, 0))) hS ok.1 (zOk_wt ok) hro hs
        refine ag_rd hR (x := nI v) (fun ρ => ?_) (fun ρ' => ?_)
        · obtain ⟨v', w1, w2⟩ := s_leastFor (σ := (M, ρ)) hS ok.1 (zOk_wt ok) hro hs
          rw [e_X5_room, (n_stop hS ok.1 (zOk_po ok) _ _).1 c, zcV_ok, (n_range (σ := (M, ρ)) z 0 1).1 c2, zcV_ok]
          simp only [q2, q1, if_false]
          rw [if_pos c0, (hS.2.2 t ht).2.1, w1, zcI_ok, pLeast_u v2 w2]
        · obtain ⟨v', w1, w2⟩ := m_stopAhead (i := 0) (σ := (zms M 16 0 0 0, ρ')) hz ok.1 hro hs
          rw [e_X6_room, (m_isStopOf hz zms_eq ok.1 _ _).1 c, zcI_ok, if_neg (by decide), m_isIn, zcI_ok, zb_t c2, m_f1, zcI_ok, if_neg (by decide), if_pos c0, m_topOf (σ := (zms M 16 0 0 0, ρ')) hz ok.1 ht, zcI_ok, w1, zcI_ok, pLeast_u v2 w2, Int32.sub_add_cancel]
      · obtain ⟨v, -, v2⟩ := s_greatestFor (σ := (M, (0, 0))) hS ok.1 (zOk_wt ok) hro hs
        refine ag_rd hR (x := nI v) (fun ρ => ?_) (fun ρ' => ?_)
        · obtain ⟨v', w1, w2⟩ := s_greatestFor (σ := (M, ρ)) hS ok.1 (zOk_wt ok) hro hs
          rw [e_X5_room, (n_stop hS ok.1 (zOk_po ok) _ _).1 c, zcV_ok, (n_range (σ := (M, ρ)) z 0 1).1 c2, zcV_ok]
          simp only [q2, q1, if_false]
          rw [if_neg c0, (hS.2.2 t ht).2.1, w1, zcI_ok, pGreat_u v2 w2]
        · obtain ⟨v', w1, w2⟩ := m_stopBehind (i := 0) (σ := (zms M 16 0 0 0, ρ')) hz ok.1 hro hs
          rw [e_X6_room, (m_isStopOf hz zms_eq ok.1 _ _).1 c, zcI_ok, if_neg (by decide), m_isIn, zcI_ok, zb_t c2, m_f1, zcI_ok, if_neg (by decide), if_neg c0, m_topOf (σ := (zms M 16 0 0 0, ρ')) hz ok.1 ht, zcI_ok, w1, zcI_ok, pGreat_u v2 w2, ← nI_1, Int32.add_sub_cancel]
    · refine ag_ref hR (e := 1) (by omega) (fun ρ => ?_) (fun ρ' => ?_)
      · rw [e_X5_room, (n_stop hS ok.1 (zOk_po ok) _ _).1 c, zcV_ok, (n_range (σ := (M, ρ)) z 0 1).2 c2, zcV_cTh]
      · rw [e_X6_room, (m_isStopOf (mSheet_z (rfM_m hR.1.2.1)) zms_eq ok.1 _ _).1 c, zcI_ok, if_neg (by decide), m_isIn, zcI_ok, zb_f c2, m_fineA zms_eq 2 (by decide), zcI_ok, if_pos rfl]
        rfl
  · refine ag_ref hR (e := 0) (by omega) (fun ρ => ?_) (fun ρ' => ?_)
    · rw [e_X5_room, (n_stop hS ok.1 (zOk_po ok) _ _).2 c, zcV_cTh]
    · rw [e_X6_room, (m_isStopOf (mSheet_z (rfM_m hR.1.2.1)) zms_eq ok.1 _ _).2 c, zcI_ok, if_pos rfl]
      rfl
end ZQ1
