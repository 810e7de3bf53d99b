/-! questions: stop, find, tier, mark -/
section ZQ2
variable {T : zSheet} {n i : Nat} {H : Nat → zSheet} {M : zMem} {σ : zSt} {ρ : Int64 × Nat}
theorem zfI_some {p : Nat → Prop} {n j : Nat} (hj : j < n) (hp : p j) (hu : ∀ k, k < n → p k → k = j) : zfI p n = nI j := by
  unfold zfI
  rw [(zfst_spec n 0 j).mpr ⟨by omega, by omega, hp, fun q _ q2 h => absurd (hu q (by omega) h) (by omega)⟩]
theorem zfI_none {p : Nat → Prop} {n : Nat} (h : ∀ k, k < n → ¬ p k) : zfI p n = -1 := by
  unfold zfI
  rw [(zfst_none n 0).mpr (fun q _ q2 => h q (by omega))]
noncomputable def pKth (P : Nat → Prop) (x : Int32) : Int32 := zfI (fun y => P y ∧ nI (cnt P y) = x) 1000
theorem cnt_lt31 {P : Nat → Prop} : ∀ n, cnt P n ≤ n := by
  intro n
  induction n with
  | zero => exact Nat.le_refl _
  | succ n ih => have := (cnt_s (P := P) (n := n)).2; omega
theorem kth_c {P : Nat → Prop} {j : Nat} (hj : j < cnt P 1000) : ∃ y, y < 1000 ∧ P y ∧ cnt P y = j ∧ pKth P (nI j) = nI y := by
  obtain ⟨y, y1, y2, y3⟩ := cnt_sur 1000 j hj
  refine ⟨y, y1, y2, y3, zfI_some y1 ⟨y2, by rw [y3]⟩ (fun k k1 k2 => ?_)⟩
  have hk := cnt_lt31 (P := P) k
  have h1 := cnt_lt31 (P := P) 1000
  have e := (nI_eq (by omega) (by omega)).mp k2.2
  rcases Nat.lt_trichotomy k y with c | c | c
  · have := cnt_lt c k2.1; omega
  · exact c
  · have := cnt_lt c y2; omega
theorem kth_n {P : Nat → Prop} {x : Int32} (h : ∀ j, j < cnt P 1000 → ¬ x = nI j) : pKth P x = -1 := zfI_none (fun k k1 k2 => h _ (cnt_lt k1 k2.1) k2.2.symm)
theorem m_stop_run (h : mSheet σ.1 31 T) (hw : zwp T) {t : Nat} (ht : t < T.1) (x : Int32) : zX zP zK_X6_stop (20, [zR 16 i, zI (nI t), zI x, zI 0, zI 0], []) σ = zok (pKth (pStopIn T (pRoot T t)) x) σ := by
  have h6 := h.2.1
  have hro := pRoot_lt hw h6 ht
  have L := zfI_loop (X := fun s => zX zP zK_X6_stop (20, [zR 16 i, zI (nI t), zI x, zI (nI (cnt (pStopIn T (pRoot T t)) s)), zI (nI s)], []) σ) (σ := σ) (p := fun y => pStopIn T (pRoot T t) y ∧ nI (cnt (pStopIn T (pRoot T t)) y) = x) (n := 1000) (fun s hs => by
    have step : zX zP zK_X6_stop (20, [zR 16 i, zI (nI t), zI x, zI (nI (cnt (pStopIn T (pRoot T t)) s)), zI (nI s)], []) σ = (if zb (pStopIn T (pRoot T t) s) = 0 then (zX zP zK_X6_stop (20, [zR 16 i, zI (nI t), zI x, zI (nI (cnt (pStopIn T (pRoot T t)) s)), zI (nI s + 1)], []) σ) else (if nI (cnt (pStopIn T (pRoot T t)) s) = x then zok (nI s) σ else (zX zP zK_X6_stop (20, [zR 16 i, zI (nI t), zI x, zI (nI (cnt (pStopIn T (pRoot T t)) s) + 1), zI (nI s + 1)], []) σ))) := by
      rw [e_X6_stop_20, if_neg (by rw [nI_999 (by omega)]; omega), m_topOf h hw ht, zcI_ok, m_isStopP h hw hro, zcI_ok]
    constructor
    · intro hp
      rw [step, zb_t hp.1, if_neg (by decide), if_pos hp.2]
    · intro hp
      rw [step]
      by_cases c : pStopIn T (pRoot T t) s
      · rw [zb_t c, if_neg (by decide), if_neg (fun e => hp ⟨c, e⟩), nI_1, nI_1, cnt_t c]
      · rw [zb_f c, if_pos rfl, nI_1, cnt_f c]) (by
    rw [e_X6_stop_20, if_pos (show (999 : Int32) < nI 1000 by decide)])
  have e0 : cnt (pStopIn T (pRoot T t)) 0 = 0 := rfl
  rw [e0, nI_0] at L
  exact L
theorem a_stop (h : zRel M) (x y : Int32) : zAg 116 234 [zI x, zI y] cdF M := by
  obtain ⟨T, n, H, hR⟩ := h
  have hS := hR.1.1
  have h6 := hS.2.1
  have ok := hR.1.2.2
  by_cases c : pTr T x
  · have c' := c
    obtain ⟨t, ht, rfl⟩ := pTr_n h6 c'
    have hro := pRoot_lt ok.1 h6 ht
    obtain ⟨q1, q2, q3⟩ := s_in (σ := (M, (0, 0))) hS ht
    refine ag_read hR (x := pKth (pStopIn T (pRoot T t)) y) (fun ρ => ?_) (fun M1 ρ' hR1 => ⟨zms M1 16 0 0 0, ?_, scFr_z, zms_eq⟩)
    · obtain ⟨M1, e1, e2, e3⟩ := s_listStops (ρ := ρ) hro hS ok.1 (zOk_wt ok)
      refine ⟨M1, ?_, scFr_t e3⟩
      have h8 : cnt (pStopIn T (pRoot T t)) 1000 ≤ 480 := e2.2.1
      rw [e_X5_stop, (n_tier (σ := (M, ρ)) hS _).1 c, zcV_ok]
      simp only [q2, q1, if_false]
      rw [(hS.2.2 t ht).2.1, e1, zcV_ok, show (M1, ρ).1 14 0 1 = _ from e2.1]
      by_cases c1 : y < 0
      · rw [if_pos c1, kth_n (fun j hj e => nI_pos (by omega) (e ▸ c1))]
      · rw [if_neg c1]
        by_cases c2 : y < nI (cnt (pStopIn T (pRoot T t)) 1000)
        · obtain ⟨j, j1, rfl⟩ := zI_of c1 c2 (by omega)
          obtain ⟨z, z1, z2, z3, z4⟩ := kth_c j1
          have ein := nIk (k := j) (N := 480) (by omega) (by omega)
          have ecl := nI_clamp (n := j) (by omega)
          have ev := e2.2.2 z z1 z2
          rw [z3] at ev
          rw [if_pos c2]
          simp only [ecl, ein, if_false]
          rw [z4]
          exact congrArg (fun x => zok x (M1, ρ)) ev
        · rw [if_neg c2, kth_n (x := y) (fun j hj e => c2 (by rw [e]; exact nI_lt hj (by omega)))]
    · have hz := mSheet_z (i := 0) hR1.1.2.1
      rw [e_X6_stop, (m_isTier (σ := (zms M1 16 0 0 0, ρ')) hz zms_eq _).1 c, zcI_ok, if_neg (by decide), m_stop_run (σ := (zms M1 16 0 0 0, ρ')) hz ok.1 ht]
  · refine ag_ref hR (e := 0) (by omega) (fun ρ => ?_) (fun ρ' => ?_)
    · rw [e_X5_stop, (n_tier (σ := (M, ρ)) hS _).2 c, zcV_cTh]
    · rw [e_X6_stop, (m_isTier (σ := (zms (rfM M 0) 16 0 0 0, ρ')) (mSheet_z (rfM_m hR.1.2.1)) zms_eq _).2 c, zcI_ok, if_pos rfl]
      rfl
def pFnd (r : zTier) (l k : Int32) : Nat → Nat → Int32 → Int32
  | 0, _, _ => -1
  | d + 1, j, s => if rlb r j = l then (if s = k then nI j else pFnd r l k d (j + 1) (s + 1)) else pFnd r l k d (j + 1) s
theorem c_fnd {r : zTier} {j : Nat} (h : cRow σ.1 j r) (x1 l k : Int32) : ∀ d m s, m + d = rct r → zX zP zK_X5_find (22, [zR 15 i, zI x1, zI l, zI k, zR 12 j, zI s, zI (nI m)], []) σ = zok (pFnd r l k d m s) σ := by
  have h4 := h.2.2.2.2.1
  intro d
  induction d with
  | zero =>
    intro m s hm
    rw [e_X5_find_22, h.2.2.2.1, if_neg (nI_nlt (by omega) (by omega))]
    rfl
  | succ d ih =>
    intro m s hm
    have ein := nIk (k := m) (N := 40) (by omega) (by omega)
    have ecl := nI_clamp (n := m) (by omega)
    rw [e_X5_find_22, h.2.2.2.1, if_pos (nI_lt (by omega) (by omega))]
    simp only [ecl, ein, if_false]
    rw [(h.2.2.2.2.2 m (by omega)).2.2, nI_1, ih (m + 1) _ (by omega), ih (m + 1) _ (by omega)]
    simp only [pFnd]
    by_cases c : rlb r m = l
    · rw [if_pos c, if_pos c]
      by_cases c2 : s = k
      · rw [if_pos c2, if_pos c2]
      · rw [if_neg c2, if_neg c2]
    · rw [if_neg c, if_neg c]
theorem m_fnd {r : zTier} {t : Nat} (h : mRow σ.1 31 t r) (ht : t < 6) (l k : Int32) : ∀ d m s, m + d = rct r → zX zP zK_X6_find (21, [zR 16 i, zI (nI t), zI l, zI k, zI s, zI (nI m)], []) σ = zok (pFnd r l k d m s) σ := by
  have h4 := h.2.2.2.2.1
  intro d
  induction d with
  | zero =>
    intro m s hm
    rw [e_X6_find_21, m_many h ht, zcI_ok, if_neg (nI_nlt (by omega) (by omega))]
    rfl
  | succ d ih =>
    intro m s hm
    rw [e_X6_find_21, m_many h ht, zcI_ok, if_pos (nI_lt (by omega) (by omega)), m_labelOf h ht (by omega), zcI_ok, nI_1, ih (m + 1) _ (by omega), ih (m + 1) _ (by omega)]
    simp only [pFnd]
    by_cases c : rlb r m = l
    · rw [if_pos c, if_pos c]
      by_cases c2 : s = k
      · rw [if_pos c2, if_pos c2]
      · rw [if_neg c2, if_neg c2]
    · rw [if_neg c, if_neg c]
theorem a_find (h : zRel M) (x l k : Int32) : zAg 112 231 [zI x, zI l, zI k] cdF M := by
  obtain ⟨T, n, H, hR⟩ := h
  have hS := hR.1.1
  have h6 := hS.2.1
  have hz := mSheet_z (i := 0) hR.1.2.1
  by_cases c : pTr T x
  · have c' := c
    obtain ⟨t, ht, rfl⟩ := pTr_n h6 c'
    obtain ⟨q1, q2, q3⟩ := s_in (σ := (M, (0, 0))) hS ht
    refine ag_rd hR (x := pFnd (T.2 t) l k (rct (T.2 t)) 0 0) (fun ρ => ?_) (fun ρ' => ?_)
    · have L := c_fnd (i := 0) (σ := (M, ρ)) (hS.2.2 t ht).1 (nI t) l k (rct (T.2 t)) 0 0 (by omega)
      rw [nI_0] at L
      rw [e_X5_find, (n_tier (σ := (M, ρ)) hS _).1 c, zcV_ok]
      simp only [q2, q1, if_false]
      exact L
    · have L := m_fnd (i := 0) (σ := (zms M 16 0 0 0, ρ')) (hz.2.2 t ht) (by omega) l k (rct (T.2 t)) 0 0 (by omega)
      rw [nI_0] at L
      rw [e_X6_find, (m_isTier (σ := (zms M 16 0 0 0, ρ')) hz zms_eq _).1 c, zcI_ok, if_neg (by decide), L]
  · refine ag_ref hR (e := 0) (by omega) (fun ρ => ?_) (fun ρ' => ?_)
    · rw [e_X5_find, (n_tier (σ := (M, ρ)) hS _).2 c, zcV_cTh]
    · rw [e_X6_find, (m_isTier (σ := (zms (rfM M 0) 16 0 0 0, ρ')) (mSheet_z (rfM_m hR.1.2.1)) zms_eq _).2 c, zcI_ok, if_pos rfl]
      rfl
theorem a_tier (h : zRel M) (x y : Int32) : zAg 107 225 [zI x, zI y] cdL M := by
  obtain ⟨T, n, H, hR⟩ := h
  have hS := hR.1.1
  have h6 := hS.2.1
  have ok := hR.1.2.2
  by_cases c : pTr T x
  · by_cases cr : ¬ y < 0 ∧ ¬ (8 : Int32) < y
    · have c' := c
      obtain ⟨t, ht, rfl⟩ := pTr_n h6 c'
      have hro := pRoot_lt ok.1 h6 ht
      obtain ⟨q1, q2, q3⟩ := s_in (σ := (M, (0, 0))) hS ht
      have hr := hS.2.2 t ht
      have cc : ∀ ρ, zrun zP 107 [zR 15 0, zI (nI t), zI y] (M, ρ) = (if y = 0 then zok (rkd (T.2 t)) (M, ρ) else if y = (0 + 1) then zok (rpr (T.2 t)) (M, ρ) else if y = ((0 + 1) + 1) then zok (nI (rct (T.2 t))) (M, ρ) else if y = (((0 + 1) + 1) + 1) then zok (nI (pDep T t)) (M, ρ) else if y = ((((0 + 1) + 1) + 1) + 1) then zok (nI (pRoot T t)) (M, ρ) else if y = (((((0 + 1) + 1) + 1) + 1) + 1) then zok (zsum (fun k => rto (T.2 t) k - rfr (T.2 t) k) 0 (rct (T.2 t))) (M, ρ) else if y = ((((((0 + 1) + 1) + 1) + 1) + 1) + 1) then zok (zsum (fun u => if rpr (T.2 u) = nI t then 1 else 0) 0 T.1) (M, ρ) else if y = (((((((0 + 1) + 1) + 1) + 1) + 1) + 1) + 1) then (zcV (zrun zP 77 [zR 13 0, zI (nI (pRoot T t)), zR 14 0] (M, ρ)) (fun s3 => zok (s3.1 14 0 1) s3)) else zok (rnm (T.2 t)) (M, ρ)) := fun ρ => by
        rw [e_X5_tier, (n_tier (σ := (M, ρ)) hS _).1 c, zcV_ok, (n_range (σ := (M, ρ)) y 0 8).1 cr, zcV_ok]
        simp only [q2, q1, if_false]
        rw [r_wholeLength (σ := (M, ρ)) hr.1, zcI_ok, s_countChildren (σ := (M, ρ)) hS, zcI_ok, hr.1.1, hr.1.2.1, hr.1.2.2.1, hr.1.2.2.2.1, hr.2.1, hr.2.2]
      have p1 := nIk (k := 4 + 124 * t) (N := 745) (by omega) (by omega)
      have p2 := nI_clamp (n := 4 + 124 * t) (by omega)
      have mm : ∀ M1 ρ', Rs M1 T n H → zrun zP 225 [zR 16 0, zI (nI t), zI y] (M1, ρ') = (if y = 0 then zok (rkd (T.2 t)) (zms M1 16 0 0 0, ρ') else if y = (0 + 1) then zok (rpr (T.2 t)) (zms M1 16 0 0 0, ρ') else if y = ((0 + 1) + 1) then zok (nI (rct (T.2 t))) (zms M1 16 0 0 0, ρ') else if y = (((0 + 1) + 1) + 1) then zok (nI (pDep T t)) (zms M1 16 0 0 0, ρ') else if y = ((((0 + 1) + 1) + 1) + 1) then zok (nI (pRoot T t)) (zms M1 16 0 0 0, ρ') else if y = (((((0 + 1) + 1) + 1) + 1) + 1) then zok (zsum (fun k => rto (T.2 t) k - rfr (T.2 t) k) 0 (rct (T.2 t))) (zms M1 16 0 0 0, ρ') else if y = ((((((0 + 1) + 1) + 1) + 1) + 1) + 1) then zok (zsum (fun u => if rpr (T.2 u) = nI t then 1 else 0) 0 T.1) (zms M1 16 0 0 0, ρ') else if y = (((((((0 + 1) + 1) + 1) + 1) + 1) + 1) + 1) then zok (nI (cnt (pStopIn T (pRoot T t)) 1000)) (zms M1 16 0 0 0, ρ') else zok (rnm (T.2 t)) (zms M1 16 0 0 0, ρ')) := fun M1 ρ' hR1 => by
        have hz := mSheet_z (i := 0) hR1.1.2.1
        have hm := hz.2.2 t ht
        rw [e_X6_tier, (m_isTier (σ := (zms M1 16 0 0 0, ρ')) hz zms_eq _).1 c, zcI_ok, if_neg (by decide), m_isIn, zcI_ok, zb_t cr, m_f1, zcI_ok, if_neg (by decide), m_kind (σ := (zms M1 16 0 0 0, ρ')) hm (by omega), zcI_ok, m_parent (σ := (zms M1 16 0 0 0, ρ')) hm (by omega), zcI_ok, m_many (σ := (zms M1 16 0 0 0, ρ')) hm (by omega), zcI_ok, m_depthOf (σ := (zms M1 16 0 0 0, ρ')) hz ok.1 ht, zcI_ok, m_topOf (σ := (zms M1 16 0 0 0, ρ')) hz ok.1 ht, zcI_ok, m_timeOf (σ := (zms M1 16 0 0 0, ρ')) hm (by omega), zcI_ok, m_childMany (σ := (zms M1 16 0 0 0, ρ')) hz, zcI_ok, zcI_ok, m_stopMany (σ := (zms M1 16 0 0 0, ρ')) hz ok.1 hro, zcI_ok, m_pos3, zcI_ok]
        simp only [p1, p2, if_false]
        rw [hm.2.2.2.1]
      refine ag_read hR (x := if y = 0 then rkd (T.2 t) else if y = (0 + 1) then rpr (T.2 t) else if y = ((0 + 1) + 1) then nI (rct (T.2 t)) else if y = (((0 + 1) + 1) + 1) then nI (pDep T t) else if y = ((((0 + 1) + 1) + 1) + 1) then nI (pRoot T t) else if y = (((((0 + 1) + 1) + 1) + 1) + 1) then zsum (fun k => rto (T.2 t) k - rfr (T.2 t) k) 0 (rct (T.2 t)) else if y = ((((((0 + 1) + 1) + 1) + 1) + 1) + 1) then zsum (fun u => if rpr (T.2 u) = nI t then 1 else 0) 0 T.1 else if y = (((((((0 + 1) + 1) + 1) + 1) + 1) + 1) + 1) then nI (cnt (pStopIn T (pRoot T t)) 1000) else rnm (T.2 t)) (fun ρ => ?_) (fun M1 ρ' hR1 => ⟨zms M1 16 0 0 0, ?_, scFr_z, zms_eq⟩)
      · obtain ⟨M1, e1, e2, e3⟩ := s_listStops (ρ := ρ) hro hS ok.1 (zOk_wt ok)
        by_cases c7 : y = (((((((0 + 1) + 1) + 1) + 1) + 1) + 1) + 1)
        · refine ⟨M1, (cc ρ).trans ?_, scFr_t e3⟩
          rw [c7]
          rw [e1, zcV_ok, show (M1, ρ).1 14 0 1 = _ from e2.1]
          rfl
        · refine ⟨M, (cc ρ).trans ?_, scFr_rf⟩
          simp only [if_neg c7]
          repeat' split
          all_goals rfl
      · refine (mm M1 ρ' hR1).trans ?_
        repeat' split
        all_goals rfl
    · refine ag_ref hR (e := 1) (by omega) (fun ρ => ?_) (fun ρ' => ?_)
      · rw [e_X5_tier, (n_tier (σ := (M, ρ)) hS _).1 c, zcV_ok, (n_range (σ := (M, ρ)) y 0 8).2 cr, zcV_cTh]
      · rw [e_X6_tier, (m_isTier (σ := (zms (rfM M 1) 16 0 0 0, ρ')) (mSheet_z (rfM_m hR.1.2.1)) zms_eq _).1 c, zcI_ok, if_neg (by decide), m_isIn, zcI_ok, zb_f cr, m_fineA zms_eq 2 (by decide), zcI_ok, if_pos rfl]
        rfl
  · refine ag_ref hR (e := 0) (by omega) (fun ρ => ?_) (fun ρ' => ?_)
    · rw [e_X5_tier, (n_tier (σ := (M, ρ)) hS _).2 c, zcV_cTh]
    · rw [e_X6_tier, (m_isTier (σ := (zms (rfM M 0) 16 0 0 0, ρ')) (mSheet_z (rfM_m hR.1.2.1)) zms_eq _).2 c, zcI_ok, if_pos rfl]
      rfl
end ZQ2
