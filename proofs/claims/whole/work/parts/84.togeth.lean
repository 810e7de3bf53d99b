/-! together and agree -/
theorem tot_eq {r r' : zTier} (hs : zSrt r) (h : zRt r) (hs' : zSrt r') (h' : zRt r') {Q : Nat → Nat → Nat → Prop} (hQ : ∀ m o s, Q m o s → cov r s m ∧ cov r' s o) : nsum (fun m => nsum (fun o => nsum (fun s => ind (Q m o s)) 0 999) 0 (rct r')) 0 (rct r) = nsum (fun s => ind (∃ m, m < rct r ∧ ∃ o, o < rct r' ∧ Q m o s)) 0 999 := by
  have e1 : nsum (fun m => nsum (fun o => nsum (fun s => ind (Q m o s)) 0 999) 0 (rct r')) 0 (rct r) = nsum (fun m => nsum (fun s => nsum (fun o => ind (Q m o s)) 0 (rct r')) 0 999) 0 (rct r) := nsum_congr _ _ (fun m _ _ => nsum_swap (f := fun o s => ind (Q m o s)) _ _)
  rw [e1, nsum_swap (f := fun m s => nsum (fun o => ind (Q m o s)) 0 (rct r'))]
  refine nsum_congr _ _ (fun s _ _ => ?_)
  have e2 : nsum (fun m => nsum (fun o => ind (Q m o s)) 0 (rct r')) 0 (rct r) = nsum (fun m => ind (∃ o, 0 ≤ o ∧ o < 0 + rct r' ∧ Q m o s)) 0 (rct r) := nsum_congr _ _ (fun m _ hm => ind_sum _ _ (fun i j _ hi _ hj qi qj => cov_u hs' h' (by omega) (by omega) (hQ m i s qi).2 (hQ m j s qj).2))
  rw [e2, ind_sum _ _ (fun i j _ hi _ hj ⟨o, _, _, qi⟩ ⟨o', _, _, qj⟩ => cov_u hs h (by omega) (by omega) (hQ i o s qi).1 (hQ j o' s qj).1)]
  exact ind_congr ⟨fun ⟨m, m1, m2, o, o1, o2, q⟩ => ⟨m, by omega, o, by omega, q⟩, fun ⟨m, m1, o, o1, q⟩ => ⟨m, by omega, by omega, o, by omega, by omega, q⟩⟩
section ZTO
variable {T : zSheet} {n i : Nat} {H : Nat → zSheet} {M : zMem} {σ : zSt} {ρ : Int64 × Nat} {r r' : zTier}
noncomputable def fTo (r r' : zTier) (p : Nat → Nat → Prop) (m o : Nat) : Int32 := zif (p m o) (pShare (rfr r m) (rto r m) (rfr r' o) (rto r' o)) 0
theorem fTo_n (h : zRt r) (h' : zRt r') {p : Nat → Nat → Prop} {m o : Nat} (hm : m < rct r) (ho : o < rct r') : fTo r r' p m o = nI (nsum (fun s => ind (p m o ∧ cov r s m ∧ cov r' s o)) 0 999) := by
  unfold fTo
  by_cases c : p m o
  · rw [zif_t c, share_n h h' hm ho]
    exact congrArg nI (nsum_congr _ _ (fun s _ _ => ind_congr ⟨fun e => ⟨c, e⟩, fun e => e.2⟩))
  · rw [zif_f c, nsum_z _ _ (fun s _ _ => ind_f (fun e => c e.1))]
    rfl
theorem sTo_n (hs : zSrt r) (h : zRt r) (hs' : zSrt r') (h' : zRt r') {p : Nat → Nat → Prop} : zsum (fun m => zsum (fTo r r' p m) 0 (rct r')) 0 (rct r) = nI (nsum (fun s => ind (∃ m, m < rct r ∧ ∃ o, o < rct r' ∧ (p m o ∧ cov r s m ∧ cov r' s o))) 0 999) := by
  rw [← tot_eq hs h hs' h' (Q := fun m o s => p m o ∧ cov r s m ∧ cov r' s o) (fun m o s e => e.2)]
  exact zsum_nI _ _ (fun m _ hm => zsum_nI _ _ (fun o _ ho => fTo_n h h' (by omega) (by omega)))
theorem c_tog {j j' : Nat} (h : cRow σ.1 j r) (h' : cRow σ.1 j' r') (x1 x3 l l' : Int32) : zX zP zK_X5_together (38, [zR 15 i, zI x1, zI l, zI x3, zI l', zR 12 j, zR 12 j', zI 0, zI 0, zJunk], []) σ = zok (zsum (fun m => zsum (fTo r r' (fun m o => rlb r m = l ∧ rlb r' o = l') m) 0 (rct r')) 0 (rct r)) σ := by
  have h4 := h.2.2.2.2.1
  have h4' := h'.2.2.2.2.1
  have L := zsum_loopV (X := fun m acc (v : zAV) => zX zP zK_X5_together (38, [zR 15 i, zI x1, zI l, zI x3, zI l', zR 12 j, zR 12 j', zI acc, zI (nI m), v], []) σ) (w := fun acc => zok acc σ) (f := fun m => zsum (fTo r r' (fun m o => rlb r m = l ∧ rlb r' o = l') m) 0 (rct r')) (n := rct r) (fun m acc v hm => by
    have ein := nIk (k := m) (N := 40) (by omega) (by omega)
    have ecl := nI_clamp (n := m) (by omega)
    have f := h.2.2.2.2.2 m hm
    have K := zsum_loop (X := fun o acc => zX zP zK_X5_together (51, [zR 15 i, zI x1, zI l, zI x3, zI l', zR 12 j, zR 12 j', zI acc, zI (nI m), zI (nI o)], []) σ) (w := fun acc => zX zP zK_X5_together (38, [zR 15 i, zI x1, zI l, zI x3, zI l', zR 12 j, zR 12 j', zI acc, zI (nI (m + 1)), zI (nI (rct r'))], []) σ) (f := fTo r r' (fun m o => rlb r m = l ∧ rlb r' o = l') m) (n := rct r') (fun o acc ho => by
      have ein' := nIk (k := o) (N := 40) (by omega) (by omega)
      have ecl' := nI_clamp (n := o) (by omega)
      have f' := h'.2.2.2.2.2 o ho
      rw [e_X5_together_51, h'.2.2.2.1, if_pos (nI_lt ho (by omega))]
      simp only [ecl, ein, ecl', ein', if_false]
      rw [f.2.2, f'.2.2, f'.1, f'.2.1, nI_1]
      unfold fTo
      by_cases c1 : rlb r m = l
      · rw [if_pos c1]
        by_cases c2 : rlb r' o = l'
        · rw [if_pos c2, r_shared h hm, zcI_ok, zif_t ⟨c1, c2⟩]
        · rw [if_neg c2, zif_f (fun e => c2 e.2), Int32.add_zero]
      · rw [if_neg c1, zif_f (fun e => c1 e.1), Int32.add_zero]) (fun acc => by
      rw [e_X5_together_51, h'.2.2.2.1, if_neg (nI_nlt (Nat.le_refl _) (by omega)), nI_1]) (rct r') 0 acc (by omega)
    rw [nI_0] at K
    rw [e_X5_together_38, h.2.2.2.1, if_pos (nI_lt hm (by omega)), K]
    exact ⟨_, rfl⟩) (fun acc v => by
    rw [e_X5_together_38, h.2.2.2.1, if_neg (nI_nlt (Nat.le_refl _) (by omega))]) (rct r) 0 0 zJunk (by omega)
  rw [nI_0, Int32.zero_add] at L
  exact L
theorem m_tog (hS : mSheet σ.1 31 T) {t u : Nat} (ht : t < T.1) (hu : u < T.1) (hs : zSrt (T.2 t)) (h : zRt (T.2 t)) (hs' : zSrt (T.2 u)) (h' : zRt (T.2 u)) (l l' : Int32) : zX zP zK_X6_together (55, [zR 16 i, zI (nI t), zI l, zI (nI u), zI l', zI 0, zI 0, zJunk, zJunk], []) σ = zok (nI (nsum (fun s => ind (∃ m, m < rct (T.2 t) ∧ ∃ o, o < rct (T.2 u) ∧ ((rlb (T.2 t) m = l ∧ rlb (T.2 u) o = l') ∧ cov (T.2 t) s m ∧ cov (T.2 u) s o))) 0 999)) σ := by
  have h6 := hS.2.1
  have hm := hS.2.2 t ht
  have ho := hS.2.2 u hu
  have h4 := hm.2.2.2.2.1
  have h4' := ho.2.2.2.2.1
  have L := zsum_loopV (X := fun s acc (v : zAV × zAV) => zX zP zK_X6_together (55, [zR 16 i, zI (nI t), zI l, zI (nI u), zI l', zI acc, zI (nI s), v.1, v.2], []) σ) (w := fun acc => zok acc σ) (f := fun s => nI (ind (∃ m, m < rct (T.2 t) ∧ ∃ o, o < rct (T.2 u) ∧ ((rlb (T.2 t) m = l ∧ rlb (T.2 u) o = l') ∧ cov (T.2 t) s m ∧ cov (T.2 u) s o)))) (n := 999) (fun s acc v hs9 => by
    rw [e_X6_together_55, if_pos (show nI s < 999 from (nI_lt hs9 (by omega) : nI s < nI 999)), m_markAt hm (by omega), zcI_ok, m_markAt ho (by omega), zcI_ok, nI_1]
    rcases at_cov hs h hs9 with ⟨a1, a2⟩ | ⟨a, a1, a2, a3, a4⟩
    · rw [a1, if_pos rfl, ind_f (fun ⟨m, m1, o, o1, q⟩ => a2 m m1 q.2.1)]
      exact ⟨(_, _), rfl⟩
    · rw [a2, if_neg (nI_m1 _ (by omega))]
      rcases at_cov hs' h' hs9 with ⟨b1, b2⟩ | ⟨b, b1, b2, b3, b4⟩
      · rw [b1, if_pos rfl, ind_f (fun ⟨m, m1, o, o1, q⟩ => b2 o o1 q.2.2)]
        exact ⟨(_, _), rfl⟩
      · rw [b2, if_neg (nI_m1 _ (by omega)), m_to hm (by omega) a1, zcI_ok]
        by_cases c1 : nI s < rto (T.2 t) a
        · rw [if_pos c1, m_to ho (by omega) b1, zcI_ok]
          by_cases c2 : nI s < rto (T.2 u) b
          · rw [if_pos c2, m_labelOf hm (by omega) a1, zcI_ok]
            by_cases c3 : rlb (T.2 t) a = l
            · rw [if_pos c3, m_labelOf ho (by omega) b1, zcI_ok]
              by_cases c4 : rlb (T.2 u) b = l'
              · rw [if_pos c4, ind_t ⟨a, a1, b, b1, ⟨c3, c4⟩, a3.mp c1, b3.mp c2⟩]
                exact ⟨(_, _), rfl⟩
              · rw [if_neg c4, ind_f (fun ⟨m, m1, o, o1, q⟩ => c4 (by rw [← b4 o o1 q.2.2]; exact q.1.2))]
                exact ⟨(_, _), rfl⟩
            · rw [if_neg c3, ind_f (fun ⟨m, m1, o, o1, q⟩ => c3 (by rw [← a4 m m1 q.2.1]; exact q.1.1))]
              exact ⟨(_, _), rfl⟩
          · rw [if_neg c2, ind_f (fun ⟨m, m1, o, o1, q⟩ => c2 (b3.mpr (by rw [← b4 o o1 q.2.2]; exact q.2.2)))]
            exact ⟨(_, _), rfl⟩
        · rw [if_neg c1, ind_f (fun ⟨m, m1, o, o1, q⟩ => c1 (a3.mpr (by rw [← a4 m m1 q.2.1]; exact q.2.1)))]
          exact ⟨(_, _), rfl⟩) (fun acc v => by
    rw [e_X6_together_55, if_neg (show ¬ nI 999 < 999 by decide)]) 999 0 0 (zJunk, zJunk) (by omega)
  rw [nI_0, Int32.zero_add, zsum_nI _ _ (fun s _ _ => rfl)] at L
  exact L
theorem a_together (h : zRel M) (x l y l' : Int32) : zAg 113 232 [zI x, zI l, zI y, zI l'] cdF M := by
  obtain ⟨T, n, H, hR⟩ := h
  have hS := hR.1.1
  have h6 := hS.2.1
  have ok := hR.1.2.2
  by_cases c : pTr T x ∧ pTr T y
  · obtain ⟨cx, cy⟩ := c
    have cx' := cx
    have cy' := cy
    obtain ⟨t, ht, rfl⟩ := pTr_n h6 cx'
    obtain ⟨u, hu, rfl⟩ := pTr_n h6 cy'
    obtain ⟨q1, q2, q3⟩ := s_in (σ := (M, (0, 0))) hS ht
    obtain ⟨p1, p2, p3⟩ := s_in (σ := (M, (0, 0))) hS hu
    have ro := ok.2.2.2.1 t ht
    have ro' := ok.2.2.2.1 u hu
    refine ag_rd hR (x := nI (nsum (fun s => ind (∃ m, m < rct (T.2 t) ∧ ∃ o, o < rct (T.2 u) ∧ ((rlb (T.2 t) m = l ∧ rlb (T.2 u) o = l') ∧ cov (T.2 t) s m ∧ cov (T.2 u) s o))) 0 999)) (fun ρ => ?_) (fun ρ' => ?_)
    · rw [e_X5_together, (n_tier (σ := (M, ρ)) hS _).1 cx, zcV_ok, (n_tier (σ := (M, ρ)) hS _).1 cy, zcV_ok]
      simp only [q2, q1, p2, p1, if_false]
      rw [c_tog (σ := (M, ρ)) (hS.2.2 t ht).1 (hS.2.2 u hu).1, sTo_n ro.1 ro.2.1 ro'.1 ro'.2.1]
    · have hz := mSheet_z (i := 0) hR.1.2.1
      rw [e_X6_together, m_tiers' (σ := (zms M 16 0 0 0, ρ')) hz, zcI_ok, m_inT (σ := (zms M 16 0 0 0, ρ')) hz, zcI_ok, zb_t cx, if_neg (by decide), m_tiers' (σ := (zms M 16 0 0 0, ρ')) hz, zcI_ok, m_inT (σ := (zms M 16 0 0 0, ρ')) hz, zcI_ok, zb_t cy, if_neg (by decide), m_f1, zcI_ok, if_neg (by decide)]
      exact m_tog (σ := (zms M 16 0 0 0, ρ')) hz ht hu ro.1 ro.2.1 ro'.1 ro'.2.1 l l'
  · refine ag_ref hR (e := 0) (by omega) (fun ρ => ?_) (fun ρ' => ?_)
    · rw [e_X5_together]
      by_cases cx : pTr T x
      · rw [(n_tier (σ := (M, ρ)) hS _).1 cx, zcV_ok, (n_tier (σ := (M, ρ)) hS _).2 (fun e => c ⟨cx, e⟩), zcV_cTh]
      · rw [(n_tier (σ := (M, ρ)) hS _).2 cx, zcV_cTh]
    · have hz := mSheet_z (i := 0) (rfM_m (e := 0) hR.1.2.1)
      have fn := m_fineN (i := 0) (M := zms (rfM M 0) 16 0 0 0) (ρ := ρ') zms_eq 1 (by decide)
      rw [e_X6_together, m_tiers' (σ := (zms (rfM M 0) 16 0 0 0, ρ')) hz, zcI_ok, m_inT (σ := (zms (rfM M 0) 16 0 0 0, ρ')) hz, zcI_ok]
      by_cases cx : pTr T x
      · rw [zb_t cx, if_neg (by decide), m_tiers' (σ := (zms (rfM M 0) 16 0 0 0, ρ')) hz, zcI_ok, m_inT (σ := (zms (rfM M 0) 16 0 0 0, ρ')) hz, zcI_ok, zb_f (fun e => c ⟨cx, e⟩), if_pos rfl, fn, zcI_ok, if_pos rfl]
        rfl
      · rw [zb_f cx, if_pos rfl, fn, zcI_ok, if_pos rfl]
        rfl
/-! the twin -/
theorem m_tierNamed {a : Nat} (hl : zlenI (a + 1) 0 = 745) (h : mSheet σ.1 (a + 1) T) (x : Int32) : zrun zP 175 [zR 16 i, zR (a + 1) 0, zI x] σ = zok (zfI (fun t => rnm (T.2 t) = x) T.1) σ := by
  have h6 := h.2.1
  have p0 := nIk (k := 0) (N := 745) (by omega) (by omega)
  have p0' := nI_clamp (n := 0) (by omega)
  rw [nI_0] at p0 p0'
  have L := zfI_loop (X := fun t => zX zP zK_X6_tierNamed (2, [zR 16 i, zR (a + 1) 0, zI x, zI (nI t)], []) σ) (σ := σ) (p := fun t => rnm (T.2 t) = x) (n := T.1) (fun t ht => by
    have p1 := nIk (k := 4 + 124 * t) (N := 745) (by omega) (by omega)
    have p2 := nI_clamp (n := 4 + 124 * t) (by omega)
    rw [e_X6_tierNamed_2]
    simp only [hl, p0, p0', if_false]
    rw [h.1, if_pos (nI_lt ht (by omega)), m_pos3, zcI_ok]
    simp only [hl, p1, p2, if_false]
    rw [(h.2.2 t ht).2.2.2.1, nI_1]
    exact ⟨fun e => if_pos e, fun e => if_neg e⟩) (by
    rw [e_X6_tierNamed_2]
    simp only [hl, p0, p0', if_false]
    rw [h.1, if_neg (nI_nlt (Nat.le_refl _) (by omega))])
  rw [nI_0] at L
  exact (e_X6_tierNamed i a 0 x σ).trans L
def twF (M M1 : zMem) : Prop := (∀ q, q < 745 → M1 32 0 q = M 32 0 q) ∧ M1 16 0 7 = M 16 0 7
theorem twF_z : twF M (zms M 16 0 0 0) := ⟨fun q hq => zms_ne (by omega), zms_ne (by omega)⟩
/-- no twin, or the twin's number -/
theorem twin_or (hk : zKept M) (x : Int32) : ((∀ ρ j, M 12 j 0 = x → zrun zP 132 [zR 15 0, zR 12 j] (M, ρ) = some (.inl (some zNull), (M, ρ))) ∧ (∀ M1 ρ t, twF M M1 → t < 6 → M1 31 0 (4 + 124 * t) = x → zrun zP 236 [zR 16 0, zI (nI t)] (M1, ρ) = zok (-1) (M1, ρ))) ∨ ∃ O u, u < O.1 ∧ cSheet M 1 O ∧ mSheet M 32 O ∧ zOk O ∧ (∀ ρ j, M 12 j 0 = x → zrun zP 132 [zR 15 0, zR 12 j] (M, ρ) = some (.inl (some (zR 12 (6 * 1 + u))), (M, ρ))) ∧ (∀ M1 ρ t, twF M M1 → t < 6 → M1 31 0 (4 + 124 * t) = x → zrun zP 236 [zR 16 0, zI (nI t)] (M1, ρ) = zok (nI u) (M1, ρ)) := by
  have pp : ∀ (M1 : zMem) (ρ : Int64 × Nat) t, t < 6 → M1 31 0 (4 + 124 * t) = x → ¬ M1 16 0 7 = 0 → zrun zP 236 [zR 16 0, zI (nI t)] (M1, ρ) = zcI (zrun zP 175 [zR 16 0, zR 32 0, zI x] (M1, ρ)) (fun r2 s2 => zok r2 s2) := fun M1 ρ t ht he hne => by
    have p1 := nIk (k := 4 + 124 * t) (N := 745) (by omega) (by omega)
    have p2 := nI_clamp (n := 4 + 124 * t) (by omega)
    rw [e_X6_otherTier, if_neg hne, m_pos3, zcI_ok]
    simp only [p1, p2, if_false]
    rw [he]
  rcases hk with ⟨k1, k2⟩ | ⟨k1, k2, O, o1, o2, o3⟩
  · refine Or.inl ⟨fun ρ j hj => ?_, fun M1 ρ t hf ht he => ?_⟩
    · rw [e_X5_twinOf, if_pos k1, if_pos rfl]
    · have e : M1 16 0 7 = 0 := hf.2.trans k2
      rw [e_X6_otherTier, if_pos e]
  · have k1' : ¬ M 15 0 2 = 0 := fun e => by rw [k1] at e; exact absurd e (by decide)
    have h6 := o1.2.1
    have cc : ∀ ρ j, M 12 j 0 = x → zrun zP 132 [zR 15 0, zR 12 j] (M, ρ) = (if zfI (fun t => rnm (O.2 t) = x) O.1 = -1 then some (.inl (some zNull), (M, ρ)) else (if zfI (fun t => rnm (O.2 t) = x) O.1 < 0 ∨ 6 ≤ (zfI (fun t => rnm (O.2 t) = x) O.1).toNatClampNeg then none else some (.inl (some (zR 12 (6 * 1 + (zfI (fun t => rnm (O.2 t) = x) O.1).toNatClampNeg))), (M, ρ)))) := fun ρ j hj => by
      rw [e_X5_twinOf, if_neg k1', show (M, ρ).1 12 j 0 = x from hj, s_indexOf (σ := (M, ρ)) o1, zcI_ok]
    have mm : ∀ (M1 : zMem) (ρ : Int64 × Nat) t, twF M M1 → t < 6 → M1 31 0 (4 + 124 * t) = x → zrun zP 236 [zR 16 0, zI (nI t)] (M1, ρ) = zok (zfI (fun t => rnm (O.2 t) = x) O.1) (M1, ρ) := fun M1 ρ t hf ht he => by
      have e : ¬ M1 16 0 7 = 0 := fun e => by
        rw [hf.2, k2] at e
        exact absurd e (by decide)
      have o2' : mSheet M1 32 O := mSheet_congr (fun q hq => hf.1 q hq) o2
      rw [pp M1 ρ t ht he e, m_tierNamed (a := 31) (σ := (M1, ρ)) rfl o2', zcI_ok]
    cases hz : zfst (fun t => rnm (O.2 t) = x) 0 O.1 with
    | none =>
      have ez : zfI (fun t => rnm (O.2 t) = x) O.1 = -1 := by unfold zfI; rw [hz]
      rw [ez] at cc mm
      exact Or.inl ⟨fun ρ j hj => (cc ρ j hj).trans (if_pos rfl), mm⟩
    | some u =>
      obtain ⟨z1, z2, z3, -⟩ := (zfst_spec _ _ _).mp hz
      have ez : zfI (fun t => rnm (O.2 t) = x) O.1 = nI u := by unfold zfI; rw [hz]
      rw [ez] at cc mm
      have ein := nIk (k := u) (N := 6) (by omega) (by omega)
      have ecl := nI_clamp (n := u) (by omega)
      refine Or.inr ⟨O, u, by omega, o1, o2, o3, fun ρ j hj => (cc ρ j hj).trans ?_, mm⟩
      rw [if_neg (nI_m1 _ (by omega))]
      simp only [ecl, ein, if_false]
end ZTO
