/-! agree -/
section ZAR
variable {T : zSheet} {n i : Nat} {H : Nat → zSheet} {M : zMem} {σ : zSt} {ρ : Int64 × Nat} {r r' : zTier}
theorem c_beside {j j' : Nat} (h : cRow σ.1 j r) (h' : cRow σ.1 j' r') (q : Prop) : zrun zP 39 [zR 12 j, zR 12 j', zI (zb q)] σ = zok (zsum (fun m => zsum (fTo r r' (fun m o => (rlb r m = rlb r' o) ↔ q) m) 0 (rct r')) 0 (rct r)) σ := by
  have h4 := h.2.2.2.2.1
  have h4' := h'.2.2.2.2.1
  have L := zsum_loopV (X := fun m acc (v : zAV) => zX zP zK_X2_sharedBeside (5, [zR 12 j, zR 12 j', zI (zb q), zI acc, zI (nI m), v], []) σ) (w := fun acc => zok acc σ) (f := fun m => zsum (fTo r r' (fun m o => (rlb r m = rlb r' o) ↔ q) m) 0 (rct r')) (n := rct r) (fun m acc v hm => by
    have ein := nIk (k := m) (N := 40) (by omega) (by omega)
    have ecl := nI_clamp (n := m) (by omega)
    have f := h.2.2.2.2.2 m hm
    have K := zsum_loop (X := fun o acc => zX zP zK_X2_sharedBeside (17, [zR 12 j, zR 12 j', zI (zb q), zI acc, zI (nI m), zI (nI o)], []) σ) (w := fun acc => zX zP zK_X2_sharedBeside (5, [zR 12 j, zR 12 j', zI (zb q), zI acc, zI (nI (m + 1)), zI (nI (rct r'))], []) σ) (f := fTo r r' (fun m o => (rlb r m = rlb r' o) ↔ q) m) (n := rct r') (fun o acc ho => by
      have ein' := nIk (k := o) (N := 40) (by omega) (by omega)
      have ecl' := nI_clamp (n := o) (by omega)
      have f' := h'.2.2.2.2.2 o ho
      rw [e_X2_sharedBeside_17, h'.2.2.2.1, if_pos (nI_lt ho (by omega))]
      simp only [ecl, ein, ecl', ein', if_false]
      rw [f.2.2, f'.2.2, f'.1, f'.2.1, nI_1]
      unfold fTo
      by_cases c1 : rlb r m = rlb r' o
      · rw [if_pos c1]
        by_cases c2 : q
        · rw [zb_t c2, if_pos rfl, r_shared h hm, zcI_ok, zif_t ⟨fun _ => c2, fun _ => c1⟩]
        · rw [zb_f c2, if_neg (by decide), zif_f (fun e => c2 (e.mp c1)), Int32.add_zero]
      · rw [if_neg c1]
        by_cases c2 : q
        · rw [zb_t c2, if_neg (by decide), zif_f (fun e => c1 (e.mpr c2)), Int32.add_zero]
        · rw [zb_f c2, if_pos rfl, r_shared h hm, zcI_ok, zif_t ⟨fun e => absurd e c1, fun e => absurd e c2⟩]) (fun acc => by
      rw [e_X2_sharedBeside_17, h'.2.2.2.1, if_neg (nI_nlt (Nat.le_refl _) (by omega)), nI_1]) (rct r') 0 acc (by omega)
    rw [nI_0] at K
    rw [e_X2_sharedBeside_5, h.2.2.2.1, if_pos (nI_lt hm (by omega)), K]
    exact ⟨_, rfl⟩) (fun acc v => by
    rw [e_X2_sharedBeside_5, h.2.2.2.1, if_neg (nI_nlt (Nat.le_refl _) (by omega))]) (rct r) 0 0 zJunk (by omega)
  rw [nI_0, Int32.zero_add] at L
  exact (e_X2_sharedBeside j j' (zb q) σ).trans L
def cvA (r : zTier) (s : Nat) : Prop := ∃ m, m < rct r ∧ cov r s m
def cvQ (r r' : zTier) (q : Prop) (s : Nat) : Prop := ∃ m, m < rct r ∧ ∃ o, o < rct r' ∧ (((rlb r m = rlb r' o) ↔ q) ∧ cov r s m ∧ cov r' s o)
theorem whole_n (hs : zSrt r) (h : zRt r) : zsum (fun k => rto r k - rfr r k) 0 (rct r) = nI (nsum (fun s => ind (cvA r s)) 0 999) := by
  rw [zsum_nI (g := fun k => nsum (fun s => ind (cov r s k)) 0 999) _ _ (fun k _ hk => len_n hs h (by omega)), nsum_swap (f := fun k s => ind (cov r s k))]
  refine congrArg nI (nsum_congr _ _ (fun s _ _ => ?_))
  rw [ind_sum _ _ (fun i j _ hi _ hj ci cj => cov_u hs h (by omega) (by omega) ci cj)]
  exact ind_congr ⟨fun ⟨m, m1, m2, q⟩ => ⟨m, by omega, q⟩, fun ⟨m, m1, q⟩ => ⟨m, by omega, by omega, q⟩⟩
theorem cv_split (hs : zSrt r) (h : zRt r) (hs' : zSrt r') (h' : zRt r') (s : Nat) : ind (cvA r s) = ind (cvQ r r' True s) + ind (cvQ r r' False s) + ind (cvA r s ∧ ¬ cvA r' s) := by
  by_cases a : cvA r s
  · by_cases b : cvA r' s
    · obtain ⟨m, m1, m2⟩ := a
      obtain ⟨o, o1, o2⟩ := b
      rw [ind_t ⟨m, m1, m2⟩, ind_f (p := _ ∧ ¬ cvA r' s) (fun e => e.2 ⟨o, o1, o2⟩)]
      by_cases e : rlb r m = rlb r' o
      · rw [ind_t (p := cvQ r r' True s) ⟨m, m1, o, o1, ⟨fun _ => trivial, fun _ => e⟩, m2, o2⟩, ind_f (p := cvQ r r' False s)]
        rintro ⟨m', k1, o', l1, q, k2, l2⟩
        rw [cov_u hs h k1 m1 k2 m2, cov_u hs' h' l1 o1 l2 o2] at q
        exact q.mp e
      · rw [ind_t (p := cvQ r r' False s) ⟨m, m1, o, o1, ⟨fun z => e z, fun z => z.elim⟩, m2, o2⟩, ind_f (p := cvQ r r' True s)]
        rintro ⟨m', k1, o', l1, q, k2, l2⟩
        rw [cov_u hs h k1 m1 k2 m2, cov_u hs' h' l1 o1 l2 o2] at q
        exact e (q.mpr trivial)
    · rw [ind_t a, ind_t (p := _ ∧ ¬ cvA r' s) ⟨a, b⟩, ind_f (p := cvQ r r' True s) (fun ⟨m, m1, o, o1, q⟩ => b ⟨o, o1, q.2.2⟩), ind_f (p := cvQ r r' False s) (fun ⟨m, m1, o, o1, q⟩ => b ⟨o, o1, q.2.2⟩)]
  · rw [ind_f a, ind_f (p := _ ∧ ¬ cvA r' s) (fun e => a e.1), ind_f (p := cvQ r r' True s) (fun ⟨m, m1, o, o1, q⟩ => a ⟨m, m1, q.2.1⟩), ind_f (p := cvQ r r' False s) (fun ⟨m, m1, o, o1, q⟩ => a ⟨m, m1, q.2.1⟩)]
theorem rest_n (hs : zSrt r) (h : zRt r) (hs' : zSrt r') (h' : zRt r') : nI (nsum (fun s => ind (cvA r s)) 0 999) - nI (nsum (fun s => ind (cvQ r r' True s)) 0 999) - nI (nsum (fun s => ind (cvQ r r' False s)) 0 999) = nI (nsum (fun s => ind (cvA r s ∧ ¬ cvA r' s)) 0 999) := by
  have e : nsum (fun s => ind (cvA r s)) 0 999 = nsum (fun s => ind (cvQ r r' True s)) 0 999 + nsum (fun s => ind (cvQ r r' False s)) 0 999 + nsum (fun s => ind (cvA r s ∧ ¬ cvA r' s)) 0 999 := by
    rw [← nsum_add, ← nsum_add]
    exact nsum_congr _ _ (fun s _ _ => cv_split hs h hs' h' s)
  generalize nsum (fun s => ind (cvQ r r' True s)) 0 999 = A at e ⊢
  generalize nsum (fun s => ind (cvQ r r' False s)) 0 999 = B at e ⊢
  generalize nsum (fun s => ind (cvA r s ∧ ¬ cvA r' s)) 0 999 = C at e ⊢
  rw [e, nI_sub (by omega), nI_sub (by omega), show A + B + C - A - B = C by omega]
theorem cvQ_sym {q : Prop} {s : Nat} : cvQ r r' q s ↔ cvQ r' r q s := by
  constructor
  · rintro ⟨m, m1, o, o1, e, a, b⟩
    exact ⟨o, o1, m, m1, ⟨fun z => e.mp z.symm, fun z => (e.mpr z).symm⟩, b, a⟩
  · rintro ⟨m, m1, o, o1, e, a, b⟩
    exact ⟨o, o1, m, m1, ⟨fun z => e.mp z.symm, fun z => (e.mpr z).symm⟩, b, a⟩
def pAgr (r r' : zTier) (y : Int32) (s : Nat) : Prop := (y = 0 ∧ cvQ r r' True s) ∨ (y = 1 ∧ cvQ r r' False s) ∨ (y = 2 ∧ cvA r s ∧ ¬ cvA r' s) ∨ (y = 3 ∧ cvA r' s ∧ ¬ cvA r s)
theorem m_markIn {a t : Nat} (hl : zlenI (a + 1) 0 = 745) (h : mRow σ.1 (a + 1) t r) (ht : t < 6) (x : Int32) : zrun zP 237 [zR (a + 1) 0, zI (nI t), zI x] σ = zok (zfI (fun k => ¬ x < rfr r k ∧ x < rto r k) (rct r)) σ := by
  have h4 := h.2.2.2.2.1
  have p1 := nIk (k := 3 + 124 * t) (N := 745) (by omega) (by omega)
  have p2 := nI_clamp (n := 3 + 124 * t) (by omega)
  have L := zfI_loop (X := fun k => zX zP zK_X6_markIn (2, [zR (a + 1) 0, zI (nI t), zI x, zI (nI k)], []) σ) (σ := σ) (p := fun k => ¬ x < rfr r k ∧ x < rto r k) (n := rct r) (fun k hk => by
    have f := h.2.2.2.2.2 k hk
    have c1 := nIk (k := 5 + 124 * t + 3 * k) (N := 745) (by omega) (by omega)
    have c2 := nI_clamp (n := 5 + 124 * t + 3 * k) (by omega)
    have c3 := nIk (k := 6 + 124 * t + 3 * k) (N := 745) (by omega) (by omega)
    have c4 := nI_clamp (n := 6 + 124 * t + 3 * k) (by omega)
    have step : zX zP zK_X6_markIn (2, [zR (a + 1) 0, zI (nI t), zI x, zI (nI k)], []) σ = (if x < rfr r k then (zX zP zK_X6_markIn (2, [zR (a + 1) 0, zI (nI t), zI x, zI (nI (k + 1))], []) σ) else (if x < rto r k then zok (nI k) σ else (zX zP zK_X6_markIn (2, [zR (a + 1) 0, zI (nI t), zI x, zI (nI (k + 1))], []) σ))) := by
      rw [e_X6_markIn_2, m_pos2, zcI_ok]
      simp only [hl, p1, p2, if_false]
      rw [h.2.2.1, if_pos (nI_lt hk (by omega)), m_cell0, zcI_ok]
      simp only [hl, c1, c2, if_false]
      rw [f.1, m_cell1, zcI_ok]
      simp only [hl, c3, c4, if_false]
      rw [f.2.1, nI_1]
    constructor
    · intro e
      rw [step, if_neg e.1, if_pos e.2]
    · intro e
      rw [step]
      by_cases q : x < rfr r k
      · rw [if_pos q]
      · rw [if_neg q, if_neg (fun z => e ⟨q, z⟩)]) (by
    rw [e_X6_markIn_2, m_pos2, zcI_ok]
    simp only [hl, p1, p2, if_false]
    rw [h.2.2.1, if_neg (nI_nlt (Nat.le_refl _) (by omega))])
  rw [nI_0] at L
  exact (e_X6_markIn a 0 (nI t) x σ).trans L
theorem in_cov (hs : zSrt r) (h : zRt r) {s : Nat} (hs9 : s < 999) : (zfI (fun k => ¬ nI s < rfr r k ∧ nI s < rto r k) (rct r) = -1 ∧ ¬ cvA r s) ∨ ∃ a, a < rct r ∧ zfI (fun k => ¬ nI s < rfr r k ∧ nI s < rto r k) (rct r) = nI a ∧ cov r s a := by
  have e : ∀ k, k < rct r → ((¬ nI s < rfr r k ∧ nI s < rto r k) ↔ cov r s k) := fun k hk => by
    obtain ⟨a, a1⟩ := fN_e h hk
    obtain ⟨b, b1⟩ := tN_e h hk
    rw [a, b, nI_lp (by omega) (by omega), nI_lp (by omega) (by omega)]
    unfold cov
    omega
  unfold zfI
  cases hz : zfst (fun k => ¬ nI s < rfr r k ∧ nI s < rto r k) 0 (rct r) with
  | none => exact Or.inl ⟨rfl, fun ⟨m, m1, m2⟩ => (zfst_none _ _).mp hz m (by omega) (by omega) ((e m m1).mpr m2)⟩
  | some a =>
    obtain ⟨z1, z2, z3, -⟩ := (zfst_spec _ _ _).mp hz
    exact Or.inr ⟨a, by omega, rfl, (e a (by omega)).mp z3⟩
theorem m_agree {t u : Nat} (hm : mRow σ.1 31 t r) (hm' : mRow σ.1 32 u r') (ht : t < 6) (hu : u < 6) (hs : zSrt r) (h : zRt r) (hs' : zSrt r') (h' : zRt r') {y : Int32} (hy : ¬ y = -1) : zX zP zK_X6_agree (49, [zR 16 i, zI (nI t), zI y, zI (nI u), zI 0, zI 0, zJunk, zJunk, zJunk], []) σ = zok (nI (nsum (fun s => ind (pAgr r r' y s)) 0 999)) σ := by
  have h4 := hm.2.2.2.2.1
  have h4' := hm'.2.2.2.2.1
  have L := zsum_loopV (X := fun s acc (v : zAV × zAV × zAV) => zX zP zK_X6_agree (49, [zR 16 i, zI (nI t), zI y, zI (nI u), zI acc, zI (nI s), v.1, v.2.1, v.2.2], []) σ) (w := fun acc => zok acc σ) (f := fun s => nI (ind (pAgr r r' y s))) (n := 999) (fun s acc v hs9 => by
    have i1 := m_markIn (a := 30) (σ := σ) rfl hm ht (nI s)
    have i2 := m_markIn (a := 31) (σ := σ) rfl hm' hu (nI s)
    rw [e_X6_agree_49, if_pos (show nI s < 999 from (nI_lt hs9 (by omega) : nI s < nI 999)), i1, zcI_ok, i2, zcI_ok, nI_1]
    rcases in_cov hs h hs9 with ⟨a1, a2⟩ | ⟨a, a1, a2, a3⟩
    · have nq : ∀ q, ¬ cvQ r r' q s := fun q ⟨m, m1, o, o1, z⟩ => a2 ⟨m, m1, z.2.1⟩
      rw [a1, if_pos rfl]
      rcases in_cov hs' h' hs9 with ⟨b1, b2⟩ | ⟨b, b1, b2, b3⟩
      · rw [b1, if_pos rfl, if_neg (fun e => hy e.symm), ind_f]
        · exact ⟨(_, _, _), rfl⟩
        · rintro (e | e | e | e)
          · exact nq _ e.2
          · exact nq _ e.2
          · exact a2 e.2.1
          · exact b2 e.2.1
      · rw [b2, if_neg (nI_m1 _ (by omega))]
        by_cases c : (3 : Int32) = y
        · rw [if_pos c, ind_t (p := pAgr r r' y s) (Or.inr (Or.inr (Or.inr ⟨c.symm, ⟨b, b1, b3⟩, a2⟩)))]
          exact ⟨(_, _, _), rfl⟩
        · rw [if_neg c, ind_f]
          · exact ⟨(_, _, _), rfl⟩
          · rintro (e | e | e | e)
            · exact nq _ e.2
            · exact nq _ e.2
            · exact a2 e.2.1
            · exact c e.1.symm
    · rw [a2, if_neg (nI_m1 _ (by omega))]
      rcases in_cov hs' h' hs9 with ⟨b1, b2⟩ | ⟨b, b1, b2, b3⟩
      · have nq : ∀ q, ¬ cvQ r r' q s := fun q ⟨m, m1, o, o1, z⟩ => b2 ⟨o, o1, z.2.2⟩
        rw [b1, if_pos rfl]
        by_cases c : (2 : Int32) = y
        · rw [if_pos c, ind_t (p := pAgr r r' y s) (Or.inr (Or.inr (Or.inl ⟨c.symm, ⟨a, a1, a3⟩, b2⟩)))]
          exact ⟨(_, _, _), rfl⟩
        · rw [if_neg c, ind_f]
          · exact ⟨(_, _, _), rfl⟩
          · rintro (e | e | e | e)
            · exact nq _ e.2
            · exact nq _ e.2
            · exact c e.1.symm
            · exact b2 e.2.1
      · have c1 := nIk (k := 7 + 124 * t + 3 * a) (N := 745) (by omega) (by omega)
        have c2 := nI_clamp (n := 7 + 124 * t + 3 * a) (by omega)
        have c3 := nIk (k := 7 + 124 * u + 3 * b) (N := 745) (by omega) (by omega)
        have c4 := nI_clamp (n := 7 + 124 * u + 3 * b) (by omega)
        have na : cvA r s := ⟨a, a1, a3⟩
        have nb : cvA r' s := ⟨b, b1, b3⟩
        rw [b2, if_neg (nI_m1 _ (by omega)), m_cell2, zcI_ok]
        simp only [c1, c2, if_false]
        rw [m_cell2, zcI_ok]
        simp only [c3, c4, if_false]
        rw [(hm.2.2.2.2.2 a a1).2.2, (hm'.2.2.2.2.2 b b1).2.2]
        by_cases e : rlb r a = rlb r' b
        · have nf : ¬ cvQ r r' False s := by
            rintro ⟨m', k1, o', l1, q, k2, l2⟩
            rw [cov_u hs h k1 a1 k2 a3, cov_u hs' h' l1 b1 l2 b3] at q
            exact q.mp e
          rw [if_pos e]
          by_cases c : (0 : Int32) = y
          · rw [if_pos c, ind_t (p := pAgr r r' y s) (Or.inl ⟨c.symm, a, a1, b, b1, ⟨fun _ => trivial, fun _ => e⟩, a3, b3⟩)]
            exact ⟨(_, _, _), rfl⟩
          · rw [if_neg c, ind_f]
            · exact ⟨(_, _, _), rfl⟩
            · rintro (z | z | z | z)
              · exact c z.1.symm
              · exact nf z.2
              · exact z.2.2 nb
              · exact z.2.2 na
        · have nt : ¬ cvQ r r' True s := by
            rintro ⟨m', k1, o', l1, q, k2, l2⟩
            rw [cov_u hs h k1 a1 k2 a3, cov_u hs' h' l1 b1 l2 b3] at q
            exact e (q.mpr trivial)
          rw [if_neg e]
          by_cases c : (1 : Int32) = y
          · rw [if_pos c, ind_t (p := pAgr r r' y s) (Or.inr (Or.inl ⟨c.symm, a, a1, b, b1, ⟨fun z => e z, fun z => z.elim⟩, a3, b3⟩))]
            exact ⟨(_, _, _), rfl⟩
          · rw [if_neg c, ind_f]
            · exact ⟨(_, _, _), rfl⟩
            · rintro (z | z | z | z)
              · exact nt z.2
              · exact c z.1.symm
              · exact z.2.2 nb
              · exact z.2.2 na) (fun acc v => by
    rw [e_X6_agree_49, if_neg (show ¬ nI 999 < 999 by decide)]) 999 0 0 (zJunk, zJunk, zJunk) (by omega)
  rw [nI_0, Int32.zero_add, zsum_nI _ _ (fun s _ _ => rfl)] at L
  exact L
theorem a_agree (h : zRel M) (x y : Int32) : zAg 118 238 [zI x, zI y] cdL M := by
  obtain ⟨T, n, H, hR⟩ := h
  have hS := hR.1.1
  have h6 := hS.2.1
  have ok := hR.1.2.2
  have hz := mSheet_z (i := 0) hR.1.2.1
  by_cases c : pTr T x
  · by_cases cr : ¬ y < 0 ∧ ¬ (3 : Int32) < y
    · have c' := c
      obtain ⟨t, ht, rfl⟩ := pTr_n h6 c'
      obtain ⟨q1, q2, q3⟩ := s_in (σ := (M, (0, 0))) hS ht
      have ro := ok.2.2.2.1 t ht
      have hn1 : M 12 (6 * 0 + t) 0 = rnm (T.2 t) := (hS.2.2 t ht).1.1
      have hn2 : zms M 16 0 0 0 31 0 (4 + 124 * t) = rnm (T.2 t) := (hz.2.2 t ht).2.2.2.1
      have pc : ∀ ρ, zrun zP 118 [zR 15 0, zI (nI t), zI y] (M, ρ) = zcR (zrun zP 132 [zR 15 0, zR 12 (6 * 0 + t)] (M, ρ)) (fun p3 q3 s3 => zX zP zK_X5_agree (29, [zR 15 0, zI (nI t), zI y, zR 12 (6 * 0 + t), zR p3 q3, zJunk, zJunk], []) s3) := fun ρ => by
        rw [e_X5_agree, (n_tier (σ := (M, ρ)) hS _).1 c, zcV_ok, (n_range (σ := (M, ρ)) y 0 3).1 cr, zcV_ok]
        simp only [q2, q1, if_false]
      have pm : ∀ ρ', zrun zP 238 [zR 16 0, zI (nI t), zI y] (M, ρ') = zcI (zrun zP 236 [zR 16 0, zI (nI t)] (zms M 16 0 0 0, ρ')) (fun r4 s4 => if r4 = (-1) then zok (-1) s4 else (zX zP zK_X6_agree (49, [zR 16 0, zI (nI t), zI y, zI r4, zI 0, zI 0, zJunk, zJunk, zJunk], []) s4)) := fun ρ' => by
        rw [e_X6_agree, (m_isTier (σ := (zms M 16 0 0 0, ρ')) hz zms_eq _).1 c, zcI_ok, if_neg (by decide), m_isIn, zcI_ok, zb_t cr, m_f1, zcI_ok, if_neg (by decide)]
      rcases twin_or hR.2.2.1 (rnm (T.2 t)) with ⟨w1, w2⟩ | ⟨O, u, hu, o1, o2, o3, w1, w2⟩
      · refine ag_rd hR (x := -1) (fun ρ => ?_) (fun ρ' => ?_)
        · refine (pc ρ).trans ?_
          rw [w1 ρ _ hn1, zcR_ok]
          exact e_X5_agree_29n 0 (nI t) y _ _ _ _
        · rw [pm, w2 _ ρ' t twF_z (by omega) hn2, zcI_ok, if_pos rfl]
      · have rO := o3.2.2.2.1 u hu
        have u6 := o1.2.1
        have oz : mSheet (zms M 16 0 0 0) 32 O := mSheet_congr (fun q hq => zms_ne (by omega)) o2
        have hy : y = 0 ∨ y = 1 ∨ y = 2 ∨ y = 3 := by
          have a := cr.1
          have b := cr.2
          rw [iI_lt] at a b
          have i0 := iI_0
          have i1 := iI_1
          have i2 : (2 : Int32).toInt = 2 := by decide
          have i3 : (3 : Int32).toInt = 3 := by decide
          simp only [iI_eq, i0, i1, i2, i3]
          omega
        have hym : ¬ y = -1 := by rcases hy with e | e | e | e <;> rw [e] <;> decide
        refine ag_rd hR (x := nI (nsum (fun s => ind (pAgr (T.2 t) (O.2 u) y s)) 0 999)) (fun ρ => ?_) (fun ρ' => ?_)
        · have b1 := c_beside (σ := (M, ρ)) (hS.2.2 t ht).1 (o1.2.2 u hu).1 True
          have b2 := c_beside (σ := (M, ρ)) (hS.2.2 t ht).1 (o1.2.2 u hu).1 False
          have t1 : zsum (fun m => zsum (fTo (T.2 t) (O.2 u) (fun m o => (rlb (T.2 t) m = rlb (O.2 u) o) ↔ True) m) 0 (rct (O.2 u))) 0 (rct (T.2 t)) = nI (nsum (fun s => ind (cvQ (T.2 t) (O.2 u) True s)) 0 999) := sTo_n ro.1 ro.2.1 rO.1 rO.2.1
          have t2 : zsum (fun m => zsum (fTo (T.2 t) (O.2 u) (fun m o => (rlb (T.2 t) m = rlb (O.2 u) o) ↔ False) m) 0 (rct (O.2 u))) 0 (rct (T.2 t)) = nI (nsum (fun s => ind (cvQ (T.2 t) (O.2 u) False s)) 0 999) := sTo_n ro.1 ro.2.1 rO.1 rO.2.1
          rw [zb_t trivial, t1] at b1
          rw [zb_f id, t2] at b2
          refine (pc ρ).trans ?_
          rw [w1 ρ _ hn1, zcR_ok, e_X5_agree_29r, b1, zcI_ok, b2, zcI_ok]
          rcases hy with rfl | rfl | rfl | rfl
          · rw [if_pos rfl]
            exact congrArg (fun z => zok (nI z) (M, ρ)) (nsum_congr _ _ (fun s _ _ => ind_congr ⟨fun e => Or.inl ⟨rfl, e⟩, fun e => by
              rcases e with e | e | e | e
              · exact e.2
              · exact absurd e.1 (by decide)
              · exact absurd e.1 (by decide)
              · exact absurd e.1 (by decide)⟩))
          · rw [if_neg (by decide), if_pos (by decide)]
            exact congrArg (fun z => zok (nI z) (M, ρ)) (nsum_congr _ _ (fun s _ _ => ind_congr ⟨fun e => Or.inr (Or.inl ⟨rfl, e⟩), fun e => by
              rcases e with e | e | e | e
              · exact absurd e.1 (by decide)
              · exact e.2
              · exact absurd e.1 (by decide)
              · exact absurd e.1 (by decide)⟩))
          · rw [if_neg (by decide), if_neg (by decide), if_pos (by decide), r_wholeLength (σ := (M, ρ)) (hS.2.2 t ht).1, zcI_ok, whole_n ro.1 ro.2.1, rest_n ro.1 ro.2.1 rO.1 rO.2.1]
            exact congrArg (fun z => zok (nI z) (M, ρ)) (nsum_congr _ _ (fun s _ _ => ind_congr ⟨fun e => Or.inr (Or.inr (Or.inl ⟨rfl, e⟩)), fun e => by
              rcases e with e | e | e | e
              · exact absurd e.1 (by decide)
              · exact absurd e.1 (by decide)
              · exact e.2
              · exact absurd e.1 (by decide)⟩))
          · have e1 : nsum (fun s => ind (cvQ (T.2 t) (O.2 u) True s)) 0 999 = nsum (fun s => ind (cvQ (O.2 u) (T.2 t) True s)) 0 999 := nsum_congr _ _ (fun s _ _ => ind_congr cvQ_sym)
            have e2 : nsum (fun s => ind (cvQ (T.2 t) (O.2 u) False s)) 0 999 = nsum (fun s => ind (cvQ (O.2 u) (T.2 t) False s)) 0 999 := nsum_congr _ _ (fun s _ _ => ind_congr cvQ_sym)
            rw [if_neg (by decide), if_neg (by decide), if_neg (by decide), r_wholeLength (σ := (M, ρ)) (o1.2.2 u hu).1, zcI_ok, whole_n rO.1 rO.2.1, e1, e2, rest_n rO.1 rO.2.1 ro.1 ro.2.1]
            exact congrArg (fun z => zok (nI z) (M, ρ)) (nsum_congr _ _ (fun s _ _ => ind_congr ⟨fun e => Or.inr (Or.inr (Or.inr ⟨rfl, e⟩)), fun e => by
              rcases e with e | e | e | e
              · exact absurd e.1 (by decide)
              · exact absurd e.1 (by decide)
              · exact absurd e.1 (by decide)
              · exact e.2⟩))
        · rw [pm, w2 _ ρ' t twF_z (by omega) hn2, zcI_ok, if_neg (nI_m1 _ (by omega))]
          exact m_agree (σ := (zms M 16 0 0 0, ρ')) (hz.2.2 t ht) (oz.2.2 u hu) (by omega) (by omega) ro.1 ro.2.1 rO.1 rO.2.1 hym
    · refine ag_ref hR (e := 1) (by omega) (fun ρ => ?_) (fun ρ' => ?_)
      · rw [e_X5_agree, (n_tier (σ := (M, ρ)) hS _).1 c, zcV_ok, (n_range (σ := (M, ρ)) y 0 3).2 cr, zcV_cTh]
      · rw [e_X6_agree, (m_isTier (σ := (zms (rfM M 1) 16 0 0 0, ρ')) (mSheet_z (rfM_m hR.1.2.1)) zms_eq _).1 c, zcI_ok, if_neg (by decide), m_isIn, zcI_ok, zb_f cr, m_fineA zms_eq 2 (by decide), zcI_ok, if_pos rfl]
        rfl
  · refine ag_ref hR (e := 0) (by omega) (fun ρ => ?_) (fun ρ' => ?_)
    · rw [e_X5_agree, (n_tier (σ := (M, ρ)) hS _).2 c, zcV_cTh]
    · rw [e_X6_agree, (m_isTier (σ := (zms (rfM M 0) 16 0 0 0, ρ')) (mSheet_z (rfM_m hR.1.2.1)) zms_eq _).2 c, zcI_ok, if_pos rfl]
      rfl
end ZAR
