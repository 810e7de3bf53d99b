/-! questions: over, within, longest, gaps, print -/
section ZOV
variable {T : zSheet} {n i : Nat} {H : Nat → zSheet} {M : zMem} {σ : zSt} {ρ : Int64 × Nat} {r : zTier}
theorem share_eq (hs : zSrt r) (ht : zRt r) {k : Nat} (hk : k < rct r) {a b : Int32} (hab : pSp a b) (ho : pOver r k a b) : pShare (rfr r k) (rto r k) a b = (if rto r k < b then rto r k else b) - (if a < rfr r k then rfr r k else a) := by
  obtain ⟨⟨f, f1, f2⟩, t, t1, t2⟩ := ht k hk
  obtain ⟨a0, a1, a2⟩ := pTm_n hab.1
  obtain ⟨b0, b1, b2⟩ := pTm_n hab.2.1
  have h1 := hab.2.2
  have s := hs.1 k hk
  unfold pOver at ho
  rw [f2, t2] at ho s
  rw [a2, b2] at ho h1 ⊢
  rw [f2, t2]
  have i1 := iI_n (n := f) (by omega)
  have i2 := iI_n (n := t) (by omega)
  have i3 := iI_n (n := a0) (by omega)
  have i4 := iI_n (n := b0) (by omega)
  rw [iI_lt] at h1
  have ef : f ≤ t ∧ f < b0 ∧ (a0 < t ∨ a0 ≤ f) := by
    rcases ho with ⟨o1, o2, o3⟩ | ⟨o1, o2, o3⟩
    · rcases s with q | q
      · have := (nI_eq (by omega) (by omega)).mp q.2
        rw [iI_lt] at o2 o3
        omega
      · exact absurd o1 q.1
    · rcases s with q | q
      · exact absurd q.1 o1
      · have := q.2
        rw [iI_lt] at this o2 o3
        omega
  have e1 : (if nI b0 < nI t then nI b0 else nI t) = nI (min b0 t) := by
    by_cases c : b0 < t
    · rw [if_pos (nI_lt c (by omega)), Nat.min_eq_left (by omega)]
    · rw [if_neg (nI_nlt (by omega) (by omega)), Nat.min_eq_right (by omega)]
  have e2 : (if nI t < nI b0 then nI t else nI b0) = nI (min b0 t) := by
    by_cases c : t < b0
    · rw [if_pos (nI_lt c (by omega)), Nat.min_eq_right (by omega)]
    · rw [if_neg (nI_nlt (by omega) (by omega)), Nat.min_eq_left (by omega)]
  have e3 : (if nI f < nI a0 then nI a0 else nI f) = nI (max f a0) := by
    by_cases c : f < a0
    · rw [if_pos (nI_lt c (by omega)), Nat.max_eq_right (by omega)]
    · rw [if_neg (nI_nlt (by omega) (by omega)), Nat.max_eq_left (by omega)]
  have e4 : (if nI a0 < nI f then nI f else nI a0) = nI (max f a0) := by
    by_cases c : a0 < f
    · rw [if_pos (nI_lt c (by omega)), Nat.max_eq_left (by omega)]
    · rw [if_neg (nI_nlt (by omega) (by omega)), Nat.max_eq_right (by omega)]
  unfold pShare
  rw [e1, e2, e3, e4, nI_sub (by omega)]
  by_cases c : 0 < min b0 t - max f a0
  · rw [if_pos (by rw [nI_0l (by omega)]; exact c)]
  · rw [if_neg (by rw [nI_0l (by omega)]; exact c), show min b0 t - max f a0 = 0 by omega]
    rfl
def fOv (r : zTier) (a b : Int32) (k : Nat) (s : Int32 × Int32 × Int32) : Int32 × Int32 × Int32 := (s.1 + 1, (if s.1 = 0 then nI k else s.2.1), s.2.2 + pShare (rfr r k) (rto r k) a b)
noncomputable def gOv (r : zTier) (a b : Int32) (k : Nat) (s : Int32 × Int32 × Int32) : Int32 × Int32 × Int32 := zif (pOver r k a b) (fOv r a b k s) s
def out3 (y : Int32) (s : Int32 × Int32 × Int32) : Int32 := if y = 0 then s.1 else if y = 1 then s.2.1 else s.2.2
theorem c_over {j : Nat} (h : cRow σ.1 j r) (x a b y : Int32) : zX zP zK_X5_over (42, [zR 15 i, zI x, zI a, zI b, zI y, zR 12 j, zI 0, zI (-1), zI 0, zI 0], []) σ = zok (out3 y (zfold (gOv r a b) 0 (rct r) (0, -1, 0))) σ := by
  have h4 := h.2.2.2.2.1
  have L := zfold_loopN (X := fun k (s : Int32 × Int32 × Int32) => zX zP zK_X5_over (42, [zR 15 i, zI x, zI a, zI b, zI y, zR 12 j, zI s.1, zI s.2.1, zI s.2.2, zI (nI k)], []) σ) (w := fun s => zok (out3 y s) σ) (f := gOv r a b) (n := rct r) (fun k s hk => by
    rw [e_X5_over_42, h.2.2.2.1, if_pos (nI_lt hk (by omega)), r_isOver h hk, zcI_ok, nI_1]
    unfold gOv
    by_cases c : pOver r k a b
    · rw [zb_t c, if_neg (by decide), zif_t c, r_shared h hk, zcI_ok, zcI_ok]
      unfold fOv
      by_cases c2 : s.1 = 0
      · rw [if_pos c2, if_pos c2]
      · rw [if_neg c2, if_neg c2]
    · rw [zb_f c, if_pos rfl, zif_f c]) (fun s => by
    rw [e_X5_over_42, h.2.2.2.1, if_neg (nI_nlt (Nat.le_refl _) (by omega))]
    unfold out3
    by_cases c : y = 0
    · rw [if_pos c, if_pos c]
    · rw [if_neg c, if_neg c]
      by_cases c2 : y = 1
      · rw [if_pos c2, if_pos c2]
      · rw [if_neg c2, if_neg c2]) (rct r) 0 (0, -1, 0) (by omega)
  exact L
theorem m_over {t : Nat} (h : mRow σ.1 31 t r) (ht : t < 6) (hs : zSrt r) (hrt : zRt r) {a b : Int32} (hab : pSp a b) (y : Int32) : zX zP zK_X6_over (78, [zR 16 i, zI (nI t), zI a, zI b, zI y, zI 0, zI (-1), zI 0, zI 0, zJunk], []) σ = zok (out3 y (zfold (gOv r a b) 0 (rct r) (0, -1, 0))) σ := by
  have h4 := h.2.2.2.2.1
  have L := zfold_loopV (X := fun k (s : Int32 × Int32 × Int32) (v : zAV) => zX zP zK_X6_over (78, [zR 16 i, zI (nI t), zI a, zI b, zI y, zI s.1, zI s.2.1, zI s.2.2, zI (nI k), v], []) σ) (w := fun s => zok (out3 y s) σ) (f := gOv r a b) (n := rct r) (fun k s v hk => by
    have fr := m_from (i := i) h ht hk
    have to := m_to (i := i) h ht hk
    rw [e_X6_over_78, m_many h ht, zcI_ok, if_pos (nI_lt hk (by omega)), m_kind h ht, zcI_ok, nI_1]
    unfold gOv
    by_cases c : pOver r k a b
    · have e := share_eq hs hrt hk hab c
      rw [zif_t c]
      unfold fOv
      rw [e]
      rcases c with ⟨c1, c2, c3⟩ | ⟨c1, c2, c3⟩
      · rw [if_pos c1, fr, zcI_ok, if_neg c2, fr, zcI_ok, if_pos c3, if_neg (by decide), to, zcI_ok, fr, zcI_ok]
        by_cases c4 : s.1 = 0
        · rw [if_pos c4, if_pos c4]; exact ⟨_, rfl⟩
        · rw [if_neg c4, if_neg c4, zcI_ok, fr, zcI_ok]; exact ⟨_, rfl⟩
      · rw [if_neg c1, fr, zcI_ok, if_pos c2, to, zcI_ok, if_pos c3, if_neg (by decide), to, zcI_ok, fr, zcI_ok]
        by_cases c4 : s.1 = 0
        · rw [if_pos c4, if_pos c4]; exact ⟨_, rfl⟩
        · rw [if_neg c4, if_neg c4, zcI_ok, fr, zcI_ok]; exact ⟨_, rfl⟩
    · rw [zif_f c]
      by_cases c1 : rkd r = 3
      · rw [if_pos c1, fr, zcI_ok]
        by_cases c2 : rfr r k < a
        · rw [if_pos c2, if_pos rfl]; exact ⟨_, rfl⟩
        · rw [if_neg c2, fr, zcI_ok, if_neg (fun e => c (Or.inl ⟨c1, c2, e⟩)), if_pos rfl]; exact ⟨_, rfl⟩
      · rw [if_neg c1, fr, zcI_ok]
        by_cases c2 : rfr r k < b
        · rw [if_pos c2, to, zcI_ok, if_neg (fun e => c (Or.inr ⟨c1, c2, e⟩)), if_pos rfl]; exact ⟨_, rfl⟩
        · rw [if_neg c2, if_pos rfl]; exact ⟨_, rfl⟩) (fun s v => by
    rw [e_X6_over_78, m_many h ht, zcI_ok, if_neg (nI_nlt (Nat.le_refl _) (by omega))]
    unfold out3
    by_cases c : y = 0
    · rw [if_pos c, if_pos c]
    · rw [if_neg c, if_neg c]
      by_cases c2 : y = 1
      · rw [if_pos c2, if_pos c2]
      · rw [if_neg c2, if_neg c2]) (rct r) 0 (0, -1, 0) zJunk (by omega)
  exact L
theorem a_over (h : zRel M) (x a b y : Int32) : zAg 110 229 [zI x, zI a, zI b, zI y] cdL M := by
  obtain ⟨T, n, H, hR⟩ := h
  have hS := hR.1.1
  have h6 := hS.2.1
  have ok := hR.1.2.2
  have hz := mSheet_z (i := 0) hR.1.2.1
  by_cases c : pTr T x
  · by_cases cr : pSp a b ∧ (¬ y < 0 ∧ ¬ (2 : Int32) < y)
    · have c' := c
      obtain ⟨t, ht, rfl⟩ := pTr_n h6 c'
      obtain ⟨q1, q2, q3⟩ := s_in (σ := (M, (0, 0))) hS ht
      have ro := ok.2.2.2.1 t ht
      obtain ⟨cs, cy⟩ := cr
      refine ag_rd hR (x := out3 y (zfold (gOv (T.2 t) a b) 0 (rct (T.2 t)) (0, -1, 0))) (fun ρ => ?_) (fun ρ' => ?_)
      · rw [e_X5_over, (n_tier (σ := (M, ρ)) hS _).1 c, zcV_ok, (n_span a b (M, ρ)).1 cs, zcV_ok, (n_range (σ := (M, ρ)) y 0 2).1 cy, zcV_ok]
        simp only [q2, q1, if_false]
        exact c_over (σ := (M, ρ)) (hS.2.2 t ht).1 _ a b y
      · rw [e_X6_over, (m_isTier (σ := (zms M 16 0 0 0, ρ')) hz zms_eq _).1 c, zcI_ok, if_neg (by decide), m_isTm, zcI_ok, zb_t cs.1, if_neg (by decide), m_isTm, zcI_ok, zb_t cs.2.1, if_neg (by decide), if_pos cs.2.2, m_isIn, zcI_ok, zb_t cy, if_neg (by decide), m_f1, zcI_ok, if_neg (by decide)]
        exact m_over (σ := (zms M 16 0 0 0, ρ')) (hz.2.2 t ht) (by omega) ro.1 ro.2.1 cs y
    · refine ag_ref hR (e := 1) (by omega) (fun ρ => ?_) (fun ρ' => ?_)
      · rw [e_X5_over, (n_tier (σ := (M, ρ)) hS _).1 c, zcV_ok]
        by_cases cs : pSp a b
        · rw [(n_span a b (M, ρ)).1 cs, zcV_ok, (n_range (σ := (M, ρ)) y 0 2).2 (fun e => cr ⟨cs, e⟩), zcV_cTh]
        · rw [(n_span a b (M, ρ)).2 cs, zcV_cTh]
      · have hz' := mSheet_z (i := 0) (rfM_m (e := 1) hR.1.2.1)
        have fa := m_fineA (i := 0) (M := zms (rfM M 1) 16 0 0 0) (ρ := ρ') zms_eq 2 (by decide)
        rw [e_X6_over, (m_isTier (σ := (zms (rfM M 1) 16 0 0 0, ρ')) hz' zms_eq _).1 c, zcI_ok, if_neg (by decide), m_isTm, zcI_ok]
        by_cases c1 : pTm a
        · rw [zb_t c1, if_neg (by decide), m_isTm, zcI_ok]
          by_cases c2 : pTm b
          · rw [zb_t c2, if_neg (by decide)]
            by_cases c3 : a < b
            · rw [if_pos c3, m_isIn, zcI_ok, zb_f (fun e => cr ⟨⟨c1, c2, c3⟩, e⟩), if_pos rfl, fa, zcI_ok, if_pos rfl]
              rfl
            · rw [if_neg c3, fa, zcI_ok, if_pos rfl]
              rfl
          · rw [zb_f c2, if_pos rfl, fa, zcI_ok, if_pos rfl]
            rfl
        · rw [zb_f c1, if_pos rfl, fa, zcI_ok, if_pos rfl]
          rfl
  · refine ag_ref hR (e := 0) (by omega) (fun ρ => ?_) (fun ρ' => ?_)
    · rw [e_X5_over, (n_tier (σ := (M, ρ)) hS _).2 c, zcV_cTh]
    · rw [e_X6_over, (m_isTier (σ := (zms (rfM M 0) 16 0 0 0, ρ')) (mSheet_z (rfM_m hR.1.2.1)) zms_eq _).2 c, zcI_ok, if_pos rfl]
      rfl
/-! within -/
def fWi (r : zTier) (k : Nat) (s : Int32 × Int32 × Int32) : Int32 × Int32 × Int32 := (s.1 + 1, (if s.1 = 0 then nI k else s.2.1), s.2.2 + (rto r k - rfr r k))
noncomputable def gWi (r : zTier) (a b : Int32) (k : Nat) (s : Int32 × Int32 × Int32) : Int32 × Int32 × Int32 := zif (¬ rfr r k < a ∧ ¬ b < rto r k) (fWi r k s) s
theorem c_within {j : Nat} (h : cRow σ.1 j r) (x1 x2 x3 y a b : Int32) : zX zP zK_X5_within (74, [zR 15 i, zI x1, zI x2, zI x3, zI y, zI a, zI b, zR 12 j, zI 0, zI (-1), zI 0, zI 0], []) σ = zok (out3 y (zfold (gWi r a b) 0 (rct r) (0, -1, 0))) σ := by
  have h4 := h.2.2.2.2.1
  have L := zfold_loopN (X := fun k (s : Int32 × Int32 × Int32) => zX zP zK_X5_within (74, [zR 15 i, zI x1, zI x2, zI x3, zI y, zI a, zI b, zR 12 j, zI s.1, zI s.2.1, zI s.2.2, zI (nI k)], []) σ) (w := fun s => zok (out3 y s) σ) (f := gWi r a b) (n := rct r) (fun k s hk => by
    rw [e_X5_within_74, h.2.2.2.1, if_pos (nI_lt hk (by omega)), r_liesIn h hk, zcI_ok, nI_1]
    unfold gWi
    by_cases c : ¬ rfr r k < a ∧ ¬ b < rto r k
    · rw [zb_t c, if_neg (by decide), zif_t c, r_length h hk, zcI_ok, zcI_ok]
      unfold fWi
      by_cases c2 : s.1 = 0
      · rw [if_pos c2, if_pos c2]
      · rw [if_neg c2, if_neg c2]
    · rw [zb_f c, if_pos rfl, zif_f c]) (fun s => by
    rw [e_X5_within_74, h.2.2.2.1, if_neg (nI_nlt (Nat.le_refl _) (by omega))]
    unfold out3
    by_cases c : y = 0
    · rw [if_pos c, if_pos c]
    · rw [if_neg c, if_neg c]
      by_cases c2 : y = 1
      · rw [if_pos c2, if_pos c2]
      · rw [if_neg c2, if_neg c2]) (rct r) 0 (0, -1, 0) (by omega)
  exact L
theorem m_within (hS : mSheet σ.1 31 T) {t k o : Nat} (ht : t < T.1) (hk : k < rct (T.2 t)) (ho : o < T.1) (y : Int32) : zX zP zK_X6_within (92, [zR 16 i, zI (nI t), zI (nI k), zI (nI o), zI y, zI 0, zI (-1), zI 0, zI 0], []) σ = zok (out3 y (zfold (gWi (T.2 o) (rfr (T.2 t) k) (rto (T.2 t) k)) 0 (rct (T.2 o)) (0, -1, 0))) σ := by
  have h6 := hS.2.1
  have h := hS.2.2 o ho
  have h4 := h.2.2.2.2.1
  have fr0 := m_from (i := i) (hS.2.2 t ht) (by omega) hk
  have to0 := m_to (i := i) (hS.2.2 t ht) (by omega) hk
  have L := zfold_loopN (X := fun m (s : Int32 × Int32 × Int32) => zX zP zK_X6_within (92, [zR 16 i, zI (nI t), zI (nI k), zI (nI o), zI y, zI s.1, zI s.2.1, zI s.2.2, zI (nI m)], []) σ) (w := fun s => zok (out3 y s) σ) (f := gWi (T.2 o) (rfr (T.2 t) k) (rto (T.2 t) k)) (n := rct (T.2 o)) (fun m s hm => by
    have fr := m_from (i := i) h (by omega) hm
    have to := m_to (i := i) h (by omega) hm
    rw [e_X6_within_92, m_many h (by omega), zcI_ok, if_pos (nI_lt hm (by omega)), fr, zcI_ok, fr0, zcI_ok, nI_1]
    unfold gWi
    by_cases c1 : rfr (T.2 o) m < rfr (T.2 t) k
    · rw [if_pos c1, zif_f (fun e => e.1 c1)]
    · rw [if_neg c1, to, zcI_ok, to0, zcI_ok]
      by_cases c2 : rto (T.2 t) k < rto (T.2 o) m
      · rw [if_pos c2, zif_f (fun e => e.2 c2)]
      · rw [if_neg c2, zif_t ⟨c1, c2⟩, to, zcI_ok, fr, zcI_ok, zcI_ok, fr, zcI_ok]
        unfold fWi
        by_cases c4 : s.1 = 0
        · rw [if_pos c4, if_pos c4]
        · rw [if_neg c4, if_neg c4]) (fun s => by
    rw [e_X6_within_92, m_many h (by omega), zcI_ok, if_neg (nI_nlt (Nat.le_refl _) (by omega))]
    unfold out3
    by_cases c : y = 0
    · rw [if_pos c, if_pos c]
    · rw [if_neg c, if_neg c]
      by_cases c2 : y = 1
      · rw [if_pos c2, if_pos c2]
      · rw [if_neg c2, if_neg c2]) (rct (T.2 o)) 0 (0, -1, 0) (by omega)
  exact L
end ZOV
