/-! the reference's reading methods over a sheet -/
theorem zfst_loopV {α V : Type} {X : Nat → V → α} {v : Nat → α} {w : α} {p : Nat → Prop} {n : Nat} (hs : ∀ k z, k < n → (p k → X k z = v k) ∧ (¬ p k → ∃ z', X k z = X (k + 1) z')) (hn : ∀ z, X n z = w) : ∀ d k z, k + d = n → X k z = (match zfst p k d with
  | some j => v j
  | none => w) := by
  intro d
  induction d with
  | zero => intro k z h; rw [show k = n by omega]; exact hn z
  | succ d ih =>
    intro k z h
    by_cases hp : p k
    · rw [zfst_t hp]; exact (hs k z (by omega)).1 hp
    · obtain ⟨z', e⟩ := (hs k z (by omega)).2 hp
      rw [zfst_f hp, e]; exact ih (k + 1) z' (by omega)
def mSheet (M : zMem) (a : Nat) (T : zSheet) : Prop := M a 0 0 = nI T.1 ∧ T.1 ≤ 6 ∧ ∀ t, t < T.1 → mRow M a t (T.2 t)
/-- kinds: 0 to 3; cut and in have a parent, free none; a parent is no points -/
def zwk (T : zSheet) : Prop := ∀ t, t < T.1 → (rkd (T.2 t) = 0 ∧ rpr (T.2 t) = -1) ∨ (rkd (T.2 t) = 1 ∧ ¬ rpr (T.2 t) = -1) ∨ (rkd (T.2 t) = 2 ∧ ¬ rpr (T.2 t) = -1) ∨ rkd (T.2 t) = 3
theorem zrt_fuel {T : zSheet} (hw : zwp T) (h6 : T.1 ≤ 6) : ∀ f f' p, p < T.1 → p ≤ f → p ≤ f' → zrt T f p = zrt T f' p := by
  intro f
  induction f with
  | zero =>
    intro f' p hp h1 h2
    have h0 : p = 0 := by omega
    subst h0
    have hm : rpr (T.2 0) = -1 := by
      rcases hw 0 hp with e | ⟨q, q1, -⟩
      · exact e
      · omega
    cases f' with
    | zero => rfl
    | succ f' => simp [zrt, hm]
  | succ f ih =>
    intro f' p hp h1 h2
    by_cases hm : rpr (T.2 p) = -1
    · cases f' with
      | zero => simp [zrt, hm]
      | succ f' => simp [zrt, hm]
    · obtain ⟨p1, p2⟩ := zwp_par hw hp h6 hm
      obtain ⟨f'', rfl⟩ : ∃ q, f' = q + 1 := ⟨f' - 1, by omega⟩
      simp only [zrt, if_neg hm]
      exact ih f'' _ (by omega) (by omega) (by omega)
section ZM2
variable {i : Nat} {T : zSheet} {σ : zSt}
theorem m_aroundP {t : Nat} {r : zTier} (h : mRow σ.1 31 t r) (ht : t < 6) (a b : Int32) : zrun zP 152 [zR 16 i, zI (nI t), zI a, zI b] σ = zok (pAround r a b) σ := m_around h ht a b
theorem m_topOf (h : mSheet σ.1 31 T) (hw : zwp T) {t : Nat} (ht : t < T.1) : zrun zP 148 [zR 16 i, zI (nI t)] σ = zok (nI (pRoot T t)) σ := by
  have h6 := h.2.1
  have key : ∀ p f, p < T.1 → p ≤ f → zX zP zK_X6_topOf (2, [zR 16 i, zI (nI t), zI (nI p)], []) σ = zok (nI (zrt T f p)) σ := by
    intro p
    induction p using Nat.strongRecOn with
    | ind p ih =>
      intro f hp hf
      have hr := h.2.2 p hp
      rw [e_X6_topOf_2, m_parent hr (by omega), zcI_ok]
      by_cases hm : rpr (T.2 p) = -1
      · rw [if_pos hm]
        cases f with
        | zero => rfl
        | succ f => simp [zrt, hm]
      · obtain ⟨p1, p2⟩ := zwp_par hw hp h6 hm
        rw [if_neg hm, m_parent hr (by omega), zcI_ok, p2]
        obtain ⟨f', rfl⟩ : ∃ q, f = q + 1 := ⟨f - 1, by omega⟩
        rw [ih _ p1 f' (by omega) (by omega)]
        simp only [zrt, if_neg hm]
  rw [e_X6_topOf]
  exact key t 6 ht (by omega)
theorem m_depthOf (h : mSheet σ.1 31 T) (hw : zwp T) {t : Nat} (ht : t < T.1) : zrun zP 149 [zR 16 i, zI (nI t)] σ = zok (nI (pDep T t)) σ := by
  have h6 := h.2.1
  have key : ∀ p f acc, p < T.1 → p ≤ f → zX zP zK_X6_depthOf (4, [zR 16 i, zI (nI t), zI (nI acc), zI (nI p)], []) σ = zok (nI (acc + zdp T f p)) σ := by
    intro p
    induction p using Nat.strongRecOn with
    | ind p ih =>
      intro f acc hp hf
      have hr := h.2.2 p hp
      rw [e_X6_depthOf_4, m_parent hr (by omega), zcI_ok]
      by_cases hm : rpr (T.2 p) = -1
      · rw [if_pos hm]
        cases f with
        | zero => rfl
        | succ f => simp [zdp, hm]
      · obtain ⟨p1, p2⟩ := zwp_par hw hp h6 hm
        rw [if_neg hm, m_parent hr (by omega), zcI_ok, p2, nI_1]
        obtain ⟨f', rfl⟩ : ∃ q, f = q + 1 := ⟨f - 1, by omega⟩
        rw [ih _ p1 f' (acc + 1) (by omega) (by omega)]
        simp only [zdp, if_neg hm]
        rw [show acc + 1 + zdp T f' (zpt T p) = acc + (zdp T f' (zpt T p) + 1) by omega]
  have L := key t 6 0 ht (by omega)
  rw [nI_0, Nat.zero_add] at L
  rw [e_X6_depthOf]
  exact L
theorem m_isBelow (h : mSheet σ.1 31 T) (hw : zwp T) {t a : Nat} (ht : t < T.1) (ha : a < T.1) : zrun zP 150 [zR 16 i, zI (nI t), zI (nI a)] σ = zok (zb (pBelow T t a)) σ := by
  have h6 := h.2.1
  have m1 : ∀ x1, zX zP zK_X6_isBelow (6, [zR 16 i, zI x1, zI (nI a), zI (-1)], []) σ = zok 0 σ := fun x1 => by
    rw [e_X6_isBelow_6, if_pos rfl]
  have key : ∀ p f, p < T.1 → p ≤ f → zX zP zK_X6_isBelow (6, [zR 16 i, zI (nI t), zI (nI a), zI (nI p)], []) σ = zok (zb (p = a ∨ zbelow T a f p)) σ := by
    intro p
    induction p using Nat.strongRecOn with
    | ind p ih =>
      intro f hp hf
      have hr := h.2.2 p hp
      rw [e_X6_isBelow_6, if_neg (nI_m1 p (by omega)), m_parent hr (by omega), zcI_ok]
      simp only [nI_ne (show p < 2 ^ 31 by omega) (show a < 2 ^ 31 by omega)]
      by_cases hpa : p = a
      · rw [if_pos hpa, zb_t (Or.inl hpa)]
      · rw [if_neg hpa]
        by_cases hm : rpr (T.2 p) = -1
        · rw [hm, m1, zb_f]
          rintro (e | e)
          · exact hpa e
          · cases f with
            | zero => exact e
            | succ f => exact e.1 hm
        · obtain ⟨p1, p2⟩ := zwp_par hw hp h6 hm
          obtain ⟨f', rfl⟩ : ∃ q, f = q + 1 := ⟨f - 1, by omega⟩
          rw [p2, ih _ p1 f' (by omega) (by omega)]
          refine congrArg (fun x => zok x σ) (zb_congr ⟨fun e => Or.inr ⟨hm, e⟩, ?_⟩)
          rintro (e | e)
          · exact absurd e hpa
          · exact e.2
  rw [e_X6_isBelow, m_parent (h.2.2 t ht) (by omega), zcI_ok]
  by_cases hm : rpr (T.2 t) = -1
  · rw [hm, m1, zb_f (fun e => e.1 hm)]
  · obtain ⟨p1, p2⟩ := zwp_par hw ht h6 hm
    rw [p2, key _ 5 (by omega) (by omega)]
    exact congrArg (fun x => zok x σ) (zb_congr ⟨fun e => ⟨hm, e⟩, fun e => e.2⟩)
theorem m_isCutFrom (h : mSheet σ.1 31 T) (hw : zwp T) {t a : Nat} (ht : t < T.1) (ha : a < T.1) : zrun zP 157 [zR 16 i, zI (nI t), zI (nI a)] σ = zok (zb (pPiece T t a)) σ := by
  have h6 := h.2.1
  have g2 : ¬ (-1 : Int32) = nI a := fun e => nI_m1 a (by omega) e.symm
  have key : ∀ p f, p < T.1 → p ≤ f → zX zP zK_X6_isCutFrom (2, [zR 16 i, zI (nI t), zI (nI a), zI (nI p)], []) σ = zok (zb (zpiece T a f p)) σ := by
    intro p
    induction p using Nat.strongRecOn with
    | ind p ih =>
      intro f hp hf
      have hr := h.2.2 p hp
      rw [e_X6_isCutFrom_2]
      simp only [nI_ne (show p < 2 ^ 31 by omega) (show a < 2 ^ 31 by omega)]
      by_cases hpa : p = a
      · rw [if_pos hpa, if_pos hpa, zb_t]
        cases f with
        | zero => exact hpa
        | succ f => exact Or.inl hpa
      · rw [if_neg hpa, if_neg (nI_m1 p (by omega)), m_kind hr (by omega), zcI_ok]
        by_cases hc : rkd (T.2 p) = 1
        · rw [if_pos hc, m_parent hr (by omega), zcI_ok]
          by_cases hm : rpr (T.2 p) = -1
          · rw [hm, e_X6_isCutFrom_2]
            simp only [g2, if_false, if_true]
            rw [zb_f]
            intro e
            cases f with
            | zero => exact hpa e
            | succ f =>
              rcases e with e | e
              · exact hpa e
              · exact e.2.1 hm
          · obtain ⟨p1, p2⟩ := zwp_par hw hp h6 hm
            obtain ⟨f', rfl⟩ : ∃ q, f = q + 1 := ⟨f - 1, by omega⟩
            rw [p2, ih _ p1 f' (by omega) (by omega)]
            refine congrArg (fun x => zok x σ) (zb_congr ⟨fun e => Or.inr ⟨hc, hm, e⟩, ?_⟩)
            rintro (e | e)
            · exact absurd e hpa
            · exact e.2.2
        · rw [if_neg hc, if_neg hpa, zb_f]
          intro e
          cases f with
          | zero => exact hpa e
          | succ f =>
            rcases e with e | e
            · exact hpa e
            · exact hc e.1
  rw [e_X6_isCutFrom]
  exact key t 6 ht (by omega)
/-- room for one mark more, with all its pieces -/
def pRoomM (T : zSheet) (a : Nat) : Prop := ∀ t, t < T.1 → pPiece T t a → rct (T.2 t) < 40
theorem m_hasRoom (h : mSheet σ.1 31 T) (hw : zwp T) {a : Nat} (ha : a < T.1) : zrun zP 158 [zR 16 i, zI (nI a)] σ = zok (zb (pRoomM T a)) σ := by
  have h6 := h.2.1
  rw [e_X6_hasRoom]
  have L := zfA_loop (X := fun t => zX zP zK_X6_hasRoom (2, [zR 16 i, zI (nI a), zI (nI t)], []) σ) (σ := σ) (p := fun t => pPiece T t a ∧ rct (T.2 t) = 40) (n := T.1) (fun t ht => by
    have hr := h.2.2 t ht
    have h40 := hr.2.2.2.2.1
    rw [e_X6_hasRoom_2, m_tiers, zcI_ok, h.1, if_pos (nI_lt ht (by omega)), m_isCutFrom h hw ht ha, zcI_ok, m_many hr (by omega), zcI_ok, nI_1]
    have e40 : (nI (rct (T.2 t)) = 40) = (rct (T.2 t) = 40) := nI_ne (b := 40) (by omega) (by omega)
    simp only [e40]
    constructor <;> intro hp
    · rw [zb_t hp.1, if_neg (by decide), if_pos hp.2]
    · by_cases c1 : pPiece T t a
      · rw [zb_t c1, if_neg (by decide), if_neg (fun e => hp ⟨c1, e⟩)]
      · rw [zb_f c1, if_pos rfl]) (by
    rw [e_X6_hasRoom_2, m_tiers, zcI_ok, h.1, if_neg (nI_nlt (Nat.le_refl _) (by omega))])
  rw [nI_0] at L
  rw [L]
  refine congrArg (fun x => zok x σ) (zb_congr ⟨fun e t ht hp => ?_, fun e t ht hp => ?_⟩)
  · have h40 := (h.2.2 t ht).2.2.2.2.1
    have := e t ht
    rcases Nat.lt_or_ge (rct (T.2 t)) 40 with q | q
    · exact q
    · exact absurd ⟨hp, by omega⟩ this
  · have := e t ht hp.1
    omega
theorem m_parentsOf (h : mSheet σ.1 31 T) (hw : zwp T) {t k : Nat} (ht : t < T.1) (hk : k < rct (T.2 t)) : zrun zP 194 [zR 16 i, zI (nI t), zI (nI k)] σ = zok (pPM T t k) σ := by
  have h6 := h.2.1
  have hr := h.2.2 t ht
  rw [e_X6_parentsOf, m_parent hr (by omega), zcI_ok]
  unfold pPM
  by_cases hm : rpr (T.2 t) = -1
  · rw [if_pos hm, if_pos hm]
  · obtain ⟨p1, p2⟩ := zwp_par hw ht h6 hm
    rw [if_neg hm, if_neg hm, m_parent hr (by omega), zcI_ok, m_from hr (by omega) hk, zcI_ok, m_to hr (by omega) hk, zcI_ok]
    generalize hz : zpt T t = z at *
    rw [p2, m_around (h.2.2 z (by omega)) (by omega), zcI_ok]
    rfl
theorem m_mayPut (h : mSheet σ.1 31 T) (hw : zwp T) (hwk : zwk T) {t : Nat} (ht : t < T.1) (a b : Int32) : zrun zP 156 [zR 16 i, zI (nI t), zI a, zI b] σ = zok (zb (pMayPut T t a b)) σ := by
  have h6 := h.2.1
  have hr := h.2.2 t ht
  have hcl : rkd (T.2 t) ≠ 3 → ((∀ k, k < rct (T.2 t) → ¬ (rfr (T.2 t) k < b ∧ a < rto (T.2 t) k)) ↔ ¬ ∃ k, k < rct (T.2 t) ∧ pOver (T.2 t) k a b) := by
    intro h3
    constructor
    · rintro e ⟨k, k1, k2⟩
      rcases k2 with k2 | k2
      · exact h3 k2.1
      · exact e k k1 k2.2
    · intro e k k1 k2
      exact e ⟨k, k1, Or.inr ⟨h3, k2⟩⟩
  rw [e_X6_mayPut, m_kind hr (by omega), zcI_ok]
  unfold pMayPut
  by_cases c0 : rkd (T.2 t) = 0
  · have h3 : rkd (T.2 t) ≠ 3 := by rw [c0]; decide
    rw [if_pos c0, m_isClear hr (by omega), zcI_ok, m_kind hr (by omega), zcI_ok, if_pos c0]
    by_cases c1 : ∃ k, k < rct (T.2 t) ∧ pOver (T.2 t) k a b
    · rw [zb_f (fun e => (hcl h3).mp e c1), if_pos rfl, zb_f (fun e => e.2.1 c1)]
    · rw [zb_t ((hcl h3).mpr c1), if_neg (by decide), zb_t ⟨Or.inl c0, c1, Or.inl c0⟩]
  · rw [if_neg c0, m_kind hr (by omega), zcI_ok]
    by_cases c2 : rkd (T.2 t) = 2
    · have h3 : rkd (T.2 t) ≠ 3 := by rw [c2]; decide
      have hm : ¬ rpr (T.2 t) = -1 := by
        rcases hwk t ht with e | e | e | e
        · exact absurd e.1 c0
        · rw [c2] at e; exact absurd e.1 (by decide)
        · exact e.2
        · exact absurd e h3
      obtain ⟨p1, p2⟩ := zwp_par hw ht h6 hm
      rw [if_pos c2, m_isClear hr (by omega), zcI_ok, m_kind hr (by omega), zcI_ok, if_neg c0, m_parent hr (by omega), zcI_ok]
      unfold pLP
      generalize hz : zpt T t = z at *
      rw [p2, m_aroundP (h.2.2 z (by omega)) (by omega), zcI_ok]
      by_cases c1 : ∃ k, k < rct (T.2 t) ∧ pOver (T.2 t) k a b
      · rw [zb_f (fun e => (hcl h3).mp e c1), if_pos rfl, zb_f (fun e => e.2.1 c1)]
      · rw [zb_t ((hcl h3).mpr c1), if_neg (by decide)]
        by_cases c3 : pAround (T.2 z) a b = -1
        · rw [if_pos c3, zb_f (fun e => e.2.2.elim c0 (fun q => q.2 c3))]
        · rw [if_neg c3, zb_t ⟨Or.inr c2, c1, Or.inr ⟨nI_m1 z (by omega), c3⟩⟩]
    · rw [if_neg c2, zb_f (fun e => e.1.elim c0 c2)]
theorem m_isStop (h : mSheet σ.1 31 T) (hw : zwp T) (top : Nat) (htop : top < 2 ^ 31) (x : Int32) : zrun zP 151 [zR 16 i, zI (nI top), zI x] σ = zok (zb (∃ t, t < T.1 ∧ (pRoot T t = top ∧ ∃ k, k < rct (T.2 t) ∧ (rfr (T.2 t) k = x ∨ rto (T.2 t) k = x)))) σ := by
  have h6 := h.2.1
  have hroot : ∀ f t, t < T.1 → zrt T f t ≤ t := by
    intro f
    induction f with
    | zero => intro t _; exact Nat.le_refl _
    | succ f ih =>
      intro t ht
      by_cases hm : rpr (T.2 t) = -1
      · simp [zrt, hm]
      · obtain ⟨p1, p2⟩ := zwp_par hw ht h6 hm
        simp only [zrt, if_neg hm]
        have := ih (zpt T t) (by omega)
        omega
  rw [e_X6_isStop]
  have L := zfst_loopV (X := fun t (z : zAV) => zX zP zK_X6_isStop (2, [zR 16 i, zI (nI top), zI x, zI (nI t), z], []) σ) (p := fun t => pRoot T t = top ∧ ∃ k, k < rct (T.2 t) ∧ (rfr (T.2 t) k = x ∨ rto (T.2 t) k = x)) (n := T.1) (v := fun _ => zok 1 σ) (w := zok 0 σ) (fun t z ht => by
    have hr := h.2.2 t ht
    have h40 := hr.2.2.2.2.1
    have hrl : pRoot T t ≤ t := hroot 6 t ht
    rw [e_X6_isStop_2, m_tiers, zcI_ok, h.1, if_pos (nI_lt ht (by omega)), m_topOf h hw ht, zcI_ok, nI_1]
    simp only [nI_ne (show pRoot T t < 2 ^ 31 by omega) htop]
    by_cases c1 : pRoot T t = top
    · rw [if_pos c1]
      have L2 := zfst_loop (X := fun k => zX zP zK_X6_isStop (25, [zR 16 i, zI (nI top), zI x, zI (nI t), zI (nI k)], []) σ) (p := fun k => rfr (T.2 t) k = x ∨ rto (T.2 t) k = x) (n := rct (T.2 t)) (v := fun _ => zok 1 σ) (w := zX zP zK_X6_isStop (2, [zR 16 i, zI (nI top), zI x, zI (nI (t + 1)), zI (nI (rct (T.2 t)))], []) σ) (fun k hk => by
        rw [e_X6_isStop_25, m_many hr (by omega), zcI_ok, if_pos (nI_lt hk (by omega)), m_from hr (by omega) hk, zcI_ok, m_to hr (by omega) hk, zcI_ok]
        constructor <;> intro hp
        · by_cases c2 : rfr (T.2 t) k = x
          · rw [if_pos c2]
          · rw [if_neg c2, if_pos (hp.resolve_left c2)]
        · rw [if_neg (fun e => hp (Or.inl e)), if_neg (fun e => hp (Or.inr e)), nI_1]) (by
        rw [e_X6_isStop_25, m_many hr (by omega), zcI_ok, if_neg (nI_nlt (Nat.le_refl _) (by omega)), nI_1]) (rct (T.2 t)) 0 (by omega)
      rw [nI_0] at L2
      rw [L2]
      cases hz : zfst (fun k => rfr (T.2 t) k = x ∨ rto (T.2 t) k = x) 0 (rct (T.2 t)) with
      | none =>
        refine ⟨fun hp => ?_, fun _ => ⟨_, rfl⟩⟩
        obtain ⟨k, k1, k2⟩ := hp.2
        exact absurd k2 ((zfst_none _ _).mp hz k (by omega) (by omega))
      | some q =>
        obtain ⟨g1, g2, g3, -⟩ := (zfst_spec _ _ q).mp hz
        exact ⟨fun _ => rfl, fun hp => absurd ⟨c1, q, by omega, g3⟩ hp⟩
    · rw [if_neg c1]
      exact ⟨fun hp => absurd hp.1 c1, fun _ => ⟨_, rfl⟩⟩) (fun z => by
    rw [e_X6_isStop_2, m_tiers, zcI_ok, h.1, if_neg (nI_nlt (Nat.le_refl _) (by omega))]) T.1 0 zJunk (by omega)
  rw [nI_0] at L
  rw [L]
  cases hz : zfst (fun t => pRoot T t = top ∧ ∃ k, k < rct (T.2 t) ∧ (rfr (T.2 t) k = x ∨ rto (T.2 t) k = x)) 0 T.1 with
  | none =>
    rw [zb_f]
    rintro ⟨t, t1, t2⟩
    exact (zfst_none _ _).mp hz t (by omega) (by omega) t2
  | some q =>
    obtain ⟨g1, g2, g3, -⟩ := (zfst_spec _ _ q).mp hz
    rw [zb_t ⟨q, by omega, g3⟩]
end ZM2
