/-! a mark is put, with its pieces -/
/-- nothing but marks of a sheet's rows has changed -/
def sFr (M M' : zMem) (s : Nat) : Prop := ∀ k j q, ¬ (6 * s ≤ j ∧ j < 6 * s + 6 ∧ (k = 20 ∨ k = 21 ∨ k = 22 ∨ (k = 12 ∧ q = 5))) → M' k j q = M k j q
theorem sFr_rf {M : zMem} {s : Nat} : sFr M M s := fun _ _ _ _ => rfl
theorem sFr_tr {M M1 M2 : zMem} {s : Nat} (h1 : sFr M M1 s) (h2 : sFr M1 M2 s) : sFr M M2 s := fun k j q h => (h2 k j q h).trans (h1 k j q h)
theorem rowFr_s {M M' : zMem} {s t : Nat} (ht : t < 6) (h : rowFr M M' (6 * s + t)) : sFr M M' s := fun k j q hne => h k j q (fun e => hne ⟨by omega, by omega, e.2⟩)
/-- nothing but the reference's own row of numbers has changed -/
def oFr (M M' : zMem) : Prop := ∀ k j q, ¬ (k = 31 ∧ j = 0) → M' k j q = M k j q
theorem oFr_rf {M : zMem} : oFr M M := fun _ _ _ _ => rfl
theorem oFr_tr {M M1 M2 : zMem} (h1 : oFr M M1) (h2 : oFr M1 M2) : oFr M M2 := fun k j q h => (h2 k j q h).trans (h1 k j q h)
theorem mFr_o {M M' : zMem} {t : Nat} (h : mFr M M' t) : oFr M M' := fun k j q hne => h k j q (fun e => hne ⟨e.1, e.2.1⟩)
/-- alike but for the marks -/
def sEq (T T' : zSheet) : Prop := T'.1 = T.1 ∧ ∀ u, rnm (T'.2 u) = rnm (T.2 u) ∧ rkd (T'.2 u) = rkd (T.2 u) ∧ rpr (T'.2 u) = rpr (T.2 u)
theorem sEq_wp {T T' : zSheet} (h : sEq T T') (hw : zwp T) : zwp T' := by
  intro t ht
  rw [h.1] at ht
  rw [(h.2 t).2.2]
  exact hw t ht
theorem sEq_wk {T T' : zSheet} (h : sEq T T') (hw : zwk T) : zwk T' := by
  intro t ht
  rw [h.1] at ht
  rw [(h.2 t).2.2, (h.2 t).2.1]
  exact hw t ht
theorem sEq_piece {T T' : zSheet} (h : sEq T T') {a : Nat} : ∀ f t, zpiece T' a f t ↔ zpiece T a f t := by
  intro f
  induction f with
  | zero => intro t; exact Iff.rfl
  | succ f ih =>
    intro t
    simp only [zpiece, zpt, (h.2 t).2.2, (h.2 t).2.1]
    rw [ih]
theorem sEq_below {T T' : zSheet} (h : sEq T T') {a : Nat} : ∀ f t, zbelow T' a f t ↔ zbelow T a f t := by
  intro f
  induction f with
  | zero => intro t; exact Iff.rfl
  | succ f ih =>
    intro t
    simp only [zbelow, zpt, (h.2 t).2.2]
    rw [ih]
theorem sEq_up {T T' : zSheet} (h : sEq T T') {t : Nat} {r : zTier} (h1 : rnm r = rnm (T.2 t)) (h2 : rkd r = rkd (T.2 t)) (h3 : rpr r = rpr (T.2 t)) : sEq T (sUp T' t r) := by
  refine ⟨h.1, fun u => ?_⟩
  by_cases e : u = t
  · rw [e, sUp_eq]; exact ⟨h1, h2, h3⟩
  · rw [sUp_ne e]; exact h.2 u
/-- the tiers up to u that are pieces of a have one more -/
noncomputable def sPutK (T : zSheet) (a u : Nat) (x y : Int32) : zSheet := (T.1, fun v => @ite _ (v < u ∧ v < T.1 ∧ v ≠ a ∧ pPiece T v a) (Classical.propDecidable _) (tIns (T.2 v) x y 0) (T.2 v))
noncomputable def sPut (T : zSheet) (a : Nat) (x y l : Int32) : zSheet := sUp (sPutK T a T.1 x y) a (tIns (T.2 a) x y l)
theorem sPutK_t {T : zSheet} {a u v : Nat} {x y : Int32} (h : v < u ∧ v < T.1 ∧ v ≠ a ∧ pPiece T v a) : (sPutK T a u x y).2 v = tIns (T.2 v) x y 0 := @if_pos _ (Classical.propDecidable _) h _ _ _
theorem sPutK_f {T : zSheet} {a u v : Nat} {x y : Int32} (h : ¬ (v < u ∧ v < T.1 ∧ v ≠ a ∧ pPiece T v a)) : (sPutK T a u x y).2 v = T.2 v := @if_neg _ (Classical.propDecidable _) h _ _ _
theorem sPutK_eq {T : zSheet} {a u : Nat} {x y : Int32} : sEq T (sPutK T a u x y) := by
  refine ⟨rfl, fun v => ?_⟩
  by_cases h : v < u ∧ v < T.1 ∧ v ≠ a ∧ pPiece T v a
  · rw [sPutK_t h]; exact ⟨rfl, rfl, rfl⟩
  · rw [sPutK_f h]; exact ⟨rfl, rfl, rfl⟩
theorem sPutK_0 {T : zSheet} {a u : Nat} {x y : Int32} (hw : zwp T) (h6 : T.1 ≤ 6) (hu : u ≤ a + 1) : sPutK T a u x y = T := by
  refine Prod.ext rfl (funext fun v => ?_)
  refine sPutK_f ?_
  rintro ⟨h1, h2, h3, h4⟩
  have := zpiece_le hw h6 6 v h2 h4
  omega
theorem sPutK_s {T : zSheet} {a u : Nat} {x y : Int32} (hu : u < T.1) (hua : u ≠ a) (hp : pPiece T u a) : sUp (sPutK T a u x y) u (tIns (T.2 u) x y 0) = sPutK T a (u + 1) x y := by
  refine Prod.ext rfl (funext fun v => ?_)
  by_cases e : v = u
  · rw [e]
    exact sUp_eq.trans (sPutK_t ⟨by omega, hu, hua, hp⟩).symm
  · refine (sUp_ne e).trans ?_
    by_cases h : v < u ∧ v < T.1 ∧ v ≠ a ∧ pPiece T v a
    · rw [sPutK_t h, sPutK_t ⟨by omega, h.2⟩]
    · rw [sPutK_f h, sPutK_f (fun q => h ⟨by omega, q.2⟩)]
theorem sPutK_n {T : zSheet} {a u : Nat} {x y : Int32} (hp : ¬ (u ≠ a ∧ pPiece T u a)) : sPutK T a u x y = sPutK T a (u + 1) x y := by
  refine Prod.ext rfl (funext fun v => ?_)
  by_cases h : v < u ∧ v < T.1 ∧ v ≠ a ∧ pPiece T v a
  · rw [sPutK_t h, sPutK_t ⟨by omega, h.2⟩]
  · rw [sPutK_f h, sPutK_f (fun q => by
      by_cases e : v = u
      · rw [e] at q; exact hp q.2.2
      · exact h ⟨by omega, q.2⟩)]
section ZPU
variable {s i : Nat} {T : zSheet} {M : zMem} {ρ : Int64 × Nat}
theorem s_add_loop (hw : zwp T) {a : Nat} (ha : a < T.1) (hroom : pRoomM T a) (x y : Int32) : ∀ d u M', u + d = T.1 → a < u → cSheet M' s (sPutK T a u x y) → ∃ M'', zX zP zK_X3_addMark (5, [zR 13 s, zI (nI a), zI x, zI y, zI (nI u)], []) (M', ρ) = zok (nI (pPl (rfr (T.2 a)) x (rct (T.2 a)))) (M'', ρ) ∧ cSheet M'' s (sPut T a x y 0) ∧ sFr M' M'' s := by
  intro d
  induction d with
  | zero =>
    intro u M' hd hu h
    have h6 : T.1 ≤ 6 := h.2.1
    have hua : u = T.1 := by omega
    subst hua
    obtain ⟨q1, q2, q3⟩ := s_in (σ := (M', ρ)) h (t := a) ha
    have hta : (sPutK T a T.1 x y).2 a = T.2 a := sPutK_f (fun e => e.2.2.1 rfl)
    have hr := (h.2.2 a ha).1
    rw [hta] at hr
    have hpa : pPiece T a a := Or.inl rfl
    obtain ⟨M1, e1, e2, e3⟩ := r_insert (ρ := ρ) hr (hroom a ha hpa) x y 0
    refine ⟨M1, ?_, ?_, rowFr_s (by omega) e3⟩
    · have hT : M' 13 s 0 = nI T.1 := h.1
      rw [e_X3_addMark_5, show (M', ρ).1 = M' from rfl, hT, if_neg (nI_nlt (Nat.le_refl _) (by omega))]
      simp only [q2, q1, if_false]
      rw [e1, zcI_ok]
    · exact cSheet_up h ha e2 e3 (by rw [hta]; rfl)
  | succ d ih =>
    intro u M' hd hu h
    have h6 : T.1 ≤ 6 := h.2.1
    have hun : u < T.1 := by omega
    obtain ⟨q1, q2, q3⟩ := s_in (σ := (M', ρ)) h (t := u) hun
    have hw' := sEq_wp (sPutK_eq (T := T) (a := a) (u := u) (x := x) (y := y)) hw
    have hT : M' 13 s 0 = nI T.1 := h.1
    rw [e_X3_addMark_5, show (M', ρ).1 = M' from rfl, hT, if_pos (nI_lt hun (by omega)), s_isPieceOf (σ := (M', ρ)) h hw' hun ha, zcI_ok, nI_1]
    simp only [q2, q1, if_false]
    rw [zb_congr (sEq_piece sPutK_eq 6 u)]
    by_cases hp : pPiece T u a
    · have htu : (sPutK T a u x y).2 u = T.2 u := sPutK_f (fun e => by omega)
      have hr := (h.2.2 u hun).1
      rw [htu] at hr
      obtain ⟨M1, e1, e2, e3⟩ := r_insert (ρ := ρ) hr (hroom u hun hp) x y 0
      have hS := cSheet_up h hun e2 e3 (by rw [htu]; rfl)
      rw [sPutK_s hun (by omega) hp] at hS
      obtain ⟨M2, f1, f2, f3⟩ := ih (u + 1) M1 (by omega) (by omega) hS
      refine ⟨M2, ?_, f2, sFr_tr (rowFr_s (by omega) e3) f3⟩
      rw [zb_t hp, if_neg (by decide), e1, zcI_ok]
      exact f1
    · rw [sPutK_n (fun e => hp e.2)] at h
      obtain ⟨M2, f1, f2, f3⟩ := ih (u + 1) M' (by omega) (by omega) h
      refine ⟨M2, ?_, f2, f3⟩
      rw [zb_f hp, if_pos rfl]
      exact f1
theorem s_addMark (h : cSheet M s T) (hw : zwp T) {a : Nat} (ha : a < T.1) (hroom : pRoomM T a) (x y : Int32) : ∃ M', zrun zP 65 [zR 13 s, zI (nI a), zI x, zI y] (M, ρ) = zok (nI (pPl (rfr (T.2 a)) x (rct (T.2 a)))) (M', ρ) ∧ cSheet M' s (sPut T a x y 0) ∧ sFr M M' s := by
  have h6 := h.2.1
  have h0 : cSheet M s (sPutK T a (a + 1) x y) := by rw [sPutK_0 hw h6 (Nat.le_refl _)]; exact h
  obtain ⟨M', e1, e2, e3⟩ := s_add_loop (ρ := ρ) hw ha hroom x y (T.1 - (a + 1)) (a + 1) M (by omega) (by omega) h0
  refine ⟨M', ?_, e2, e3⟩
  rw [e_X3_addMark, nI_1]
  exact e1
/-- the reference puts the mark itself first -/
noncomputable def sPutM (T : zSheet) (a u : Nat) (x y l : Int32) : zSheet := sUp (sPutK T a u x y) a (tIns (T.2 a) x y l)
theorem m_put_loop (hw : zwp T) {a : Nat} (ha : a < T.1) (hroom : pRoomM T a) (x y l v : Int32) : ∀ d u M', u + d = T.1 → mSheet M' 31 (sPutM T a u x y l) → ∃ M'', zX zP zK_X6_puts (14, [zR 16 i, zI (nI a), zI x, zI y, zI l, zI v, zI (nI u)], []) (M', ρ) = zok v (M'', ρ) ∧ mSheet M'' 31 (sPut T a x y l) ∧ oFr M' M'' := by
  intro d
  induction d with
  | zero =>
    intro u M' hd h
    have h6 : T.1 ≤ 6 := h.2.1
    have hu : u = T.1 := by omega
    subst hu
    refine ⟨M', ?_, h, oFr_rf⟩
    have hT : M' 31 0 0 = nI T.1 := h.1
    rw [e_X6_puts_14, m_tiers, zcI_ok, show (M', ρ).1 = M' from rfl, hT, if_neg (nI_nlt (Nat.le_refl _) (by omega))]
  | succ d ih =>
    intro u M' hd h
    have h6 : T.1 ≤ 6 := h.2.1
    have hun : u < T.1 := by omega
    have hE : sEq T (sPutM T a u x y l) := sEq_up sPutK_eq rfl rfl rfl
    have hT : M' 31 0 0 = nI T.1 := h.1
    rw [e_X6_puts_14, m_tiers, zcI_ok, show (M', ρ).1 = M' from rfl, hT, if_pos (nI_lt hun (by omega)), nI_1]
    simp only [nI_ne (show u < 2 ^ 31 by omega) (show a < 2 ^ 31 by omega)]
    by_cases hua : u = a
    · rw [if_pos hua]
      have h' : mSheet M' 31 (sPutM T a (u + 1) x y l) := by
        unfold sPutM at h ⊢
        rw [sPutK_n (fun e => e.1 hua)] at h
        exact h
      exact ih (u + 1) M' (by omega) h'
    · rw [if_neg hua, m_isCutFrom (σ := (M', ρ)) h (sEq_wp hE hw) hun ha, zcI_ok, zb_congr (sEq_piece hE 6 u)]
      by_cases hp : pPiece T u a
      · have htu : (sPutM T a u x y l).2 u = T.2 u := (sUp_ne hua).trans (sPutK_f (fun e => by omega))
        have hr := h.2.2 u hun
        rw [htu] at hr
        obtain ⟨M1, e1, e2, e3⟩ := m_inserts (i := i) (ρ := ρ) hr (by omega) (hroom u hun hp) x y 0
        have hS := mSheet_up h hun e2 e3
        have hcomm : sUp (sPutM T a u x y l) u (tIns (T.2 u) x y 0) = sPutM T a (u + 1) x y l := by
          unfold sPutM
          rw [← sPutK_s hun hua hp]
          refine Prod.ext rfl (funext fun w => ?_)
          by_cases w1 : w = u
          · have : w ≠ a := fun e => hua (w1.symm.trans e)
            rw [w1]
            exact sUp_eq.trans ((sUp_ne hua).trans sUp_eq).symm
          · by_cases w2 : w = a
            · rw [w2]
              exact (sUp_ne (fun e => hua e.symm)).trans (sUp_eq.trans sUp_eq.symm)
            · exact (sUp_ne w1).trans ((sUp_ne w2).trans ((sUp_ne w2).trans (sUp_ne w1)).symm)
        rw [hcomm] at hS
        obtain ⟨M2, f1, f2, f3⟩ := ih (u + 1) M1 (by omega) hS
        refine ⟨M2, ?_, f2, oFr_tr (mFr_o e3) f3⟩
        rw [zb_t hp, if_neg (by decide), e1, zcI_ok]
        exact f1
      · have h' : mSheet M' 31 (sPutM T a (u + 1) x y l) := by
          unfold sPutM at h ⊢
          rw [sPutK_n (fun e => hp e.2)] at h
          exact h
        obtain ⟨M2, f1, f2, f3⟩ := ih (u + 1) M' (by omega) h'
        refine ⟨M2, ?_, f2, f3⟩
        rw [zb_f hp, if_pos rfl]
        exact f1
theorem m_puts (h : mSheet M 31 T) (hw : zwp T) {a : Nat} (ha : a < T.1) (hroom : pRoomM T a) (x y l : Int32) : ∃ M', zrun zP 159 [zR 16 i, zI (nI a), zI x, zI y, zI l] (M, ρ) = zok (nI (pPl (rfr (T.2 a)) x (rct (T.2 a)))) (M', ρ) ∧ mSheet M' 31 (sPut T a x y l) ∧ oFr M M' := by
  have h6 := h.2.1
  obtain ⟨M1, e1, e2, e3⟩ := m_inserts (i := i) (ρ := ρ) (h.2.2 a ha) (by omega) (hroom a ha (Or.inl rfl)) x y l
  have hS := mSheet_up h ha e2 e3
  have hS0 : mSheet M1 31 (sPutM T a 0 x y l) := by
    unfold sPutM
    rw [sPutK_0 hw h6 (by omega)]
    exact hS
  obtain ⟨M2, f1, f2, f3⟩ := m_put_loop (i := i) (ρ := ρ) hw ha hroom x y l (nI (pPl (rfr (T.2 a)) x (rct (T.2 a)))) T.1 0 M1 (by omega) hS0
  rw [nI_0] at f1
  refine ⟨M2, ?_, f2, oFr_tr (mFr_o e3) f3⟩
  rw [e_X6_puts, e1, zcI_ok]
  exact f1
end ZPU
