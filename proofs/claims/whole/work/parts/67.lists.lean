/-! times of rows and of families, both sides -/
def zRt (r : zTier) : Prop := ∀ k, k < rct r → (∃ n, n ≤ 999 ∧ rfr r k = nI n) ∧ ∃ n, n ≤ 999 ∧ rto r k = nI n
def pUn (P : Nat → Prop) (r : zTier) (k : Nat) : Nat → Prop := fun y => P y ∨ ∃ m, m < k ∧ (rfr r m = nI y ∨ rto r m = nI y)
def pEndR (r : zTier) (y : Nat) : Prop := ∃ m, m < rct r ∧ (rfr r m = nI y ∨ rto r m = nI y)
theorem pUn_s {P : Nat → Prop} {r : zTier} {k a b : Nat} (ha : a ≤ 999) (hb : b ≤ 999) (e1 : rfr r k = nI a) (e2 : rto r k = nI b) : ∀ y, y < 1000 → (pAdd (pAdd (pUn P r k) a) b y ↔ pUn P r (k + 1) y) := by
  intro y hy
  constructor
  · rintro (((h | ⟨m, m1, m2⟩) | h) | h)
    · exact Or.inl h
    · exact Or.inr ⟨m, by omega, m2⟩
    · exact Or.inr ⟨k, by omega, Or.inl (h ▸ e1)⟩
    · exact Or.inr ⟨k, by omega, Or.inr (h ▸ e2)⟩
  · rintro (h | ⟨m, m1, m2⟩)
    · exact Or.inl (Or.inl (Or.inl h))
    · by_cases c : m = k
      · rw [c, e1, e2] at m2
        rcases m2 with q | q
        · exact Or.inl (Or.inr ((nI_eq (by omega) (by omega)).mp q).symm)
        · exact Or.inr ((nI_eq (by omega) (by omega)).mp q).symm
      · exact Or.inl (Or.inl (Or.inr ⟨m, by omega, m2⟩))
theorem pUn_c {P : Nat → Prop} {r : zTier} (hr : zRt r) : ∀ d k, k + d ≤ rct r → cnt (pUn P r (k + d)) 1000 ≤ cnt (pUn P r k) 1000 + 2 * d := by
  intro d
  induction d with
  | zero => intro k _; show cnt (pUn P r k) 1000 ≤ cnt (pUn P r k) 1000 + 0; omega
  | succ d ih =>
    intro k h
    have i := ih k (by omega)
    obtain ⟨⟨a, a1, a2⟩, b, b1, b2⟩ := hr (k + d) (by omega)
    have e := cnt_congr 1000 (pUn_s (P := P) a1 b1 a2 b2)
    have q1 := cnt_addl (P := pAdd (pUn P r (k + d)) a) (x := b) (n := 1000)
    have q2 := cnt_addl (P := pUn P r (k + d)) (x := a) (n := 1000)
    rw [show k + (d + 1) = k + d + 1 from rfl]
    omega
theorem pUn_0 {P : Nat → Prop} {r : zTier} : pUn P r 0 = P := funext (fun y => propext ⟨fun e => e.elim id (fun ⟨m, m1, _⟩ => by omega), Or.inl⟩)
theorem pEndR_c {r : zTier} (hr : zRt r) (h40 : rct r ≤ 40) : cnt (pEndR r) 1000 ≤ 80 := by
  have h := pUn_c (P := fun _ => False) hr (rct r) 0 (by omega)
  rw [pUn_0, cnt_0 (P := fun _ => False) (fun _ => id), Nat.zero_add] at h
  rw [cnt_congr (P := pEndR r) (Q := pUn (fun _ => False) r (rct r)) 1000 (fun y _ => ⟨fun e => Or.inr e, fun e => e.resolve_left id⟩)]
  omega
theorem cTimes_congr {M : zMem} {i : Nat} {P Q : Nat → Prop} (h : ∀ y, y < 1000 → (P y ↔ Q y)) (hc : cTimes M i P) : cTimes M i Q := by
  have e : ∀ n, n ≤ 1000 → cnt P n = cnt Q n := fun n hn => cnt_congr n (fun y hy => h y (by omega))
  obtain ⟨h1, h2, h3⟩ := hc
  refine ⟨by rw [← e 1000 (Nat.le_refl _)]; exact h1, by rw [← e 1000 (Nat.le_refl _)]; exact h2, fun x x1 x2 => ?_⟩
  rw [← e x (by omega)]
  exact h3 x x1 ((h x x1).mpr x2)
theorem tFr_row {M M' : zMem} {i j : Nat} {r : zTier} (hf : tFr M M' i) (h : cRow M j r) : cRow M' j r := by
  obtain ⟨h0, h1, h2, h3, h4, h5⟩ := h
  have e : ∀ k s, k ≠ 23 → k ≠ 14 → M' k j s = M k j s := fun k s a b => hf k j s (by omega) (by omega)
  exact ⟨(e _ _ (by decide) (by decide)).trans h0, (e _ _ (by decide) (by decide)).trans h1, (e _ _ (by decide) (by decide)).trans h2, (e _ _ (by decide) (by decide)).trans h3, h4, fun k hk => ⟨(e _ _ (by decide) (by decide)).trans (h5 k hk).1, (e _ _ (by decide) (by decide)).trans (h5 k hk).2.1, (e _ _ (by decide) (by decide)).trans (h5 k hk).2.2⟩⟩
theorem tFr_sh {M M' : zMem} {i s : Nat} {T : zSheet} (hf : tFr M M' i) (h : cSheet M s T) : cSheet M' s T := cSheet_congr (fun k j q hk => hf k j q (by omega) (by omega)) h
section ZLI
variable {i j : Nat} {r : zTier} {P : Nat → Prop} {T : zSheet} {M : zMem} {ρ : Int64 × Nat} {σ : zSt}
theorem r_times_loop (hr : zRt r) : ∀ d k M', k + d = rct r → cRow M' j r → cTimes M' i (pUn P r k) → cnt (pUn P r k) 1000 + 2 * d ≤ zlenI 23 i → ∃ M'', zX zP zK_X2_addTimesTo (2, [zR 12 j, zR 14 i, zI (nI k)], []) (M', ρ) = zvd (M'', ρ) ∧ cTimes M'' i (pUn P r (rct r)) ∧ tFr M' M'' i := by
  intro d
  induction d with
  | zero =>
    intro k M' hk h ht hc
    have h4 := h.2.2.2.2.1
    rw [show k = rct r by omega] at ht ⊢
    refine ⟨M', ?_, ht, tFr_rf⟩
    rw [e_X2_addTimesTo_2, show (M', ρ).1 12 j 5 = nI (rct r) from h.2.2.2.1, if_neg (nI_nlt (Nat.le_refl _) (by omega))]
  | succ d ih =>
    intro k M' hk h ht hc
    have h4 := h.2.2.2.2.1
    obtain ⟨⟨a, a1, a2⟩, b, b1, b2⟩ := hr k (by omega)
    have f := h.2.2.2.2.2 k (by omega)
    have ein := nIk (k := k) (N := 40) (by omega) (by omega)
    have ecl := nI_clamp (n := k) (by omega)
    obtain ⟨M1, g1, g2, g3⟩ := t_add (ρ := ρ) ht (x := a) (by omega) (by omega)
    have hc1 := cnt_addl (P := pUn P r k) (x := a) (n := 1000)
    have h1 := tFr_row g3 h
    obtain ⟨M2, k1, k2, k3⟩ := t_add (ρ := ρ) g2 (x := b) (by omega) (by omega)
    have hc2 := cnt_addl (P := pAdd (pUn P r k) a) (x := b) (n := 1000)
    have ec := cnt_congr 1000 (pUn_s (P := P) a1 b1 a2 b2)
    obtain ⟨M3, l1, l2, l3⟩ := ih (k + 1) M2 (by omega) (tFr_row k3 h1) (cTimes_congr (pUn_s a1 b1 a2 b2) k2) (by omega)
    refine ⟨M3, ?_, l2, tFr_tr (tFr_tr g3 k3) l3⟩
    have f1 := h1.2.2.2.2.2 k (by omega)
    rw [e_X2_addTimesTo_2, show (M', ρ).1 12 j 5 = nI (rct r) from h.2.2.2.1, if_pos (nI_lt (by omega) (by omega))]
    simp only [ecl, ein, if_false]
    rw [f.1, a2, g1, zcV_ok]
    simp only []
    rw [f1.2.1, b2, k1, zcV_ok, nI_1]
    exact l1
theorem t_clear : ∃ M', zrun zP 86 [zR 14 i] (M, ρ) = zvd (M', ρ) ∧ cTimes M' i (fun _ => False) ∧ tFr M M' i := by
  refine ⟨zms M 14 i 1 0, e_X4_clear i _, ⟨?_, ?_, fun x _ e => e.elim⟩, fun k j q a b => zms_ne (by omega)⟩
  · rw [zms_eq, cnt_0 (P := fun _ => False) (fun _ => id)]; rfl
  · rw [cnt_0 (P := fun _ => False) (fun _ => id)]; exact Nat.zero_le _
theorem r_listTimes (h : cRow M j r) (hr : zRt r) : ∃ M', zrun zP 45 [zR 12 j, zR 14 i] (M, ρ) = zvd (M', ρ) ∧ cTimes M' i (pEndR r) ∧ tFr M M' i := by
  have h4 := h.2.2.2.2.1
  have hl := zlen23 i
  obtain ⟨M1, g1, g2, g3⟩ := t_clear (i := i) (M := M) (ρ := ρ)
  have c0 := cnt_0 (P := fun _ => False) (n := 1000) (fun _ => id)
  obtain ⟨M2, k1, k2, k3⟩ := r_times_loop (i := i) (P := fun _ => False) (ρ := ρ) hr (rct r) 0 M1 (by omega) (tFr_row g3 h) (by rw [pUn_0]; exact g2) (by rw [pUn_0, c0]; omega)
  refine ⟨M2, ?_, cTimes_congr (fun y _ => ⟨fun e => e.resolve_left id, Or.inr⟩) k2, tFr_tr g3 k3⟩
  rw [nI_0] at k1
  rw [e_X2_listTimes, g1, zcV_ok, e_X2_addTimesTo, k1, zcV_ok]
def pFam (T : zSheet) (top u : Nat) : Nat → Prop := fun y => ∃ t, t < u ∧ (pRoot T t = top ∧ ∃ k, k < rct (T.2 t) ∧ pEndAt T t k y)
theorem pFam_s (T : zSheet) (top u : Nat) (h : pRoot T u = top) : pUn (pFam T top u) (T.2 u) (rct (T.2 u)) = pFam T top (u + 1) := by
  funext y
  apply propext
  constructor
  · rintro (⟨t, t1, t2⟩ | ⟨m, m1, m2⟩)
    · exact ⟨t, by omega, t2⟩
    · exact ⟨u, by omega, h, m, m1, m2⟩
  · rintro ⟨t, t1, t2, m, m1, m2⟩
    by_cases c : t = u
    · exact Or.inr ⟨m, c ▸ m1, c ▸ m2⟩
    · exact Or.inl ⟨t, by omega, t2, m, m1, m2⟩
theorem pFam_n (T : zSheet) (top u : Nat) (h : ¬ pRoot T u = top) : pFam T top u = pFam T top (u + 1) := by
  funext y
  apply propext
  constructor
  · rintro ⟨t, t1, t2⟩
    exact ⟨t, by omega, t2⟩
  · rintro ⟨t, t1, t2, t3⟩
    by_cases c : t = u
    · exact absurd (c ▸ t2) h
    · exact ⟨t, by omega, t2, t3⟩
theorem s_stops_loop {s top : Nat} (htop : top < 2 ^ 31) (hw : zwp T) (hwt : zwt T) : ∀ d u M', u + d = T.1 → cSheet M' s T → cTimes M' 0 (pFam T top u) → cnt (pFam T top u) 1000 ≤ 80 * u → ∃ M'', zX zP zK_X3_listStops (6, [zR 13 s, zI (nI top), zR 14 0, zI (nI u)], []) (M', ρ) = zvd (M'', ρ) ∧ cTimes M'' 0 (pStopIn T top) ∧ tFr M' M'' 0 := by
  intro d
  induction d with
  | zero =>
    intro u M' hu h ht hc
    have h6 := h.2.1
    rw [show u = T.1 by omega] at ht ⊢
    refine ⟨M', ?_, ht, tFr_rf⟩
    rw [e_X3_listStops_6, show (M', ρ).1 13 s 0 = nI T.1 from h.1, if_neg (nI_nlt (Nat.le_refl _) (by omega))]
  | succ d ih =>
    intro u M' hu h ht hc
    have h6 := h.2.1
    have hul : u < T.1 := by omega
    obtain ⟨q1, q2, q3⟩ := s_in (σ := (M', ρ)) h hul
    have hro := pRoot_lt hw h6 hul
    have hr := (h.2.2 u hul).1
    have h40 := hr.2.2.2.2.1
    rw [e_X3_listStops_6, show (M', ρ).1 13 s 0 = nI T.1 from h.1, if_pos q3]
    simp only [q2, q1, if_false]
    rw [(h.2.2 u hul).2.1, nI_1]
    by_cases c : pRoot T u = top
    · have hz : zRt (T.2 u) := hwt u hul
      have cc := pUn_c (P := pFam T top u) hz (rct (T.2 u)) 0 (by omega)
      rw [pUn_0, Nat.zero_add] at cc
      obtain ⟨M1, g1, g2, g3⟩ := r_times_loop (i := 0) (P := pFam T top u) (ρ := ρ) hz (rct (T.2 u)) 0 M' (by omega) hr (by rw [pUn_0]; exact ht) (by rw [pUn_0]; show _ ≤ 480; omega)
      rw [pFam_s T top u c] at g2 cc
      obtain ⟨M2, k1, k2, k3⟩ := ih (u + 1) M1 (by omega) (tFr_sh g3 h) g2 (by omega)
      refine ⟨M2, ?_, k2, tFr_tr g3 k3⟩
      rw [nI_0] at g1
      rw [if_pos (by rw [c]), e_X2_addTimesTo, g1, zcV_ok]
      exact k1
    · rw [pFam_n T top u c] at ht hc
      obtain ⟨M2, k1, k2, k3⟩ := ih (u + 1) M' (by omega) h ht (by omega)
      refine ⟨M2, ?_, k2, k3⟩
      rw [if_neg (fun e => c ((nI_eq hro htop).mp e))]
      exact k1
theorem s_listStops {s top : Nat} (htop : top < 2 ^ 31) (h : cSheet M s T) (hw : zwp T) (hwt : zwt T) : ∃ M', zrun zP 77 [zR 13 s, zI (nI top), zR 14 0] (M, ρ) = zvd (M', ρ) ∧ cTimes M' 0 (pStopIn T top) ∧ tFr M M' 0 := by
  obtain ⟨M1, g1, g2, g3⟩ := t_clear (i := 0) (M := M) (ρ := ρ)
  have e0 : pFam T top 0 = fun _ => False := funext (fun y => propext ⟨fun ⟨t, t1, _⟩ => by omega, False.elim⟩)
  obtain ⟨M2, k1, k2, k3⟩ := s_stops_loop (s := s) (ρ := ρ) htop hw hwt T.1 0 M1 (by omega) (tFr_sh g3 h) (by rw [e0]; exact g2) (by rw [e0, cnt_0 (P := fun _ => False) (fun _ => id)]; exact Nat.zero_le _)
  refine ⟨M2, ?_, k2, tFr_tr g3 k3⟩
  rw [nI_0] at k1
  rw [e_X3_listStops, g1, zcV_ok, k1]
end ZLI
