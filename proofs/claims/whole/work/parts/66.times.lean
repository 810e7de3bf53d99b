/-! sets of times by rank; the class's list of times -/
noncomputable def cnt (P : Nat → Prop) : Nat → Nat
  | 0 => 0
  | n + 1 => cnt P n + @ite _ (P n) (Classical.propDecidable _) 1 0
section ZCN
variable {P Q : Nat → Prop} {m n x : Nat}
theorem cnt_t (h : P n) : cnt P (n + 1) = cnt P n + 1 := congrArg (fun z => cnt P n + z) (@if_pos _ (Classical.propDecidable _) h _ _ _)
theorem cnt_f (h : ¬ P n) : cnt P (n + 1) = cnt P n := congrArg (fun z => cnt P n + z) (@if_neg _ (Classical.propDecidable _) h _ _ _)
theorem cnt_s : cnt P n ≤ cnt P (n + 1) ∧ cnt P (n + 1) ≤ cnt P n + 1 := by
  by_cases h : P n
  · rw [cnt_t h]; omega
  · rw [cnt_f h]; omega
theorem cnt_mono (h : m ≤ n) : cnt P m ≤ cnt P n := by
  induction n with
  | zero => rw [show m = 0 by omega]; exact Nat.le_refl _
  | succ n ih =>
    by_cases e : m = n + 1
    · rw [e]; exact Nat.le_refl _
    · exact Nat.le_trans (ih (by omega)) cnt_s.1
theorem cnt_lt (h : m < n) (hp : P m) : cnt P m < cnt P n := by
  have h1 := cnt_mono (P := P) (show m + 1 ≤ n by omega)
  rw [cnt_t hp] at h1
  omega
theorem cnt_ge (h : cnt P m < cnt P n) : m < n := by
  apply Classical.byContradiction
  intro c
  have := cnt_mono (P := P) (show n ≤ m by omega)
  omega
theorem cnt_sur : ∀ n j, j < cnt P n → ∃ y, y < n ∧ P y ∧ cnt P y = j := by
  intro n
  induction n with
  | zero => intro j h; exact absurd h (Nat.not_lt_zero _)
  | succ n ih =>
    intro j h
    by_cases hp : P n
    · rw [cnt_t hp] at h
      by_cases e : j = cnt P n
      · exact ⟨n, by omega, hp, e.symm⟩
      · obtain ⟨y, y1, y2, y3⟩ := ih j (by omega)
        exact ⟨y, by omega, y2, y3⟩
    · rw [cnt_f hp] at h
      obtain ⟨y, y1, y2, y3⟩ := ih j h
      exact ⟨y, by omega, y2, y3⟩
theorem cnt_congr : ∀ n, (∀ y, y < n → (P y ↔ Q y)) → cnt P n = cnt Q n := by
  intro n
  induction n with
  | zero => intro _; rfl
  | succ n ih =>
    intro h
    have e := ih (fun y hy => h y (by omega))
    by_cases hp : P n
    · rw [cnt_t hp, cnt_t ((h n (by omega)).mp hp), e]
    · rw [cnt_f hp, cnt_f (fun q => hp ((h n (by omega)).mpr q)), e]
def pAdd (P : Nat → Prop) (x : Nat) : Nat → Prop := fun y => P y ∨ y = x
theorem cnt_add_le : ∀ n, n ≤ x → cnt (pAdd P x) n = cnt P n := fun n h => cnt_congr n (fun y hy => ⟨fun e => e.resolve_right (by omega), Or.inl⟩)
theorem cnt_add_gt (hx : ¬ P x) : ∀ n, x < n → cnt (pAdd P x) n = cnt P n + 1 := by
  intro n
  induction n with
  | zero => intro h; omega
  | succ n ih =>
    intro h
    by_cases e : n = x
    · rw [cnt_t (show pAdd P x n from Or.inr e), cnt_f (show ¬ P n from e ▸ hx), cnt_add_le n (by omega)]
    · have i := ih (by omega)
      by_cases hp : P n
      · rw [cnt_t (show pAdd P x n from Or.inl hp), cnt_t hp, i]
      · rw [cnt_f (show ¬ pAdd P x n from fun q => q.elim hp e), cnt_f hp, i]
theorem pAdd_in (hx : P x) : pAdd P x = P := funext (fun y => propext ⟨fun e => e.elim id (fun q => q ▸ hx), Or.inl⟩)
theorem cnt_addl : cnt (pAdd P x) n ≤ cnt P n + 1 := by
  by_cases h : P x
  · rw [pAdd_in h]; omega
  · by_cases c : n ≤ x
    · rw [cnt_add_le n c]; omega
    · rw [cnt_add_gt h n (by omega)]; omega
theorem cnt_0 (h : ∀ y, ¬ P y) : cnt P n = 0 := by
  induction n with
  | zero => rfl
  | succ n ih => rw [cnt_f (h n), ih]
end ZCN
theorem nI_div2 {v : Nat} (hv : v < 2 ^ 31) : nI v / 2 = nI (v / 2) := by
  apply Int32.toInt_inj.mp
  rw [Int32.toInt_div, nI_toInt hv, nI_toInt (show v / 2 < 2 ^ 31 by omega), show (2 : Int32).toInt = ((2 : Nat) : Int) from by decide, ← Int.ofNat_tdiv]
  rw [Int.bmod_def]
  have : ((v / 2 : Nat) : Int) % ((2 ^ 32 : Nat) : Int) = ((v / 2 : Nat) : Int) := Int.emod_eq_of_lt (by omega) (by omega)
  rw [this, if_pos (by omega)]
/-- the list i holds a set of times -/
def cTimes (M : zMem) (i : Nat) (P : Nat → Prop) : Prop := M 14 i 1 = nI (cnt P 1000) ∧ cnt P 1000 ≤ zlenI 23 i ∧ ∀ x, x < 1000 → P x → M 23 i (cnt P x) = nI x
def tFr (M M' : zMem) (i : Nat) : Prop := ∀ k j q, ¬ (k = 23 ∧ j = i) → ¬ (k = 14 ∧ j = i ∧ q = 1) → M' k j q = M k j q
theorem tFr_rf {M : zMem} {i : Nat} : tFr M M i := fun _ _ _ _ _ => rfl
theorem tFr_tr {M M1 M2 : zMem} {i : Nat} (h1 : tFr M M1 i) (h2 : tFr M1 M2 i) : tFr M M2 i := fun k j q a b => (h2 k j q a b).trans (h1 k j q a b)
theorem zlen23 (i : Nat) : zlenI 23 i = 480 ∨ zlenI 23 i = 80 := by
  cases i with
  | zero => exact Or.inl rfl
  | succ i => exact Or.inr rfl
section ZTI
variable {i : Nat} {P : Nat → Prop} {M : zMem} {ρ : Int64 × Nat} {σ : zSt}
theorem t_place_loop (h : cTimes σ.1 i P) {x : Nat} (hx : x ≤ 1000) : ∀ d lo hi k v, hi = lo + d → k + d ≤ 480 → hi ≤ cnt P 1000 → lo ≤ cnt P x → cnt P x ≤ hi → zX zP zK_X4_placeOf (10, [zR 14 i, zI (nI x), zI (nI lo), zI (nI hi), zI (nI k), v], []) σ = zok (nI (cnt P x)) σ := by
  obtain ⟨h1, h2, h3⟩ := h
  have hc := zlen23 i
  intro d
  induction d using Nat.strongRecOn with
  | _ d ih =>
    intro lo hi k v hd hk hhi hlo hle
    rw [e_X4_placeOf_10]
    by_cases c : d = 0
    · have e : lo = hi := by omega
      have e2 : cnt P x = lo := by omega
      rw [if_neg (show ¬ nI lo < nI hi from nI_nlt (by omega) (by omega)), e2]
      by_cases c2 : nI k < 480
      · rw [if_pos c2]
      · rw [if_neg c2]
    · have ck : nI k < 480 := (nI_lt (by omega) (by omega) : nI k < nI 480)
      have cl : nI lo < nI hi := nI_lt (by omega) (by omega)
      have em : (nI lo + nI hi) / 2 = nI ((lo + hi) / 2) := by rw [nI_add, nI_div2 (by omega)]
      have ein := nIk (k := (lo + hi) / 2) (N := zlenI 23 i) (by omega) (by omega)
      have ecl := nI_clamp (n := (lo + hi) / 2) (by omega)
      obtain ⟨y, y1, y2, y3⟩ := cnt_sur 1000 ((lo + hi) / 2) (show (lo + hi) / 2 < cnt P 1000 by omega)
      have ev := h3 y y1 y2
      rw [y3] at ev
      rw [if_pos ck, if_pos cl, if_neg (by decide)]
      simp only [em, ecl, ein, if_false]
      rw [ev]
      by_cases c2 : y < x
      · have q := cnt_lt c2 y2
        rw [if_pos (nI_lt c2 (by omega)), nI_1, nI_1]
        exact ih (hi - ((lo + hi) / 2 + 1)) (by omega) _ _ _ _ (by omega) (by omega) hhi (by omega) hle
      · have q := cnt_mono (P := P) (show x ≤ y by omega)
        rw [if_neg (nI_nlt (by omega) (by omega)), nI_1]
        exact ih ((lo + hi) / 2 - lo) (by omega) _ _ _ _ (by omega) (by omega) (by omega) hlo (by omega)
theorem t_placeOf (h : cTimes σ.1 i P) {x : Nat} (hx : x ≤ 1000) : zrun zP 87 [zR 14 i, zI (nI x)] σ = zok (nI (cnt P x)) σ := by
  have hc := zlen23 i
  rw [e_X4_placeOf, h.1]
  have L := t_place_loop h hx (cnt P 1000) 0 (cnt P 1000) 0 zJunk (by omega) (by have := h.2.1; omega) (Nat.le_refl _) (Nat.zero_le _) (cnt_mono hx)
  rw [nI_0] at L
  exact L
theorem t_has (h : cTimes σ.1 i P) {x : Nat} (hx : x < 1000) : zrun zP 88 [zR 14 i, zI (nI x)] σ = zok (zb (P x)) σ := by
  have hc := zlen23 i
  have h2 := h.2.1
  have hm := cnt_mono (P := P) (show x ≤ 1000 by omega)
  rw [e_X4_has, t_placeOf h (by omega), zcI_ok, h.1]
  by_cases c : P x
  · have q := cnt_lt hx c
    have ein := nIk (k := cnt P x) (N := zlenI 23 i) (by omega) (by omega)
    have ecl := nI_clamp (n := cnt P x) (by omega)
    rw [if_pos (nI_lt q (by omega))]
    simp only [ecl, ein, if_false]
    rw [h.2.2 x hx c, if_pos rfl, zb_t c]
  · rw [zb_f c]
    by_cases c1 : cnt P x < cnt P 1000
    · have ein := nIk (k := cnt P x) (N := zlenI 23 i) (by omega) (by omega)
      have ecl := nI_clamp (n := cnt P x) (by omega)
      obtain ⟨y, y1, y2, y3⟩ := cnt_sur 1000 (cnt P x) c1
      have ev := h.2.2 y y1 y2
      rw [y3] at ev
      rw [if_pos (nI_lt c1 (by omega))]
      simp only [ecl, ein, if_false]
      rw [ev, if_neg]
      intro e
      have := (nI_eq (by omega) (by omega)).mp e
      exact c (this ▸ y2)
    · rw [if_neg (nI_nlt (by omega) (by omega))]
def tAI (M M' : zMem) (i c q : Nat) : Prop := tFr M M' i ∧ M' 14 i 1 = M 14 i 1 ∧ (∀ j, j < q → M' 23 i j = M 23 i j) ∧ ∀ j, q < j → j ≤ c → M' 23 i j = M 23 i (j - 1)
theorem t_add_loop {c p : Nat} (hp : p ≤ c) (hc : c < zlenI 23 i) (hM : M 14 i 1 = nI c) (x : Int32) : ∀ d q M', q = p + d → q ≤ c → tAI M M' i c q → ∃ M'', zX zP zK_X4_add (42, [zR 14 i, zI x, zI (nI p), zI (nI q)], []) (M', ρ) = zvd (zms (zms M'' 23 i p x) 14 i 1 (nI (c + 1)), ρ) ∧ tAI M M'' i c p := by
  have hl := zlen23 i
  intro d
  induction d with
  | zero =>
    intro q M' hq hqc hI
    rw [show q = p by omega] at hI ⊢
    have ein := nIk (k := p) (N := zlenI 23 i) (by omega) (by omega)
    have ecl := nI_clamp (n := p) (by omega)
    refine ⟨M', ?_, hI⟩
    rw [e_X4_add_42, if_neg (nI_nlt (Nat.le_refl _) (by omega))]
    simp only [ecl, ein, if_false]
    rw [hI.2.1, hM, nI_1]
  | succ d ih =>
    intro q M' hq hqc hI
    obtain ⟨b, rfl⟩ : ∃ b, q = b + 1 := ⟨q - 1, by omega⟩
    have e1 : nI (b + 1) - 1 = nI b := by rw [← nI_1]; exact Int32.add_sub_cancel _ _
    have ein := nIk (k := b) (N := zlenI 23 i) (by omega) (by omega)
    have ecl := nI_clamp (n := b) (by omega)
    have ein1 := nIk (k := b + 1) (N := zlenI 23 i) (by omega) (by omega)
    have ecl1 := nI_clamp (n := b + 1) (by omega)
    have hI' : tAI M (zms M' 23 i (b + 1) (M' 23 i b)) i c b := by
      obtain ⟨f1, f2, f3, f4⟩ := hI
      refine ⟨fun k j q a1 a2 => ?_, ?_, fun j hj => ?_, fun j j1 j2 => ?_⟩
      · rw [zms_ne (by omega)]; exact f1 k j q a1 a2
      · rw [zms_ne (by omega)]; exact f2
      · rw [zms_ne (by omega)]; exact f3 j (by omega)
      · by_cases e : j = b + 1
        · rw [e, zms_eq]; exact f3 b (by omega)
        · rw [zms_ne (by omega)]; exact f4 j (by omega) j2
    obtain ⟨M'', g1, g2⟩ := ih b _ (by omega) (by omega) hI'
    refine ⟨M'', ?_, g2⟩
    rw [e_X4_add_42, if_pos (nI_lt (by omega) (by omega)), nI_pm]
    simp only [e1, ecl, ein, ecl1, ein1, if_false]
    exact g1
theorem t_add (h : cTimes M i P) {x : Nat} (hx : x < 1000) (hc : cnt P 1000 < zlenI 23 i) : ∃ M', zrun zP 89 [zR 14 i, zI (nI x)] (M, ρ) = zvd (M', ρ) ∧ cTimes M' i (pAdd P x) ∧ tFr M M' i := by
  have hl := zlen23 i
  have hm := cnt_mono (P := P) (show x ≤ 1000 by omega)
  have hlen : (Int32.ofNat (zlenI 23 i)) = nI (zlenI 23 i) := rfl
  by_cases c : P x
  · refine ⟨M, ?_, by rw [pAdd_in c]; exact h, tFr_rf⟩
    have q := cnt_lt hx c
    have ein := nIk (k := cnt P x) (N := zlenI 23 i) (by omega) (by omega)
    have ecl := nI_clamp (n := cnt P x) (by omega)
    rw [e_X4_add, t_placeOf (σ := (M, ρ)) h (by omega), zcI_ok, if_neg (by omega), show (M, ρ).1 14 i 1 = nI (cnt P 1000) from h.1, hlen, if_pos (nI_lt hc (by omega)), if_pos (nI_lt q (by omega))]
    simp only [ecl, ein, if_false]
    rw [h.2.2 x hx c, if_pos rfl]
  · obtain ⟨M2, g1, g2⟩ := t_add_loop (i := i) (ρ := ρ) hm hc h.1 (nI x) (cnt P 1000 - cnt P x) (cnt P 1000) M (by omega) (Nat.le_refl _) ⟨tFr_rf, rfl, fun _ _ => rfl, fun j j1 j2 => by omega⟩
    have cg := cnt_add_gt c 1000 hx
    refine ⟨zms (zms M2 23 i (cnt P x) (nI x)) 14 i 1 (nI (cnt P 1000 + 1)), ?_, ⟨?_, by omega, fun y y1 y2 => ?_⟩, fun k j q a1 a2 => ?_⟩
    · rw [e_X4_add, t_placeOf (σ := (M, ρ)) h (by omega), zcI_ok, if_neg (by omega), show (M, ρ).1 14 i 1 = nI (cnt P 1000) from h.1, hlen, if_pos (nI_lt hc (by omega))]
      by_cases c1 : cnt P x < cnt P 1000
      · have ein := nIk (k := cnt P x) (N := zlenI 23 i) (by omega) (by omega)
        have ecl := nI_clamp (n := cnt P x) (by omega)
        obtain ⟨y, y1, y2, y3⟩ := cnt_sur 1000 (cnt P x) c1
        have ev := h.2.2 y y1 y2
        rw [y3] at ev
        rw [if_pos (nI_lt c1 (by omega))]
        simp only [ecl, ein, if_false]
        rw [ev, if_neg, g1]
        intro e
        have := (nI_eq (by omega) (by omega)).mp e
        exact c (this ▸ y2)
      · rw [if_neg (nI_nlt (by omega) (by omega)), g1]
    · rw [zms_eq, cg]
    · rw [zms_ne (by omega)]
      rcases Nat.lt_trichotomy y x with e | e | e
      · have hy : P y := y2.resolve_right (by omega)
        have q := cnt_lt e hy
        rw [cnt_add_le y (by omega), zms_ne (by omega), g2.2.2.1 _ q]
        exact h.2.2 y y1 hy
      · rw [e, cnt_add_le x (Nat.le_refl _), zms_eq]
      · have hy : P y := y2.resolve_right (by omega)
        have q := cnt_mono (P := P) (show x ≤ y by omega)
        have q2 := cnt_lt y1 hy
        rw [cnt_add_gt c y e, zms_ne (by omega), g2.2.2.2 _ (by omega) (by omega)]
        exact h.2.2 y y1 hy
    · rw [zms_ne (by omega), zms_ne (by omega)]
      exact g2.1 k j q a1 a2
end ZTI
