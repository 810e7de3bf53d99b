/-! sums of truth values; spans and their times -/
noncomputable def ind (p : Prop) : Nat := zif p 1 0
theorem ind_t {p : Prop} (h : p) : ind p = 1 := zif_t h
theorem ind_f {p : Prop} (h : ¬ p) : ind p = 0 := zif_f h
theorem ind_congr {p q : Prop} (h : p ↔ q) : ind p = ind q := by rw [propext h]
theorem nsum_congr {f g : Nat → Nat} : ∀ d k, (∀ j, k ≤ j → j < k + d → f j = g j) → nsum f k d = nsum g k d := by
  intro d
  induction d with
  | zero => intro k _; rfl
  | succ d ih =>
    intro k h
    simp only [nsum]
    rw [h k (Nat.le_refl _) (by omega), ih (k + 1) (fun j h1 h2 => h j (by omega) (by omega))]
theorem nsum_add {f g : Nat → Nat} : ∀ d k, nsum (fun j => f j + g j) k d = nsum f k d + nsum g k d := by
  intro d
  induction d with
  | zero => intro k; rfl
  | succ d ih =>
    intro k
    simp only [nsum]
    rw [ih]
    omega
theorem nsum_z {f : Nat → Nat} : ∀ d k, (∀ j, k ≤ j → j < k + d → f j = 0) → nsum f k d = 0 := fun d k h => (nsum_0 d k).mpr h
theorem nsum_swap {f : Nat → Nat → Nat} {m : Nat} : ∀ d k, nsum (fun a => nsum (fun b => f a b) 0 m) k d = nsum (fun b => nsum (fun a => f a b) k d) 0 m := by
  intro d
  induction d with
  | zero => intro k; exact (nsum_z _ _ (fun j _ _ => rfl)).symm
  | succ d ih =>
    intro k
    simp only [nsum]
    rw [ih, ← nsum_add]
theorem ind_sum {P : Nat → Prop} : ∀ d k, (∀ i j, k ≤ i → i < k + d → k ≤ j → j < k + d → P i → P j → i = j) → nsum (fun j => ind (P j)) k d = ind (∃ j, k ≤ j ∧ j < k + d ∧ P j) := by
  intro d
  induction d with
  | zero => intro k _; exact (ind_f (fun ⟨j, j1, j2, _⟩ => by omega)).symm
  | succ d ih =>
    intro k h
    simp only [nsum]
    rw [ih (k + 1) (fun i j a b c e => h i j (by omega) (by omega) (by omega) (by omega))]
    by_cases c : P k
    · rw [ind_t c, ind_f (fun ⟨j, j1, j2, j3⟩ => absurd (h k j (by omega) (by omega) (by omega) (by omega) c j3) (by omega)), ind_t ⟨k, by omega, by omega, c⟩]
    · rw [ind_f c, Nat.zero_add]
      exact ind_congr ⟨fun ⟨j, j1, j2, j3⟩ => ⟨j, by omega, by omega, j3⟩, fun ⟨j, j1, j2, j3⟩ => ⟨j, by have : j ≠ k := fun e => c (e ▸ j3); omega, by omega, j3⟩⟩
theorem ind_cnt {P : Nat → Prop} : ∀ n, nsum (fun s => ind (P s)) 0 n = cnt P n := by
  have key : ∀ d k, nsum (fun s => ind (P s)) k d = cnt P (k + d) - cnt P k := by
    intro d
    induction d with
    | zero => intro k; show 0 = cnt P k - cnt P k; omega
    | succ d ih =>
      intro k
      simp only [nsum]
      rw [ih, show k + 1 + d = k + (d + 1) by omega]
      have m := cnt_mono (P := P) (show k + 1 ≤ k + (d + 1) by omega)
      by_cases c : P k
      · rw [ind_t c]
        rw [cnt_t c] at m ⊢
        omega
      · rw [ind_f c]
        rw [cnt_f c] at m ⊢
        omega
  intro n
  rw [key, Nat.zero_add]
  rfl
theorem cnt_int {lo hi : Nat} : ∀ n, cnt (fun s => lo ≤ s ∧ s < hi) n = min n hi - lo := by
  intro n
  induction n with
  | zero => show 0 = min 0 hi - lo; omega
  | succ n ih =>
    by_cases c : lo ≤ n ∧ n < hi
    · rw [cnt_t (P := fun s => lo ≤ s ∧ s < hi) c, ih]
      have := c.1
      have := c.2
      omega
    · rw [cnt_f (P := fun s => lo ≤ s ∧ s < hi) c, ih]
      by_cases c1 : lo ≤ n
      · have : ¬ n < hi := fun e => c ⟨c1, e⟩
        omega
      · omega
/-! times as numbers -/
def fN (r : zTier) (k : Nat) : Nat := (rfr r k).toNatClampNeg
def tN (r : zTier) (k : Nat) : Nat := (rto r k).toNatClampNeg
def cov (r : zTier) (s k : Nat) : Prop := fN r k ≤ s ∧ s < tN r k
section ZSU
variable {r r' : zTier}
theorem fN_e (h : zRt r) {k : Nat} (hk : k < rct r) : rfr r k = nI (fN r k) ∧ fN r k ≤ 999 := by
  obtain ⟨⟨a, a1, a2⟩, -⟩ := h k hk
  have e : fN r k = a := by unfold fN; rw [a2, nI_clamp (by omega)]
  rw [e]
  exact ⟨a2, a1⟩
theorem tN_e (h : zRt r) {k : Nat} (hk : k < rct r) : rto r k = nI (tN r k) ∧ tN r k ≤ 999 := by
  obtain ⟨-, a, a1, a2⟩ := h k hk
  have e : tN r k = a := by unfold tN; rw [a2, nI_clamp (by omega)]
  rw [e]
  exact ⟨a2, a1⟩
theorem ft_le (hs : zSrt r) (h : zRt r) {k : Nat} (hk : k < rct r) : fN r k ≤ tN r k ∧ (rkd r = 3 → fN r k = tN r k) ∧ (¬ rkd r = 3 → fN r k < tN r k) := by
  obtain ⟨a, a1⟩ := fN_e h hk
  obtain ⟨b, b1⟩ := tN_e h hk
  have s := hs.1 k hk
  rw [a, b] at s
  rcases s with ⟨s1, s2⟩ | ⟨s1, s2⟩
  · have := (nI_eq (by omega) (by omega)).mp s2
    exact ⟨by omega, fun _ => this.symm, fun e => absurd s1 e⟩
  · rw [nI_lp (by omega) (by omega)] at s2
    exact ⟨by omega, fun e => absurd e s1, fun _ => s2⟩
theorem tf_le (hs : zSrt r) (h : zRt r) {j k : Nat} (hj : j < k) (hk : k < rct r) : tN r j ≤ fN r k := by
  obtain ⟨a, a1⟩ := fN_e h hk
  obtain ⟨b, b1⟩ := tN_e h (k := j) (by omega)
  have s := hs.2 j k hj hk
  rw [a, b, nI_lp (by omega) (by omega)] at s
  omega
theorem cov_u (hs : zSrt r) (h : zRt r) {s j k : Nat} (hj : j < rct r) (hk : k < rct r) (cj : cov r s j) (ck : cov r s k) : j = k := by
  rcases Nat.lt_trichotomy j k with e | e | e
  · have := tf_le hs h e hk
    have := cj.2
    have := ck.1
    omega
  · exact e
  · have := tf_le hs h e hj
    have := ck.2
    have := cj.1
    omega
theorem share_n (h : zRt r) (h' : zRt r') {k o : Nat} (hk : k < rct r) (ho : o < rct r') : pShare (rfr r k) (rto r k) (rfr r' o) (rto r' o) = nI (nsum (fun s => ind (cov r s k ∧ cov r' s o)) 0 999) := by
  obtain ⟨a, a1⟩ := fN_e h hk
  obtain ⟨b, b1⟩ := tN_e h hk
  obtain ⟨c, c1⟩ := fN_e h' ho
  obtain ⟨d, d1⟩ := tN_e h' ho
  rw [ind_cnt, cnt_congr (Q := fun s => max (fN r k) (fN r' o) ≤ s ∧ s < min (tN r k) (tN r' o)) 999 (fun s _ => by unfold cov; omega), cnt_int, a, b, c, d]
  have e1 : (if nI (tN r' o) < nI (tN r k) then nI (tN r' o) else nI (tN r k)) = nI (min (tN r k) (tN r' o)) := by
    by_cases q : tN r' o < tN r k
    · rw [if_pos (nI_lt q (by omega)), Nat.min_eq_right (by omega)]
    · rw [if_neg (nI_nlt (by omega) (by omega)), Nat.min_eq_left (by omega)]
  have e3 : (if nI (fN r k) < nI (fN r' o) then nI (fN r' o) else nI (fN r k)) = nI (max (fN r k) (fN r' o)) := by
    by_cases q : fN r k < fN r' o
    · rw [if_pos (nI_lt q (by omega)), Nat.max_eq_right (by omega)]
    · rw [if_neg (nI_nlt (by omega) (by omega)), Nat.max_eq_left (by omega)]
  unfold pShare
  rw [e1, e3]
  have i1 := iI_n (n := min (tN r k) (tN r' o)) (by omega)
  have i2 := iI_n (n := max (fN r k) (fN r' o)) (by omega)
  have i0 := iI_0
  have es : (nI (min (tN r k) (tN r' o)) - nI (max (fN r k) (fN r' o))).toInt = (min (tN r k) (tN r' o) : Int) - (max (fN r k) (fN r' o) : Int) := by
    rw [iI_sub (by omega) (by omega), i1, i2]
    omega
  by_cases q : max (fN r k) (fN r' o) < min (tN r k) (tN r' o)
  · rw [if_pos (by rw [iI_lt, es]; omega), nI_sub (by omega)]
    congr 1
    omega
  · rw [if_neg (by rw [iI_lt, es]; omega), show min 999 (min (tN r k) (tN r' o)) - max (fN r k) (fN r' o) = 0 by omega]
    rfl
theorem len_n (hs : zSrt r) (h : zRt r) {k : Nat} (hk : k < rct r) : rto r k - rfr r k = nI (nsum (fun s => ind (cov r s k)) 0 999) := by
  obtain ⟨a, a1⟩ := fN_e h hk
  obtain ⟨b, b1⟩ := tN_e h hk
  have l := ft_le hs h hk
  rw [ind_cnt, cnt_congr (P := fun s => cov r s k) (Q := fun s => fN r k ≤ s ∧ s < tN r k) 999 (fun s _ => Iff.rfl), cnt_int, a, b, nI_sub l.1]
  congr 1
  omega
/-- the mark at a time, and whether it covers it -/
theorem at_cov (hs : zSrt r) (h : zRt r) {s : Nat} (hs9 : s < 999) : (zfI (pAt r (nI s)) (rct r) = -1 ∧ ∀ k, k < rct r → ¬ cov r s k) ∨ ∃ a, a < rct r ∧ zfI (pAt r (nI s)) (rct r) = nI a ∧ (nI s < rto r a ↔ cov r s a) ∧ ∀ k, k < rct r → cov r s k → k = a := by
  have pc : ∀ k, k < rct r → cov r s k → pAt r (nI s) k := fun k hk hc => by
    obtain ⟨a, a1⟩ := fN_e h hk
    obtain ⟨b, b1⟩ := tN_e h hk
    unfold pAt
    rw [a, b]
    obtain ⟨c1, c2⟩ := hc
    by_cases e : fN r k = s
    · exact Or.inl (by rw [e])
    · exact Or.inr ⟨nI_lt (by omega) (by omega), nI_lt c2 (by omega)⟩
  unfold zfI
  cases hz : zfst (pAt r (nI s)) 0 (rct r) with
  | none => exact Or.inl ⟨rfl, fun k hk hc => (zfst_none _ _).mp hz k (by omega) (by omega) (pc k hk hc)⟩
  | some a =>
    obtain ⟨z1, z2, z3, z4⟩ := (zfst_spec _ _ _).mp hz
    have ha : a < rct r := by omega
    obtain ⟨f, f1⟩ := fN_e h ha
    obtain ⟨t, t1⟩ := tN_e h ha
    have hle : fN r a ≤ s := by
      unfold pAt at z3
      rw [f, t] at z3
      rcases z3 with e | e
      · have := (nI_eq (by omega) (by omega)).mp e; omega
      · have := e.1; rw [nI_lp (by omega) (by omega)] at this; omega
    refine Or.inr ⟨a, ha, rfl, ?_, fun k hk hc => ?_⟩
    · rw [t, nI_lp (by omega) (by omega)]
      exact ⟨fun e => ⟨hle, e⟩, fun e => e.2⟩
    · by_cases c : cov r s a
      · exact cov_u hs h hk ha hc c
      · exfalso
        have hnt : ¬ s < tN r a := fun e => c ⟨hle, e⟩
        have hk3 : ¬ rkd r = 3 := fun e => by
          have := (ft_le hs h hk).2.1 e
          have := hc.1
          have := hc.2
          omega
        unfold pAt at z3
        rw [f, t] at z3
        have la := (ft_le hs h ha).2.2 hk3
        rcases z3 with e | e
        · have := (nI_eq (by omega) (by omega)).mp e; omega
        · have := e.2; rw [nI_lp (by omega) (by omega)] at this; exact hnt this
end ZSU
