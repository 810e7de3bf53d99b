/-! pure words: truth values, the first of some, sums; loops -/
noncomputable def zb (p : Prop) : Int32 := @ite Int32 p (Classical.propDecidable p) 1 0
theorem zb_t {p : Prop} (h : p) : zb p = 1 := @if_pos p (Classical.propDecidable p) h Int32 1 0
theorem zb_f {p : Prop} (h : ¬ p) : zb p = 0 := @if_neg p (Classical.propDecidable p) h Int32 1 0
theorem zb_0 {p : Prop} : (zb p = 0) = ¬ p := by
  by_cases h : p
  · rw [zb_t h]; simp [h]
  · rw [zb_f h]; simp [h]
theorem zb_1 {p : Prop} : (zb p = 1) = p := by
  by_cases h : p
  · rw [zb_t h]; simp [h]
  · rw [zb_f h]; simp [h]
theorem zb_01 {p : Prop} : (zb p = 0 ∨ zb p = 1) = True := by
  rw [zb_0, zb_1]
  exact eq_true (Classical.em p).symm
theorem zb_if {p : Prop} [inst : Decidable p] : (if p then (1 : Int32) else 0) = zb p := by
  by_cases h : p
  · rw [if_pos h, zb_t h]
  · rw [if_neg h, zb_f h]
theorem zb_ifn {p : Prop} [inst : Decidable p] : (if p then (0 : Int32) else 1) = zb (¬ p) := by
  by_cases h : p
  · rw [if_pos h, zb_f (fun q => q h)]
  · rw [if_neg h, zb_t h]
theorem zb_congr {p q : Prop} (h : p ↔ q) : zb p = zb q := by rw [propext h]
abbrev zok (x : Int32) (σ : zSt) : zRes := some (.inl (some (.inl x)), σ)
abbrev zvd (σ : zSt) : zRes := some (.inl none, σ)
theorem zcI_ok {x : Int32} {σ : zSt} {k : Int32 → zSt → zRes} : zcI (zok x σ) k = k x σ := rfl
theorem zcV_ok {σ : zSt} {k : zSt → zRes} : zcV (zvd σ) k = k σ := rfl
theorem zcR_ok {a b : Nat} {σ : zSt} {k : Nat → Nat → zSt → zRes} : zcR (some (.inl (some (.inr (.inr (a, b)))), σ)) k = k a b σ := rfl
theorem zcI_th {x : Nat} {σ : zSt} {k : Int32 → zSt → zRes} : zcI (some (.inr x, σ)) k = some (.inr x, σ) := rfl
theorem zcV_th {x : Nat} {σ : zSt} {k : zSt → zRes} : zcV (some (.inr x, σ)) k = some (.inr x, σ) := rfl
theorem zrb (x : Int32) (σ : zSt) : (if x = 0 ∨ x = 1 then zok x σ else none) = (if x = 0 ∨ x = 1 then zok x σ else none) := rfl
/-- the first of d from k on -/
noncomputable def zfst (p : Nat → Prop) : Nat → Nat → Option Nat
  | _, 0 => none
  | k, d + 1 => @ite _ (p k) (Classical.propDecidable _) (some k) (zfst p (k + 1) d)
noncomputable def zfI (p : Nat → Prop) (n : Nat) : Int32 := match zfst p 0 n with
  | some j => nI j
  | none => -1
theorem zfst_t {p : Nat → Prop} {k d : Nat} (h : p k) : zfst p k (d + 1) = some k := @if_pos _ (Classical.propDecidable _) h _ _ _
theorem zfst_f {p : Nat → Prop} {k d : Nat} (h : ¬ p k) : zfst p k (d + 1) = zfst p (k + 1) d := @if_neg _ (Classical.propDecidable _) h _ _ _
theorem zfst_spec {p : Nat → Prop} : ∀ (d k j : Nat), zfst p k d = some j ↔ k ≤ j ∧ j < k + d ∧ p j ∧ ∀ q, k ≤ q → q < j → ¬ p q := by
  intro d
  induction d with
  | zero => intro k j; simp only [zfst]; constructor
            · intro h; cases h
            · intro h; omega
  | succ d ih =>
    intro k j
    by_cases h : p k
    · rw [zfst_t h]
      constructor
      · intro e
        cases e
        exact ⟨Nat.le_refl _, by omega, h, fun q h1 h2 => by omega⟩
      · rintro ⟨h1, h2, h3, h4⟩
        rcases Nat.lt_or_ge k j with q | q
        · exact absurd h (h4 k (Nat.le_refl _) q)
        · rw [show k = j by omega]
    · rw [zfst_f h, ih]
      constructor
      · rintro ⟨h1, h2, h3, h4⟩
        exact ⟨by omega, by omega, h3, fun q q1 q2 => by
          rcases Nat.eq_or_lt_of_le q1 with e | e
          · rw [← e]; exact h
          · exact h4 q e q2⟩
      · rintro ⟨h1, h2, h3, h4⟩
        have hne : k ≠ j := fun e => h (by rw [e]; exact h3)
        exact ⟨by omega, by omega, h3, fun q q1 q2 => h4 q (by omega) q2⟩
theorem zfst_none {p : Nat → Prop} : ∀ (d k : Nat), zfst p k d = none ↔ ∀ q, k ≤ q → q < k + d → ¬ p q := by
  intro d
  induction d with
  | zero => intro k; simp only [zfst, true_iff]; intro q h1 h2; omega
  | succ d ih =>
    intro k
    by_cases h : p k
    · rw [zfst_t h]
      constructor
      · intro e; cases e
      · intro e; exact absurd h (e k (Nat.le_refl _) (by omega))
    · rw [zfst_f h, ih]
      constructor
      · intro e q h1 h2
        rcases Nat.eq_or_lt_of_le h1 with e1 | e1
        · rw [← e1]; exact h
        · exact e q e1 (by omega)
      · intro e q h1 h2
        exact e q (by omega) (by omega)
theorem zfst_congr {p q : Nat → Prop} : ∀ (d k : Nat), (∀ j, k ≤ j → j < k + d → (p j ↔ q j)) → zfst p k d = zfst q k d := by
  intro d
  induction d with
  | zero => intro k _; rfl
  | succ d ih =>
    intro k h
    by_cases hp : p k
    · rw [zfst_t hp, zfst_t ((h k (Nat.le_refl _) (by omega)).mp hp)]
    · rw [zfst_f hp, zfst_f (fun e => hp ((h k (Nat.le_refl _) (by omega)).mpr e))]
      exact ih (k + 1) (fun j h1 h2 => h j (by omega) (by omega))
theorem zfI_congr {p q : Nat → Prop} {n : Nat} (h : ∀ j, j < n → (p j ↔ q j)) : zfI p n = zfI q n := by
  unfold zfI
  rw [zfst_congr n 0 (fun j _ h2 => h j (by omega))]
theorem zfst_loop {α : Type} {X : Nat → α} {v : Nat → α} {w : α} {p : Nat → Prop} {n : Nat} (hs : ∀ k, k < n → (p k → X k = v k) ∧ (¬ p k → X k = X (k + 1))) (hn : X n = w) : ∀ d k, k + d = n → X k = (match zfst p k d with
  | some j => v j
  | none => w) := by
  intro d
  induction d with
  | zero => intro k h; rw [show k = n by omega]; exact hn
  | succ d ih =>
    intro k h
    by_cases hp : p k
    · rw [zfst_t hp]; exact (hs k (by omega)).1 hp
    · rw [zfst_f hp, (hs k (by omega)).2 hp]; exact ih (k + 1) (by omega)
theorem zfI_loop {X : Nat → zRes} {σ : zSt} {p : Nat → Prop} {n : Nat} (hs : ∀ k, k < n → (p k → X k = zok (nI k) σ) ∧ (¬ p k → X k = X (k + 1))) (hn : X n = zok (-1) σ) : X 0 = zok (zfI p n) σ := by
  rw [zfst_loop (v := fun k => zok (nI k) σ) hs hn n 0 (by omega)]
  unfold zfI
  cases zfst p 0 n <;> rfl
theorem zfE_loop {X : Nat → zRes} {σ : zSt} {p : Nat → Prop} {n : Nat} (hs : ∀ k, k < n → (p k → X k = zok 1 σ) ∧ (¬ p k → X k = X (k + 1))) (hn : X n = zok 0 σ) : X 0 = zok (zb (∃ k, k < n ∧ p k)) σ := by
  rw [zfst_loop (v := fun k => zok 1 σ) hs hn n 0 (by omega)]
  cases h : zfst p 0 n with
  | none => rw [zb_f]; rintro ⟨k, h1, h2⟩; exact (zfst_none n 0).mp h k (by omega) (by omega) h2
  | some j =>
    obtain ⟨h1, h2, h3, -⟩ := (zfst_spec n 0 j).mp h
    rw [zb_t ⟨j, by omega, h3⟩]
theorem zfA_loop {X : Nat → zRes} {σ : zSt} {p : Nat → Prop} {n : Nat} (hs : ∀ k, k < n → (p k → X k = zok 0 σ) ∧ (¬ p k → X k = X (k + 1))) (hn : X n = zok 1 σ) : X 0 = zok (zb (∀ k, k < n → ¬ p k)) σ := by
  rw [zfst_loop (v := fun k => zok 0 σ) hs hn n 0 (by omega)]
  cases h : zfst p 0 n with
  | none => rw [zb_t]; intro k h1; exact (zfst_none n 0).mp h k (by omega) (by omega)
  | some j =>
    obtain ⟨h1, h2, h3, -⟩ := (zfst_spec n 0 j).mp h
    rw [zb_f (fun e => e j (by omega) h3)]
/-- a sum of d from k on -/
def zsum (f : Nat → Int32) : Nat → Nat → Int32
  | _, 0 => 0
  | k, d + 1 => f k + zsum f (k + 1) d
theorem zsum_congr {f g : Nat → Int32} : ∀ (d k : Nat), (∀ j, k ≤ j → j < k + d → f j = g j) → zsum f k d = zsum g k d := by
  intro d
  induction d with
  | zero => intro k _; rfl
  | succ d ih =>
    intro k h
    simp only [zsum]
    rw [h k (Nat.le_refl _) (by omega), ih (k + 1) (fun j h1 h2 => h j (by omega) (by omega))]
theorem zsum_loop {α : Type} {X : Nat → Int32 → α} {w : Int32 → α} {f : Nat → Int32} {n : Nat} (hs : ∀ k acc, k < n → X k acc = X (k + 1) (acc + f k)) (hn : ∀ acc, X n acc = w acc) : ∀ d k acc, k + d = n → X k acc = w (acc + zsum f k d) := by
  intro d
  induction d with
  | zero => intro k acc h; rw [show k = n by omega, hn]; simp [zsum]
  | succ d ih =>
    intro k acc h
    rw [hs k acc (by omega), ih (k + 1) _ (by omega)]
    simp only [zsum, Int32.add_assoc]
/-- a fold of d from k on -/
def zfold {α : Type} (f : Nat → α → α) : Nat → Nat → α → α
  | _, 0, a => a
  | k, d + 1, a => zfold f (k + 1) d (f k a)
theorem zfold_loop {α β : Type} {X : Nat → α → β} {w : α → β} {f : Nat → α → α} {n : Nat} (I : Nat → α → Prop) (hI : ∀ k a, k < n → I k a → I (k + 1) (f k a)) (hs : ∀ k a, k < n → I k a → X k a = X (k + 1) (f k a)) (hn : ∀ a, I n a → X n a = w a) : ∀ d k a, k + d = n → I k a → X k a = w (zfold f k d a) ∧ I n (zfold f k d a) := by
  intro d
  induction d with
  | zero => intro k a h hi; rw [show k = n by omega] at hi ⊢; exact ⟨hn a hi, hi⟩
  | succ d ih =>
    intro k a h hi
    have h1 := ih (k + 1) (f k a) (by omega) (hI k a (by omega) hi)
    rw [hs k a (by omega) hi]
    exact h1
/-! tiers and sheets, as they are meant -/
/-- name, kind, parent, how many, from, to, label -/
abbrev zTier := Int32 × Int32 × Int32 × Nat × (Nat → Int32) × (Nat → Int32) × (Nat → Int32)
abbrev rnm (r : zTier) : Int32 := r.1
abbrev rkd (r : zTier) : Int32 := r.2.1
abbrev rpr (r : zTier) : Int32 := r.2.2.1
abbrev rct (r : zTier) : Nat := r.2.2.2.1
abbrev rfr (r : zTier) : Nat → Int32 := r.2.2.2.2.1
abbrev rto (r : zTier) : Nat → Int32 := r.2.2.2.2.2.1
abbrev rlb (r : zTier) : Nat → Int32 := r.2.2.2.2.2.2
/-- a Row of the class holds a tier -/
def cRow (M : zMem) (i : Nat) (r : zTier) : Prop := M 12 i 0 = rnm r ∧ M 12 i 1 = rkd r ∧ M 12 i 2 = rpr r ∧ M 12 i 5 = nI (rct r) ∧ rct r ≤ 40 ∧ ∀ k, k < rct r → M 20 i k = rfr r k ∧ M 21 i k = rto r k ∧ M 22 i k = rlb r k
/-- the reference's row of numbers a holds a tier at t -/
def mRow (M : zMem) (a t : Nat) (r : zTier) : Prop := M a 0 (1 + 124 * t) = rkd r ∧ M a 0 (2 + 124 * t) = rpr r ∧ M a 0 (3 + 124 * t) = nI (rct r) ∧ M a 0 (4 + 124 * t) = rnm r ∧ rct r ≤ 40 ∧ ∀ k, k < rct r → M a 0 (5 + 124 * t + 3 * k) = rfr r k ∧ M a 0 (6 + 124 * t + 3 * k) = rto r k ∧ M a 0 (7 + 124 * t + 3 * k) = rlb r k
theorem nIn {k N : Nat} (h : k < N) (hN : N < 2 ^ 31) : (nI k < 0 ∨ N ≤ (nI k).toNatClampNeg) = False := eq_false (nI_in h hN)
theorem nIk {k N : Nat} (h : k < N) (hN : N < 2 ^ 31) : (nI k < 0 ∨ N ≤ k) = False := eq_false (fun e => e.elim (nI_pos (by omega)) (fun q => by omega))
theorem nI_ne {a b : Nat} (ha : a < 2 ^ 31) (hb : b < 2 ^ 31) : (nI a = nI b) = (a = b) := propext (nI_eq ha hb)
theorem nI_lp {a b : Nat} (ha : a < 2 ^ 31) (hb : b < 2 ^ 31) : (nI a < nI b) = (a < b) := propext (nI_ltI ha hb)
theorem nI_l0 {a : Nat} (ha : a < 2 ^ 31) : (nI a < 0) = False := eq_false (nI_pos ha)
theorem nI_0l {a : Nat} (ha : a < 2 ^ 31) : (0 < nI a) = (0 < a) := by
  have h := nI_lp (a := 0) (b := a) (by omega) ha
  rw [nI_0] at h
  exact h
