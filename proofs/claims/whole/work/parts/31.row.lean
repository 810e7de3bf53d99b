/-! the class's Row, method by method -/
theorem zk_10 {p : Prop} [inst : Decidable p] {σ : zSt} : (if p then zok 1 σ else zok 0 σ) = zok (zb p) σ := by
  by_cases h : p
  · rw [if_pos h, zb_t h]
  · rw [if_neg h, zb_f h]
theorem zk_01 {p : Prop} [inst : Decidable p] {σ : zSt} : (if p then zok 0 σ else zok 1 σ) = zok (zb (¬ p)) σ := by
  by_cases h : p
  · rw [if_pos h, zb_f (fun q => q h)]
  · rw [if_neg h, zb_t h]
theorem zk_0b {p q : Prop} [inst : Decidable p] {σ : zSt} : (if p then zok 0 σ else zok (zb q) σ) = zok (zb (¬ p ∧ q)) σ := by
  by_cases h : p
  · rw [if_pos h, zb_f (fun q => q.1 h)]
  · rw [if_neg h, zb_congr (show q ↔ ¬ p ∧ q from ⟨fun e => ⟨h, e⟩, fun e => e.2⟩)]
theorem zk_b0 {p q : Prop} [inst : Decidable p] {σ : zSt} : (if p then zok (zb q) σ else zok 0 σ) = zok (zb (p ∧ q)) σ := by
  by_cases h : p
  · rw [if_pos h, zb_congr (show q ↔ p ∧ q from ⟨fun e => ⟨h, e⟩, fun e => e.2⟩)]
  · rw [if_neg h, zb_f (fun q => h q.1)]
theorem zk_1b {p q : Prop} [inst : Decidable p] {σ : zSt} : (if p then zok 1 σ else zok (zb q) σ) = zok (zb (p ∨ q)) σ := by
  by_cases h : p
  · rw [if_pos h, zb_t (Or.inl h)]
  · rw [if_neg h, zb_congr (show q ↔ p ∨ q from ⟨Or.inr, fun e => e.resolve_left h⟩)]
theorem zk_b1 {p q : Prop} [inst : Decidable p] {σ : zSt} : (if p then zok (zb q) σ else zok 1 σ) = zok (zb (¬ p ∨ q)) σ := by
  by_cases h : p
  · rw [if_pos h, zb_congr (show q ↔ ¬ p ∨ q from ⟨Or.inr, fun e => e.resolve_left (fun e => e h)⟩)]
  · rw [if_neg h, zb_t (Or.inl h)]
theorem zk_bb {p q c : Prop} [inst : Decidable c] {σ : zSt} : (if c then zok (zb p) σ else zok (zb q) σ) = zok (zb ((c ∧ p) ∨ (¬ c ∧ q))) σ := by
  by_cases h : c
  · rw [if_pos h, zb_congr (show p ↔ (c ∧ p) ∨ (¬ c ∧ q) from ⟨fun e => Or.inl ⟨h, e⟩, fun e => e.elim (fun e => e.2) (fun e => absurd h e.1)⟩)]
  · rw [if_neg h, zb_congr (show q ↔ (c ∧ p) ∨ (¬ c ∧ q) from ⟨fun e => Or.inr ⟨h, e⟩, fun e => e.elim (fun e => absurd e.1 h) (fun e => e.2)⟩)]
/-- max(0, min(to, b) - max(from, a)) -/
def pShare (f t a b : Int32) : Int32 := if 0 < ((if b < t then b else t) - (if f < a then a else f)) then ((if b < t then b else t) - (if f < a then a else f)) else 0
abbrev pOver (r : zTier) (k : Nat) (a b : Int32) : Prop := (rkd r = 3 ∧ (¬ rfr r k < a ∧ rfr r k < b)) ∨ (¬ rkd r = 3 ∧ (rfr r k < b ∧ a < rto r k))
section ZROW
variable {i : Nat} {r : zTier} {σ : zSt}
theorem r_isFull (h : cRow σ.1 i r) : zrun zP 26 [zR 12 i] σ = zok (zb (¬ nI (rct r) < 40)) σ := by
  obtain ⟨h0, h1, h2, hc, hn, hk⟩ := h
  rw [e_X2_isFull, hc]
  simp only [zk_10, zk_01, zk_0b, zk_b0, zk_1b, zk_b1, zk_bb]
theorem r_hasMark (h : cRow σ.1 i r) (x : Int32) : zrun zP 27 [zR 12 i, zI x] σ = zok (zb (¬ x < 0 ∧ x < nI (rct r))) σ := by
  obtain ⟨h0, h1, h2, hc, hn, hk⟩ := h
  rw [e_X2_hasMark, hc]
  simp only [zk_10, zk_01, zk_0b, zk_b0, zk_1b, zk_b1, zk_bb]
theorem r_length (h : cRow σ.1 i r) {k : Nat} (hlt : k < rct r) : zrun zP 28 [zR 12 i, zI (nI k)] σ = zok (rto r k - rfr r k) σ := by
  obtain ⟨h0, h1, h2, hc, hn, hk⟩ := h
  have f := hk k hlt
  have hin := nIk (k := k) (N := 40) (by omega) (by omega)
  have hcl := nI_clamp (n := k) (by omega)
  rw [e_X2_length]
  simp only [hin, hcl, f, if_false]
theorem r_liesIn (h : cRow σ.1 i r) {k : Nat} (hlt : k < rct r) (a b : Int32) : zrun zP 35 [zR 12 i, zI (nI k), zI a, zI b] σ = zok (zb (¬ rfr r k < a ∧ ¬ b < rto r k)) σ := by
  obtain ⟨h0, h1, h2, hc, hn, hk⟩ := h
  have f := hk k hlt
  have hin := nIk (k := k) (N := 40) (by omega) (by omega)
  have hcl := nI_clamp (n := k) (by omega)
  rw [e_X2_liesIn]
  simp only [hin, hcl, f, if_false, zk_10, zk_01, zk_0b, zk_b0, zk_1b, zk_b1, zk_bb]
theorem r_isOver (h : cRow σ.1 i r) {k : Nat} (hlt : k < rct r) (a b : Int32) : zrun zP 36 [zR 12 i, zI (nI k), zI a, zI b] σ = zok (zb (pOver r k a b)) σ := by
  obtain ⟨h0, h1, h2, hc, hn, hk⟩ := h
  have f := hk k hlt
  have hin := nIk (k := k) (N := 40) (by omega) (by omega)
  have hcl := nI_clamp (n := k) (by omega)
  rw [e_X2_isOver, h1]
  simp only [hin, hcl, f, if_false, zk_10, zk_01, zk_0b, zk_b0, zk_1b, zk_b1, zk_bb]
theorem r_shared (h : cRow σ.1 i r) {k : Nat} (hlt : k < rct r) (a b : Int32) : zrun zP 38 [zR 12 i, zI (nI k), zI a, zI b] σ = zok (pShare (rfr r k) (rto r k) a b) σ := by
  obtain ⟨h0, h1, h2, hc, hn, hk⟩ := h
  have f := hk k hlt
  have hin := nIk (k := k) (N := 40) (by omega) (by omega)
  have hcl := nI_clamp (n := k) (by omega)
  rw [e_X2_shared]
  simp only [hin, hcl, f, if_false]
  rfl
theorem r_wholeLength (h : cRow σ.1 i r) : zrun zP 29 [zR 12 i] σ = zok (zsum (fun k => rto r k - rfr r k) 0 (rct r)) σ := by
  have hh := h
  obtain ⟨h0, h1, h2, hc, hn, hk⟩ := h
  rw [e_X2_wholeLength]
  have L := zsum_loop (X := fun k acc => zX zP zK_X2_wholeLength (4, [zR 12 i, zI acc, zI (nI k)], []) σ) (w := fun acc => zok acc σ) (f := fun k => rto r k - rfr r k) (n := rct r) (fun k acc hlt => by
    rw [e_X2_wholeLength_4, hc, if_pos (nI_lt hlt (by omega)), r_length hh hlt, zcI_ok, nI_1]) (fun acc => by
    rw [e_X2_wholeLength_4, hc, if_neg (nI_nlt (Nat.le_refl _) (by omega))]) (rct r) 0 0 (by omega)
  rw [nI_0] at L
  rw [L, Int32.zero_add]
theorem r_hasOver (h : cRow σ.1 i r) (a b : Int32) : zrun zP 37 [zR 12 i, zI a, zI b] σ = zok (zb (∃ k, k < rct r ∧ pOver r k a b)) σ := by
  have hh := h
  obtain ⟨h0, h1, h2, hc, hn, hk⟩ := h
  rw [e_X2_hasOver]
  have L := zfE_loop (X := fun k => zX zP zK_X2_hasOver (2, [zR 12 i, zI a, zI b, zI (nI k)], []) σ) (σ := σ) (p := fun k => pOver r k a b) (n := rct r) (fun k hlt => by
    constructor <;> intro hp
    · rw [e_X2_hasOver_2, hc, if_pos (nI_lt hlt (by omega)), r_isOver hh hlt, zcI_ok, zb_t hp, if_neg (by decide)]
    · rw [e_X2_hasOver_2, hc, if_pos (nI_lt hlt (by omega)), r_isOver hh hlt, zcI_ok, zb_f hp, if_pos rfl, nI_1]) (by
    rw [e_X2_hasOver_2, hc, if_neg (nI_nlt (Nat.le_refl _) (by omega))])
  rw [nI_0] at L
  exact L
theorem r_markAround (h : cRow σ.1 i r) (a b : Int32) : zrun zP 42 [zR 12 i, zI a, zI b] σ = zok (zfI (fun k => ¬ a < rfr r k ∧ ¬ rto r k < b) (rct r)) σ := by
  obtain ⟨h0, h1, h2, hc, hn, hk⟩ := h
  rw [e_X2_markAround]
  have L := zfI_loop (X := fun k => zX zP zK_X2_markAround (2, [zR 12 i, zI a, zI b, zI (nI k)], []) σ) (σ := σ) (p := fun k => ¬ a < rfr r k ∧ ¬ rto r k < b) (n := rct r) (fun k hlt => by
    have f := hk k hlt
    have hin := nIk (k := k) (N := 40) (by omega) (by omega)
    have hcl := nI_clamp (n := k) (by omega)
    rw [e_X2_markAround_2, hc, if_pos (nI_lt hlt (by omega))]
    simp only [hin, hcl, f, if_false]
    constructor <;> intro hp
    · rw [if_neg hp.1, if_neg hp.2]
    · by_cases h1 : a < rfr r k
      · rw [if_pos h1, nI_1]
      · rw [if_neg h1, if_pos (Classical.byContradiction fun h2 => hp ⟨h1, h2⟩), nI_1]) (by
    rw [e_X2_markAround_2, hc, if_neg (nI_nlt (Nat.le_refl _) (by omega))])
  rw [nI_0] at L
  exact L
theorem r_markInside (h : cRow σ.1 i r) (a : Int32) : zrun zP 41 [zR 12 i, zI a] σ = zok (zfI (fun k => rfr r k < a ∧ a < rto r k) (rct r)) σ := by
  obtain ⟨h0, h1, h2, hc, hn, hk⟩ := h
  rw [e_X2_markInside]
  have L := zfI_loop (X := fun k => zX zP zK_X2_markInside (2, [zR 12 i, zI a, zI (nI k)], []) σ) (σ := σ) (p := fun k => rfr r k < a ∧ a < rto r k) (n := rct r) (fun k hlt => by
    have f := hk k hlt
    have hin := nIk (k := k) (N := 40) (by omega) (by omega)
    have hcl := nI_clamp (n := k) (by omega)
    rw [e_X2_markInside_2, hc, if_pos (nI_lt hlt (by omega))]
    simp only [hin, hcl, f, if_false]
    constructor <;> intro hp
    · rw [if_pos hp.1, if_pos hp.2]
    · by_cases h1 : rfr r k < a
      · rw [if_pos h1, if_neg (fun h2 => hp ⟨h1, h2⟩), nI_1]
      · rw [if_neg h1, nI_1]) (by
    rw [e_X2_markInside_2, hc, if_neg (nI_nlt (Nat.le_refl _) (by omega))])
  rw [nI_0] at L
  exact L
abbrev pAt (r : zTier) (a : Int32) (k : Nat) : Prop := rfr r k = a ∨ (rfr r k < a ∧ a < rto r k)
theorem r_markAt (h : cRow σ.1 i r) (a : Int32) : zrun zP 40 [zR 12 i, zI a] σ = zok (zfI (pAt r a) (rct r)) σ := by
  obtain ⟨h0, h1, h2, hc, hn, hk⟩ := h
  rw [e_X2_markAt]
  have L := zfI_loop (X := fun k => zX zP zK_X2_markAt (2, [zR 12 i, zI a, zI (nI k)], []) σ) (σ := σ) (p := pAt r a) (n := rct r) (fun k hlt => by
    have f := hk k hlt
    have hin := nIk (k := k) (N := 40) (by omega) (by omega)
    have hcl := nI_clamp (n := k) (by omega)
    rw [e_X2_markAt_2, hc, if_pos (nI_lt hlt (by omega))]
    simp only [hin, hcl, f, if_false]
    constructor <;> intro hp
    · rcases hp with hp | hp
      · rw [if_pos hp]
      · by_cases h1 : rfr r k = a
        · rw [if_pos h1]
        · rw [if_neg h1, if_pos hp.1, if_pos hp.2]
    · rw [if_neg (fun e => hp (Or.inl e))]
      by_cases h1 : rfr r k < a
      · rw [if_pos h1, if_neg (fun h2 => hp (Or.inr ⟨h1, h2⟩)), nI_1]
      · rw [if_neg h1, nI_1]) (by
    rw [e_X2_markAt_2, hc, if_neg (nI_nlt (Nat.le_refl _) (by omega))])
  rw [nI_0] at L
  exact L
/-- the label of the first with these ends; 0 -/
noncomputable def pLabelOf (r : zTier) (a b : Int32) : Int32 := match zfst (fun k => rfr r k = a ∧ rto r k = b) 0 (rct r) with
  | some k => rlb r k
  | none => 0
theorem r_labelOf (h : cRow σ.1 i r) (a b : Int32) : zrun zP 43 [zR 12 i, zI a, zI b] σ = zok (pLabelOf r a b) σ := by
  obtain ⟨h0, h1, h2, hc, hn, hk⟩ := h
  rw [e_X2_labelOf]
  have L := zfst_loop (X := fun k => zX zP zK_X2_labelOf (2, [zR 12 i, zI a, zI b, zI (nI k)], []) σ) (p := fun k => rfr r k = a ∧ rto r k = b) (n := rct r) (v := fun k => zok (rlb r k) σ) (w := zok 0 σ) (fun k hlt => by
    have f := hk k hlt
    have hin := nIk (k := k) (N := 40) (by omega) (by omega)
    have hcl := nI_clamp (n := k) (by omega)
    rw [e_X2_labelOf_2, hc, if_pos (nI_lt hlt (by omega))]
    simp only [hin, hcl, f, if_false]
    constructor <;> intro hp
    · rw [if_pos hp.1, if_pos hp.2]
    · by_cases h1 : rfr r k = a
      · rw [if_pos h1, if_neg (fun h2 => hp ⟨h1, h2⟩), nI_1]
      · rw [if_neg h1, nI_1]) (by
    rw [e_X2_labelOf_2, hc, if_neg (nI_nlt (Nat.le_refl _) (by omega))]) (rct r) 0 (by omega)
  rw [nI_0] at L
  rw [L]
  unfold pLabelOf
  cases zfst (fun k => rfr r k = a ∧ rto r k = b) 0 (rct r) <;> rfl
/-- how many ends at a time -/
def pEnds (r : zTier) (a : Int32) (k : Nat) : Int32 := (if rfr r k = a then 1 else 0) + (if ¬ rkd r = 3 ∧ rto r k = a then 1 else 0)
theorem r_countEnds (h : cRow σ.1 i r) (a : Int32) : zrun zP 46 [zR 12 i, zI a] σ = zok (zsum (pEnds r a) 0 (rct r)) σ := by
  obtain ⟨h0, h1, h2, hc, hn, hk⟩ := h
  rw [e_X2_countEnds]
  have L := zsum_loop (X := fun k acc => zX zP zK_X2_countEnds (4, [zR 12 i, zI a, zI acc, zI (nI k)], []) σ) (w := fun acc => zok acc σ) (f := pEnds r a) (n := rct r) (fun k acc hlt => by
    have f := hk k hlt
    have hin := nIk (k := k) (N := 40) (by omega) (by omega)
    have hcl := nI_clamp (n := k) (by omega)
    rw [e_X2_countEnds_4, hc, if_pos (nI_lt hlt (by omega)), h1]
    simp only [hin, hcl, f, if_false, nI_1]
    unfold pEnds
    by_cases c1 : rfr r k = a <;> by_cases c2 : rkd r = 3 <;> by_cases c3 : rto r k = a <;> simp [c1, c2, c3, Int32.add_assoc]) (fun acc => by
    rw [e_X2_countEnds_4, hc, if_neg (nI_nlt (Nat.le_refl _) (by omega))]) (rct r) 0 0 (by omega)
  rw [nI_0] at L
  rw [L, Int32.zero_add]
end ZROW
