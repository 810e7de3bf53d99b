/-! the reference's reading methods -/
section ZMR
variable {i t : Nat} {r : zTier} {σ : zSt}
theorem nI_c1 : (1 : Int32) = nI 1 := rfl
theorem nI_pc (t w : Nat) : (1 + 124 * nI t) + nI w = nI (1 + 124 * t + w) := by
  rw [show (1 : Int32) = nI 1 from rfl, show (124 : Int32) = nI 124 from rfl, pk_mul, nI_add, nI_add]
theorem nI_cc (t k w : Nat) : (((1 + 124 * nI t) + 4) + 3 * nI k) + nI w = nI (5 + 124 * t + 3 * k + w) := by
  rw [show (1 : Int32) = nI 1 from rfl, show (124 : Int32) = nI 124 from rfl, show (4 : Int32) = nI 4 from rfl, show (3 : Int32) = nI 3 from rfl, pk_mul, pk_mul, nI_add, nI_add, nI_add, nI_add]
  congr 1
  omega
theorem m_isIn (x a b : Int32) : zrun zP 137 [zI x, zI a, zI b] σ = zok (zb (¬ x < a ∧ ¬ b < x)) σ := by
  rw [e_X6_isIn]
  simp only [zk_10, zk_01, zk_0b, zk_b0, zk_1b, zk_b1, zk_bb]
theorem m_pos0 : zrun zP 139 [zI (nI t), zI 0] σ = zok (nI (1 + 124 * t)) σ := by
  rw [e_X6_pos]
  exact congrArg (fun x => zok x σ) (nI_pc t 0)
theorem m_pos1 : zrun zP 139 [zI (nI t), zI 1] σ = zok (nI (2 + 124 * t)) σ := by
  rw [e_X6_pos]
  exact congrArg (fun x => zok x σ) ((nI_pc t 1).trans (by congr 1; omega))
theorem m_pos2 : zrun zP 139 [zI (nI t), zI 2] σ = zok (nI (3 + 124 * t)) σ := by
  rw [e_X6_pos]
  exact congrArg (fun x => zok x σ) ((nI_pc t 2).trans (by congr 1; omega))
theorem m_pos3 : zrun zP 139 [zI (nI t), zI 3] σ = zok (nI (4 + 124 * t)) σ := by
  rw [e_X6_pos]
  exact congrArg (fun x => zok x σ) ((nI_pc t 3).trans (by congr 1; omega))
theorem m_cell0 (k : Nat) : zrun zP 143 [zI (nI t), zI (nI k), zI 0] σ = zok (nI (5 + 124 * t + 3 * k)) σ := by
  rw [e_X6_cell]
  exact congrArg (fun x => zok x σ) (nI_cc t k 0)
theorem m_cell1 (k : Nat) : zrun zP 143 [zI (nI t), zI (nI k), zI 1] σ = zok (nI (6 + 124 * t + 3 * k)) σ := by
  rw [e_X6_cell]
  exact congrArg (fun x => zok x σ) ((nI_cc t k 1).trans (by congr 1; omega))
theorem m_cell2 (k : Nat) : zrun zP 143 [zI (nI t), zI (nI k), zI 2] σ = zok (nI (7 + 124 * t + 3 * k)) σ := by
  rw [e_X6_cell]
  exact congrArg (fun x => zok x σ) ((nI_cc t k 2).trans (by congr 1; omega))
theorem m_tiers : zrun zP 138 [zR 16 i] σ = zok (σ.1 31 0 0) σ := by
  rw [e_X6_tiers, if_neg (by decide)]
  rfl
theorem m_rd {q : Nat} (hq : q < 745) : (nI q < 0 ∨ 745 ≤ (nI q).toNatClampNeg) = False ∧ (nI q).toNatClampNeg = q := ⟨nIn hq (by omega), nI_clamp (by omega)⟩
theorem m_kind (h : mRow σ.1 31 t r) (ht : t < 6) : zrun zP 140 [zR 16 i, zI (nI t)] σ = zok (rkd r) σ := by
  obtain ⟨q1, q2⟩ := m_rd (q := 1 + 124 * t) (by omega)
  rw [e_X6_kind, m_pos0, zcI_ok]
  simp only [q1, if_false]
  rw [q2, h.1]
theorem m_parent (h : mRow σ.1 31 t r) (ht : t < 6) : zrun zP 141 [zR 16 i, zI (nI t)] σ = zok (rpr r) σ := by
  obtain ⟨q1, q2⟩ := m_rd (q := 2 + 124 * t) (by omega)
  rw [e_X6_parent, m_pos1, zcI_ok]
  simp only [q1, if_false]
  rw [q2, h.2.1]
theorem m_many (h : mRow σ.1 31 t r) (ht : t < 6) : zrun zP 142 [zR 16 i, zI (nI t)] σ = zok (nI (rct r)) σ := by
  obtain ⟨q1, q2⟩ := m_rd (q := 3 + 124 * t) (by omega)
  rw [e_X6_many, m_pos2, zcI_ok]
  simp only [q1, if_false]
  rw [q2, h.2.2.1]
theorem m_from (h : mRow σ.1 31 t r) (ht : t < 6) {k : Nat} (hk : k < rct r) : zrun zP 144 [zR 16 i, zI (nI t), zI (nI k)] σ = zok (rfr r k) σ := by
  have h40 := h.2.2.2.2.1
  obtain ⟨q1, q2⟩ := m_rd (q := 5 + 124 * t + 3 * k) (by omega)
  rw [e_X6_from, m_cell0, zcI_ok]
  simp only [q1, if_false]
  rw [q2, (h.2.2.2.2.2 k hk).1]
theorem m_to (h : mRow σ.1 31 t r) (ht : t < 6) {k : Nat} (hk : k < rct r) : zrun zP 145 [zR 16 i, zI (nI t), zI (nI k)] σ = zok (rto r k) σ := by
  have h40 := h.2.2.2.2.1
  obtain ⟨q1, q2⟩ := m_rd (q := 6 + 124 * t + 3 * k) (by omega)
  rw [e_X6_to, m_cell1, zcI_ok]
  simp only [q1, if_false]
  rw [q2, (h.2.2.2.2.2 k hk).2.1]
theorem m_labelOf (h : mRow σ.1 31 t r) (ht : t < 6) {k : Nat} (hk : k < rct r) : zrun zP 146 [zR 16 i, zI (nI t), zI (nI k)] σ = zok (rlb r k) σ := by
  have h40 := h.2.2.2.2.1
  obtain ⟨q1, q2⟩ := m_rd (q := 7 + 124 * t + 3 * k) (by omega)
  rw [e_X6_labelOf, m_cell2, zcI_ok]
  simp only [q1, if_false]
  rw [q2, (h.2.2.2.2.2 k hk).2.2]
theorem m_around (h : mRow σ.1 31 t r) (ht : t < 6) (a b : Int32) : zrun zP 152 [zR 16 i, zI (nI t), zI a, zI b] σ = zok (zfI (fun k => ¬ a < rfr r k ∧ ¬ rto r k < b) (rct r)) σ := by
  have hn := h.2.2.2.2.1
  rw [e_X6_around]
  have L := zfI_loop (X := fun k => zX zP zK_X6_around (3, [zR 16 i, zI (nI t), zI a, zI b, zI (nI k)], []) σ) (σ := σ) (p := fun k => ¬ a < rfr r k ∧ ¬ rto r k < b) (n := rct r) (fun k hlt => by
    rw [e_X6_around_3, m_many h ht, zcI_ok, if_pos (nI_lt hlt (by omega)), m_from h ht hlt, zcI_ok, m_to h ht hlt, zcI_ok]
    constructor <;> intro hp
    · rw [if_neg hp.1, if_neg hp.2]
    · by_cases h1 : a < rfr r k
      · rw [if_pos h1, nI_1]
      · rw [if_neg h1, if_pos (Classical.byContradiction fun h2 => hp ⟨h1, h2⟩), nI_1]) (by
    rw [e_X6_around_3, m_many h ht, zcI_ok, if_neg (nI_nlt (Nat.le_refl _) (by omega))])
  rw [nI_0] at L
  exact L
theorem m_isClear (h : mRow σ.1 31 t r) (ht : t < 6) (a b : Int32) : zrun zP 155 [zR 16 i, zI (nI t), zI a, zI b] σ = zok (zb (∀ k, k < rct r → ¬ (rfr r k < b ∧ a < rto r k))) σ := by
  have hn := h.2.2.2.2.1
  rw [e_X6_isClear]
  have L := zfA_loop (X := fun k => zX zP zK_X6_isClear (3, [zR 16 i, zI (nI t), zI a, zI b, zI (nI k)], []) σ) (σ := σ) (p := fun k => rfr r k < b ∧ a < rto r k) (n := rct r) (fun k hlt => by
    rw [e_X6_isClear_3, m_many h ht, zcI_ok, if_pos (nI_lt hlt (by omega)), m_from h ht hlt, zcI_ok, m_to h ht hlt, zcI_ok]
    constructor <;> intro hp
    · rw [if_pos hp.1, if_pos hp.2]
    · by_cases h1 : rfr r k < b
      · rw [if_pos h1, if_neg (fun h2 => hp ⟨h1, h2⟩), nI_1]
      · rw [if_neg h1, nI_1]) (by
    rw [e_X6_isClear_3, m_many h ht, zcI_ok, if_neg (nI_nlt (Nat.le_refl _) (by omega))])
  rw [nI_0] at L
  exact L
theorem m_markWith (h : mRow σ.1 31 t r) (ht : t < 6) (a : Int32) : zrun zP 162 [zR 16 i, zI (nI t), zI a] σ = zok (zfI (fun k => rfr r k < a ∧ a < rto r k) (rct r)) σ := by
  have hn := h.2.2.2.2.1
  rw [e_X6_markWith]
  have L := zfI_loop (X := fun k => zX zP zK_X6_markWith (2, [zR 16 i, zI (nI t), zI a, zI (nI k)], []) σ) (σ := σ) (p := fun k => rfr r k < a ∧ a < rto r k) (n := rct r) (fun k hlt => by
    rw [e_X6_markWith_2, m_many h ht, zcI_ok, if_pos (nI_lt hlt (by omega)), m_from h ht hlt, zcI_ok, m_to h ht hlt, zcI_ok]
    constructor <;> intro hp
    · rw [if_pos hp.1, if_pos hp.2]
    · by_cases h1 : rfr r k < a
      · rw [if_pos h1, if_neg (fun h2 => hp ⟨h1, h2⟩), nI_1]
      · rw [if_neg h1, nI_1]) (by
    rw [e_X6_markWith_2, m_many h ht, zcI_ok, if_neg (nI_nlt (Nat.le_refl _) (by omega))])
  rw [nI_0] at L
  exact L
theorem m_markAt (h : mRow σ.1 31 t r) (ht : t < 6) (a : Int32) : zrun zP 182 [zR 16 i, zI (nI t), zI a] σ = zok (zfI (pAt r a) (rct r)) σ := by
  have hn := h.2.2.2.2.1
  rw [e_X6_markAt]
  have L := zfI_loop (X := fun k => zX zP zK_X6_markAt (2, [zR 16 i, zI (nI t), zI a, zI (nI k)], []) σ) (σ := σ) (p := pAt r a) (n := rct r) (fun k hlt => by
    rw [e_X6_markAt_2, m_many h ht, zcI_ok, if_pos (nI_lt hlt (by omega)), m_from h ht hlt, zcI_ok]
    simp only [m_from h ht hlt, m_to h ht hlt, zcI_ok]
    constructor <;> intro hp
    · rcases hp with hp | hp
      · rw [if_pos hp]
      · by_cases h1 : rfr r k = a
        · rw [if_pos h1]
        · rw [if_neg h1, if_pos hp.1, if_pos hp.2]
    · rw [if_neg (fun e => hp (Or.inl e))]
      by_cases h1 : rfr r k < a
      · rw [if_pos h1, if_neg (fun h2 => hp (Or.inr ⟨h1, h2⟩)), nI_1]
      · rw [if_neg h1, nI_1]) (by
    rw [e_X6_markAt_2, m_many h ht, zcI_ok, if_neg (nI_nlt (Nat.le_refl _) (by omega))])
  rw [nI_0] at L
  exact L
theorem m_timeOf (h : mRow σ.1 31 t r) (ht : t < 6) : zrun zP 222 [zR 16 i, zI (nI t)] σ = zok (zsum (fun k => rto r k - rfr r k) 0 (rct r)) σ := by
  have hn := h.2.2.2.2.1
  rw [e_X6_timeOf]
  have L := zsum_loop (X := fun k acc => zX zP zK_X6_timeOf (4, [zR 16 i, zI (nI t), zI acc, zI (nI k)], []) σ) (w := fun acc => zok acc σ) (f := fun k => rto r k - rfr r k) (n := rct r) (fun k acc hlt => by
    rw [e_X6_timeOf_4, m_many h ht, zcI_ok, if_pos (nI_lt hlt (by omega)), m_to h ht hlt, zcI_ok, m_from h ht hlt, zcI_ok, nI_1]) (fun acc => by
    rw [e_X6_timeOf_4, m_many h ht, zcI_ok, if_neg (nI_nlt (Nat.le_refl _) (by omega))]) (rct r) 0 0 (by omega)
  rw [nI_0] at L
  rw [L, Int32.zero_add]
end ZMR
