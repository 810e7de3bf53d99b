/-! what a label is: both sides -/
def pGl : Nat → Nat → Prop
  | 0, v => v = 0
  | f + 1, v => v = 0 ∨ (1 ≤ v % 32 ∧ v % 32 ≤ 26 ∧ pGl f (v / 32))
def pLabel (x : Int32) : Prop := ∃ v, v < 1048576 ∧ x = nI v ∧ pGl 4 v
theorem pGl_lt : ∀ f v, pGl f v → v < 32 ^ f := by
  intro f
  induction f with
  | zero => intro v h; have : v = 0 := h; subst this; decide
  | succ f ih =>
    intro v h
    rcases h with h | ⟨-, -, h⟩
    · subst h; exact Nat.pow_pos (by decide)
    · have := ih _ h
      rw [Nat.pow_succ]
      omega
section ZLB
variable {i : Nat} {σ : zSt}
theorem c_lab_loop (x0 : Int32) : ∀ d n v z, n + d = 4 → v < 2 ^ 31 → v < 32 ^ d → zX zP zK_X5_isLabel (17, [zI x0, zI (nI v), zI (nI n), z], []) σ = zok (zb (pGl d v)) σ := by
  intro d
  induction d with
  | zero =>
    intro n v z hd h31 hv
    have hn : n = 4 := by omega
    have hv0 : v = 0 := by
      have : (32 : Nat) ^ 0 = 1 := rfl
      omega
    subst hn hv0
    rw [e_X5_isLabel_17, if_neg (by decide), zb_t (show pGl 0 0 from rfl)]
  | succ d ih =>
    intro n v z hd h31 hv
    have hn : n < 4 := by omega
    rw [e_X5_isLabel_17, if_pos (show nI n < 4 from (nI_lt hn (by omega) : nI n < nI 4)), nI_and31 h31, nI_shr5 h31, nI_1]
    by_cases c0 : v = 0
    · subst c0
      rw [nI_0, if_pos rfl, zb_t (show pGl (d + 1) 0 from Or.inl rfl)]
    · rw [if_neg (nI_ne0 (by omega) h31)]
      by_cases c1 : v % 32 = 0
      · rw [c1, nI_0, if_pos rfl, zb_f (fun e : pGl (d + 1) v => by
          rcases e with e | e
          · exact c0 e
          · omega)]
      · rw [if_neg (nI_ne0 (by omega) (by omega))]
        by_cases c2 : 26 < v % 32
        · rw [if_pos (show (26 : Int32) < nI (v % 32) from (nI_lt c2 (by omega) : nI 26 < nI (v % 32))), zb_f (fun e : pGl (d + 1) v => by
            rcases e with e | e
            · exact c0 e
            · omega)]
        · rw [if_neg (show ¬ (26 : Int32) < nI (v % 32) from (nI_nlt (by omega) (by omega) : ¬ nI 26 < nI (v % 32)))]
          rw [ih (n + 1) (v / 32) _ (by omega) (by omega) (by rw [Nat.pow_succ] at hv; omega)]
          refine congrArg (fun x => zok x σ) (zb_congr ⟨fun e => Or.inr ⟨by omega, by omega, e⟩, fun e => ?_⟩)
          rcases e with e | e
          · exact (c0 e).elim
          · exact e.2.2
theorem c_isLabel (x : Int32) : zrun zP 131 [zI x] σ = zok (zb (pLabel x)) σ := by
  rw [e_X5_isLabel]
  by_cases c : x < 0
  · rw [if_pos c, zb_f (fun ⟨v, v1, v2, v3⟩ => nI_pos (n := v) (by omega) (v2 ▸ c))]
  · rw [if_neg c]
    obtain ⟨v, hv, rfl⟩ := nI_of c
    have e20 : (nI v < 1048576) = (v < 1048576) := nI_lp (b := 1048576) hv (by omega)
    simp only [e20]
    have hu : ∀ v', v' < 1048576 → nI v = nI v' → v = v' := fun v' h1 h2 => (nI_ne hv (by omega)).mp h2
    by_cases c2 : v < 1048576
    · have L := c_lab_loop (σ := σ) (nI v) 4 0 v zJunk (by omega) hv (by omega)
      rw [nI_0] at L
      rw [if_pos c2, L]
      refine congrArg (fun x => zok x σ) (zb_congr ⟨fun e => ⟨v, c2, rfl, e⟩, fun ⟨v', a1, a2, a3⟩ => ?_⟩)
      rw [hu v' a1 a2]
      exact a3
    · rw [if_neg c2, zb_f (fun ⟨v', a1, a2, a3⟩ => c2 (by rw [hu v' a1 a2]; exact a1))]
theorem m_lab_loop {w : Nat} (hw : w < 2 ^ 31) : ∀ f v n, v < 2 ^ 31 → v < 32 ^ f → n + f ≤ 100 → zX zP zK_X6_areLetters (4, [zI (nI w), zI (nI v), zI (nI n)], []) σ = zok (zb (n ≤ 4 ∧ pGl (4 - n) v)) σ := by
  intro f
  induction f with
  | zero =>
    intro v n h31 hv hn
    have hv0 : v = 0 := by
      have : (32 : Nat) ^ 0 = 1 := rfl
      omega
    subst hv0
    rw [e_X6_areLetters_4, nI_0, if_neg (by decide), if_neg (nI_pos hw)]
    have e4 : ((4 : Int32) < nI n) = (4 < n) := nI_lp (a := 4) (by omega) (by omega)
    simp only [e4]
    by_cases c : 4 < n
    · rw [if_pos c, zb_f (fun e => by omega)]
    · rw [if_neg c, zb_t ⟨by omega, by cases 4 - n with
        | zero => rfl
        | succ m => exact Or.inl rfl⟩]
  | succ f ih =>
    intro v n h31 hv hn
    by_cases c0 : v = 0
    · subst c0
      rw [e_X6_areLetters_4, nI_0, if_neg (by decide), if_neg (nI_pos hw)]
      have e4 : ((4 : Int32) < nI n) = (4 < n) := nI_lp (a := 4) (by omega) (by omega)
      simp only [e4]
      by_cases c : 4 < n
      · rw [if_pos c, zb_f (fun e => by omega)]
      · rw [if_neg c, zb_t ⟨by omega, by cases 4 - n with
          | zero => rfl
          | succ m => exact Or.inl rfl⟩]
    · have e0 : (0 : Int32) < nI v := (nI_0l h31).mpr (by omega)
      rw [e_X6_areLetters_4, if_pos e0, if_neg (show ¬ (32 : Int32) = 0 by decide), m_isIn, zcI_ok, if_neg (show ¬ (32 : Int32) = 0 by decide), nI_rem32 h31, nI_div32 h31, nI_1]
      have e1 : (nI (v % 32) < 1) = (v % 32 < 1) := nI_lp (b := 1) (by omega) (by omega)
      have e2 : ((26 : Int32) < nI (v % 32)) = (26 < v % 32) := nI_lp (a := 26) (by omega) (by omega)
      rw [e1, e2]
      by_cases c : ¬ v % 32 < 1 ∧ ¬ 26 < v % 32
      · rw [zb_t c, if_neg (by decide), ih (v / 32) (n + 1) (by omega) (by rw [Nat.pow_succ] at hv; omega) (by omega)]
        refine congrArg (fun x => zok x σ) (zb_congr ⟨fun e => ⟨by omega, ?_⟩, fun e => ?_⟩)
        · rw [show 4 - n = (4 - (n + 1)) + 1 by omega]
          exact Or.inr ⟨by omega, by omega, e.2⟩
        · rcases Nat.lt_or_ge n 4 with q | q
          · have e2 := e.2
            rw [show 4 - n = (4 - (n + 1)) + 1 by omega] at e2
            rcases e2 with e2 | e2
            · exact (c0 e2).elim
            · exact ⟨by omega, e2.2.2⟩
          · have e2 := e.2
            rw [show 4 - n = 0 by omega] at e2
            exact (c0 e2).elim
      · rw [zb_f c, if_pos rfl, zb_f (fun e => ?_)]
        rcases Nat.lt_or_ge n 4 with q | q
        · have e2 := e.2
          rw [show 4 - n = (4 - (n + 1)) + 1 by omega] at e2
          rcases e2 with e2 | e2
          · exact c0 e2
          · exact c ⟨by omega, by omega⟩
        · have e2 := e.2
          rw [show 4 - n = 0 by omega] at e2
          exact c0 e2
theorem m_areLetters (x : Int32) : zrun zP 209 [zI x] σ = zok (zb (pLabel x)) σ := by
  rw [e_X6_areLetters]
  by_cases c : x < 0
  · have c' : ¬ (0 : Int32) < x := fun e => by
      have a1 := Int32.lt_iff_toInt_lt.mp c
      have a2 := Int32.lt_iff_toInt_lt.mp e
      omega
    rw [e_X6_areLetters_4, if_neg c', if_pos c, zb_f (fun ⟨v, v1, v2, v3⟩ => nI_pos (n := v) (by omega) (v2 ▸ c))]
  · obtain ⟨v, hv, rfl⟩ := nI_of c
    have h7 : v < 32 ^ 7 := by omega
    have L := m_lab_loop (σ := σ) (w := v) hv 7 v 0 hv h7 (by omega)
    rw [nI_0] at L
    rw [L]
    refine congrArg (fun x => zok x σ) (zb_congr ⟨fun e => ⟨v, ?_, rfl, e.2⟩, fun ⟨v', a1, a2, a3⟩ => ⟨by omega, ?_⟩⟩)
    · have := pGl_lt _ _ e.2
      exact this
    · have : v = v' := (nI_ne hv (by omega)).mp a2
      rw [this]
      exact a3
end ZLB
