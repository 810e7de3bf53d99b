/-! loops with a variable that doesn't matter -/
theorem zsum_loopV {α V : Type} {X : Nat → Int32 → V → α} {w : Int32 → α} {f : Nat → Int32} {n : Nat} (hs : ∀ k acc v, k < n → ∃ v', X k acc v = X (k + 1) (acc + f k) v') (hn : ∀ acc v, X n acc v = w acc) : ∀ d k acc v, k + d = n → X k acc v = w (acc + zsum f k d) := by
  intro d
  induction d with
  | zero => intro k acc v h; rw [show k = n by omega, hn]; simp [zsum]
  | succ d ih =>
    intro k acc v h
    obtain ⟨v', e⟩ := hs k acc v (by omega)
    rw [e, ih (k + 1) _ v' (by omega)]
    simp only [zsum, Int32.add_assoc]
/-- below another one -/
def zbelow (T : zSheet) (a : Nat) : Nat → Nat → Prop
  | 0, _ => False
  | n + 1, t => ¬ rpr (T.2 t) = -1 ∧ (zpt T t = a ∨ zbelow T a n (zpt T t))
abbrev pBelow (T : zSheet) (t a : Nat) : Prop := zbelow T a 6 t
/-- the same one, or a piece of it, by cuts alone -/
def zpiece (T : zSheet) (a : Nat) : Nat → Nat → Prop
  | 0, t => t = a
  | n + 1, t => t = a ∨ (rkd (T.2 t) = 1 ∧ ¬ rpr (T.2 t) = -1 ∧ zpiece T a n (zpt T t))
abbrev pPiece (T : zSheet) (t a : Nat) : Prop := zpiece T a 6 t
theorem zbelow_lt {T : zSheet} {a : Nat} (hw : zwp T) (h6 : T.1 ≤ 6) : ∀ f p, p < T.1 → zbelow T a f p → a < p := by
  intro f
  induction f with
  | zero => intro p _ h; exact h.elim
  | succ f ih =>
    intro p hp h
    obtain ⟨h1, h2⟩ := h
    obtain ⟨p1, p2⟩ := zwp_par hw hp h6 h1
    rcases h2 with h2 | h2
    · omega
    · have := ih _ (by omega) h2
      omega
theorem zpiece_le {T : zSheet} {a : Nat} (hw : zwp T) (h6 : T.1 ≤ 6) : ∀ f p, p < T.1 → zpiece T a f p → a ≤ p := by
  intro f
  induction f with
  | zero => intro p _ h; exact Nat.le_of_eq h.symm
  | succ f ih =>
    intro p hp h
    rcases h with h | ⟨h0, h1, h2⟩
    · omega
    · obtain ⟨p1, p2⟩ := zwp_par hw hp h6 h1
      have := ih _ (by omega) h2
      omega
section ZS2
variable {s : Nat} {T : zSheet} {σ : zSt}
theorem s_below_m1 {a : Nat} (ha : a < 2 ^ 31) (x1 x4 : Int32) : zX zP zK_X3_isBelow (13, [zR 13 s, zI x1, zI (nI a), zI (-1), zI x4], []) σ = zok 0 σ := by
  have h1 : ¬ nI a < -1 := fun e => nI_pos ha (Int32.lt_trans e (by decide))
  have h2 : ¬ (-1 : Int32) = nI a := fun e => nI_m1 a ha e.symm
  rw [e_X3_isBelow_13]
  simp only [h1, h2, if_false]
  split <;> rfl
theorem s_below_loop (h : cSheet σ.1 s T) (hw : zwp T) {a : Nat} (ha : a < T.1) (x1 : Int32) : ∀ p n f, p < T.1 → p + n ≤ 5 → p ≤ f → zX zP zK_X3_isBelow (13, [zR 13 s, zI x1, zI (nI a), zI (nI p), zI (nI n)], []) σ = zok (zb (p = a ∨ zbelow T a f p)) σ := by
  have h6 := h.2.1
  intro p
  induction p using Nat.strongRecOn with
  | ind p ih =>
    intro n f hp hn hf
    obtain ⟨q1, q2, q3⟩ := s_in h hp
    have f2 := (h.2.2 p hp).1.2.2.1
    have hn6 : nI n < 6 := nI_lt (b := 6) (by omega) (by omega)
    rw [e_X3_isBelow_13, if_pos hn6]
    by_cases hap : a < p
    · rw [if_pos (nI_lt hap (by omega))]
      simp only [q2, q1, if_false, f2, nI_1]
      obtain ⟨f', rfl⟩ : ∃ f', f = f' + 1 := ⟨f - 1, by omega⟩
      by_cases hm : rpr (T.2 p) = -1
      · rw [hm, s_below_m1 (by omega), zb_f]
        rintro (e | e)
        · omega
        · exact e.1 hm
      · obtain ⟨p1, p2⟩ := zwp_par hw hp h6 hm
        rw [p2, ih _ p1 (n + 1) f' (by omega) (by omega) (by omega)]
        refine congrArg (fun x => zok x σ) (zb_congr ?_)
        constructor
        · intro e
          exact Or.inr ⟨hm, e⟩
        · rintro (e | e)
          · omega
          · exact e.2
    · rw [if_neg (nI_nlt (by omega) (by omega))]
      simp only [zk_10, zk_01, zk_0b, zk_b0, zk_1b, zk_b1, zk_bb, nI_ne (show p < 2 ^ 31 by omega) (show a < 2 ^ 31 by omega)]
      refine congrArg (fun x => zok x σ) (zb_congr ?_)
      constructor
      · exact Or.inl
      · rintro (e | e)
        · exact e
        · have := zbelow_lt hw h6 f p hp e
          omega
theorem s_isBelow (h : cSheet σ.1 s T) (hw : zwp T) {t a : Nat} (ht : t < T.1) (ha : a < T.1) : zrun zP 57 [zR 13 s, zI (nI t), zI (nI a)] σ = zok (zb (pBelow T t a)) σ := by
  have h6 := h.2.1
  obtain ⟨q1, q2, q3⟩ := s_in h ht
  have f2 := (h.2.2 t ht).1.2.2.1
  rw [e_X3_isBelow]
  simp only [q2, q1, if_false, f2]
  by_cases hm : rpr (T.2 t) = -1
  · rw [hm, s_below_m1 (by omega), zb_f (fun e => e.1 hm)]
  · obtain ⟨p1, p2⟩ := zwp_par hw ht h6 hm
    rw [p2]
    have L := s_below_loop h hw ha (nI t) (zpt T t) 0 5 (by omega) (by omega) (by omega)
    rw [nI_0] at L
    rw [L]
    exact congrArg (fun x => zok x σ) (zb_congr ⟨fun e => ⟨hm, e⟩, fun e => e.2⟩)
theorem s_piece_loop (h : cSheet σ.1 s T) (hw : zwp T) {a : Nat} (ha : a < T.1) (x1 : Int32) : ∀ p n f, p < T.1 → p + n ≤ 5 → p ≤ f → zX zP zK_X3_isPieceOf (5, [zR 13 s, zI x1, zI (nI a), zI (nI p), zI (nI n)], []) σ = zok (zb (zpiece T a f p)) σ := by
  have h6 := h.2.1
  intro p
  induction p using Nat.strongRecOn with
  | ind p ih =>
    intro n f hp hn hf
    obtain ⟨q1, q2, q3⟩ := s_in h hp
    have f1 := (h.2.2 p hp).1.2.1
    have f2 := (h.2.2 p hp).1.2.2.1
    have hn6 : nI n < 6 := nI_lt (b := 6) (by omega) (by omega)
    rw [e_X3_isPieceOf_5, if_pos hn6]
    by_cases hap : a < p
    · rw [if_pos (nI_lt hap (by omega))]
      obtain ⟨f', rfl⟩ : ∃ f', f = f' + 1 := ⟨f - 1, by omega⟩
      simp only [q2, q1, if_false, f1, f2, nI_1]
      by_cases hc : rkd (T.2 p) = 1
      · rw [if_pos hc]
        by_cases hm : rpr (T.2 p) = -1
        · have g1 : ¬ nI a < -1 := fun e => nI_pos (show a < 2 ^ 31 by omega) (Int32.lt_trans e (by decide))
          have g2 : ¬ (-1 : Int32) = nI a := fun e => nI_m1 a (by omega) e.symm
          rw [hm, e_X3_isPieceOf_5]
          simp only [g1, g2, if_false]
          rw [zb_f]
          · split <;> rfl
          · rintro (e | e)
            · omega
            · exact e.2.1 hm
        · obtain ⟨p1, p2⟩ := zwp_par hw hp h6 hm
          rw [p2, ih _ p1 (n + 1) f' (by omega) (by omega) (by omega)]
          refine congrArg (fun x => zok x σ) (zb_congr ?_)
          constructor
          · intro e
            exact Or.inr ⟨hc, hm, e⟩
          · rintro (e | e)
            · omega
            · exact e.2.2
      · rw [if_neg hc, if_neg (fun e => by have := (nI_eq (show p < 2 ^ 31 by omega) (show a < 2 ^ 31 by omega)).mp e; omega), zb_f]
        rintro (e | e)
        · omega
        · exact hc e.1
    · rw [if_neg (nI_nlt (by omega) (by omega))]
      simp only [zk_10, zk_01, zk_0b, zk_b0, zk_1b, zk_b1, zk_bb, nI_ne (show p < 2 ^ 31 by omega) (show a < 2 ^ 31 by omega)]
      refine congrArg (fun x => zok x σ) (zb_congr ?_)
      constructor
      · intro e
        cases f with
        | zero => exact e
        | succ f => exact Or.inl e
      · intro e
        have := zpiece_le hw h6 f p hp e
        omega
theorem s_isPieceOf (h : cSheet σ.1 s T) (hw : zwp T) {t a : Nat} (ht : t < T.1) (ha : a < T.1) : zrun zP 58 [zR 13 s, zI (nI t), zI (nI a)] σ = zok (zb (pPiece T t a)) σ := by
  have h6 := h.2.1
  rw [e_X3_isPieceOf]
  have L := s_piece_loop h hw ha (nI t) t 0 6 ht (by omega) (by omega)
  rw [nI_0] at L
  exact L
theorem s_hasRoomForMark (h : cSheet σ.1 s T) (hw : zwp T) {a : Nat} (ha : a < T.1) : zrun zP 64 [zR 13 s, zI (nI a)] σ = zok (zb (∀ t, t < T.1 → a ≤ t → ¬ (pPiece T t a ∧ ¬ nI (rct (T.2 t)) < 40))) σ := by
  have h6 := h.2.1
  rw [e_X3_hasRoomForMark]
  have L := zfst_loop (X := fun t => zX zP zK_X3_hasRoomForMark (2, [zR 13 s, zI (nI a), zI (nI t)], []) σ) (p := fun t => pPiece T t a ∧ ¬ nI (rct (T.2 t)) < 40) (n := T.1) (v := fun _ => zok 0 σ) (w := zok 1 σ) (fun t ht => by
    obtain ⟨q1, q2, q3⟩ := s_in h ht
    rw [e_X3_hasRoomForMark_2, h.1, if_pos q3, s_isPieceOf h hw ht ha, zcI_ok]
    simp only [q2, q1, if_false, nI_1]
    rw [r_isFull (h.2.2 t ht).1, zcI_ok]
    constructor <;> intro hp
    · rw [zb_t hp.1, if_neg (by decide), zb_t hp.2, if_neg (by decide)]
    · by_cases c1 : pPiece T t a
      · rw [zb_t c1, if_neg (by decide), zb_f (fun e => hp ⟨c1, e⟩), if_pos rfl]
      · rw [zb_f c1, if_pos rfl]) (by
    rw [e_X3_hasRoomForMark_2, h.1, if_neg (nI_nlt (Nat.le_refl _) (by omega))]) (T.1 - a) a (by omega)
  rw [L]
  cases hz : zfst (fun t => pPiece T t a ∧ ¬ nI (rct (T.2 t)) < 40) a (T.1 - a) with
  | none =>
    rw [zb_t]
    intro t h1 h2
    exact (zfst_none _ _).mp hz t h2 (by omega)
  | some j =>
    obtain ⟨g1, g2, g3, -⟩ := (zfst_spec _ _ j).mp hz
    rw [zb_f (fun e => e j (by omega) g1 g3)]
def pCutW (T : zSheet) (t a : Nat) (x : Int32) : Prop := (t = a ∨ (rkd (T.2 t) = 1 ∧ pBelow T t a)) ∧ ¬ zfI (fun k => rfr (T.2 t) k < x ∧ x < rto (T.2 t) k) (rct (T.2 t)) = -1
theorem s_isCutWith (h : cSheet σ.1 s T) (hw : zwp T) {t a : Nat} (ht : t < T.1) (ha : a < T.1) (x : Int32) : zrun zP 71 [zR 13 s, zI (nI t), zI (nI a), zI x] σ = zok (zb (pCutW T t a x)) σ := by
  have h6 := h.2.1
  obtain ⟨q1, q2, q3⟩ := s_in h ht
  have hr := (h.2.2 t ht).1
  have f1 := hr.2.1
  rw [e_X3_isCutWith]
  simp only [q2, q1, if_false, f1, nI_ne (show t < 2 ^ 31 by omega) (show a < 2 ^ 31 by omega), r_markInside hr, zcI_ok, s_isBelow h hw ht ha]
  unfold pCutW
  generalize zfI (fun k => rfr (T.2 t) k < x ∧ x < rto (T.2 t) k) (rct (T.2 t)) = v
  by_cases c1 : t = a <;> by_cases c2 : rkd (T.2 t) = 1 <;> by_cases c3 : pBelow T t a <;> by_cases c4 : v = -1
  all_goals simp only [c1, c2, zb_t, zb_f, c3, c4, if_true, if_false, not_true, not_false_iff, true_or, false_or, or_true, or_false, and_true, and_false, true_and, false_and]
  all_goals first | rfl | (simp [zb_t, zb_f, c3]; done) | (rw [zb_t trivial]; simp [zb_t, zb_f, c3])
end ZS2
