/-! the class's Row: what changes it -/
/-- nothing but the row's marks and their number has changed -/
def rowFr (M M' : zMem) (i : Nat) : Prop := ∀ k j s, ¬ (j = i ∧ (k = 20 ∨ k = 21 ∨ k = 22 ∨ (k = 12 ∧ s = 5))) → M' k j s = M k j s
theorem rowFr_rf {M : zMem} {i : Nat} : rowFr M M i := fun _ _ _ _ => rfl
theorem rowFr_tr {M M1 M2 : zMem} {i : Nat} (h1 : rowFr M M1 i) (h2 : rowFr M1 M2 i) : rowFr M M2 i := fun k j s h => (h2 k j s h).trans (h1 k j s h)
theorem zms_eq {M : zMem} {k i s : Nat} {v : Int32} : zms M k i s v k i s = v := by
  unfold zms
  exact if_pos ⟨rfl, rfl, rfl⟩
theorem zms_ne {M : zMem} {k i s k' i' s' : Nat} {v : Int32} (h : ¬ (k' = k ∧ i' = i ∧ s' = s)) : zms M k i s v k' i' s' = M k' i' s' := by
  unfold zms
  exact if_neg h
theorem zms_sl {M : zMem} {k i s s' : Nat} {v : Int32} : zms M k i s v k i s' = if s' = s then v else M k i s' := by
  unfold zms
  by_cases h : s' = s
  · rw [if_pos ⟨rfl, rfl, h⟩, if_pos h]
  · rw [if_neg (fun q => h q.2.2), if_neg h]
/-- one mark's three numbers written -/
def zm3 (M : zMem) (i s : Nat) (x y z : Int32) : zMem := zms (zms (zms M 20 i s x) 21 i s y) 22 i s z
theorem zm3_20 {M : zMem} {i s j : Nat} {x y z : Int32} : zm3 M i s x y z 20 i j = if j = s then x else M 20 i j := by
  unfold zm3
  rw [zms_ne (by omega), zms_ne (by omega), zms_sl]
theorem zm3_21 {M : zMem} {i s j : Nat} {x y z : Int32} : zm3 M i s x y z 21 i j = if j = s then y else M 21 i j := by
  unfold zm3
  rw [zms_ne (by omega), zms_sl, zms_ne (by omega)]
theorem zm3_22 {M : zMem} {i s j : Nat} {x y z : Int32} : zm3 M i s x y z 22 i j = if j = s then z else M 22 i j := by
  unfold zm3
  rw [zms_sl, zms_ne (by omega), zms_ne (by omega)]
theorem zm3_12 {M : zMem} {i s i' j : Nat} {x y z : Int32} : zm3 M i s x y z 12 i' j = M 12 i' j := by
  unfold zm3
  rw [zms_ne (by omega), zms_ne (by omega), zms_ne (by omega)]
theorem zm3_fr {M : zMem} {i s : Nat} {x y z : Int32} : rowFr M (zm3 M i s x y z) i := by
  intro k j q h
  unfold zm3
  rw [zms_ne (fun e => h ⟨e.2.1, by omega⟩), zms_ne (fun e => h ⟨e.2.1, by omega⟩), zms_ne (fun e => h ⟨e.2.1, by omega⟩)]
theorem zc_fr {M : zMem} {i : Nat} {x : Int32} : rowFr M (zms M 12 i 5 x) i := by
  intro k j q h
  rw [zms_ne (fun e => h ⟨e.2.1, Or.inr (Or.inr (Or.inr ⟨e.1, e.2.2⟩))⟩)]
/-- where a new mark comes: behind the last one that doesn't begin later -/
def pPl (f : Nat → Int32) (a : Int32) : Nat → Nat
  | 0 => 0
  | n + 1 => if a < f n then pPl f a n else n + 1
theorem pPl_le (f : Nat → Int32) (a : Int32) : ∀ n, pPl f a n ≤ n := by
  intro n
  induction n with
  | zero => exact Nat.le_refl _
  | succ n ih =>
    unfold pPl
    split <;> omega
theorem pPl_congr {f g : Nat → Int32} {a : Int32} : ∀ n, (∀ j, j < n → f j = g j) → pPl f a n = pPl g a n := by
  intro n
  induction n with
  | zero => intro _; rfl
  | succ n ih =>
    intro h
    simp only [pPl]
    rw [h n (by omega), ih (fun j hj => h j (by omega))]
def insF (f : Nat → Int32) (p : Nat) (x : Int32) : Nat → Int32 := fun j => if j < p then f j else if j = p then x else f (j - 1)
def remF (f : Nat → Int32) (m : Nat) : Nat → Int32 := fun j => if j < m then f j else f (j + 1)
def tIns (r : zTier) (a b l : Int32) : zTier := (rnm r, rkd r, rpr r, rct r + 1, insF (rfr r) (pPl (rfr r) a (rct r)) a, insF (rto r) (pPl (rfr r) a (rct r)) b, insF (rlb r) (pPl (rfr r) a (rct r)) l)
def tRem (r : zTier) (m : Nat) : zTier := (rnm r, rkd r, rpr r, rct r - 1, remF (rfr r) m, remF (rto r) m, remF (rlb r) m)
section ZRM
variable {i : Nat} {r : zTier} {M : zMem} {ρ : Int64 × Nat}
/-- in the midst of putting one in: the place is q -/
def insI (M M' : zMem) (i : Nat) (r : zTier) (q : Nat) : Prop := rowFr M M' i ∧ M' 12 i 5 = nI (rct r) ∧ (∀ j, j < q → M' 20 i j = rfr r j ∧ M' 21 i j = rto r j ∧ M' 22 i j = rlb r j) ∧ ∀ j, q < j → j ≤ rct r → M' 20 i j = rfr r (j - 1) ∧ M' 21 i j = rto r (j - 1) ∧ M' 22 i j = rlb r (j - 1)
def insE (M M' : zMem) (i : Nat) (r : zTier) (p : Nat) (a b l : Int32) : Prop := rowFr M M' i ∧ M' 12 i 5 = nI (rct r + 1) ∧ ∀ j, j < rct r + 1 → M' 20 i j = insF (rfr r) p a j ∧ M' 21 i j = insF (rto r) p b j ∧ M' 22 i j = insF (rlb r) p l j
theorem ins_end {M' : zMem} {q : Nat} {a b l : Int32} (hq : q ≤ rct r) (h : insI M M' i r q) : insE M (zms (zm3 M' i q a b l) 12 i 5 (nI (rct r) + 1)) i r q a b l := by
  obtain ⟨h1, h2, h3, h4⟩ := h
  refine ⟨rowFr_tr (rowFr_tr h1 zm3_fr) zc_fr, by rw [zms_eq, nI_1], fun j hj => ?_⟩
  rw [zms_ne (by omega), zms_ne (by omega), zms_ne (by omega), zm3_20, zm3_21, zm3_22]
  unfold insF
  rcases Nat.lt_trichotomy j q with e | e | e
  · have := h3 j e
    simp only [if_neg (show ¬ j = q by omega), if_pos e]
    exact this
  · rw [if_pos e, if_pos e, if_pos e, if_neg (show ¬ j < q by omega), if_neg (show ¬ j < q by omega), if_neg (show ¬ j < q by omega), if_pos e, if_pos e, if_pos e]
    exact ⟨rfl, rfl, rfl⟩
  · have := h4 j e (by omega)
    simp only [if_neg (show ¬ j = q by omega), if_neg (show ¬ j < q by omega)]
    exact this
theorem ins_loop (hlt : rct r < 40) (a b l : Int32) : ∀ q M', q ≤ rct r → insI M M' i r q → ∃ M'', zX zP zK_X2_insert (17, [zR 12 i, zI a, zI b, zI l, zI (nI q)], []) (M', ρ) = zok (nI (pPl (rfr r) a q)) (M'', ρ) ∧ insE M M'' i r (pPl (rfr r) a q) a b l := by
  intro q
  induction q with
  | zero =>
    intro M' hq h
    have hI := h
    refine ⟨_, ?_, ins_end hq hI⟩
    rw [e_X2_insert_17, nI_0, if_neg (by decide), if_neg (by decide), if_neg (by decide), if_neg (by decide)]
    show zok _ _ = zok _ _
    rw [show (M', ρ).1 = M' from rfl, h.2.1]
    rfl
  | succ q ih =>
    intro M' hq h
    have k1 := nIk (k := q) (N := 40) (by omega) (by omega)
    have k2 := nIk (k := q + 1) (N := 40) (by omega) (by omega)
    have c1 := nI_clamp (n := q) (by omega)
    have c2 := nI_clamp (n := q + 1) (by omega)
    have f := h.2.2.1 q (by omega)
    have hpos : (0 : Int32) < nI (q + 1) := by rw [nI_0l (by omega)]; omega
    rw [e_X2_insert_17, if_pos hpos]
    simp only [nI_pred, pk_m1, k1, k2, c1, c2, if_false, f, h.2.1]
    simp only [pPl]
    by_cases hc : a < rfr r q
    · rw [if_pos hc, if_pos hc]
      refine ih (zm3 M' i (q + 1) (rfr r q) (rto r q) (rlb r q)) (by omega) ?_
      obtain ⟨h1, h2, h3, h4⟩ := h
      refine ⟨rowFr_tr h1 zm3_fr, by rw [zm3_12]; exact h2, fun j hj => ?_, fun j hj hj2 => ?_⟩
      · rw [zm3_20, zm3_21, zm3_22]
        simp only [if_neg (show ¬ j = q + 1 by omega)]
        exact h3 j (by omega)
      · rw [zm3_20, zm3_21, zm3_22]
        by_cases e : j = q + 1
        · simp only [if_pos e]
          rw [e]
          exact ⟨rfl, rfl, rfl⟩
        · simp only [if_neg e]
          exact h4 j (by omega) hj2
    · rw [if_neg hc, if_neg hc]
      exact ⟨_, rfl, ins_end hq h⟩
theorem r_insert (h : cRow M i r) (hlt : rct r < 40) (a b l : Int32) : ∃ M', zrun zP 30 [zR 12 i, zI a, zI b, zI l] (M, ρ) = zok (nI (pPl (rfr r) a (rct r))) (M', ρ) ∧ cRow M' i (tIns r a b l) ∧ rowFr M M' i := by
  obtain ⟨h0, h1, h2, hc, hn, hk⟩ := h
  obtain ⟨M', e1, e2, e3, e4⟩ := ins_loop (M := M) (i := i) (ρ := ρ) hlt a b l (rct r) M (Nat.le_refl _) ⟨rowFr_rf, hc, hk, fun j hj hj2 => by omega⟩
  refine ⟨M', ?_, ?_, e2⟩
  · rw [e_X2_insert, show (M, ρ).1 = M from rfl, hc, if_pos (show nI (rct r) < 40 from nI_lt (b := 40) hlt (by omega))]
    exact e1
  · refine ⟨(e2 12 i 0 (by omega)).trans h0, (e2 12 i 1 (by omega)).trans h1, (e2 12 i 2 (by omega)).trans h2, e3, ?_, e4⟩
    show rct r + 1 ≤ 40
    omega
/-- in the midst of taking one out: those below q are as they will be -/
def remI (M M' : zMem) (i : Nat) (r : zTier) (m q : Nat) : Prop := rowFr M M' i ∧ M' 12 i 5 = nI (rct r) ∧ (∀ j, j < q → M' 20 i j = remF (rfr r) m j ∧ M' 21 i j = remF (rto r) m j ∧ M' 22 i j = remF (rlb r) m j) ∧ ∀ j, q < j → j < rct r → M' 20 i j = rfr r j ∧ M' 21 i j = rto r j ∧ M' 22 i j = rlb r j
theorem rem_loop (hn : rct r ≤ 40) {m : Nat} : ∀ d q M', q + d + 1 = rct r → m ≤ q → remI M M' i r m q → ∃ M'', zX zP zK_X2_remove (11, [zR 12 i, zI (nI m), zI (nI q)], []) (M', ρ) = zvd (M'', ρ) ∧ rowFr M M'' i ∧ M'' 12 i 5 = nI (rct r - 1) ∧ ∀ j, j < rct r - 1 → M'' 20 i j = remF (rfr r) m j ∧ M'' 21 i j = remF (rto r) m j ∧ M'' 22 i j = remF (rlb r) m j := by
  intro d
  induction d with
  | zero =>
    intro q M' hd hm h
    obtain ⟨h1, h2, h3, h4⟩ := h
    refine ⟨zms M' 12 i 5 (nI (rct r - 1)), ?_, rowFr_tr h1 zc_fr, zms_eq, fun j hj => ?_⟩
    · rw [e_X2_remove_11, nI_1, show (M', ρ).1 = M' from rfl, h2, if_neg (nI_nlt (by omega) (by omega))]
      have e : nI (rct r) - 1 = nI (rct r - 1) := by
        have := nI_pred (rct r - 1)
        rw [show rct r - 1 + 1 = rct r by omega] at this
        exact this
      rw [e]
    · rw [zms_ne (by omega), zms_ne (by omega), zms_ne (by omega)]
      exact h3 j (by omega)
  | succ d ih =>
    intro q M' hd hm h
    have k1 := nIk (k := q) (N := 40) (by omega) (by omega)
    have k2 := nIk (k := q + 1) (N := 40) (by omega) (by omega)
    have c1 := nI_clamp (n := q) (by omega)
    have c2 := nI_clamp (n := q + 1) (by omega)
    have f := h.2.2.2 (q + 1) (by omega) (by omega)
    rw [e_X2_remove_11, nI_1, show (M', ρ).1 = M' from rfl, h.2.1, if_pos (nI_lt (by omega) (by omega))]
    simp only [k1, k2, c1, c2, if_false, f]
    refine ih (q + 1) (zm3 M' i q (rfr r (q + 1)) (rto r (q + 1)) (rlb r (q + 1))) (by omega) (by omega) ?_
    obtain ⟨h1, h2, h3, h4⟩ := h
    refine ⟨rowFr_tr h1 zm3_fr, by rw [zm3_12]; exact h2, fun j hj => ?_, fun j hj hj2 => ?_⟩
    · rw [zm3_20, zm3_21, zm3_22]
      by_cases e : j = q
      · simp only [if_pos e]
        subst e
        unfold remF
        rw [if_neg (show ¬ j < m by omega), if_neg (show ¬ j < m by omega), if_neg (show ¬ j < m by omega)]
        exact ⟨rfl, rfl, rfl⟩
      · simp only [if_neg e]
        exact h3 j (by omega)
    · rw [zm3_20, zm3_21, zm3_22]
      simp only [if_neg (show ¬ j = q by omega)]
      exact h4 j (by omega) hj2
theorem r_remove (h : cRow M i r) {m : Nat} (hm : m < rct r) : ∃ M', zrun zP 31 [zR 12 i, zI (nI m)] (M, ρ) = zvd (M', ρ) ∧ cRow M' i (tRem r m) ∧ rowFr M M' i := by
  have hh := h
  obtain ⟨h0, h1, h2, hc, hn, hk⟩ := h
  obtain ⟨M', e1, e2, e3, e4⟩ := rem_loop (M := M) (i := i) (ρ := ρ) hn (m := m) (rct r - 1 - m) m M (by omega) (Nat.le_refl _) ⟨rowFr_rf, hc, fun j hj => by
    have := hk j (by omega)
    unfold remF
    simp only [if_pos hj]
    exact this, fun j _ hj => hk j hj⟩
  refine ⟨M', ?_, ?_, e2⟩
  · rw [e_X2_remove, r_hasMark hh, zcI_ok, zb_t ⟨nI_pos (by omega), nI_lt hm (by omega)⟩, if_neg (by decide)]
    exact e1
  · exact ⟨(e2 12 i 0 (by omega)).trans h0, (e2 12 i 1 (by omega)).trans h1, (e2 12 i 2 (by omega)).trans h2, e3, (by show rct r - 1 ≤ 40; omega), e4⟩
end ZRM
