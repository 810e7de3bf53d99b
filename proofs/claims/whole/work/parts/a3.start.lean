/-! the memory behind the constructors -/
def zshb (s : Nat) : Nat := 26 * s + (if s < 2 then 1 else if s < 14 then 3 else 5)
def zord (k i : Nat) : Nat := match k with
  | 10 => 53
  | 11 => 367
  | 12 => zshb (i / 6) + 2 + 4 * (i % 6)
  | 13 => zshb i
  | 14 => 395 + 2 * i
  | 15 => 0
  | 16 => 402
  | 20 => zshb (i / 6) + 3 + 4 * (i % 6)
  | 21 => zshb (i / 6) + 4 + 4 * (i % 6)
  | 22 => zshb (i / 6) + 5 + 4 * (i % 6)
  | 23 => 396 + 2 * i
  | 24 => 401
  | 25 => zshb i + 1
  | 26 => 54
  | 27 => 368
  | k => 373 + k
def zM0 : zMem := fun k _ s => if (k = 11 ∧ s = 4) ∨ (k = 16 ∧ s = 16) then -1 else 0
def zadr (b : Nat) (aK : Nat → Nat) (k i : Nat) : Nat := if k = 1 then aK i else b + zord k i
def zsym (k i : Nat) : zSy :=
  if k ≤ 16 then (k - 10, 0, (List.range (zNf (k - 10))).map (fun s => match zrf (k - 10) s i with
    | some (k2, i2) => some (.inl (zord k2 i2))
    | none => some (.inr (zM0 k i s))))
  else if k = 25 then (25, 6, [some (.inl (zord 12 (6 * i)))])
  else if k = 26 then (26, 12, [some (.inl (zord 13 2))])
  else if k = 27 ∨ k = 35 ∨ k = 36 then (27, 400, [])
  else if k = 41 then (41, 1, [])
  else (20, zlenI k i, [])
def zsysA : List zSy := zspB 0 ++ zmoB 402 ++ [(41, 1, [])]
set_option maxRecDepth 100000 in
theorem zsysA_ok : (List.range 415).all (fun q => decide (zsysA[zord (zkd q) (zix q)]? = some (zsym (zkd q) (zix q)))) = true := by decide +kernel
set_option maxRecDepth 100000 in
theorem zord_inj : (List.range 415).all (fun q => (List.range 415).all (fun q' => !(Nat.beq (zord (zkd q) (zix q)) (zord (zkd q') (zix q'))) || Nat.beq q q')) = true := by decide +kernel
theorem zsysA_at {k i : Nat} (h : i < zcnt k) : zsysA[zord k i]? = some (zsym k i) := by
  obtain ⟨h1, h2, h3⟩ := zpos h
  have h4 := of_decide_eq_true (List.all_eq_true.mp zsysA_ok (zoff k + i) (List.mem_range.mpr h1))
  rw [h2, h3] at h4
  exact h4
theorem zord_in {k i k' i' : Nat} (h : i < zcnt k) (h' : i' < zcnt k') (e : zord k i = zord k' i') : k = k' ∧ i = i' := by
  obtain ⟨h1, h2, h3⟩ := zpos h
  obtain ⟨g1, g2, g3⟩ := zpos h'
  have q := List.all_eq_true.mp (List.all_eq_true.mp zord_inj (zoff k + i) (List.mem_range.mpr h1)) (zoff k' + i') (List.mem_range.mpr g1)
  rw [h2, h3, g2, g3, e] at q
  have q2 : zoff k + i = zoff k' + i' := by
    have q3 : Nat.beq (zord k' i') (zord k' i') = true := Nat.beq_refl _
    rw [q3] at q
    exact Nat.eq_of_beq_eq_true (by simpa using q)
  have a1 := h2
  have a2 := h3
  rw [q2] at a1 a2
  exact ⟨a1.symm.trans g2, a2.symm.trans g3⟩
theorem zcnt_10 {k i : Nat} (h : i < zcnt k) : 10 ≤ k := by
  unfold zcnt at h
  split at h <;> omega
theorem zadr_at {b : Nat} {aK : Nat → Nat} {k i : Nat} (h : 10 ≤ k) : zadr b aK k i = b + zord k i := if_neg (by omega)
theorem zAd_ok {b : Nat} {aK : Nat → Nat} {H0 : Heap} (hb : H0.size ≤ b) : zAd (zadr b aK) H0 := by
  constructor
  · intro k i k' i' h h' e
    rw [zadr_at (zcnt_10 h), zadr_at (zcnt_10 h')] at e
    exact zord_in h h' (by omega)
  · intro k i h
    rw [zadr_at (zcnt_10 h)]
    omega
theorem arrV_congr {cA : ClassId} {n : Nat} {f f' : Nat → Value} (h : ∀ j, j < n → f j = f' j) : arrV cA n f = arrV cA n f' := by
  unfold arrV
  congr 1
  congr 1
  funext j
  exact h j.val j.isLt
section ZST
variable {D : va_G} {g : zIds} {b : Nat} {aK : Nat → Nat} {H : Heap}
theorem zden_cell {k i : Nat} (hi : i < zcnt k) (h : va_at D vwCl (b + zord k i, zden b g (zsym k i)) H) : va_at D vwCl (zadr b aK k i, zcell g (zadr b aK) k i (zM0, 0, 0)) H := by
  have h10 := zcnt_10 hi
  rw [zadr_at h10]
  unfold zsym at h
  unfold zcell
  by_cases h1 : k ≤ 16
  · rw [if_pos h1] at h ⊢
    rw [zden_obj (by omega)] at h
    have e : ((List.range (zNf (k - 10))).map (fun s => match zrf (k - 10) s i with
      | some (k2, i2) => (some (.inl (zord k2 i2)) : Option (Nat ⊕ Int32))
      | none => some (.inr (zM0 k i s)))).map (zfd b) = (List.range (zNf (k - 10))).map (fun s => zfv (zadr b aK) (k - 10) s i (zM0 k i s)) := by
      rw [List.map_map]
      refine List.map_congr_left (fun s hs => ?_)
      have hs : s < zNf (k - 10) := List.mem_range.mp hs
      have hN := zNf_le (k - 10)
      simp only [Function.comp, zfv]
      cases hz : zrf (k - 10) s i with
      | none => rfl
      | some q =>
        obtain ⟨k2, i2⟩ := q
        have hk2 := zrf_ok (a := k - 10) (by omega) (by omega) (by rw [show 10 + (k - 10) = k by omega]; exact hi) hz
        show Value.ref (b + zord k2 i2) = Value.ref (zadr b aK k2 i2)
        rw [zadr_at hk2.2]
    rw [e] at h
    exact h
  · rw [if_neg h1] at h ⊢
    by_cases h2 : k = 25
    · rw [if_pos h2] at h ⊢
      subst h2
      have hs : i < 15 := hi
      have h : H[b + zord 25 i]? = some (arrV g.2.2.2.1 6 (fun t => va_rf (if t < 6 then some (b + (zord 12 (6 * i) + 4 * t)) else none))) := h
      rw [arrV_congr (f' := fun t => va_rf (some (zadr b aK 12 (6 * i + t)))) (fun t ht => by
        rw [if_pos ht, zadr_at (by decide)]
        show va_rf (some (b + (zshb (6 * i / 6) + 2 + 4 * (6 * i % 6) + 4 * t))) = va_rf (some (b + (zshb ((6 * i + t) / 6) + 2 + 4 * ((6 * i + t) % 6))))
        rw [show 6 * i / 6 = i by omega, show 6 * i % 6 = 0 by omega, show (6 * i + t) / 6 = i by omega, show (6 * i + t) % 6 = t by omega])] at h
      exact h
    · rw [if_neg h2] at h ⊢
      by_cases h3 : k = 26
      · rw [if_pos h3] at h ⊢
        subst h3
        have h : H[b + zord 26 i]? = some (arrV g.2.2.2.2 12 (fun t => va_rf (if t < 12 then some (b + (zord 13 2 + 26 * t)) else none))) := h
        rw [arrV_congr (f' := fun t => va_rf (some (zadr b aK 13 (2 + t)))) (fun t ht => by
          rw [if_pos ht, zadr_at (by decide)]
          show va_rf (some (b + (55 + 26 * t))) = va_rf (some (b + (26 * (2 + t) + (if 2 + t < 2 then 1 else if 2 + t < 14 then 3 else 5))))
          rw [if_neg (show ¬ 2 + t < 2 by omega), if_pos (show 2 + t < 14 by omega), show 55 + 26 * t = 26 * (2 + t) + 3 by omega])] at h
        exact h
      · rw [if_neg h3] at h ⊢
        by_cases h4 : k = 27 ∨ k = 35 ∨ k = 36
        · rw [if_pos h4] at h ⊢
          have h : H[b + zord k i]? = some (arrV g.2.1 400 (fun _ => .int 0)) := h
          have hz : ∀ s, zM0 k i s = 0 := fun s => if_neg (by omega)
          show H[b + zord k i]? = some (arrV g.2.1 400 (fun s => .int (zM0 k i s)))
          simp only [hz]
          exact h
        · rw [if_neg h4] at h ⊢
          by_cases h5 : k = 41
          · rw [if_pos h5] at h ⊢
            exact h
          · rw [if_neg h5] at h ⊢
            have h : H[b + zord k i]? = some (arrV g.1 (zlenI k i) (fun _ => .int 0)) := h
            have hz : ∀ s, zM0 k i s = 0 := fun s => if_neg (by omega)
            show H[b + zord k i]? = some (arrV g.1 (zlenI k i) (fun s => .int (zM0 k i s)))
            simp only [hz]
            exact h
/-- the cells as the constructors leave them are the small machine's first memory -/
theorem zstart_P (h : zBw D g b 0 zsysA H) : va_P D vwCl (zwd g (zadr b aK) (zM0, 0, 0)) H := by
  intro q e he
  obtain ⟨h1, h2⟩ := zwd_at he
  subst h2
  have hi := (zpos_inv q h1).2
  refine zden_cell hi ?_
  have h3 := zb_at (b := b) (r := 0) (g := g) (zsysA_at hi)
  exact h _ _ h3
end ZST
theorem zstart_R : zRel zM0 := by
  refine ⟨(0, fun _ => (0, 0, 0, 0, fun _ => 0, fun _ => 0, fun _ => 0)), 0, fun _ => (0, fun _ => (0, 0, 0, 0, fun _ => 0, fun _ => 0, fun _ => 0)), ⟨⟨rfl, by decide, fun t ht => absurd ht (Nat.not_lt_zero t)⟩, ⟨rfl, by decide, fun t ht => absurd ht (Nat.not_lt_zero t)⟩, fun t ht => absurd ht (Nat.not_lt_zero t), fun t ht => absurd ht (Nat.not_lt_zero t), fun t ht => absurd ht (Nat.not_lt_zero t), fun t ht => absurd ht (Nat.not_lt_zero t), fun t ht => absurd ht (Nat.not_lt_zero t)⟩, ⟨⟨by decide, 0, by decide, rfl, rfl, fun j hj => absurd hj (Nat.not_lt_zero j)⟩, ⟨by decide, rfl, fun j hj => absurd hj (Nat.not_lt_zero j)⟩, fun j hj => absurd hj (Nat.not_lt_zero j)⟩, Or.inl ⟨rfl, rfl⟩, ⟨0, by decide, rfl, rfl, fun q hq => absurd hq (Nat.not_lt_zero q), rfl⟩, fun e he => ?_⟩
  show zM0 15 0 (9 + e) = zM0 30 0 e
  unfold zM0
  rw [if_neg (by omega), if_neg (by omega)]
