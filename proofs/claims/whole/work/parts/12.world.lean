/-! the small machine's memory in the great one's heap -/
def zcnt (k : Nat) : Nat := match k with
  | 10 => 1
  | 11 => 1
  | 12 => 90
  | 13 => 15
  | 14 => 3
  | 15 => 1
  | 16 => 1
  | 20 => 90
  | 21 => 90
  | 22 => 90
  | 23 => 3
  | 24 => 1
  | 25 => 15
  | 26 => 1
  | 27 => 1
  | 30 => 1
  | 31 => 1
  | 32 => 1
  | 33 => 1
  | 34 => 1
  | 35 => 1
  | 36 => 1
  | 37 => 1
  | 38 => 1
  | 39 => 1
  | 40 => 1
  | 41 => 1
  | _ => 0
def zoff (k : Nat) : Nat := match k with
  | 10 => 0
  | 11 => 1
  | 12 => 2
  | 13 => 92
  | 14 => 107
  | 15 => 110
  | 16 => 111
  | 20 => 112
  | 21 => 202
  | 22 => 292
  | 23 => 382
  | 24 => 385
  | 25 => 386
  | 26 => 401
  | 27 => 402
  | k => 373 + k
def zkd (q : Nat) : Nat := if q < 1 then 10 else if q < 2 then 11 else if q < 92 then 12 else if q < 107 then 13 else if q < 110 then 14 else if q < 111 then 15 else if q < 112 then 16 else if q < 202 then 20 else if q < 292 then 21 else if q < 382 then 22 else if q < 385 then 23 else if q < 386 then 24 else if q < 401 then 25 else if q < 402 then 26 else if q < 403 then 27 else q - 373
def zix (q : Nat) : Nat := q - zoff (zkd q)
theorem zpos_all : ∀ k, k < 42 → ∀ i, i < zcnt k → zoff k + i < 415 ∧ zkd (zoff k + i) = k ∧ zix (zoff k + i) = i := by decide +kernel
theorem zcnt_lt {k i : Nat} (h : i < zcnt k) : k < 42 := by
  rcases Nat.lt_or_ge k 42 with q | q
  · exact q
  · exfalso
    unfold zcnt at h
    split at h <;> omega
theorem zpos {k i : Nat} (h : i < zcnt k) : zoff k + i < 415 ∧ zkd (zoff k + i) = k ∧ zix (zoff k + i) = i := zpos_all k (zcnt_lt h) i h
theorem zpos_inv : ∀ q, q < 415 → zoff (zkd q) + zix q = q ∧ zix q < zcnt (zkd q) := by decide +kernel
abbrev zIds := ClassId × ClassId × ClassId × ClassId × ClassId
def ztys (g : zIds) : List (ClassId × FieldType) := [(g.1, .int), (g.2.1, .byte), (g.2.2.1, .long), (g.2.2.2.1, .object RX2), (g.2.2.2.2, .object RX3)]
def zval (adr : Nat → Nat → Nat) : zAV → Value
  | .inl x => .int x
  | .inr (.inl x) => .long x
  | .inr (.inr (0, _)) => .null
  | .inr (.inr (k + 1, i)) => .ref (adr (k + 1) i)
def zfv (adr : Nat → Nat → Nat) (ci s i : Nat) (x : Int32) : Value := match zrf ci s i with
  | some (k2, i2) => .ref (adr k2 i2)
  | none => .int x
def zcell (g : zIds) (adr : Nat → Nat → Nat) (k i : Nat) (σ : zSt) : va_E :=
  if k ≤ 16 then .inr (k - 10, (List.range (zNf (k - 10))).map (fun s => zfv adr (k - 10) s i (σ.1 k i s)))
  else if k = 25 then .inl (g.2.2.2.1, 6, .inr (.inr (.inr (.inr (fun t => some (adr 12 (6 * i + t)))))))
  else if k = 26 then .inl (g.2.2.2.2, 12, .inr (.inr (.inr (.inr (fun t => some (adr 13 (2 + t)))))))
  else if k = 27 ∨ k = 35 ∨ k = 36 then .inl (g.2.1, 400, .inl (fun s => σ.1 k i s))
  else if k = 41 then .inl (g.2.2.1, 1, .inr (.inl (fun _ => σ.2.1)))
  else .inl (g.1, zlenI k i, .inl (fun s => σ.1 k i s))
def zwd (g : zIds) (adr : Nat → Nat → Nat) (σ : zSt) : va_W := (List.range 415).map (fun q => (adr (zkd q) (zix q), zcell g adr (zkd q) (zix q) σ))
section ZWd
variable {g : zIds} {adr : Nat → Nat → Nat}
theorem zwd_get {k i : Nat} (h : i < zcnt k) (σ : zSt) : (zwd g adr σ)[zoff k + i]? = some (adr k i, zcell g adr k i σ) := by
  obtain ⟨h1, h2, h3⟩ := zpos h
  unfold zwd
  rw [List.getElem?_map, List.getElem?_range h1]
  simp only [Option.map_some, h2, h3]
theorem zwd_at {σ : zSt} {q : Nat} {e : Nat × va_E} (h : (zwd g adr σ)[q]? = some e) : q < 415 ∧ e = (adr (zkd q) (zix q), zcell g adr (zkd q) (zix q) σ) := by
  unfold zwd at h
  rw [List.getElem?_map] at h
  rcases Nat.lt_or_ge q 415 with hq | hq
  · rw [List.getElem?_range hq] at h
    exact ⟨hq, (Option.some.inj h).symm⟩
  · rw [List.getElem?_eq_none (by simpa using hq)] at h
    cases h
theorem zwd_set {k i : Nat} (h : i < zcnt k) {σ σ' : zSt} (hne : ∀ k' i', ¬ (k' = k ∧ i' = i) → zcell g adr k' i' σ' = zcell g adr k' i' σ) : (zwd g adr σ).set (zoff k + i) (adr k i, zcell g adr k i σ') = zwd g adr σ' := by
  obtain ⟨h1, h2, h3⟩ := zpos h
  refine List.ext_getElem? fun q => ?_
  rw [List.getElem?_set]
  have hlen : (zwd g adr σ).length = 415 := by simp [zwd]
  by_cases hq : zoff k + i = q
  · rw [if_pos hq, hlen, ← hq, if_pos h1, zwd_get h σ']
  · rw [if_neg hq]
    unfold zwd
    rw [List.getElem?_map, List.getElem?_map]
    rcases Nat.lt_or_ge q 415 with hl | hl
    · rw [List.getElem?_range hl]
      simp only [Option.map_some]
      rw [hne]
      rintro ⟨e1, e2⟩
      have h5 := (zpos_inv q hl).1
      rw [e1, e2] at h5
      exact hq h5
    · rw [List.getElem?_eq_none (by simpa using hl)]
      rfl
/-- one slot written -/
theorem zcell_ms {k i s : Nat} {v : Int32} {σ : zSt} (k' i' : Nat) (hn : ¬ (k' = k ∧ i' = i)) : zcell g adr k' i' (zms σ.1 k i s v, σ.2) = zcell g adr k' i' σ := by
  have h1 : ∀ t, zms σ.1 k i s v k' i' t = σ.1 k' i' t := fun t => by
    unfold zms
    rw [if_neg (fun q => hn ⟨q.1, q.2.1⟩)]
  unfold zcell
  simp only [h1]
theorem zcell_mr {k i : Nat} {f : Nat → Int32} {σ : zSt} (k' i' : Nat) (hn : ¬ (k' = k ∧ i' = i)) : zcell g adr k' i' (zmr σ.1 k i f, σ.2) = zcell g adr k' i' σ := by
  have h1 : ∀ t, zmr σ.1 k i f k' i' t = σ.1 k' i' t := fun t => by
    unfold zmr
    rw [if_neg hn]
  unfold zcell
  simp only [h1]
theorem zcell_obj {a i : Nat} (ha : a ≤ 6) (σ : zSt) : zcell g adr (10 + a) i σ = .inr (a, (List.range (zNf a)).map (fun s => zfv adr a s i (σ.1 (10 + a) i s))) := by
  unfold zcell
  rw [if_pos (by omega), show 10 + a - 10 = a by omega]
theorem zlenI_k {k i : Nat} (h : zlenI k i ≠ 0) : ¬ k ≤ 16 ∧ ¬ k = 25 ∧ ¬ k = 26 ∧ ¬ (k = 27 ∨ k = 35 ∨ k = 36) ∧ ¬ k = 41 := by
  unfold zlenI at h
  split at h <;> first | omega | exact absurd rfl h
theorem zcell_int {k i : Nat} (h : zlenI k i ≠ 0) (σ : zSt) : zcell g adr k i σ = .inl (g.1, zlenI k i, .inl (fun s => σ.1 k i s)) := by
  obtain ⟨h1, h2, h3, h4, h5⟩ := zlenI_k h
  unfold zcell
  rw [if_neg h1, if_neg h2, if_neg h3, if_neg h4, if_neg h5]
theorem zlenB_k {k : Nat} (h : zlenB k ≠ 0) : (k = 27 ∨ k = 35 ∨ k = 36) ∧ zlenB k = 400 := by
  unfold zlenB at h ⊢
  split at h <;> first | omega | exact absurd rfl h
theorem zcell_byte {k i : Nat} (h : zlenB k ≠ 0) (σ : zSt) : zcell g adr k i σ = .inl (g.2.1, zlenB k, .inl (fun s => σ.1 k i s)) := by
  obtain ⟨h1, h2⟩ := zlenB_k h
  unfold zcell
  rw [if_neg (by omega), if_neg (by omega), if_neg (by omega), if_pos h1, h2]
/-- the addresses: apart, and new since the law began -/
def zAd (adr : Nat → Nat → Nat) (H0 : Heap) : Prop := (∀ k i k' i', i < zcnt k → i' < zcnt k' → adr k i = adr k' i' → k = k' ∧ i = i') ∧ ∀ k i, i < zcnt k → H0.size ≤ adr k i
abbrev zA (H0 : Heap) : Nat → Prop := fun q => H0.size ≤ q
theorem zwd_D {H0 : Heap} (h : zAd adr H0) (σ : zSt) : va_D (zA H0) (zwd g adr σ) := by
  constructor
  · intro q1 q2 e1 e2 h1 h2 he
    obtain ⟨l1, r1⟩ := zwd_at h1
    obtain ⟨l2, r2⟩ := zwd_at h2
    rw [r1, r2] at he
    obtain ⟨a1, a2⟩ := h.1 _ _ _ _ (zpos_inv q1 l1).2 (zpos_inv q2 l2).2 he
    rw [← (zpos_inv q1 l1).1, ← (zpos_inv q2 l2).1, a1, a2]
  · intro q e h1
    obtain ⟨l1, r1⟩ := zwd_at h1
    rw [r1]
    exact h.2 _ _ (zpos_inv q l1).2
end ZWd
/-- a value that is one -/
def zvok (v : zAV) : Prop := match v with
  | .inl _ => True
  | .inr (.inl _) => True
  | .inr (.inr (k, i)) => k = 0 ∨ (k = 1 ∧ i < 9) ∨ i < zcnt k
theorem zrf_all : ∀ a, a < 7 → ∀ s, s < 21 → ∀ i, i < zcnt (10 + a) → (match zrf a s i with
  | some (k2, i2) => decide (i2 < zcnt k2 ∧ 10 ≤ k2)
  | none => true) = true := by decide +kernel
theorem zrf_ok {a s i k2 i2 : Nat} (ha : a ≤ 6) (hs : s < 21) (hi : i < zcnt (10 + a)) (h : zrf a s i = some (k2, i2)) : i2 < zcnt k2 ∧ 10 ≤ k2 := by
  have h1 := zrf_all a (by omega) s hs i hi
  rw [h] at h1
  simpa using h1
theorem zNf_le (a : Nat) : zNf a ≤ 21 := by
  unfold zNf
  split <;> omega
