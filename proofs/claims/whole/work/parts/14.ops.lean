/-! the steps, one sort after the other -/
theorem zmem_place {w : Cond} {i : Nat} (h : lw_tbl[i]? = some w) (hg : goodWord w = true) : w ∈ zTb := zTb_in h hg
theorem zflink {j idx a b : Nat} (h : zFL.any (fun q => Nat.beq q.2.1 (zown j) && Nat.beq q.2.2.1 idx && Nat.beq q.2.2.2.1 a && Nat.beq q.2.2.2.2 b) = true) : Cond.fieldLink (zcn (zown j)) idx (zcn a) (zT a b).2.1 (zT a b).2.2.1 ∈ zTb := by
  obtain ⟨q, hq, h1⟩ := List.any_eq_true.mp h
  have h2 := of_decide_eq_true (List.all_eq_true.mp zFL_ok q hq)
  simp only [Bool.and_eq_true] at h1
  obtain ⟨⟨⟨e1, e2⟩, e3⟩, e4⟩ := h1
  rw [Nat.eq_of_beq_eq_true e1, Nat.eq_of_beq_eq_true e2, Nat.eq_of_beq_eq_true e3, Nat.eq_of_beq_eq_true e4] at h2
  exact zTb_in h2 rfl
theorem zmlink {j idx a : Nat} (h : zML.any (fun q => Nat.beq q.2.1 (zown j) && Nat.beq q.2.2.1 idx && Nat.beq q.2.2.2 a) = true) : Cond.methodLink (zcn (zown j)) idx (zy a) ∈ zTb := by
  obtain ⟨q, hq, h1⟩ := List.any_eq_true.mp h
  have h2 := of_decide_eq_true (List.all_eq_true.mp zML_ok q hq)
  simp only [Bool.and_eq_true] at h1
  obtain ⟨⟨e1, e2⟩, e3⟩ := h1
  rw [Nat.eq_of_beq_eq_true e1, Nat.eq_of_beq_eq_true e2, Nat.eq_of_beq_eq_true e3] at h2
  exact zTb_in h2 rfl
theorem zjlink {j idx a : Nat} (h : zJL.any (fun q => Nat.beq q.2.1 (zown j) && Nat.beq q.2.2.1 idx && Nat.beq q.2.2.2 a) = true) : Cond.methodLink (zcn (zown j)) idx (zjn a) ∈ zTb := by
  obtain ⟨q, hq, h1⟩ := List.any_eq_true.mp h
  have h2 := of_decide_eq_true (List.all_eq_true.mp zJL_ok q hq)
  simp only [Bool.and_eq_true] at h1
  obtain ⟨⟨e1, e2⟩, e3⟩ := h1
  rw [Nat.eq_of_beq_eq_true e1, Nat.eq_of_beq_eq_true e2, Nat.eq_of_beq_eq_true e3] at h2
  exact zTb_in h2 rfl
theorem zclink {j idx : Nat} {c : Int32} (h : zKC.any (fun q => Nat.beq q.2.1 (zown j) && Nat.beq q.2.2.1 idx && decide (q.2.2.2 = c)) = true) : Cond.constant (zcn (zown j)) idx c ∈ zTb := by
  obtain ⟨q, hq, h1⟩ := List.any_eq_true.mp h
  have h2 := of_decide_eq_true (List.all_eq_true.mp zKC_ok q hq)
  simp only [Bool.and_eq_true, decide_eq_true_eq] at h1
  obtain ⟨⟨e1, e2⟩, e3⟩ := h1
  rw [Nat.eq_of_beq_eq_true e1, Nat.eq_of_beq_eq_true e2, e3] at h2
  exact zTb_in h2 rfl
theorem zllink {j idx a : Nat} (h : zKJ.any (fun q => Nat.beq q.2.1 (zown j) && Nat.beq q.2.2.1 idx && Nat.beq q.2.2.2 a) = true) : Cond.constantLong (zcn (zown j)) idx (lN a) ∈ zTb := by
  obtain ⟨q, hq, h1⟩ := List.any_eq_true.mp h
  have h2 := of_decide_eq_true (List.all_eq_true.mp zKJ_ok q hq)
  simp only [Bool.and_eq_true] at h1
  obtain ⟨⟨e1, e2⟩, e3⟩ := h1
  rw [Nat.eq_of_beq_eq_true e1, Nat.eq_of_beq_eq_true e2, Nat.eq_of_beq_eq_true e3] at h2
  exact zTb_in h2 rfl
theorem zcls_in {a : Nat} (ha : a ≤ 6) : ∀ w ∈ u_ws (zcn a) (zT a) (zNf a), w ∈ zTb := by
  intro w hw
  obtain ⟨s, hs, rfl⟩ := List.mem_map.mp hw
  refine zTb_in (zLP_ok a (by omega) s (List.mem_range.mp hs)) ?_
  unfold u_lay
  split <;> rfl
theorem zvw {a : Nat} (ha : a ≤ 6) : vwCl[a]? = some (zcn a, zT a, zNf a) := by
  match a, ha with
  | 0, _ => rfl
  | 1, _ => rfl
  | 2, _ => rfl
  | 3, _ => rfl
  | 4, _ => rfl
  | 5, _ => rfl
  | 6, _ => rfl
theorem ztyok {a : Nat} (ha : a ≤ 6) : ∀ k, k < zNf a → parseFieldDescriptor (zT a k).2.2.1 = some (zTy a k) := by
  match a, ha with
  | 0, _ => exact tyX0_ok
  | 1, _ => exact tyX1_ok
  | 2, _ => exact tyX2_ok
  | 3, _ => exact tyX3_ok
  | 4, _ => exact tyX4_ok
  | 5, _ => exact tyX5_ok
  | 6, _ => exact tyX6_ok
theorem znmok {a : Nat} (ha : a ≤ 6) : ∀ x, x < zNf a → ∀ y, y < zNf a → x ≠ y → (zT a x).2.1 ≠ (zT a y).2.1 := by
  match a, ha with
  | 0, _ => exact nmX0
  | 1, _ => exact nmX1
  | 2, _ => exact nmX2
  | 3, _ => exact nmX3
  | 4, _ => exact nmX4
  | 5, _ => exact nmX5
  | 6, _ => exact nmX6
theorem zdecl_all : ∀ a, a < 7 → ∀ b, b < zNf a → (zT a b).1 = zcn a := by decide +kernel
theorem zval_ref {adr : Nat → Nat → Nat} {k i : Nat} (h : k ≠ 0) : zval adr (.inr (.inr (k, i))) = .ref (adr k i) := by
  cases k with
  | zero => exact absurd rfl h
  | succ k => rfl
theorem zlt_nle {x y : Int32} (h : x < y) : ¬ y ≤ x := fun h2 => absurd h (Int32.not_lt.mpr h2)
theorem znlt_le {x y : Int32} (h : ¬ x < y) : y ≤ x := Int32.not_lt.mp h
abbrev zCon (l : Launch) (D : va_G) (g : zIds) (adr : Nat → Nat → Nat) (H0 : Heap) (j : Nat) (f : zAF) (σ : zSt) (o : zOut) (σ' : zSt) : Prop := zovok o ∧ σ.2.2 ≤ σ'.2.2 ∧ zW l D g adr H0 j f σ o σ'
section ZO
variable {l : Launch} {D : va_G} {g : zIds} {adr : Nat → Nat → Nat} {H0 : Heap} {j : Nat} {E : zAF → zSt → zRes} {pc nx a b : Nat} {c : Int32} {ts : List Nat} {L st : List zAV} {σ σ' : zSt} {o : zOut}
theorem zfs_get {s i : Nat} (hs : s < zNf a) : ((List.range (zNf a)).map (fun s => zfv adr a s i (σ.1 (10 + a) i s)))[s]? = some (zfv adr a s i (σ.1 (10 + a) i s)) := by
  rw [List.getElem?_map, List.getElem?_range hs]
  rfl
theorem zs_getfield {idx k i : Nat} (hk : zck j pc (.getfield idx) nx a b c ts = true) (hd : decode (zcc j) pc = .ok (.getfield idx, nx - pc)) (hf : zfok j (pc, L, .inr (.inr (k, i)) :: st))
    (h : (bif Nat.beq k (10 + a) then (match zrf a b i with
      | some (k2, i2) => E (nx, L, zR k2 i2 :: st) σ
      | none => E (nx, L, zI (σ.1 k i b) :: st) σ) else none) = some (o, σ')) (hE : zGE l D g adr H0 j E) : zCon l D g adr H0 j (pc, L, .inr (.inr (k, i)) :: st) σ o σ' := by
  cases hb : Nat.beq k (10 + a) with
  | false => rw [hb] at h; cases h
  | true =>
    rw [hb] at h
    simp only [cond_true] at h
    have hk2 : k = 10 + a := Nat.eq_of_beq_eq_true hb
    subst hk2
    simp only [zck, Bool.and_eq_true] at hk
    obtain ⟨⟨⟨hnx, hfl⟩, hbN⟩, ha⟩ := hk
    have hnx := Nat.eq_of_beq_eq_true hnx
    have ha : a ≤ 6 := Nat.le_of_ble_eq_true ha
    have hbN : b < zNf a := Nat.le_of_ble_eq_true hbN
    subst hnx
    rw [show pc + 3 - pc = 3 by omega] at hd
    have hi : i < zcnt (10 + a) := by
      rcases zfok_head hf with q | q | q
      · omega
      · omega
      · exact q
    have hlk := zflink hfl
    have key : ∀ v : zAV, zvok v → zval adr v = zfv adr a b i (σ.1 (10 + a) i b) → E (pc + 3, L, v :: st) σ = some (o, σ') → zCon l D g adr H0 j (pc, L, .inr (.inr (10 + a, i)) :: st) σ o σ' := by
      intro v hv hvv he
      obtain ⟨r1, r2, r3⟩ := hE _ _ _ _ he (zfok_push (zfok_tail (pc' := pc) hf) hv)
      refine ⟨r1, r2, zW_go (fun hC hl hP _ _ _ _ kk => ?_) r2 r3⟩
      rw [List.map_cons, zval_ref (by omega)]
      rw [List.map_cons, hvv] at kk
      exact va_get hC.1 hC.2.1 hC.2.2.2.2.2.1 (zcls_in ha) hC.2.2.2.2.1 hC.2.2.2.2.2.2.2.2.1.1 hP (zoff (10 + a) + i) ((zwd_get hi σ).trans (by rw [zcell_obj ha])) (zvw ha) b hbN (hC.2.2.2.2.2.1 _ hlk) (fun x hx => by rw [zdecl_all a (by omega) b hbN] at hx; exact hx) (zfs_get hbN) hd kk
    cases hr : zrf a b i with
    | none =>
      rw [hr] at h
      exact key (zI (σ.1 (10 + a) i b)) trivial (by unfold zfv; rw [hr]; rfl) h
    | some q =>
      obtain ⟨k2, i2⟩ := q
      rw [hr] at h
      obtain ⟨q1, q2⟩ := zrf_ok ha (Nat.lt_of_lt_of_le hbN (zNf_le a)) hi hr
      exact key (zR k2 i2) (Or.inr (Or.inr q1)) (by unfold zfv; rw [hr]; exact zval_ref (by omega)) h
theorem zs_putfield {idx k i : Nat} {v : Int32} (hAd : zAd adr H0) (hk : zck j pc (.putfield idx) nx a b c ts = true) (hd : decode (zcc j) pc = .ok (.putfield idx, nx - pc)) (hf : zfok j (pc, L, .inl v :: .inr (.inr (k, i)) :: st))
    (h : (bif Nat.beq k (10 + a) then (match zrf a b i with
      | some _ => none
      | none => bif zbl a b then (if v = 1 then E (nx, L, st) (zms σ.1 k i b v, σ.2) else none) else E (nx, L, st) (zms σ.1 k i b v, σ.2)) else none) = some (o, σ')) (hE : zGE l D g adr H0 j E) : zCon l D g adr H0 j (pc, L, .inl v :: .inr (.inr (k, i)) :: st) σ o σ' := by
  cases hb : Nat.beq k (10 + a) with
  | false => rw [hb] at h; cases h
  | true =>
    rw [hb] at h
    simp only [cond_true] at h
    have hk2 : k = 10 + a := Nat.eq_of_beq_eq_true hb
    subst hk2
    simp only [zck, Bool.and_eq_true, Bool.not_eq_true', decide_eq_true_eq] at hk
    obtain ⟨⟨⟨⟨⟨hnx, hfl⟩, hbN⟩, ha⟩, hfin⟩, hty⟩ := hk
    have hnx := Nat.eq_of_beq_eq_true hnx
    have ha : a ≤ 6 := Nat.le_of_ble_eq_true ha
    have hbN : b < zNf a := Nat.le_of_ble_eq_true hbN
    subst hnx
    rw [show pc + 3 - pc = 3 by omega] at hd
    have hi : i < zcnt (10 + a) := by
      rcases zfok_head (zfok_tail (pc' := pc) hf) with q | q | q
      · omega
      · omega
      · exact q
    have hlk := zflink hfl
    cases hr : zrf a b i with
    | some q => rw [hr] at h; cases h
    | none =>
      rw [hr] at h
      simp only at h
      have hh : E (pc + 3, L, st) (zms σ.1 (10 + a) i b v, σ.2) = some (o, σ') ∧ narrow (zTy a b) (.int v) = .int v ∧ fits (zTy a b) (.int v) = true := by
        cases hz : zbl a b with
        | true =>
          rw [hz] at h hty
          simp only [cond_true] at h hty
          split at h
          · rename_i hv
            subst hv
            exact ⟨h, by rw [hty]; decide, by rw [hty]; decide⟩
          · cases h
        | false =>
          rw [hz] at h hty
          simp only [cond_false] at h hty
          exact ⟨h, by rw [hty]; rfl, by rw [hty]; rfl⟩
      obtain ⟨he, hn, hfit⟩ := hh
      obtain ⟨r1, r2, r3⟩ := hE _ _ _ _ he (zfok_tail (pc' := pc) (zfok_tail (pc' := pc) hf))
      refine ⟨r1, r2, zW_mem (k := 10 + a) (i := i) (σ1 := (zms σ.1 (10 + a) i b v, σ.2)) hAd hi (fun hC hl hP hD hS _ _ kk => ?_) (fun k' i' hn => zcell_ms k' i' hn) rfl r3⟩
      rw [List.map_cons, List.map_cons, zval_ref (by omega)]
      refine va_put hC.1 hC.2.1 hC.2.2.2.2.2.1 (zcls_in ha) (zTy a) (ztyok ha) (znmok ha) hC.2.2.2.2.1 hC.2.2.2.2.2.2.2.2.1.1 hP hD hS (zoff (10 + a) + i) ((zwd_get hi σ).trans (by rw [zcell_obj ha])) (zvw ha) b hbN (hC.2.2.2.2.2.1 _ hlk) (fun x hx => by rw [zdecl_all a (by omega) b hbN] at hx; exact hx) hfin (ztyok ha b hbN) hn hfit (by simpa using hbN) hd (fun H1 locs1 hP1 hD1 hS1 => kk H1 locs1 ?_ hS1)
      rw [zcell_obj ha]
      have hset : ((List.range (zNf a)).map (fun s => zfv adr a s i (σ.1 (10 + a) i s))).set b (.int v) = (List.range (zNf a)).map (fun s => zfv adr a s i (zms σ.1 (10 + a) i b v (10 + a) i s)) := by
        refine List.ext_getElem? fun s => ?_
        rw [List.getElem?_set]
        by_cases hs : b = s
        · subst hs
          rw [if_pos rfl, if_pos (by simpa using hbN), List.getElem?_map, List.getElem?_range hbN]
          simp only [Option.map_some]
          unfold zfv zms
          rw [hr]
          simp
        · rw [if_neg hs, List.getElem?_map, List.getElem?_map]
          rcases Nat.lt_or_ge s (zNf a) with hl | hl
          · rw [List.getElem?_range hl]
            simp only [Option.map_some]
            have hz : zms σ.1 (10 + a) i b v (10 + a) i s = σ.1 (10 + a) i s := by
              unfold zms
              rw [if_neg (fun q => hs q.2.2.symm)]
            rw [hz]
          · rw [List.getElem?_eq_none (by simpa using hl)]
            rfl
      rw [← hset]
      exact hP1
theorem zlen_ok {k i : Nat} (hne : zlenI k i ≠ 0) (hv : zvok (.inr (.inr (k, i)))) : i < zcnt k ∧ k ≠ 0 := by
  have h1 := zlenI_k hne
  rcases hv with q | q | q
  · omega
  · omega
  · exact ⟨q, by omega⟩
theorem zlenb_ok {k i : Nat} (hne : zlenB k ≠ 0) (hv : zvok (.inr (.inr (k, i)))) : i < zcnt k ∧ k ≠ 0 := by
  have h1 := zlenB_k hne
  rcases hv with q | q | q
  · omega
  · omega
  · exact ⟨q, by omega⟩
theorem zone (hk : Nat.beq nx (pc + 1) = true) : nx = pc + 1 ∧ nx - pc = 1 := by
  have h := Nat.eq_of_beq_eq_true hk
  omega
theorem zs_iaload {k i : Nat} {x : Int32} (hk : zck j pc .iaload nx a b c ts = true) (hd : decode (zcc j) pc = .ok (.iaload, nx - pc)) (hf : zfok j (pc, L, .inl x :: .inr (.inr (k, i)) :: st))
    (h : (if x < 0 ∨ zlenI k i ≤ x.toNatClampNeg then none else E (nx, L, zI (σ.1 k i x.toNatClampNeg) :: st) σ) = some (o, σ')) (hE : zGE l D g adr H0 j E) : zCon l D g adr H0 j (pc, L, .inl x :: .inr (.inr (k, i)) :: st) σ o σ' := by
  obtain ⟨e1, e2⟩ := zone hk
  rw [e2] at hd
  subst e1
  split at h
  · cases h
  · rename_i hin
    have hne : zlenI k i ≠ 0 := fun q => hin (Or.inr (by omega))
    obtain ⟨hi, hk0⟩ := zlen_ok hne (zfok_head (zfok_tail (pc' := pc) hf))
    obtain ⟨r1, r2, r3⟩ := hE _ _ _ _ h (zfok_push (v := zI (σ.1 k i x.toNatClampNeg)) (zfok_tail (pc' := pc) (zfok_tail (pc' := pc) hf)) trivial)
    refine ⟨r1, r2, zW_go (fun hC hl hP _ _ _ _ kk => ?_) r2 r3⟩
    rw [List.map_cons, List.map_cons, zval_ref hk0]
    exact va_iald hC.1 hC.2.1 hC.2.2.2.2.2.2.2.2.1.1 hP (zoff k + i) 0 ((zwd_get hi σ).trans (by rw [zcell_int hne])) rfl hin hd kk
theorem zs_baload {k i : Nat} {x : Int32} (hk : zck j pc .baload nx a b c ts = true) (hd : decode (zcc j) pc = .ok (.baload, nx - pc)) (hf : zfok j (pc, L, .inl x :: .inr (.inr (k, i)) :: st))
    (h : (if x < 0 ∨ zlenB k ≤ x.toNatClampNeg then none else E (nx, L, zI (σ.1 k i x.toNatClampNeg) :: st) σ) = some (o, σ')) (hE : zGE l D g adr H0 j E) : zCon l D g adr H0 j (pc, L, .inl x :: .inr (.inr (k, i)) :: st) σ o σ' := by
  obtain ⟨e1, e2⟩ := zone hk
  rw [e2] at hd
  subst e1
  split at h
  · cases h
  · rename_i hin
    have hne : zlenB k ≠ 0 := fun q => hin (Or.inr (by omega))
    obtain ⟨hi, hk0⟩ := zlenb_ok hne (zfok_head (zfok_tail (pc' := pc) hf))
    obtain ⟨r1, r2, r3⟩ := hE _ _ _ _ h (zfok_push (v := zI (σ.1 k i x.toNatClampNeg)) (zfok_tail (pc' := pc) (zfok_tail (pc' := pc) hf)) trivial)
    refine ⟨r1, r2, zW_go (fun hC hl hP _ _ _ _ kk => ?_) r2 r3⟩
    rw [List.map_cons, List.map_cons, zval_ref hk0]
    exact va_bald hC.1 hC.2.1 hC.2.2.2.2.2.2.2.2.1.1 hP (zoff k + i) 1 ((zwd_get hi σ).trans (by rw [zcell_byte hne])) rfl hin hd kk
theorem zms_row {M : zMem} {k i n : Nat} {v : Int32} : upd (fun s => M k i s) n v = (fun s => zms M k i n v k i s) := by
  funext s
  unfold upd zms
  by_cases hs : s = n
  · rw [if_pos hs, if_pos ⟨rfl, rfl, hs⟩]
  · rw [if_neg hs, if_neg (fun q => hs q.2.2)]
theorem zs_iastore {k i : Nat} {x v : Int32} (hAd : zAd adr H0) (hk : zck j pc .iastore nx a b c ts = true) (hd : decode (zcc j) pc = .ok (.iastore, nx - pc)) (hf : zfok j (pc, L, .inl v :: .inl x :: .inr (.inr (k, i)) :: st))
    (h : (if x < 0 ∨ zlenI k i ≤ x.toNatClampNeg then none else E (nx, L, st) (zms σ.1 k i x.toNatClampNeg v, σ.2)) = some (o, σ')) (hE : zGE l D g adr H0 j E) : zCon l D g adr H0 j (pc, L, .inl v :: .inl x :: .inr (.inr (k, i)) :: st) σ o σ' := by
  obtain ⟨e1, e2⟩ := zone hk
  rw [e2] at hd
  subst e1
  split at h
  · cases h
  · rename_i hin
    have hne : zlenI k i ≠ 0 := fun q => hin (Or.inr (by omega))
    obtain ⟨hi, hk0⟩ := zlen_ok hne (zfok_head (zfok_tail (pc' := pc) (zfok_tail (pc' := pc) hf)))
    obtain ⟨r1, r2, r3⟩ := hE _ _ _ _ h (zfok_tail (pc' := pc) (zfok_tail (pc' := pc) (zfok_tail (pc' := pc) hf)))
    refine ⟨r1, r2, zW_mem (k := k) (i := i) (σ1 := (zms σ.1 k i x.toNatClampNeg v, σ.2)) hAd hi (fun hC hl hP hD hS _ _ kk => ?_) (fun k' i' hn => zcell_ms k' i' hn) rfl r3⟩
    rw [List.map_cons, List.map_cons, List.map_cons, zval_ref hk0]
    refine va_iast hC.1 hC.2.1 hC.2.2.2.2.2.2.2.2.1.1 hP hD hS (zoff k + i) 0 ((zwd_get hi σ).trans (by rw [zcell_int hne])) rfl hin hd (fun H1 locs1 hP1 _ hS1 => kk H1 locs1 ?_ hS1)
    rw [zcell_int hne, ← zms_row]
    exact hP1
theorem zs_bastore {k i : Nat} {x v : Int32} (hAd : zAd adr H0) (hk : zck j pc .bastore nx a b c ts = true) (hd : decode (zcc j) pc = .ok (.bastore, nx - pc)) (hf : zfok j (pc, L, .inl v :: .inl x :: .inr (.inr (k, i)) :: st))
    (h : (if x < 0 ∨ zlenB k ≤ x.toNatClampNeg then none else E (nx, L, st) (zms σ.1 k i x.toNatClampNeg v.toInt8.toInt32, σ.2)) = some (o, σ')) (hE : zGE l D g adr H0 j E) : zCon l D g adr H0 j (pc, L, .inl v :: .inl x :: .inr (.inr (k, i)) :: st) σ o σ' := by
  obtain ⟨e1, e2⟩ := zone hk
  rw [e2] at hd
  subst e1
  split at h
  · cases h
  · rename_i hin
    have hne : zlenB k ≠ 0 := fun q => hin (Or.inr (by omega))
    obtain ⟨hi, hk0⟩ := zlenb_ok hne (zfok_head (zfok_tail (pc' := pc) (zfok_tail (pc' := pc) hf)))
    obtain ⟨r1, r2, r3⟩ := hE _ _ _ _ h (zfok_tail (pc' := pc) (zfok_tail (pc' := pc) (zfok_tail (pc' := pc) hf)))
    refine ⟨r1, r2, zW_mem (k := k) (i := i) (σ1 := (zms σ.1 k i x.toNatClampNeg v.toInt8.toInt32, σ.2)) hAd hi (fun hC hl hP hD hS _ _ kk => ?_) (fun k' i' hn => zcell_ms k' i' hn) rfl r3⟩
    rw [List.map_cons, List.map_cons, List.map_cons, zval_ref hk0]
    refine va_bast hC.1 hC.2.1 hC.2.2.2.2.2.2.2.2.1.1 hP hD hS (zoff k + i) 1 ((zwd_get hi σ).trans (by rw [zcell_byte hne])) rfl hin hd (fun H1 locs1 hP1 _ hS1 => kk H1 locs1 ?_ hS1)
    rw [zcell_byte hne, ← zms_row, ← vp_nar_byte]
    exact hP1
theorem zs_aaload {k i : Nat} {x : Int32} (hk : zck j pc .aaload nx a b c ts = true) (hd : decode (zcc j) pc = .ok (.aaload, nx - pc)) (hf : zfok j (pc, L, .inl x :: .inr (.inr (k, i)) :: st))
    (h : (match zrows k i x.toNatClampNeg with
      | some (n, k2, i2) => if x < 0 ∨ n ≤ x.toNatClampNeg then none else E (nx, L, zR k2 i2 :: st) σ
      | none => none) = some (o, σ')) (hE : zGE l D g adr H0 j E) : zCon l D g adr H0 j (pc, L, .inl x :: .inr (.inr (k, i)) :: st) σ o σ' := by
  obtain ⟨e1, e2⟩ := zone hk
  rw [e2] at hd
  subst e1
  have hv := zfok_head (zfok_tail (pc' := pc) hf)
  by_cases h25 : k = 25
  · subst h25
    have hi : i < zcnt 25 := by
      rcases hv with q | q | q
      · omega
      · omega
      · exact q
    have hi15 : i < 15 := hi
    have h : (if x < 0 ∨ 6 ≤ x.toNatClampNeg then none else E (pc + 1, L, zR 12 (6 * i + x.toNatClampNeg) :: st) σ) = some (o, σ') := h
    split at h
    · cases h
    · rename_i hin
      obtain ⟨r1, r2, r3⟩ := hE _ _ _ _ h (zfok_push (v := zR 12 (6 * i + x.toNatClampNeg)) (zfok_tail (pc' := pc) (zfok_tail (pc' := pc) hf)) (Or.inr (Or.inr (show 6 * i + x.toNatClampNeg < 90 by omega))))
      refine ⟨r1, r2, zW_go (fun hC hl hP _ _ _ _ kk => ?_) r2 r3⟩
      rw [List.map_cons, List.map_cons, zval_ref (by omega)]
      exact va_aldq (C := RX2) hC.1 hC.2.1 hC.2.2.2.2.2.2.2.2.1.1 hP (zoff 25 + i) 3 (f := fun t => some (adr 12 (6 * i + t))) ((zwd_get hi σ).trans (by unfold zcell; rfl)) rfl hin hd kk
  · by_cases h26 : k = 26
    · subst h26
      have hi : i < zcnt 26 := by
        rcases hv with q | q | q
        · omega
        · omega
        · exact q
      have h : (if x < 0 ∨ 12 ≤ x.toNatClampNeg then none else E (pc + 1, L, zR 13 (2 + x.toNatClampNeg) :: st) σ) = some (o, σ') := h
      split at h
      · cases h
      · rename_i hin
        obtain ⟨r1, r2, r3⟩ := hE _ _ _ _ h (zfok_push (v := zR 13 (2 + x.toNatClampNeg)) (zfok_tail (pc' := pc) (zfok_tail (pc' := pc) hf)) (Or.inr (Or.inr (show 2 + x.toNatClampNeg < 15 by omega))))
        refine ⟨r1, r2, zW_go (fun hC hl hP _ _ _ _ kk => ?_) r2 r3⟩
        rw [List.map_cons, List.map_cons, zval_ref (by omega)]
        exact va_aldq (C := RX3) hC.1 hC.2.1 hC.2.2.2.2.2.2.2.2.1.1 hP (zoff 26 + i) 4 (f := fun t => some (adr 13 (2 + t))) ((zwd_get hi σ).trans (by unfold zcell; rfl)) rfl hin hd kk
    · have hr : zrows k i x.toNatClampNeg = none := by
        unfold zrows
        split <;> first | omega | rfl
      rw [hr] at h
      cases h
theorem zs_alen {k i : Nat} (hk : zck j pc .arraylength nx a b c ts = true) (hd : decode (zcc j) pc = .ok (.arraylength, nx - pc)) (hf : zfok j (pc, L, .inr (.inr (k, i)) :: st))
    (h : (if zlenI k i = 0 then none else E (nx, L, zI (Int32.ofNat (zlenI k i)) :: st) σ) = some (o, σ')) (hE : zGE l D g adr H0 j E) : zCon l D g adr H0 j (pc, L, .inr (.inr (k, i)) :: st) σ o σ' := by
  obtain ⟨e1, e2⟩ := zone hk
  rw [e2] at hd
  subst e1
  split at h
  · cases h
  · rename_i hne
    obtain ⟨hi, hk0⟩ := zlen_ok hne (zfok_head hf)
    obtain ⟨r1, r2, r3⟩ := hE _ _ _ _ h (zfok_push (v := zI (Int32.ofNat (zlenI k i))) (zfok_tail (pc' := pc) hf) trivial)
    refine ⟨r1, r2, zW_go (fun hC hl hP _ _ _ _ kk => ?_) r2 r3⟩
    rw [List.map_cons, zval_ref hk0]
    exact va_alen hC.1 hC.2.1 hC.2.2.2.2.2.2.2.2.1.1 hP (zoff k + i) 0 (x := (zlenI k i, .inl (fun s => σ.1 k i s))) ((zwd_get hi σ).trans (by rw [zcell_int hne])) rfl rfl hd kk
/-- the end of a body -/
theorem zwd_here {p : Program} {s : State} {m : MethodId} {args : Array Value} {meth : Method} {cc : Code} {H : Heap} {locs : List Loc} (hC : zCtx D g adr H0 j p s m args meth cc) (hP : va_P D vwCl (zwd g adr σ) H) (hS : va_S (zA H0) s.heap H locs) : zWd D g adr H0 σ H :=
  ⟨hP, Nat.le_trans hC.2.2.2.2.2.2.2.2.2.1 hS.1, fun q hq => (hS.2.1 q (Nat.lt_of_lt_of_le hq hC.2.2.2.2.2.2.2.2.2.1) (Nat.not_le.mpr hq)).trans (hC.2.2.2.2.2.2.2.2.2.2 q hq)⟩
theorem zs_ireturn {x : Int32} (hk : zck j pc .ireturn nx a b c ts = true) (hd : decode (zcc j) pc = .ok (.ireturn, nx - pc))
    (h : (match a with
      | 0 => some (.inl (some (.inl x)), σ)
      | _ => if x = 0 ∨ x = 1 then some (.inl (some (.inl x)), σ) else none) = some (o, σ')) : zCon l D g adr H0 j (pc, L, [.inl x]) σ o σ' := by
  simp only [zck, Bool.and_eq_true, decide_eq_true_eq] at hk
  obtain ⟨hk1, hret⟩ := hk
  obtain ⟨e1, e2⟩ := zone hk1
  rw [e2] at hd
  have key : (o, σ') = (.inl (some (.inl x)), σ) ∧ ∃ ty, zret j = some ty ∧ narrow ty (.int x) = .int x := by
    cases a with
    | zero => exact ⟨(Option.some.inj h).symm, .int, hret, rfl⟩
    | succ a =>
      have h : (if x = 0 ∨ x = 1 then some ((Sum.inl (some (Sum.inl x)), σ) : zOut × zSt) else none) = some (o, σ') := h
      by_cases hx : x = 0 ∨ x = 1
      · rw [if_pos hx] at h
        refine ⟨(Option.some.inj h).symm, .boolean, hret, ?_⟩
        rcases hx with hx | hx <;> rw [hx] <;> decide
      · rw [if_neg hx] at h
        cases h
  obtain ⟨ho, ty, hty, hn⟩ := key
  cases ho
  refine ⟨trivial, Nat.le_refl _, ?_⟩
  intro p e s m args below meth c0 H locs ls n0 hn0 hC hl hP hS
  exact vx_ret (W.zret hC.1 hC.2.1 (hC.2.2.1.trans hty) hn (fun t ht _ => ⟨rfl, by rw [ht]; exact zwd_here hC hP hS⟩) hS.2.2 hd hC.2.2.2.2.2.2.1)
theorem zs_lreturn {x : Int64} (hk : zck j pc .lreturn nx a b c ts = true) (hd : decode (zcc j) pc = .ok (.lreturn, nx - pc)) (h : (some (.inl (some (.inr (.inl x))), σ) : zRes) = some (o, σ')) : zCon l D g adr H0 j (pc, L, [.inr (.inl x)]) σ o σ' := by
  simp only [zck, Bool.and_eq_true, decide_eq_true_eq] at hk
  obtain ⟨e1, e2⟩ := zone hk.1
  rw [e2] at hd
  cases h
  refine ⟨trivial, Nat.le_refl _, ?_⟩
  intro p e s m args below meth c0 H locs ls n0 hn0 hC hl hP hS
  exact vx_ret (W.lret hC.1 hC.2.1 (hC.2.2.1.trans hk.2) (fun t ht _ => ⟨rfl, by rw [ht]; exact zwd_here hC hP hS⟩) hS.2.2 hd hC.2.2.2.2.2.2.1)
theorem zs_areturn {r : Nat × Nat} (hr : zvok (.inr (.inr r))) (hk : zck j pc .areturn nx a b c ts = true) (hd : decode (zcc j) pc = .ok (.areturn, nx - pc)) (h : (some (.inl (some (.inr (.inr r))), σ) : zRes) = some (o, σ')) : zCon l D g adr H0 j (pc, L, [.inr (.inr r)]) σ o σ' := by
  simp only [zck, Bool.and_eq_true, decide_eq_true_eq] at hk
  obtain ⟨e1, e2⟩ := zone hk.1
  rw [e2] at hd
  cases h
  refine ⟨hr, Nat.le_refl _, ?_⟩
  intro p e s m args below meth c0 H locs ls n0 hn0 hC hl hP hS
  refine vx_ret (W.aret hC.1 hC.2.1 (hC.2.2.1.trans hk.2) (Or.inl ⟨_, rfl⟩) ?_ (fun t ht _ => ⟨rfl, by rw [ht]; exact zwd_here hC hP hS⟩) hS.2.2 hd hC.2.2.2.2.2.2.1)
  obtain ⟨k, i⟩ := r
  cases k with
  | zero => exact Or.inl rfl
  | succ k => exact Or.inr ⟨_, rfl⟩
theorem zs_return (hk : zck j pc .return_ nx a b c ts = true) (hd : decode (zcc j) pc = .ok (.return_, nx - pc)) (h : (some (.inl none, σ) : zRes) = some (o, σ')) : zCon l D g adr H0 j (pc, L, []) σ o σ' := by
  simp only [zck, Bool.and_eq_true, decide_eq_true_eq] at hk
  obtain ⟨e1, e2⟩ := zone hk.1
  rw [e2] at hd
  cases h
  refine ⟨trivial, Nat.le_refl _, ?_⟩
  intro p e s m args below meth c0 H locs ls n0 hn0 hC hl hP hS
  exact vx_ret (W.vret hC.1 hC.2.1 (hC.2.2.1.trans hk.2) (fun t ht _ => ⟨rfl, by rw [ht]; exact zwd_here hC hP hS⟩) hS.2.2 hd hC.2.2.2.2.2.2.1)
end ZO
