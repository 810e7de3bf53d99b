/-! ONE STEP of the small machine is one of the great one's -/
theorem zchk_of {j N : Nat} (h : zchkM j N = true) (hout : ∀ pc, N ≤ pc → (zP j).1 pc = none) (pc : Nat) (e : zEnt) (he : (zP j).1 pc = some e) : zchk j pc e = true := by
  rcases Nat.lt_or_ge pc N with q | q
  · simp only [zchkM, Bool.and_eq_true] at h
    have h1 := List.all_eq_true.mp h.2 pc (List.mem_range.mpr q)
    rw [he] at h1
    exact h1
  · rw [hout pc q] at he
    cases he
theorem ztwo {nx pc : Nat} (hk : Nat.beq nx (pc + 2) = true) : nx = pc + 2 ∧ nx - pc = 2 := by
  have h := Nat.eq_of_beq_eq_true hk
  omega
theorem zthree {nx pc : Nat} (hk : Nat.beq nx (pc + 3) = true) : nx = pc + 3 ∧ nx - pc = 3 := by
  have h := Nat.eq_of_beq_eq_true hk
  omega
theorem zSL_lt : ∀ q ∈ zSL, q.2.2.2 < 9 := by decide +kernel
theorem zcat_r {adr : Nat → Nat → Nat} (r : Nat × Nat) : (zval adr (.inr (.inr r))).category = 1 := by
  obtain ⟨k, i⟩ := r
  cases k <;> rfl
section ZST
variable {l : Launch} {D : va_G} {g : zIds} {adr : Nat → Nat → Nat} {H0 : Heap} {j : Nat} {E : zAF → zSt → zRes} {Rn : Nat → List zAV → zSt → zRes} {pc nx a b : Nat} {c : Int32} {ts : List Nat} {L st : List zAV} {σ σ' : zSt} {o : zOut}
theorem zs_ldc {idx : Nat} (hk : zck j pc (.ldc idx) nx a b c ts = true) (hd : decode (zcc j) pc = .ok (.ldc idx, nx - pc)) (hf : zfok j (pc, L, st))
    (h : (match a with
      | 0 => E (nx, L, zI c :: st) σ
      | _ => E (nx, L, zR 1 b :: st) σ) = some (o, σ')) (hE : zGE l D g adr H0 j E) : zCon l D g adr H0 j (pc, L, st) σ o σ' := by
  simp only [zck, Bool.and_eq_true] at hk
  obtain ⟨e1, e2⟩ := hk
  obtain ⟨e1, e3⟩ := ztwo e1
  subst e1
  rw [e3] at hd
  cases a with
  | zero =>
    simp only at h e2
    obtain ⟨r1, r2, r3⟩ := hE _ _ _ _ h (zfok_push hf trivial)
    exact ⟨r1, r2, zW_go (fun hC hl hP _ _ _ _ kk => lv_ldc hC.1 hC.2.1 hC.2.2.2.2.1 (hC.2.2.2.2.2.1 _ (zclink e2)) hd kk) r2 r3⟩
  | succ a =>
    simp only at h e2
    obtain ⟨q, hq, h1⟩ := List.any_eq_true.mp e2
    simp only [Bool.and_eq_true] at h1
    obtain ⟨⟨y1, y2⟩, y3⟩ := h1
    have y1 := Nat.eq_of_beq_eq_true y1
    have y2 := Nat.eq_of_beq_eq_true y2
    have y3 := Nat.eq_of_beq_eq_true y3
    obtain ⟨r1, r2, r3⟩ := hE _ _ _ _ h (zfok_push hf (Or.inr (Or.inl ⟨rfl, by rw [← y3]; exact zSL_lt q hq⟩)))
    refine ⟨r1, r2, zW_go (fun hC hl hP _ _ _ _ kk => ?_) r2 r3⟩
    have hZ := hC.2.2.2.2.2.2.2.2.1.2.1 q hq
    rw [y1, y2, y3] at hZ
    exact va_ldcS hC.1 hC.2.1 hC.2.2.2.2.1 hZ hd kk
theorem zs_iload {i : Nat} {ins : Instr} {len : Nat} (hd : decode (zcc j) pc = .ok (ins, len)) (hi : (ins = .iload a ∧ len = 2) ∨ ∃ k : Fin 4, ins = .iload_n k ∧ len = 1 ∧ k.val = a) (hf : zfok j (pc, L, st))
    (h : (match zget L a with
      | .inl x => E (pc + len, L, .inl x :: st) σ
      | _ => none) = some (o, σ')) (hE : zGE l D g adr H0 j E) : zCon l D g adr H0 j (pc, L, st) σ o σ' := by
  split at h
  · rename_i x hv
    obtain ⟨r1, r2, r3⟩ := hE _ _ _ _ h (zfok_push hf trivial)
    refine ⟨r1, r2, zW_go (fun hC hl hP _ _ _ _ kk => ?_) r2 r3⟩
    rcases hi with ⟨rfl, rfl⟩ | ⟨k, rfl, rfl, hk⟩
    · exact lv_iload hC.1 hC.2.1 hd (zl_at hl hv (by simp [zJunk])) kk
    · exact lv_iload_n hC.1 hC.2.1 hd hk (zl_at hl hv (by simp [zJunk])) kk
  · cases h
theorem zs_lload {k : Fin 4} (hd : decode (zcc j) pc = .ok (.lload_n k, 1)) (hi : k.val = a) (hf : zfok j (pc, L, st))
    (h : (match zget L a with
      | .inr (.inl x) => E (pc + 1, L, .inr (.inl x) :: st) σ
      | _ => none) = some (o, σ')) (hE : zGE l D g adr H0 j E) : zCon l D g adr H0 j (pc, L, st) σ o σ' := by
  split at h
  · rename_i x hv
    obtain ⟨r1, r2, r3⟩ := hE _ _ _ _ h (zfok_push hf trivial)
    exact ⟨r1, r2, zW_go (fun hC hl hP _ _ _ _ kk => lv_lload_n hC.1 hC.2.1 hd hi (zl_at hl hv (by simp [zJunk])) kk) r2 r3⟩
  · cases h
theorem zs_aload {ins : Instr} {len : Nat} (hd : decode (zcc j) pc = .ok (ins, len)) (hi : (ins = .aload a ∧ len = 2) ∨ ∃ k : Fin 4, ins = .aload_n k ∧ len = 1 ∧ k.val = a) (hf : zfok j (pc, L, st))
    (h : (match zget L a with
      | .inr (.inr (k + 1, i)) => E (pc + len, L, .inr (.inr (k + 1, i)) :: st) σ
      | .inr (.inr (0, 0)) => E (pc + len, L, .inr (.inr (0, 0)) :: st) σ
      | _ => none) = some (o, σ')) (hE : zGE l D g adr H0 j E) : zCon l D g adr H0 j (pc, L, st) σ o σ' := by
  split at h
  · rename_i k0 i0 hv
    have hvk := hf.2.1 a
    simp only at hvk
    rw [hv] at hvk
    obtain ⟨r1, r2, r3⟩ := hE _ _ _ _ h (zfok_push hf hvk)
    refine ⟨r1, r2, zW_go (fun hC hl hP _ _ _ _ kk => ?_) r2 r3⟩
    rcases hi with ⟨rfl, rfl⟩ | ⟨k, rfl, rfl, hk⟩
    · exact lv_aload hC.1 hC.2.1 hd (zl_at hl hv (by simp [zJunk])) kk
    · exact lv_aload_n hC.1 hC.2.1 hd hk (zl_at hl hv (by simp [zJunk])) kk
  · rename_i hv
    obtain ⟨r1, r2, r3⟩ := hE _ _ _ _ h (zfok_push hf (Or.inl rfl))
    refine ⟨r1, r2, zW_go (fun hC hl hP _ _ _ _ kk => ?_) r2 r3⟩
    rcases hi with ⟨rfl, rfl⟩ | ⟨k, rfl, rfl, hk⟩
    · exact lv_aloadN hC.1 hC.2.1 hd (zl_at hl hv (by simp [zJunk])) kk
    · exact lv_aload_nN hC.1 hC.2.1 hd hk (zl_at hl hv (by simp [zJunk])) kk
  · cases h
theorem zs_istore {ins : Instr} {len : Nat} {x : Int32} (hd : decode (zcc j) pc = .ok (ins, len)) (hi : (ins = .istore a ∧ len = 2) ∨ ∃ k : Fin 4, ins = .istore_n k ∧ len = 1 ∧ k.val = a) (hz : zst j a = true) (hf : zfok j (pc, L, .inl x :: st))
    (h : E (pc + len, zset L a (.inl x), st) σ = some (o, σ')) (hE : zGE l D g adr H0 j E) : zCon l D g adr H0 j (pc, L, .inl x :: st) σ o σ' := by
  obtain ⟨ha, hlg⟩ := zst_ok hz hf
  obtain ⟨r1, r2, r3⟩ := hE _ _ _ _ h (zfok_set (zfok_tail (pc' := pc) hf) ha trivial (fun x q => by cases q))
  have han : a < (zP j).2 := by rw [← hf.1]; exact ha
  refine ⟨r1, r2, zW_st (fun hC hl kk => ?_) ha hlg r3⟩
  rcases hi with ⟨rfl, rfl⟩ | ⟨k, rfl, rfl, hk⟩
  · exact lv_istore hC.1 hC.2.1 hd hl han rfl kk
  · exact lv_istore_n hC.1 hC.2.1 hd hk hl han rfl kk
theorem zs_astore {ins : Instr} {len : Nat} {r : Nat × Nat} (hd : decode (zcc j) pc = .ok (ins, len)) (hi : (ins = .astore a ∧ len = 2) ∨ ∃ k : Fin 4, ins = .astore_n k ∧ len = 1 ∧ k.val = a) (hz : zst j a = true) (hf : zfok j (pc, L, .inr (.inr r) :: st))
    (h : E (pc + len, zset L a (.inr (.inr r)), st) σ = some (o, σ')) (hE : zGE l D g adr H0 j E) : zCon l D g adr H0 j (pc, L, .inr (.inr r) :: st) σ o σ' := by
  obtain ⟨ha, hlg⟩ := zst_ok hz hf
  obtain ⟨r1, r2, r3⟩ := hE _ _ _ _ h (zfok_set (zfok_tail (pc' := pc) hf) ha (zfok_head hf) (fun x q => by cases q))
  have han : a < (zP j).2 := by rw [← hf.1]; exact ha
  refine ⟨r1, r2, zW_st (fun hC hl kk => ?_) ha hlg r3⟩
  obtain ⟨k0, i0⟩ := r
  cases k0 with
  | zero =>
    rcases hi with ⟨rfl, rfl⟩ | ⟨k, rfl, rfl, hk⟩
    · exact lv_astoreN hC.1 hC.2.1 hd hl han rfl kk
    · exact lv_astore_nN hC.1 hC.2.1 hd hk hl han rfl kk
  | succ k0 =>
    rcases hi with ⟨rfl, rfl⟩ | ⟨k, rfl, rfl, hk⟩
    · exact lv_astore hC.1 hC.2.1 hd hl han rfl kk
    · exact lv_astore_n hC.1 hC.2.1 hd hk hl han rfl kk
theorem zs_lstore {k : Fin 4} {x : Int64} (hd : decode (zcc j) pc = .ok (.lstore_n k, 1)) (hi : k.val = a) (ha1 : a = 1) (hlo : zlong j = true) (h3 : 3 ≤ (zP j).2) (hf : zfok j (pc, L, .inr (.inl x) :: st))
    (h : E (pc + 1, zset (zset L (a + 1) zJunk) a (.inr (.inl x)), st) σ = some (o, σ')) (hE : zGE l D g adr H0 j E) : zCon l D g adr H0 j (pc, L, .inr (.inl x) :: st) σ o σ' := by
  have hL : L.length = (zP j).2 := hf.1
  have hf1 : zfok j (pc, zset L (a + 1) zJunk, st) := zfok_set (zfok_tail (pc' := pc) hf) (by omega) (Or.inl rfl) (fun x q => by cases q)
  obtain ⟨r1, r2, r3⟩ := hE _ _ _ _ h (zfok_set hf1 (by rw [zset_len]; omega) trivial (fun x _ => ⟨ha1, hlo⟩))
  refine ⟨r1, r2, ?_⟩
  intro p e s m args below meth cc H locs ls n0 hn hC hl hP hS
  refine lv_lstore_n hC.1 hC.2.1 hd hi hl (by omega) rfl (fun ls' hl' => r3 p e s m args below meth cc H locs ls' n0 hn hC ?_ hP hS)
  refine ⟨hl'.1, hl'.2.1, fun q hq => ?_⟩
  obtain ⟨n, h1, h2, h4, h5⟩ := (zlvF_mem _ _ _).mp hq
  have h2 : q.1 = n := by omega
  rw [zget_set _ _ _ (by rw [zset_len]; omega)] at h4 h5
  rw [zset_len, zset_len] at h1
  by_cases hna : n = a
  · rw [if_pos hna] at h4 h5
    exact hl'.2.2 q (List.mem_cons.mpr (Or.inl (Prod.ext (h2.trans hna) h5)))
  · rw [if_neg hna, zget_set _ _ _ (by omega)] at h4 h5
    by_cases hnb : n = a + 1
    · rw [if_pos hnb] at h4
      exact absurd rfl h4
    · rw [if_neg hnb] at h4 h5
      refine hl'.2.2 q (List.mem_cons.mpr (Or.inr (List.mem_filter.mpr ⟨(zlvF_mem _ _ _).mpr ⟨n, h1, by omega, h4, h5⟩, ?_⟩)))
      simp only [Bool.and_eq_true, Bool.not_eq_true', beq_eq_false_iff_ne, ne_eq, Bool.and_eq_false_iff]
      refine ⟨by omega, by omega, ?_⟩
      by_cases hq1 : q.1 + 1 = a
      · right
        rw [h5]
        cases hv : zget L n with
        | inl x => exact fun hh => by cases hh
        | inr y =>
          cases y with
          | inl x =>
            have := (hf.2.2.1 n x hv).1
            omega
          | inr r => exact fun hh => by rw [zcat_r] at hh; cases hh
      · left
        simpa using hq1
theorem zs_iinc {n : Int} (hd : decode (zcc j) pc = .ok (.iinc a n, 3)) (hn : Int32.ofInt n = c) (hz : zst j a = true) (hf : zfok j (pc, L, st))
    (h : (match zget L a with
      | .inl x => E (pc + 3, zset L a (.inl (x + c)), st) σ
      | _ => none) = some (o, σ')) (hE : zGE l D g adr H0 j E) : zCon l D g adr H0 j (pc, L, st) σ o σ' := by
  obtain ⟨ha, hlg⟩ := zst_ok hz hf
  have han : a < (zP j).2 := by rw [← hf.1]; exact ha
  split at h
  · rename_i x hv
    obtain ⟨r1, r2, r3⟩ := hE _ _ _ _ h (zfok_set (pc := pc) hf ha trivial (fun x q => by cases q))
    refine ⟨r1, r2, zW_st (fun hC hl kk => ?_) ha hlg r3⟩
    have hmem : ((a, Value.int x) : Nat × Value) ∈ zlvF adr 0 L := (zlvF_mem _ _ _).mpr ⟨a, ha, by simp, by rw [hv]; simp [zJunk], by rw [hv]; rfl⟩
    obtain ⟨k, hk⟩ := List.mem_iff_getElem?.mp hmem
    exact lv_iinc hC.1 hC.2.1 hd hl hk (by rw [hn]) han rfl kk
  · cases h
theorem zs_sw {x : Int32} {d lo hi : Int} {offs : Array Int} (hk : zck j pc (.tableswitch d lo hi offs) nx a b c ts = true) (hd : decode (zcc j) pc = .ok (.tableswitch d lo hi offs, nx - pc)) (hf : zfok j (pc, L, .inl x :: st))
    (h : zsw (fun t => E (t, L, st) σ) x a c ts = some (o, σ')) (hE : zGE l D g adr H0 j E) : zCon l D g adr H0 j (pc, L, .inl x :: st) σ o σ' := by
  simp only [zck, Bool.and_eq_true, decide_eq_true_eq] at hk
  obtain ⟨⟨⟨⟨⟨h1, h2⟩, h3⟩, h4⟩, h5⟩, h6⟩ := hk
  subst h2
  subst h3
  have h5 := Nat.le_of_ble_eq_true h5
  have key : ∀ (r : List Nat) (n : Nat), n + r.length = ts.length → (∀ q, r[q]? = ts[n + q]?) → zsw (fun t => E (t, L, st) σ) x a (Int32.ofNat n) r = some (o, σ') → (∀ q, q < n → x ≠ Int32.ofNat q) →
      (∃ q, q < ts.length ∧ x = Int32.ofNat q ∧ ∃ t, ts[q]? = some t ∧ E (t, L, st) σ = some (o, σ')) ∨ ((∀ q, q < ts.length → x ≠ Int32.ofNat q) ∧ E (a, L, st) σ = some (o, σ')) := by
    intro r
    induction r with
    | nil =>
      intro n hn _ hh hne
      exact Or.inr ⟨fun q hq => hne q (by simp at hn; omega), hh⟩
    | cons t r ih =>
      intro n hn hr hh hne
      unfold zsw at hh
      split at hh
      · rename_i hx
        exact Or.inl ⟨n, by simp at hn; omega, hx, t, by have := hr 0; simpa using this.symm, hh⟩
      · rename_i hx
        refine ih (n + 1) (by simp at hn ⊢; omega) (fun q => by have := hr (q + 1); simp only [List.getElem?_cons_succ] at this; rw [this]; congr 1; omega) (by rw [show Int32.ofNat (n + 1) = Int32.ofNat n + 1 from nI_succ n]; exact hh) (fun q hq => ?_)
        rcases Nat.lt_or_ge q n with hq1 | hq1
        · exact hne q hq1
        · obtain rfl : q = n := by omega
          exact hx
  have hf1 := zfok_tail (pc' := pc) hf
  have e0 : (0 : Int32) = Int32.ofNat 0 := by decide
  rcases key ts 0 (by omega) (fun q => by simp) (by rw [← e0]; exact h) (fun q hq => by omega) with ⟨q, hq, hx, t, ht, he⟩ | ⟨hne, he⟩
  · obtain ⟨r1, r2, r3⟩ := hE _ _ _ _ he (zfok_pc hf1)
    have hxt : x.toInt = (q : Int) := by rw [hx]; exact nI_toInt (n := q) (by omega)
    refine ⟨r1, r2, zW_go (fun hC hl hP _ _ _ _ kk => lv_tableIn (off := (t : Int) - (pc : Int)) hC.1 hC.2.1 hd (by rw [hxt]; omega) (by rw [hxt]; omega) ?_ (by omega) kk) r2 r3⟩
    have h7 : offs.toList[q]? = some ((t : Int) - (pc : Int)) := by rw [h6, List.getElem?_map, ht]; rfl
    rw [hxt, show ((q : Int) - 0).toNat = q by omega, ← Array.getElem?_toList]
    exact h7
  · obtain ⟨r1, r2, r3⟩ := hE _ _ _ _ he (zfok_pc hf1)
    refine ⟨r1, r2, zW_go (fun hC hl hP _ _ _ _ kk => lv_tableOut hC.1 hC.2.1 hd ?_ h1 kk) r2 r3⟩
    rcases Int.lt_or_le x.toInt 0 with hq | hq
    · exact Or.inl hq
    · right
      rcases Int.lt_or_le hi x.toInt with hq2 | hq2
      · exact hq2
      · exfalso
        obtain ⟨q, hq3⟩ := Int.eq_ofNat_of_zero_le hq
        refine hne q (by omega) ?_
        refine Int32.toInt_inj.mp ?_
        rw [hq3]
        exact (nI_toInt (n := q) (by omega)).symm
end ZST
