/-! the library's own static methods, and the whole step -/
theorem zcpy_row {M : zMem} {k i : Nat} {f : Nat → Int32} : f = (fun s => zmr M k i f k i s) := by
  funext s
  unfold zmr
  rw [if_pos ⟨rfl, rfl⟩]
section ZMN
variable {l : Launch} {D : va_G} {g : zIds} {adr : Nat → Nat → Nat} {H0 : Heap} {j : Nat} {E : zAF → zSt → zRes} {Rn : Nat → List zAV → zSt → zRes} {pc nx a b : Nat} {c : Int32} {ts : List Nat} {L st : List zAV} {σ σ' : zSt} {o : zOut}
theorem zs_jst {idx : Nat} (hAd : zAd adr H0) (hlt : Nat.ble 1000 a = true) (hk : zck j pc (.invokestatic idx) nx a b c ts = true) (hd : decode (zcc j) pc = .ok (.invokestatic idx, nx - pc)) (hf : zfok j (pc, L, st))
    (h : (bif Nat.ble st.length 9 then zjdk E nx L a st σ else none) = some (o, σ')) (hE : zGE l D g adr H0 j E) : zCon l D g adr H0 j (pc, L, st) σ o σ' := by
  simp only [zck, hlt, cond_true, Bool.and_eq_true] at hk
  obtain ⟨hnx, ⟨⟨⟨ha, hjl⟩, hfr⟩, hlo⟩, hl100⟩ := hk
  obtain ⟨e1, e3⟩ := zthree hnx
  subst e1
  rw [e3] at hd
  have hfr := Nat.le_of_ble_eq_true hfr
  have hlo := Nat.le_of_ble_eq_true hlo
  have hlk := zjlink hjl
  cases hb : Nat.ble st.length 9 with
  | false => rw [hb] at h; cases h
  | true =>
    rw [hb] at h
    have hb9 := Nat.le_of_ble_eq_true hb
    clear hb
    simp only [cond_true] at h
    unfold zjdk at h
    split at h
    · rename_i y x st
      obtain ⟨r1, r2, r3⟩ := hE _ _ _ _ h (zfok_push (zfok_tail (pc' := pc) (zfok_tail (pc' := pc) hf)) trivial)
      have hc := zcat_le (adr := adr) st
      simp only [List.length_cons] at hb9
      exact ⟨r1, r2, zW_go (fun hC hl hP f1 f2 f3 f4 kk => va_mmax hC.1 hC.2.1 (hC.2.2.2.1.trans hl.1.symm) hC.2.2.2.2.1 (hC.2.2.2.2.2.1 _ hlk) (hC.2.2.2.2.2.1 _ (zTb_in zj_max_s rfl)) (hC.2.2.2.2.2.1 _ (zTb_in zj_math rfl)) (hC.2.2.2.2.2.1 _ (zTb_in zj_max_c rfl)) (by omega) (by omega) f3 f4 hd kk) r2 r3⟩
    · rename_i y x st
      obtain ⟨r1, r2, r3⟩ := hE _ _ _ _ h (zfok_push (zfok_tail (pc' := pc) (zfok_tail (pc' := pc) hf)) trivial)
      have hc := zcat_le (adr := adr) st
      simp only [List.length_cons] at hb9
      exact ⟨r1, r2, zW_go (fun hC hl hP f1 f2 f3 f4 kk => va_mmin hC.1 hC.2.1 (hC.2.2.2.1.trans hl.1.symm) hC.2.2.2.2.1 (hC.2.2.2.2.2.1 _ hlk) (hC.2.2.2.2.2.1 _ (zTb_in zj_min_s rfl)) (hC.2.2.2.2.2.1 _ (zTb_in zj_math rfl)) (hC.2.2.2.2.2.1 _ (zTb_in zj_min_c rfl)) (by omega) (by omega) f3 f4 hd kk) r2 r3⟩
    · rename_i x st
      obtain ⟨r1, r2, r3⟩ := hE _ _ _ _ h (zfok_push (zfok_tail (pc' := pc) hf) trivial)
      have hc := zcat_le (adr := adr) st
      simp only [List.length_cons] at hb9
      exact ⟨r1, r2, zW_go (fun hC hl hP f1 f2 f3 f4 kk => va_mabs hC.1 hC.2.1 (hC.2.2.2.1.trans hl.1.symm) hC.2.2.2.2.1 (hC.2.2.2.2.2.1 _ hlk) (hC.2.2.2.2.2.1 _ (zTb_in zj_abs_s rfl)) (hC.2.2.2.2.2.1 _ (zTb_in zj_math rfl)) (hC.2.2.2.2.2.1 _ (zTb_in zj_abs_c rfl)) (by omega) (by omega) f3 f4 hd kk) r2 r3⟩
    · rename_i n dp k2 i2 sp k1 i1 st
      split at h
      · rename_i hq
        obtain ⟨q1, q2, q3, q4, q5⟩ := hq
        have hn1 : 1 ≤ n.toNatClampNeg := by
          rcases Nat.eq_zero_or_pos n.toNatClampNeg with z | z
          · exfalso
            have h0 : n.toInt.toNat = 0 := z
            have h1 : (0 : Int) < n.toInt := by simpa using Int32.lt_iff_toInt_lt.mp q3
            omega
          · exact z
        have hn0 : ¬ n < 0 := fun q => by
          have h1 := Int32.lt_iff_toInt_lt.mp q3
          have h2 := Int32.lt_iff_toInt_lt.mp q
          omega
        have n1 : zlenI k1 i1 ≠ 0 := by omega
        have n2 : zlenI k2 i2 ≠ 0 := by omega
        have hf3 := zfok_tail (pc' := pc) (zfok_tail (pc' := pc) hf)
        obtain ⟨hi2, hk2⟩ := zlen_ok n2 (zfok_head hf3)
        have hf5 := zfok_tail (pc' := pc) (zfok_tail (pc' := pc) hf3)
        obtain ⟨hi1, hk1⟩ := zlen_ok n1 (zfok_head hf5)
        obtain ⟨r1, r2, r3⟩ := hE _ _ _ _ h (zfok_tail (pc' := pc) hf5)
        have hc := zcat_le (adr := adr) st
        simp only [List.length_cons] at hb9
        have h100 : 100 ≤ zlo j := by
          simp only [Bool.or_eq_true] at hl100
          rcases hl100 with z | z
          · exact absurd z (by decide)
          · exact Nat.le_of_ble_eq_true z
        refine ⟨r1, r2, zW_mem (k := k2) (i := i2) (σ1 := (zmr σ.1 k2 i2 (va_cpy (σ.1 k1 i1) (σ.1 k2 i2) sp.toNatClampNeg dp.toNatClampNeg n.toNatClampNeg), σ.2)) hAd hi2 (fun hC hl hP hD hS f1 f2 kk => ?_) (fun k' i' hn => zcell_mr k' i' hn) rfl r3⟩
        rw [List.map_cons, List.map_cons, List.map_cons, List.map_cons, List.map_cons, zval_ref hk1, zval_ref hk2]
        have hnw : nativeFrameWords "java/lang/System" "arraycopy" 5 + 11 ≤ 80 := by decide
        refine va_copyi hC.1 hC.2.1 (hC.2.2.2.1.trans hl.1.symm) hC.2.2.2.2.1 (hC.2.2.2.2.2.1 _ hlk) (hC.2.2.2.2.2.1 _ (zTb_in zj_ac_n rfl)) (hC.2.2.2.2.2.1 _ (zTb_in zj_ac_s rfl)) (hC.2.2.2.2.2.1 _ (zTb_in zj_sys rfl)) hC.2.2.2.2.2.2.2.2.1.1 hP hD hS (zoff k1 + i1) (zoff k2 + i2) 0 0 ((zwd_get hi1 σ).trans (by rw [zcell_int n1])) ((zwd_get hi2 σ).trans (by rw [zcell_int n2])) rfl rfl rfl q1 q2 hn0 q4 q5 (fun _ _ => rfl) (by omega) (by omega) hd (fun H1 locs1 hP1 _ hS1 => kk H1 locs1 ?_ hS1)
        rw [zcell_int n2]
        have he := zcpy_row (M := σ.1) (k := k2) (i := i2) (f := va_cpy (σ.1 k1 i1) (σ.1 k2 i2) sp.toNatClampNeg dp.toNatClampNeg n.toNatClampNeg)
        rw [← he]
        exact hP1
      · cases h
    · exact absurd ha (by decide)
    · exact absurd ha (by decide)
    · cases h
/-- what is open of a step: the texts' own methods, and the throws -/
def zJv (l : Launch) (D : va_G) (g : zIds) (adr : Nat → Nat → Nat) (H0 : Heap) : Prop :=
  ∀ (j : Nat) (E : zAF → zSt → zRes), zGE l D g adr H0 j E → ∀ (pc nx a b idx : Nat) (c : Int32) (ts : List Nat) (L st : List zAV) (σ σ' : zSt) (o : zOut), Nat.ble 1000 a = true → zck j pc (.invokevirtual idx) nx a b c ts = true → decode (zcc j) pc = .ok (.invokevirtual idx, nx - pc) → zfok j (pc, L, st) →
    (bif Nat.ble st.length 5 then zjdk E nx L a st σ else none) = some (o, σ') → zCon l D g adr H0 j (pc, L, st) σ o σ'
def zNw (l : Launch) (D : va_G) (g : zIds) (adr : Nat → Nat → Nat) (H0 : Heap) : Prop :=
  ∀ (j pc nx a b idx : Nat) (c : Int32) (ts : List Nat) (L : List zAV) (σ : zSt), zck j pc (.new idx) nx a b c ts = true → decode (zcc j) pc = .ok (.new idx, nx - pc) → zfok j (pc, L, []) → zW l D g adr H0 j (pc, L, []) σ (.inr a) (σ.1, σ.2.1, σ.2.2 + 1)
set_option maxHeartbeats 4000000 in
theorem zstep (hAd : zAd adr H0) (hJv : zJv l D g adr H0) (hNw : zNw l D g adr H0) (hj : j < 245) (hE : zGE l D g adr H0 j E) (hR : zGR l D g adr H0 Rn) : zGE l D g adr H0 j (zbody (zP j).1 E Rn) := by
  intro f σ o σ' h hf
  obtain ⟨pc, L, st⟩ := f
  obtain ⟨-, N, hN, hout⟩ := zall j hj
  have hck := zchk_of hN hout pc
  unfold zbody at h
  simp only [zsetK_eq] at h
  generalize (zP j).1 pc = q at h hck
  rcases q with _ | ⟨ins, nx, a, b, c, ts⟩
  · cases h
  have hc := hck _ rfl
  simp only [zchk, Bool.and_eq_true, decide_eq_true_eq] at hc
  obtain ⟨hd, hk⟩ := hc
  simp only at h hd hk
  split at h
  · -- iconst
    simp only [zck, Bool.and_eq_true, decide_eq_true_eq] at hk
    obtain ⟨e1, e3⟩ := zone hk.1
    subst e1
    rw [e3] at hd
    obtain ⟨r1, r2, r3⟩ := hE _ _ _ _ h (zfok_push hf trivial)
    exact ⟨r1, r2, zW_go (fun hC hl hP _ _ _ _ kk => lv_iconst hC.1 hC.2.1 hd hk.2 kk) r2 r3⟩
  · simp only [zck, Bool.and_eq_true, decide_eq_true_eq] at hk
    obtain ⟨e1, e3⟩ := ztwo hk.1
    subst e1
    rw [e3] at hd
    obtain ⟨r1, r2, r3⟩ := hE _ _ _ _ h (zfok_push hf trivial)
    exact ⟨r1, r2, zW_go (fun hC hl hP _ _ _ _ kk => lv_bipush hC.1 hC.2.1 hd hk.2 kk) r2 r3⟩
  · simp only [zck, Bool.and_eq_true, decide_eq_true_eq] at hk
    obtain ⟨e1, e3⟩ := zthree hk.1
    subst e1
    rw [e3] at hd
    obtain ⟨r1, r2, r3⟩ := hE _ _ _ _ h (zfok_push hf trivial)
    exact ⟨r1, r2, zW_go (fun hC hl hP _ _ _ _ kk => lv_sipush hC.1 hC.2.1 hd hk.2 kk) r2 r3⟩
  · cases a with
    | zero => exact zs_ldc hk hd hf h hE
    | succ a => exact zs_ldc hk hd hf h hE
  · simp only [zck, Bool.and_eq_true] at hk
    obtain ⟨e1, e3⟩ := zthree hk.1
    subst e1
    rw [e3] at hd
    obtain ⟨r1, r2, r3⟩ := hE _ _ _ _ h (zfok_push hf trivial)
    exact ⟨r1, r2, zW_go (fun hC hl hP _ _ _ _ kk => lv_ldcw hC.1 hC.2.1 hC.2.2.2.2.1 (hC.2.2.2.2.2.1 _ (zclink hk.2)) hd kk) r2 r3⟩
  · simp only [zck, Bool.and_eq_true] at hk
    obtain ⟨e1, e3⟩ := zthree hk.1
    subst e1
    rw [e3] at hd
    obtain ⟨r1, r2, r3⟩ := hE _ _ _ _ h (zfok_push hf trivial)
    exact ⟨r1, r2, zW_go (fun hC hl hP _ _ _ _ kk => lv_ldc2 hC.1 hC.2.1 hC.2.2.2.2.1 (hC.2.2.2.2.2.1 _ (zllink hk.2)) hd kk) r2 r3⟩
  · simp only [zck, Bool.and_eq_true] at hk
    obtain ⟨e1, e3⟩ := zone hk.1
    subst e1
    rw [e3] at hd
    have hn := Nat.eq_of_beq_eq_true hk.2
    obtain ⟨r1, r2, r3⟩ := hE _ _ _ _ h (zfok_push hf trivial)
    exact ⟨r1, r2, zW_go (fun hC hl hP _ _ _ _ kk => lv_lconst hC.1 hC.2.1 hd (by rw [hn]; rfl) kk) r2 r3⟩
  · obtain ⟨e1, e3⟩ := zone hk
    subst e1
    rw [e3] at hd
    obtain ⟨r1, r2, r3⟩ := hE _ _ _ _ h (zfok_push hf (Or.inl rfl))
    exact ⟨r1, r2, zW_go (fun hC hl hP _ _ _ _ kk => lv_null hC.1 hC.2.1 hd kk) r2 r3⟩
  · simp only [zck, Bool.and_eq_true] at hk
    obtain ⟨e1, e3⟩ := ztwo hk.1
    subst e1
    rw [e3, Nat.eq_of_beq_eq_true hk.2] at hd
    exact zs_iload (i := 0) hd (Or.inl ⟨rfl, rfl⟩) hf h hE
  · simp only [zck, Bool.and_eq_true] at hk
    obtain ⟨e1, e3⟩ := zone hk.1
    subst e1
    rw [e3] at hd
    exact zs_iload (i := 0) hd (Or.inr ⟨_, rfl, rfl, Nat.eq_of_beq_eq_true hk.2⟩) hf h hE
  · simp only [zck, Bool.and_eq_true] at hk
    obtain ⟨e1, e3⟩ := zone hk.1
    subst e1
    rw [e3] at hd
    exact zs_lload hd (Nat.eq_of_beq_eq_true hk.2) hf h hE
  · simp only [zck, Bool.and_eq_true] at hk
    obtain ⟨e1, e3⟩ := ztwo hk.1
    subst e1
    rw [e3, Nat.eq_of_beq_eq_true hk.2] at hd
    exact zs_aload hd (Or.inl ⟨rfl, rfl⟩) hf h hE
  · simp only [zck, Bool.and_eq_true] at hk
    obtain ⟨e1, e3⟩ := zone hk.1
    subst e1
    rw [e3] at hd
    exact zs_aload hd (Or.inr ⟨_, rfl, rfl, Nat.eq_of_beq_eq_true hk.2⟩) hf h hE
  · simp only [zck, Bool.and_eq_true] at hk
    obtain ⟨e1, e3⟩ := ztwo hk.1.1
    subst e1
    rw [e3, Nat.eq_of_beq_eq_true hk.1.2] at hd
    exact zs_istore hd (Or.inl ⟨rfl, rfl⟩) hk.2 hf h hE
  · simp only [zck, Bool.and_eq_true] at hk
    obtain ⟨e1, e3⟩ := zone hk.1.1
    subst e1
    rw [e3] at hd
    exact zs_istore hd (Or.inr ⟨_, rfl, rfl, Nat.eq_of_beq_eq_true hk.1.2⟩) hk.2 hf h hE
  · simp only [zck, Bool.and_eq_true] at hk
    obtain ⟨e1, e3⟩ := zone hk.1.1.1.1
    subst e1
    rw [e3] at hd
    exact zs_lstore hd (Nat.eq_of_beq_eq_true hk.1.1.1.2) (Nat.eq_of_beq_eq_true hk.1.1.2) hk.1.2 (Nat.le_of_ble_eq_true hk.2) hf h hE
  · simp only [zck, Bool.and_eq_true] at hk
    obtain ⟨e1, e3⟩ := ztwo hk.1.1
    subst e1
    rw [e3, Nat.eq_of_beq_eq_true hk.1.2] at hd
    exact zs_astore hd (Or.inl ⟨rfl, rfl⟩) hk.2 hf h hE
  · simp only [zck, Bool.and_eq_true] at hk
    obtain ⟨e1, e3⟩ := zone hk.1.1
    subst e1
    rw [e3] at hd
    exact zs_astore hd (Or.inr ⟨_, rfl, rfl, Nat.eq_of_beq_eq_true hk.1.2⟩) hk.2 hf h hE
  · simp only [zck, Bool.and_eq_true, decide_eq_true_eq] at hk
    obtain ⟨e1, e3⟩ := zthree hk.1.1.1
    subst e1
    rw [e3, Nat.eq_of_beq_eq_true hk.1.1.2] at hd
    exact zs_iinc hd hk.1.2 hk.2 hf h hE
  · obtain ⟨e1, e3⟩ := zone hk
    subst e1
    rw [e3] at hd
    obtain ⟨r1, r2, r3⟩ := hE _ _ _ _ h (zfok_push (zfok_tail (pc' := pc) (zfok_tail (pc' := pc) hf)) trivial)
    exact ⟨r1, r2, zW_go (fun hC hl hP _ _ _ _ kk => lv_iadd hC.1 hC.2.1 hd kk) r2 r3⟩
  · obtain ⟨e1, e3⟩ := zone hk
    subst e1
    rw [e3] at hd
    obtain ⟨r1, r2, r3⟩ := hE _ _ _ _ h (zfok_push (zfok_tail (pc' := pc) (zfok_tail (pc' := pc) hf)) trivial)
    exact ⟨r1, r2, zW_go (fun hC hl hP _ _ _ _ kk => lv_isub hC.1 hC.2.1 hd kk) r2 r3⟩
  · obtain ⟨e1, e3⟩ := zone hk
    subst e1
    rw [e3] at hd
    obtain ⟨r1, r2, r3⟩ := hE _ _ _ _ h (zfok_push (zfok_tail (pc' := pc) (zfok_tail (pc' := pc) hf)) trivial)
    exact ⟨r1, r2, zW_go (fun hC hl hP _ _ _ _ kk => lv_imul hC.1 hC.2.1 hd kk) r2 r3⟩
  · obtain ⟨e1, e3⟩ := zone hk
    subst e1
    rw [e3] at hd
    split at h
    · cases h
    · rename_i hy
      obtain ⟨r1, r2, r3⟩ := hE _ _ _ _ h (zfok_push (zfok_tail (pc' := pc) (zfok_tail (pc' := pc) hf)) trivial)
      exact ⟨r1, r2, zW_go (fun hC hl hP _ _ _ _ kk => lv_idiv hC.1 hC.2.1 hd hy kk) r2 r3⟩
  · obtain ⟨e1, e3⟩ := zone hk
    subst e1
    rw [e3] at hd
    split at h
    · cases h
    · rename_i hy
      obtain ⟨r1, r2, r3⟩ := hE _ _ _ _ h (zfok_push (zfok_tail (pc' := pc) (zfok_tail (pc' := pc) hf)) trivial)
      exact ⟨r1, r2, zW_go (fun hC hl hP _ _ _ _ kk => lv_irem hC.1 hC.2.1 hd hy kk) r2 r3⟩
  · obtain ⟨e1, e3⟩ := zone hk
    subst e1
    rw [e3] at hd
    obtain ⟨r1, r2, r3⟩ := hE _ _ _ _ h (zfok_push (zfok_tail (pc' := pc) (zfok_tail (pc' := pc) hf)) trivial)
    exact ⟨r1, r2, zW_go (fun hC hl hP _ _ _ _ kk => lv_iand hC.1 hC.2.1 hd kk) r2 r3⟩
  · obtain ⟨e1, e3⟩ := zone hk
    subst e1
    rw [e3] at hd
    obtain ⟨r1, r2, r3⟩ := hE _ _ _ _ h (zfok_push (zfok_tail (pc' := pc) (zfok_tail (pc' := pc) hf)) trivial)
    exact ⟨r1, r2, zW_go (fun hC hl hP _ _ _ _ kk => lv_ior hC.1 hC.2.1 hd kk) r2 r3⟩
  · obtain ⟨e1, e3⟩ := zone hk
    subst e1
    rw [e3] at hd
    obtain ⟨r1, r2, r3⟩ := hE _ _ _ _ h (zfok_push (zfok_tail (pc' := pc) (zfok_tail (pc' := pc) hf)) trivial)
    exact ⟨r1, r2, zW_go (fun hC hl hP _ _ _ _ kk => lv_ishl hC.1 hC.2.1 hd kk) r2 r3⟩
  · obtain ⟨e1, e3⟩ := zone hk
    subst e1
    rw [e3] at hd
    obtain ⟨r1, r2, r3⟩ := hE _ _ _ _ h (zfok_push (zfok_tail (pc' := pc) (zfok_tail (pc' := pc) hf)) trivial)
    exact ⟨r1, r2, zW_go (fun hC hl hP _ _ _ _ kk => lv_ishr hC.1 hC.2.1 hd kk) r2 r3⟩
  · obtain ⟨e1, e3⟩ := zone hk
    subst e1
    rw [e3] at hd
    obtain ⟨r1, r2, r3⟩ := hE _ _ _ _ h (zfok_push (zfok_tail (pc' := pc) (zfok_tail (pc' := pc) hf)) trivial)
    exact ⟨r1, r2, zW_go (fun hC hl hP _ _ _ _ kk => lv_ladd hC.1 hC.2.1 hd kk) r2 r3⟩
  · obtain ⟨e1, e3⟩ := zone hk
    subst e1
    rw [e3] at hd
    obtain ⟨r1, r2, r3⟩ := hE _ _ _ _ h (zfok_push (zfok_tail (pc' := pc) (zfok_tail (pc' := pc) hf)) trivial)
    exact ⟨r1, r2, zW_go (fun hC hl hP _ _ _ _ kk => lv_lmul hC.1 hC.2.1 hd kk) r2 r3⟩
  · obtain ⟨e1, e3⟩ := zone hk
    subst e1
    rw [e3] at hd
    obtain ⟨r1, r2, r3⟩ := hE _ _ _ _ h (zfok_push (zfok_tail (pc' := pc) (zfok_tail (pc' := pc) hf)) trivial)
    exact ⟨r1, r2, zW_go (fun hC hl hP _ _ _ _ kk => W.lcmp hC.1 hC.2.1 hd kk) r2 r3⟩
  · obtain ⟨e1, e3⟩ := zone hk
    subst e1
    rw [e3] at hd
    obtain ⟨r1, r2, r3⟩ := hE _ _ _ _ h (zfok_push (zfok_tail (pc' := pc) hf) trivial)
    exact ⟨r1, r2, zW_go (fun hC hl hP _ _ _ _ kk => lv_i2l hC.1 hC.2.1 hd rfl kk) r2 r3⟩
  · obtain ⟨e1, e3⟩ := zone hk
    subst e1
    rw [e3] at hd
    obtain ⟨r1, r2, r3⟩ := hE _ _ _ _ h (zfok_push (zfok_tail (pc' := pc) hf) trivial)
    exact ⟨r1, r2, zW_go (fun hC hl hP _ _ _ _ kk => lv_i2b hC.1 hC.2.1 hd rfl kk) r2 r3⟩
  · obtain ⟨e1, e3⟩ := zone hk
    subst e1
    rw [e3] at hd
    obtain ⟨r1, r2, r3⟩ := hE _ _ _ _ h (zfok_push hf trivial)
    exact ⟨r1, r2, zW_go (fun hC hl hP _ _ _ _ kk => lv_dup hC.1 hC.2.1 hd rfl kk) r2 r3⟩
  · obtain ⟨e1, e3⟩ := zone hk
    subst e1
    rw [e3] at hd
    obtain ⟨r1, r2, r3⟩ := hE _ _ _ _ h (zfok_push hf (zfok_head hf))
    exact ⟨r1, r2, zW_go (fun hC hl hP _ _ _ _ kk => lv_dup hC.1 hC.2.1 hd (zcat_r _) kk) r2 r3⟩
  · obtain ⟨e1, e3⟩ := zone hk
    subst e1
    rw [e3] at hd
    obtain ⟨r1, r2, r3⟩ := hE _ _ _ _ h (zfok_push (zfok_push (pc' := pc) hf (zfok_head (zfok_tail (pc' := pc) hf))) trivial)
    exact ⟨r1, r2, zW_go (fun hC hl hP _ _ _ _ kk => lv_dup2_11 hC.1 hC.2.1 hd rfl (zcat_r _) kk) r2 r3⟩
  · obtain ⟨e1, e3⟩ := zone hk
    subst e1
    rw [e3] at hd
    obtain ⟨r1, r2, r3⟩ := hE _ _ _ _ h (zfok_tail hf)
    exact ⟨r1, r2, zW_go (fun hC hl hP _ _ _ _ kk => lv_pop hC.1 hC.2.1 hd rfl kk) r2 r3⟩
  · simp only [zck, Bool.and_eq_true, decide_eq_true_eq] at hk
    obtain ⟨e1, e3⟩ := zthree hk.1
    rw [e3] at hd
    obtain ⟨r1, r2, r3⟩ := hE _ _ _ _ h (zfok_pc hf)
    exact ⟨r1, r2, zW_go (fun hC hl hP _ _ _ _ kk => lv_goto hC.1 hC.2.1 hd hk.2 kk) r2 r3⟩
  · simp only [zck, Bool.and_eq_true, decide_eq_true_eq] at hk
    obtain ⟨e1, e3⟩ := zthree hk.1
    subst e1
    rw [e3] at hd
    split at h
    · rename_i hxy
      obtain ⟨r1, r2, r3⟩ := hE _ _ _ _ h (zfok_pc (zfok_tail (pc' := pc) (zfok_tail (pc' := pc) hf)))
      exact ⟨r1, r2, zW_go (fun hC hl hP _ _ _ _ kk => lv_icmp_eq hC.1 hC.2.1 hd hk.2 (fun _ => kk) (fun hn => absurd hxy hn)) r2 r3⟩
    · rename_i hxy
      obtain ⟨r1, r2, r3⟩ := hE _ _ _ _ h (zfok_pc (zfok_tail (pc' := pc) (zfok_tail (pc' := pc) hf)))
      exact ⟨r1, r2, zW_go (fun hC hl hP _ _ _ _ kk => lv_icmp_eq hC.1 hC.2.1 hd hk.2 (fun hn => absurd hn hxy) (fun _ => kk)) r2 r3⟩
  · simp only [zck, Bool.and_eq_true, decide_eq_true_eq] at hk
    obtain ⟨e1, e3⟩ := zthree hk.1
    subst e1
    rw [e3] at hd
    split at h
    · rename_i hxy
      obtain ⟨r1, r2, r3⟩ := hE _ _ _ _ h (zfok_pc (zfok_tail (pc' := pc) (zfok_tail (pc' := pc) hf)))
      exact ⟨r1, r2, zW_go (fun hC hl hP _ _ _ _ kk => lv_icmp_ne hC.1 hC.2.1 hd hk.2 (fun hn => absurd hxy hn) (fun _ => kk)) r2 r3⟩
    · rename_i hxy
      obtain ⟨r1, r2, r3⟩ := hE _ _ _ _ h (zfok_pc (zfok_tail (pc' := pc) (zfok_tail (pc' := pc) hf)))
      exact ⟨r1, r2, zW_go (fun hC hl hP _ _ _ _ kk => lv_icmp_ne hC.1 hC.2.1 hd hk.2 (fun _ => kk) (fun hn => absurd hn hxy)) r2 r3⟩
  · simp only [zck, Bool.and_eq_true, decide_eq_true_eq] at hk
    obtain ⟨e1, e3⟩ := zthree hk.1
    subst e1
    rw [e3] at hd
    split at h
    · rename_i hxy
      obtain ⟨r1, r2, r3⟩ := hE _ _ _ _ h (zfok_pc (zfok_tail (pc' := pc) (zfok_tail (pc' := pc) hf)))
      exact ⟨r1, r2, zW_go (fun hC hl hP _ _ _ _ kk => lv_icmp_lt hC.1 hC.2.1 hd hk.2 (fun _ => kk) (fun hn => absurd hxy hn)) r2 r3⟩
    · rename_i hxy
      obtain ⟨r1, r2, r3⟩ := hE _ _ _ _ h (zfok_pc (zfok_tail (pc' := pc) (zfok_tail (pc' := pc) hf)))
      exact ⟨r1, r2, zW_go (fun hC hl hP _ _ _ _ kk => lv_icmp_lt hC.1 hC.2.1 hd hk.2 (fun hn => absurd hn hxy) (fun _ => kk)) r2 r3⟩
  · simp only [zck, Bool.and_eq_true, decide_eq_true_eq] at hk
    obtain ⟨e1, e3⟩ := zthree hk.1
    subst e1
    rw [e3] at hd
    split at h
    · rename_i hxy
      obtain ⟨r1, r2, r3⟩ := hE _ _ _ _ h (zfok_pc (zfok_tail (pc' := pc) (zfok_tail (pc' := pc) hf)))
      exact ⟨r1, r2, zW_go (fun hC hl hP _ _ _ _ kk => lv_icmp_ge hC.1 hC.2.1 hd hk.2 (fun hn => absurd hn (zlt_nle hxy)) (fun _ => kk)) r2 r3⟩
    · rename_i hxy
      obtain ⟨r1, r2, r3⟩ := hE _ _ _ _ h (zfok_pc (zfok_tail (pc' := pc) (zfok_tail (pc' := pc) hf)))
      exact ⟨r1, r2, zW_go (fun hC hl hP _ _ _ _ kk => lv_icmp_ge hC.1 hC.2.1 hd hk.2 (fun _ => kk) (fun hn => absurd (znlt_le hxy) hn)) r2 r3⟩
  · simp only [zck, Bool.and_eq_true, decide_eq_true_eq] at hk
    obtain ⟨e1, e3⟩ := zthree hk.1
    subst e1
    rw [e3] at hd
    split at h
    · rename_i hxy
      obtain ⟨r1, r2, r3⟩ := hE _ _ _ _ h (zfok_pc (zfok_tail (pc' := pc) (zfok_tail (pc' := pc) hf)))
      exact ⟨r1, r2, zW_go (fun hC hl hP _ _ _ _ kk => lv_icmp_gt hC.1 hC.2.1 hd hk.2 (fun _ => kk) (fun hn => absurd hxy hn)) r2 r3⟩
    · rename_i hxy
      obtain ⟨r1, r2, r3⟩ := hE _ _ _ _ h (zfok_pc (zfok_tail (pc' := pc) (zfok_tail (pc' := pc) hf)))
      exact ⟨r1, r2, zW_go (fun hC hl hP _ _ _ _ kk => lv_icmp_gt hC.1 hC.2.1 hd hk.2 (fun hn => absurd hn hxy) (fun _ => kk)) r2 r3⟩
  · simp only [zck, Bool.and_eq_true, decide_eq_true_eq] at hk
    obtain ⟨e1, e3⟩ := zthree hk.1
    subst e1
    rw [e3] at hd
    split at h
    · rename_i hxy
      obtain ⟨r1, r2, r3⟩ := hE _ _ _ _ h (zfok_pc (zfok_tail (pc' := pc) (zfok_tail (pc' := pc) hf)))
      exact ⟨r1, r2, zW_go (fun hC hl hP _ _ _ _ kk => lv_icmp_le hC.1 hC.2.1 hd hk.2 (fun hn => absurd hn (zlt_nle hxy)) (fun _ => kk)) r2 r3⟩
    · rename_i hxy
      obtain ⟨r1, r2, r3⟩ := hE _ _ _ _ h (zfok_pc (zfok_tail (pc' := pc) (zfok_tail (pc' := pc) hf)))
      exact ⟨r1, r2, zW_go (fun hC hl hP _ _ _ _ kk => lv_icmp_le hC.1 hC.2.1 hd hk.2 (fun _ => kk) (fun hn => absurd (znlt_le hxy) hn)) r2 r3⟩
  · simp only [zck, Bool.and_eq_true, decide_eq_true_eq] at hk
    obtain ⟨e1, e3⟩ := zthree hk.1
    subst e1
    rw [e3] at hd
    split at h
    · rename_i hxy
      obtain ⟨r1, r2, r3⟩ := hE _ _ _ _ h (zfok_pc (zfok_tail (pc' := pc) hf))
      exact ⟨r1, r2, zW_go (fun hC hl hP _ _ _ _ kk => lv_if_eq hC.1 hC.2.1 hd hk.2 (fun _ => kk) (fun hn => absurd hxy hn)) r2 r3⟩
    · rename_i hxy
      obtain ⟨r1, r2, r3⟩ := hE _ _ _ _ h (zfok_pc (zfok_tail (pc' := pc) hf))
      exact ⟨r1, r2, zW_go (fun hC hl hP _ _ _ _ kk => lv_if_eq hC.1 hC.2.1 hd hk.2 (fun hn => absurd hn hxy) (fun _ => kk)) r2 r3⟩
  · simp only [zck, Bool.and_eq_true, decide_eq_true_eq] at hk
    obtain ⟨e1, e3⟩ := zthree hk.1
    subst e1
    rw [e3] at hd
    split at h
    · rename_i hxy
      obtain ⟨r1, r2, r3⟩ := hE _ _ _ _ h (zfok_pc (zfok_tail (pc' := pc) hf))
      exact ⟨r1, r2, zW_go (fun hC hl hP _ _ _ _ kk => lv_if_ne hC.1 hC.2.1 hd hk.2 (fun hn => absurd hxy hn) (fun _ => kk)) r2 r3⟩
    · rename_i hxy
      obtain ⟨r1, r2, r3⟩ := hE _ _ _ _ h (zfok_pc (zfok_tail (pc' := pc) hf))
      exact ⟨r1, r2, zW_go (fun hC hl hP _ _ _ _ kk => lv_if_ne hC.1 hC.2.1 hd hk.2 (fun _ => kk) (fun hn => absurd hn hxy)) r2 r3⟩
  · simp only [zck, Bool.and_eq_true, decide_eq_true_eq] at hk
    obtain ⟨e1, e3⟩ := zthree hk.1
    subst e1
    rw [e3] at hd
    split at h
    · rename_i hxy
      obtain ⟨r1, r2, r3⟩ := hE _ _ _ _ h (zfok_pc (zfok_tail (pc' := pc) hf))
      exact ⟨r1, r2, zW_go (fun hC hl hP _ _ _ _ kk => lv_if_lt hC.1 hC.2.1 hd hk.2 (fun _ => kk) (fun hn => absurd hxy hn)) r2 r3⟩
    · rename_i hxy
      obtain ⟨r1, r2, r3⟩ := hE _ _ _ _ h (zfok_pc (zfok_tail (pc' := pc) hf))
      exact ⟨r1, r2, zW_go (fun hC hl hP _ _ _ _ kk => lv_if_lt hC.1 hC.2.1 hd hk.2 (fun hn => absurd hn hxy) (fun _ => kk)) r2 r3⟩
  · simp only [zck, Bool.and_eq_true, decide_eq_true_eq] at hk
    obtain ⟨e1, e3⟩ := zthree hk.1
    subst e1
    rw [e3] at hd
    split at h
    · rename_i hxy
      obtain ⟨r1, r2, r3⟩ := hE _ _ _ _ h (zfok_pc (zfok_tail (pc' := pc) hf))
      exact ⟨r1, r2, zW_go (fun hC hl hP _ _ _ _ kk => lv_if_ge hC.1 hC.2.1 hd hk.2 (fun hn => absurd hn (zlt_nle hxy)) (fun _ => kk)) r2 r3⟩
    · rename_i hxy
      obtain ⟨r1, r2, r3⟩ := hE _ _ _ _ h (zfok_pc (zfok_tail (pc' := pc) hf))
      exact ⟨r1, r2, zW_go (fun hC hl hP _ _ _ _ kk => lv_if_ge hC.1 hC.2.1 hd hk.2 (fun _ => kk) (fun hn => absurd (znlt_le hxy) hn)) r2 r3⟩
  · simp only [zck, Bool.and_eq_true, decide_eq_true_eq] at hk
    obtain ⟨e1, e3⟩ := zthree hk.1
    subst e1
    rw [e3] at hd
    split at h
    · rename_i hxy
      obtain ⟨r1, r2, r3⟩ := hE _ _ _ _ h (zfok_pc (zfok_tail (pc' := pc) hf))
      exact ⟨r1, r2, zW_go (fun hC hl hP _ _ _ _ kk => lv_if_gt hC.1 hC.2.1 hd hk.2 (fun _ => kk) (fun hn => absurd hxy hn)) r2 r3⟩
    · rename_i hxy
      obtain ⟨r1, r2, r3⟩ := hE _ _ _ _ h (zfok_pc (zfok_tail (pc' := pc) hf))
      exact ⟨r1, r2, zW_go (fun hC hl hP _ _ _ _ kk => lv_if_gt hC.1 hC.2.1 hd hk.2 (fun hn => absurd hn hxy) (fun _ => kk)) r2 r3⟩
  · simp only [zck, Bool.and_eq_true, decide_eq_true_eq] at hk
    obtain ⟨e1, e3⟩ := zthree hk.1
    subst e1
    rw [e3] at hd
    split at h
    · rename_i hxy
      obtain ⟨r1, r2, r3⟩ := hE _ _ _ _ h (zfok_pc (zfok_tail (pc' := pc) hf))
      exact ⟨r1, r2, zW_go (fun hC hl hP _ _ _ _ kk => lv_if_le hC.1 hC.2.1 hd hk.2 (fun hn => absurd hn (zlt_nle hxy)) (fun _ => kk)) r2 r3⟩
    · rename_i hxy
      obtain ⟨r1, r2, r3⟩ := hE _ _ _ _ h (zfok_pc (zfok_tail (pc' := pc) hf))
      exact ⟨r1, r2, zW_go (fun hC hl hP _ _ _ _ kk => lv_if_le hC.1 hC.2.1 hd hk.2 (fun _ => kk) (fun hn => absurd (znlt_le hxy) hn)) r2 r3⟩
  · simp only [zck, Bool.and_eq_true, decide_eq_true_eq] at hk
    obtain ⟨e1, e3⟩ := zthree hk.1
    subst e1
    rw [e3] at hd
    obtain ⟨r1, r2, r3⟩ := hE _ _ _ _ h (zfok_tail hf)
    exact ⟨r1, r2, zW_go (fun hC hl hP _ _ _ _ kk => lv_ifnonnullN hC.1 hC.2.1 hd kk) r2 r3⟩
  · simp only [zck, Bool.and_eq_true, decide_eq_true_eq] at hk
    obtain ⟨e1, e3⟩ := zthree hk.1
    rw [e3] at hd
    obtain ⟨r1, r2, r3⟩ := hE _ _ _ _ h (zfok_tail hf)
    exact ⟨r1, r2, zW_go (fun hC hl hP _ _ _ _ kk => lv_ifnonnull hC.1 hC.2.1 hd hk.2 kk) r2 r3⟩
  · exact zs_sw hk hd hf h hE
  · exact zs_getfield hk hd hf h hE
  · exact zs_putfield hAd hk hd hf h hE
  · exact zs_iaload hk hd hf h hE
  · exact zs_baload hk hd hf h hE
  · exact zs_iastore hAd hk hd hf h hE
  · exact zs_bastore hAd hk hd hf h hE
  · exact zs_aaload hk hd hf h hE
  · exact zs_alen hk hd hf h hE
  · cases a with
    | zero => exact zs_ireturn hk hd h
    | succ a => exact zs_ireturn hk hd h
  · exact zs_lreturn hk hd h
  · exact zs_areturn (zfok_head hf) hk hd h
  · exact zs_areturn (zfok_head hf) hk hd h
  · exact zs_return hk hd h
  · cases h
    exact ⟨trivial, Nat.le_succ _, hNw j pc nx _ b _ c ts L σ hk hd hf⟩
  · cases hlt : Nat.ble 1000 a with
    | true => rw [hlt] at h; exact zs_jst hAd hlt hk hd hf h hE
    | false => rw [hlt] at h; exact zs_stat hlt hk hd hf h hE hR
  · cases hlt : Nat.ble 1000 a with
    | true => rw [hlt] at h; exact hJv j E hE pc nx a b _ c ts L _ σ σ' o hlt hk hd hf h
    | false => rw [hlt] at h; exact zs_virt hlt hk hd hf h hE hR
  · cases h
end ZMN
