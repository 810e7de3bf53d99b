/-! the law's helpers -/
theorem zva_ok {k : Nat} (hk : 0 < zcnt k) (xs : List Int32) : ∀ v ∈ (zR k 0 :: xs.map zI : List zAV), zvok v := by
  intro v hv
  rcases List.mem_cons.mp hv with rfl | hv
  · exact Or.inr (Or.inr hk)
  · obtain ⟨x, -, rfl⟩ := List.mem_map.mp hv
    exact trivial
theorem zout_get {g : zIds} {adr : Nat → Nat → Nat} {σ : zSt} : (zwd g adr σ)[414]? = some (adr 41 0, .inl (g.2.2.1, 1, .inr (.inl (fun _ => σ.2.1)))) := zwd_get (k := 41) (i := 0) (by decide) σ
theorem dL_put_0 : decode cL_put 0 = .ok (.aload 4, 2) := by decide +kernel
theorem dL_put_2 : decode cL_put 2 = .ok (.iconst 0, 1) := by decide +kernel
theorem dL_put_3 : decode cL_put 3 = .ok (.aload_n 0, 1) := by decide +kernel
theorem dL_put_4 : decode cL_put 4 = .ok (.iload_n 1, 1) := by decide +kernel
theorem dL_put_5 : decode cL_put 5 = .ok (.iload_n 2, 1) := by decide +kernel
theorem dL_put_6 : decode cL_put 6 = .ok (.iload_n 3, 1) := by decide +kernel
theorem dL_put_7 : decode cL_put 7 = .ok (.invokevirtual 15, 3) := by decide +kernel
theorem dL_put_10 : decode cL_put 10 = .ok (.i2l, 1) := by decide +kernel
theorem dL_put_11 : decode cL_put 11 = .ok (.lastore, 1) := by decide +kernel
theorem dL_put_12 : decode cL_put 12 = .ok (.goto 15, 3) := by decide +kernel
theorem dL_put_15 : decode cL_put 15 = .ok (.astore 5, 2) := by decide +kernel
theorem dL_put_17 : decode cL_put 17 = .ok (.iconst 1, 1) := by decide +kernel
theorem dL_put_18 : decode cL_put 18 = .ok (.ireturn, 1) := by decide +kernel
theorem dL_put_19 : decode cL_put 19 = .ok (.astore 5, 2) := by decide +kernel
theorem dL_put_21 : decode cL_put 21 = .ok (.iconst 2, 1) := by decide +kernel
theorem dL_put_22 : decode cL_put 22 = .ok (.ireturn, 1) := by decide +kernel
theorem dL_put_23 : decode cL_put 23 = .ok (.astore 5, 2) := by decide +kernel
theorem dL_put_25 : decode cL_put 25 = .ok (.iconst 3, 1) := by decide +kernel
theorem dL_put_26 : decode cL_put 26 = .ok (.ireturn, 1) := by decide +kernel
theorem dL_put_27 : decode cL_put 27 = .ok (.iconst 0, 1) := by decide +kernel
theorem dL_put_28 : decode cL_put 28 = .ok (.ireturn, 1) := by decide +kernel
theorem zhw_put_c : Cond.codeWith yL_put cL_put 6 (some .int) [(0, 12, 15, 19), (0, 12, 19, 13), (0, 12, 23, 21)] ∈ zTb := zTb_in (i := 688) (by decide +kernel) rfl
theorem zhw_put_l : Cond.methodLink RL 15 (zy 94) ∈ zTb := zTb_in (i := 691) (by decide +kernel) rfl
theorem zhw_put_o : 10 + zown 94 = 15 := by decide +kernel
theorem zhw_put_v : (match zMW[94]? with
      | some q => !q.1
      | none => false) = true := by decide +kernel
theorem zhw_put_p : (parseMethodDescriptor (zy 94).desc).map (fun d => d.parameters.length) = some 3 := by decide +kernel
theorem zhw_put_n : 4 ≤ (zP 94).2 := by decide +kernel
set_option maxHeartbeats 4000000 in
set_option maxRecDepth 100000 in
theorem zh_put {l : Launch} {D : va_G} {g : zIds} {adr : Nat → Nat → Nat} {H0 : Heap} (hAd : zAd adr H0) (hJv : zJv l D g adr H0) (hNw : zNw l D g adr H0) (x1 x2 x3 : Int32) {σ σ1 : zSt} {k : Int32} (h : zhR 94 [zI x1, zI x2, zI x3] cd3 σ k σ1) : zHm l D g adr H0 94 yL_put cL_put 6 [(0, 12, 15, 19), (0, 12, 19, 13), (0, 12, 23, 21)] [zI x1, zI x2, zI x3] σ k σ1 := by
  refine vx_ofWH (cc := cL_put) (maxL := 6) (ret := some .int) (hh := [(0, 12, 15, 19), (0, 12, 19, 13), (0, 12, 23, 21)]) (by decide) rfl ?_
  intro p e s m args below meth c s₁ B hml hv9
  obtain ⟨⟨hav, hG, hWd⟩, hN⟩ := hv9
  replace hav : args = [.ref (adr 15 0), .int x1, .int x2, .int x3, .ref (adr 41 0)].toArray := hav
  subst hav
  have hx := B.exec
  have hb := B.bytes
  have hr := B.returns
  have hlocks := B.notSynchronized
  have hts0 := atoms_spec (ws := .codeWith yL_put cL_put 6 (some .int) [(0, 12, 15, 19), (0, 12, 19, 13), (0, 12, 23, 21)] :: zTb) B.pre
  have htab : c.exceptionTable.toList = tableOf [(0, 12, 15, 19), (0, 12, 19, 13), (0, 12, 23, 21)] := vx_table (x := yL_put) B (hts0 _ List.mem_cons_self)
  have hts : ∀ w ∈ zTb, w.before [.ref (adr 15 0), .int x1, .int x2, .int x3, .ref (adr 41 0)].toArray s = true := fun w hw => hts0 w (List.mem_cons_of_mem _ hw)
  have hown : s.vm.findClass RL = some m.cls := findClass_of_methodNamed B.named
  have hle := zhR_le h
  have hH := hWd.2
  have hP : va_P D vwCl (zwd g adr σ) s.heap := hWd.1
  have hS : va_S (zA H0) s.heap s.heap [] := va_S.rf
  have hl := lv_entry ([.ref (adr 15 0), .int x1, .int x2, .int x3, .ref (adr 41 0)]) (n := 6) (Nat.le_of_ble_eq_true rfl)
  rw [show (headSpec (.codeWith yL_put cL_put 6 (some .int) [(0, 12, 15, 19), (0, 12, 19, 13), (0, 12, 23, 21)] :: zTb) (zhrm 94 (σ1.2.2 - σ.2.2))).room = zhrm 94 (σ1.2.2 - σ.2.2) from rfl]
  rw [lg_entry_eq]
  generalize (lg_sl ([.ref (adr 15 0), .int x1, .int x2, .int x3, .ref (adr 41 0)]) ++ List.replicate (6 - (lg_sl ([.ref (adr 15 0), .int x1, .int x2, .int x3, .ref (adr 41 0)])).length) Slot.unset).toArray = ls at hl ⊢
  have hl : lv_has ls 6 [(0, .ref (adr 15 0)), (1, .int x1), (2, .int x2), (3, .int x3), (4, .ref (adr 41 0))] := hl
  refine lv_aload hx hb dL_put_0 (lv_at hl 4 rfl) ?_
  refine lv_iconst (v := 0) hx hb dL_put_2 (by decide) ?_
  refine lv_aload_n hx hb dL_put_3 rfl (lv_at hl 0 rfl) ?_
  refine lv_iload_n hx hb dL_put_4 rfl (lv_at hl 1 rfl) ?_
  refine lv_iload_n hx hb dL_put_5 rfl (lv_at hl 2 rfl) ?_
  refine lv_iload_n hx hb dL_put_6 rfl (lv_at hl 3 rfl) ?_
  rcases h with ⟨x, M1, hrun, rfl, rfl⟩ | ⟨ex, M1, he3, hz, hrun, rfl, rfl⟩
  · obtain ⟨-, hle1, hM⟩ := zrun_met hAd hJv hNw (j := 94) (by decide) hrun (zva_ok (k := 15) (by decide) [x1, x2, x3]) rfl zhw_put_n
    refine zW_ret hS (zl_v (a := 94) (kd := 15) (as := [zI x1, zI x2, zI x3]) hx hb (hml.trans hl.1.symm) hown hts hG hH (by decide) zhw_put_o hM (by decide) zhw_put_l zhw_put_v zhw_put_p (Nat.le_refl _) (zl_lo 94 _) hP hS (Nat.le_of_ble_eq_true rfl) dL_put_7 (Nat.le_of_eq (Nat.zero_add _)) (Nat.le_of_eq (Nat.zero_add _)) rfl) (fun H locs hP hS => ?_)
    refine lv_i2l hx hb dL_put_10 rfl ?_
    refine va_last hx hb hG.1 hP (zwd_D hAd _) hS 414 2 zout_get rfl (vp_in_nI (n := 0) (N := 1) (by decide) (by decide)) dL_put_11 (fun H locs hP _ hS => ?_)
    have hP := zout_P rfl hP
    refine lv_goto (tgt := 27) hx hb dL_put_12 rfl ?_
    refine lv_iconst (v := 0) hx hb dL_put_27 (by decide) ?_
    refine W.widen (k := σ.2.2 - σ.2.2) (n := 6 * (σ.2.2 - σ.2.2)) (Nat.le_of_eq (Nat.zero_add _)) (Nat.le_of_eq (Nat.zero_add _)) ?_
    exact vx_ret (W.iret hx hb hr (fun t ht hW => ⟨rfl, by rw [ht]; exact zl_here hH hP hS⟩) hS.2.2 dL_put_28)
  · obtain ⟨-, hle1, hM⟩ := zrun_met hAd hJv hNw (j := 94) (by decide) hrun (zva_ok (k := 15) (by decide) [x1, x2, x3]) rfl zhw_put_n
    refine zW_cat hS (zl_v (a := 94) (kd := 15) (as := [zI x1, zI x2, zI x3]) hx hb (hml.trans hl.1.symm) hown hts hG hH (by decide) zhw_put_o hM (by decide) zhw_put_l zhw_put_v zhw_put_p (Nat.le_refl _) (zl_lo 94 _) hP hS (Nat.le_of_ble_eq_true rfl) dL_put_7 (Nat.le_of_eq (Nat.zero_add _)) (Nat.le_of_eq (Nat.zero_add _)) rfl) (fun q ce H locs hP hS hce hcv hcl => ?_)
    rcases (show ex = 0 ∨ ex = 1 ∨ ex = 2 by omega) with rfl | rfl | rfl
    · refine vx_catch (own := RL) (name := zxn 0) (E := zxn 0) hown [] ⟨0, 12, 15, 19⟩ [⟨0, 12, 19, 13⟩, ⟨0, 12, 23, 21⟩] (htab.trans rfl) (fun z hz => nomatch hz) (by decide) (by decide) (hts _ zhl_19) (va_Nw.use rfl (hG.2.2.2.2.2 (Cond.castable (zxn 0) (zxn 0)) (List.mem_of_getElem? (i := 3) rfl))) hce hcv hcl ?_
      refine lv_astore hx hb dL_put_15 hl (by decide) rfl (fun ls hl => ?_)
      refine lv_iconst (v := 1) hx hb dL_put_17 (by decide) ?_
      refine W.widen (k := σ.2.2 + 1 - σ.2.2) (n := 6 * (σ.2.2 + 1 - σ.2.2)) (Nat.le_of_eq (Nat.zero_add _)) (Nat.le_of_eq (Nat.zero_add _)) ?_
      exact vx_ret (W.iret hx hb hr (fun t ht hW => ⟨rfl, by rw [ht]; exact zl_here hH hP hS⟩) hS.2.2 dL_put_18)
    · refine vx_catch (own := RL) (name := zxn 1) (E := zxn 1) hown [⟨0, 12, 15, 19⟩] ⟨0, 12, 19, 13⟩ [⟨0, 12, 23, 21⟩] (htab.trans rfl) (fun z hz => by simp only [List.mem_cons, List.not_mem_nil, or_false] at hz; rcases hz with rfl <;> first | exact Or.inr ⟨by decide, zxn 0, hts _ zhl_19, hN.1⟩) (by decide) (by decide) (hts _ zhl_13) (va_Nw.use rfl (hG.2.2.2.2.2 (Cond.castable (zxn 1) (zxn 1)) (List.mem_of_getElem? (i := 4) rfl))) hce hcv hcl ?_
      refine lv_astore hx hb dL_put_19 hl (by decide) rfl (fun ls hl => ?_)
      refine lv_iconst (v := 2) hx hb dL_put_21 (by decide) ?_
      refine W.widen (k := σ.2.2 + 1 - σ.2.2) (n := 6 * (σ.2.2 + 1 - σ.2.2)) (Nat.le_of_eq (Nat.zero_add _)) (Nat.le_of_eq (Nat.zero_add _)) ?_
      exact vx_ret (W.iret hx hb hr (fun t ht hW => ⟨rfl, by rw [ht]; exact zl_here hH hP hS⟩) hS.2.2 dL_put_22)
    · refine vx_catch (own := RL) (name := zxn 2) (E := zxn 2) hown [⟨0, 12, 15, 19⟩, ⟨0, 12, 19, 13⟩] ⟨0, 12, 23, 21⟩ [] (htab.trans rfl) (fun z hz => by simp only [List.mem_cons, List.not_mem_nil, or_false] at hz; rcases hz with rfl | rfl <;> first | exact Or.inr ⟨by decide, zxn 0, hts _ zhl_19, hN.2.1⟩ | exact Or.inr ⟨by decide, zxn 1, hts _ zhl_13, hN.2.2⟩) (by decide) (by decide) (hts _ zhl_21) (va_Nw.use rfl (hG.2.2.2.2.2 (Cond.castable (zxn 2) (zxn 2)) (List.mem_of_getElem? (i := 5) rfl))) hce hcv hcl ?_
      refine lv_astore hx hb dL_put_23 hl (by decide) rfl (fun ls hl => ?_)
      refine lv_iconst (v := 3) hx hb dL_put_25 (by decide) ?_
      refine W.widen (k := σ.2.2 + 1 - σ.2.2) (n := 6 * (σ.2.2 + 1 - σ.2.2)) (Nat.le_of_eq (Nat.zero_add _)) (Nat.le_of_eq (Nat.zero_add _)) ?_
      exact vx_ret (W.iret hx hb hr (fun t ht hW => ⟨rfl, by rw [ht]; exact zl_here hH hP hS⟩) hS.2.2 dL_put_26)
theorem dL_point_0 : decode cL_point 0 = .ok (.aload_n 3, 1) := by decide +kernel
theorem dL_point_1 : decode cL_point 1 = .ok (.iconst 0, 1) := by decide +kernel
theorem dL_point_2 : decode cL_point 2 = .ok (.aload_n 0, 1) := by decide +kernel
theorem dL_point_3 : decode cL_point 3 = .ok (.iload_n 1, 1) := by decide +kernel
theorem dL_point_4 : decode cL_point 4 = .ok (.iload_n 2, 1) := by decide +kernel
theorem dL_point_5 : decode cL_point 5 = .ok (.invokevirtual 23, 3) := by decide +kernel
theorem dL_point_8 : decode cL_point 8 = .ok (.i2l, 1) := by decide +kernel
theorem dL_point_9 : decode cL_point 9 = .ok (.lastore, 1) := by decide +kernel
theorem dL_point_10 : decode cL_point 10 = .ok (.goto 15, 3) := by decide +kernel
theorem dL_point_13 : decode cL_point 13 = .ok (.astore 4, 2) := by decide +kernel
theorem dL_point_15 : decode cL_point 15 = .ok (.iconst 1, 1) := by decide +kernel
theorem dL_point_16 : decode cL_point 16 = .ok (.ireturn, 1) := by decide +kernel
theorem dL_point_17 : decode cL_point 17 = .ok (.astore 4, 2) := by decide +kernel
theorem dL_point_19 : decode cL_point 19 = .ok (.iconst 2, 1) := by decide +kernel
theorem dL_point_20 : decode cL_point 20 = .ok (.ireturn, 1) := by decide +kernel
theorem dL_point_21 : decode cL_point 21 = .ok (.astore 4, 2) := by decide +kernel
theorem dL_point_23 : decode cL_point 23 = .ok (.iconst 3, 1) := by decide +kernel
theorem dL_point_24 : decode cL_point 24 = .ok (.ireturn, 1) := by decide +kernel
theorem dL_point_25 : decode cL_point 25 = .ok (.iconst 0, 1) := by decide +kernel
theorem dL_point_26 : decode cL_point 26 = .ok (.ireturn, 1) := by decide +kernel
theorem zhw_point_c : Cond.codeWith yL_point cL_point 5 (some .int) [(0, 10, 13, 19), (0, 10, 17, 13), (0, 10, 21, 21)] ∈ zTb := zTb_in (i := 756) (by decide +kernel) rfl
theorem zhw_point_l : Cond.methodLink RL 23 (zy 95) ∈ zTb := zTb_in (i := 757) (by decide +kernel) rfl
theorem zhw_point_o : 10 + zown 95 = 15 := by decide +kernel
theorem zhw_point_v : (match zMW[95]? with
      | some q => !q.1
      | none => false) = true := by decide +kernel
theorem zhw_point_p : (parseMethodDescriptor (zy 95).desc).map (fun d => d.parameters.length) = some 2 := by decide +kernel
theorem zhw_point_n : 3 ≤ (zP 95).2 := by decide +kernel
set_option maxHeartbeats 4000000 in
set_option maxRecDepth 100000 in
theorem zh_point {l : Launch} {D : va_G} {g : zIds} {adr : Nat → Nat → Nat} {H0 : Heap} (hAd : zAd adr H0) (hJv : zJv l D g adr H0) (hNw : zNw l D g adr H0) (x1 x2 : Int32) {σ σ1 : zSt} {k : Int32} (h : zhR 95 [zI x1, zI x2] cd3 σ k σ1) : zHm l D g adr H0 95 yL_point cL_point 5 [(0, 10, 13, 19), (0, 10, 17, 13), (0, 10, 21, 21)] [zI x1, zI x2] σ k σ1 := by
  refine vx_ofWH (cc := cL_point) (maxL := 5) (ret := some .int) (hh := [(0, 10, 13, 19), (0, 10, 17, 13), (0, 10, 21, 21)]) (by decide) rfl ?_
  intro p e s m args below meth c s₁ B hml hv9
  obtain ⟨⟨hav, hG, hWd⟩, hN⟩ := hv9
  replace hav : args = [.ref (adr 15 0), .int x1, .int x2, .ref (adr 41 0)].toArray := hav
  subst hav
  have hx := B.exec
  have hb := B.bytes
  have hr := B.returns
  have hlocks := B.notSynchronized
  have hts0 := atoms_spec (ws := .codeWith yL_point cL_point 5 (some .int) [(0, 10, 13, 19), (0, 10, 17, 13), (0, 10, 21, 21)] :: zTb) B.pre
  have htab : c.exceptionTable.toList = tableOf [(0, 10, 13, 19), (0, 10, 17, 13), (0, 10, 21, 21)] := vx_table (x := yL_point) B (hts0 _ List.mem_cons_self)
  have hts : ∀ w ∈ zTb, w.before [.ref (adr 15 0), .int x1, .int x2, .ref (adr 41 0)].toArray s = true := fun w hw => hts0 w (List.mem_cons_of_mem _ hw)
  have hown : s.vm.findClass RL = some m.cls := findClass_of_methodNamed B.named
  have hle := zhR_le h
  have hH := hWd.2
  have hP : va_P D vwCl (zwd g adr σ) s.heap := hWd.1
  have hS : va_S (zA H0) s.heap s.heap [] := va_S.rf
  have hl := lv_entry ([.ref (adr 15 0), .int x1, .int x2, .ref (adr 41 0)]) (n := 5) (Nat.le_of_ble_eq_true rfl)
  rw [show (headSpec (.codeWith yL_point cL_point 5 (some .int) [(0, 10, 13, 19), (0, 10, 17, 13), (0, 10, 21, 21)] :: zTb) (zhrm 95 (σ1.2.2 - σ.2.2))).room = zhrm 95 (σ1.2.2 - σ.2.2) from rfl]
  rw [lg_entry_eq]
  generalize (lg_sl ([.ref (adr 15 0), .int x1, .int x2, .ref (adr 41 0)]) ++ List.replicate (5 - (lg_sl ([.ref (adr 15 0), .int x1, .int x2, .ref (adr 41 0)])).length) Slot.unset).toArray = ls at hl ⊢
  have hl : lv_has ls 5 [(0, .ref (adr 15 0)), (1, .int x1), (2, .int x2), (3, .ref (adr 41 0))] := hl
  refine lv_aload_n hx hb dL_point_0 rfl (lv_at hl 3 rfl) ?_
  refine lv_iconst (v := 0) hx hb dL_point_1 (by decide) ?_
  refine lv_aload_n hx hb dL_point_2 rfl (lv_at hl 0 rfl) ?_
  refine lv_iload_n hx hb dL_point_3 rfl (lv_at hl 1 rfl) ?_
  refine lv_iload_n hx hb dL_point_4 rfl (lv_at hl 2 rfl) ?_
  rcases h with ⟨x, M1, hrun, rfl, rfl⟩ | ⟨ex, M1, he3, hz, hrun, rfl, rfl⟩
  · obtain ⟨-, hle1, hM⟩ := zrun_met hAd hJv hNw (j := 95) (by decide) hrun (zva_ok (k := 15) (by decide) [x1, x2]) rfl zhw_point_n
    refine zW_ret hS (zl_v (a := 95) (kd := 15) (as := [zI x1, zI x2]) hx hb (hml.trans hl.1.symm) hown hts hG hH (by decide) zhw_point_o hM (by decide) zhw_point_l zhw_point_v zhw_point_p (Nat.le_refl _) (zl_lo 95 _) hP hS (Nat.le_of_ble_eq_true rfl) dL_point_5 (Nat.le_of_eq (Nat.zero_add _)) (Nat.le_of_eq (Nat.zero_add _)) rfl) (fun H locs hP hS => ?_)
    refine lv_i2l hx hb dL_point_8 rfl ?_
    refine va_last hx hb hG.1 hP (zwd_D hAd _) hS 414 2 zout_get rfl (vp_in_nI (n := 0) (N := 1) (by decide) (by decide)) dL_point_9 (fun H locs hP _ hS => ?_)
    have hP := zout_P rfl hP
    refine lv_goto (tgt := 25) hx hb dL_point_10 rfl ?_
    refine lv_iconst (v := 0) hx hb dL_point_25 (by decide) ?_
    refine W.widen (k := σ.2.2 - σ.2.2) (n := 6 * (σ.2.2 - σ.2.2)) (Nat.le_of_eq (Nat.zero_add _)) (Nat.le_of_eq (Nat.zero_add _)) ?_
    exact vx_ret (W.iret hx hb hr (fun t ht hW => ⟨rfl, by rw [ht]; exact zl_here hH hP hS⟩) hS.2.2 dL_point_26)
  · obtain ⟨-, hle1, hM⟩ := zrun_met hAd hJv hNw (j := 95) (by decide) hrun (zva_ok (k := 15) (by decide) [x1, x2]) rfl zhw_point_n
    refine zW_cat hS (zl_v (a := 95) (kd := 15) (as := [zI x1, zI x2]) hx hb (hml.trans hl.1.symm) hown hts hG hH (by decide) zhw_point_o hM (by decide) zhw_point_l zhw_point_v zhw_point_p (Nat.le_refl _) (zl_lo 95 _) hP hS (Nat.le_of_ble_eq_true rfl) dL_point_5 (Nat.le_of_eq (Nat.zero_add _)) (Nat.le_of_eq (Nat.zero_add _)) rfl) (fun q ce H locs hP hS hce hcv hcl => ?_)
    rcases (show ex = 0 ∨ ex = 1 ∨ ex = 2 by omega) with rfl | rfl | rfl
    · refine vx_catch (own := RL) (name := zxn 0) (E := zxn 0) hown [] ⟨0, 10, 13, 19⟩ [⟨0, 10, 17, 13⟩, ⟨0, 10, 21, 21⟩] (htab.trans rfl) (fun z hz => nomatch hz) (by decide) (by decide) (hts _ zhl_19) (va_Nw.use rfl (hG.2.2.2.2.2 (Cond.castable (zxn 0) (zxn 0)) (List.mem_of_getElem? (i := 3) rfl))) hce hcv hcl ?_
      refine lv_astore hx hb dL_point_13 hl (by decide) rfl (fun ls hl => ?_)
      refine lv_iconst (v := 1) hx hb dL_point_15 (by decide) ?_
      refine W.widen (k := σ.2.2 + 1 - σ.2.2) (n := 6 * (σ.2.2 + 1 - σ.2.2)) (Nat.le_of_eq (Nat.zero_add _)) (Nat.le_of_eq (Nat.zero_add _)) ?_
      exact vx_ret (W.iret hx hb hr (fun t ht hW => ⟨rfl, by rw [ht]; exact zl_here hH hP hS⟩) hS.2.2 dL_point_16)
    · refine vx_catch (own := RL) (name := zxn 1) (E := zxn 1) hown [⟨0, 10, 13, 19⟩] ⟨0, 10, 17, 13⟩ [⟨0, 10, 21, 21⟩] (htab.trans rfl) (fun z hz => by simp only [List.mem_cons, List.not_mem_nil, or_false] at hz; rcases hz with rfl <;> first | exact Or.inr ⟨by decide, zxn 0, hts _ zhl_19, hN.1⟩) (by decide) (by decide) (hts _ zhl_13) (va_Nw.use rfl (hG.2.2.2.2.2 (Cond.castable (zxn 1) (zxn 1)) (List.mem_of_getElem? (i := 4) rfl))) hce hcv hcl ?_
      refine lv_astore hx hb dL_point_17 hl (by decide) rfl (fun ls hl => ?_)
      refine lv_iconst (v := 2) hx hb dL_point_19 (by decide) ?_
      refine W.widen (k := σ.2.2 + 1 - σ.2.2) (n := 6 * (σ.2.2 + 1 - σ.2.2)) (Nat.le_of_eq (Nat.zero_add _)) (Nat.le_of_eq (Nat.zero_add _)) ?_
      exact vx_ret (W.iret hx hb hr (fun t ht hW => ⟨rfl, by rw [ht]; exact zl_here hH hP hS⟩) hS.2.2 dL_point_20)
    · refine vx_catch (own := RL) (name := zxn 2) (E := zxn 2) hown [⟨0, 10, 13, 19⟩, ⟨0, 10, 17, 13⟩] ⟨0, 10, 21, 21⟩ [] (htab.trans rfl) (fun z hz => by simp only [List.mem_cons, List.not_mem_nil, or_false] at hz; rcases hz with rfl | rfl <;> first | exact Or.inr ⟨by decide, zxn 0, hts _ zhl_19, hN.2.1⟩ | exact Or.inr ⟨by decide, zxn 1, hts _ zhl_13, hN.2.2⟩) (by decide) (by decide) (hts _ zhl_21) (va_Nw.use rfl (hG.2.2.2.2.2 (Cond.castable (zxn 2) (zxn 2)) (List.mem_of_getElem? (i := 5) rfl))) hce hcv hcl ?_
      refine lv_astore hx hb dL_point_21 hl (by decide) rfl (fun ls hl => ?_)
      refine lv_iconst (v := 3) hx hb dL_point_23 (by decide) ?_
      refine W.widen (k := σ.2.2 + 1 - σ.2.2) (n := 6 * (σ.2.2 + 1 - σ.2.2)) (Nat.le_of_eq (Nat.zero_add _)) (Nat.le_of_eq (Nat.zero_add _)) ?_
      exact vx_ret (W.iret hx hb hr (fun t ht hW => ⟨rfl, by rw [ht]; exact zl_here hH hP hS⟩) hS.2.2 dL_point_24)
theorem dL_take_0 : decode cL_take 0 = .ok (.aload_n 3, 1) := by decide +kernel
theorem dL_take_1 : decode cL_take 1 = .ok (.iconst 0, 1) := by decide +kernel
theorem dL_take_2 : decode cL_take 2 = .ok (.aload_n 0, 1) := by decide +kernel
theorem dL_take_3 : decode cL_take 3 = .ok (.iload_n 1, 1) := by decide +kernel
theorem dL_take_4 : decode cL_take 4 = .ok (.iload_n 2, 1) := by decide +kernel
theorem dL_take_5 : decode cL_take 5 = .ok (.invokevirtual 27, 3) := by decide +kernel
theorem dL_take_8 : decode cL_take 8 = .ok (.i2l, 1) := by decide +kernel
theorem dL_take_9 : decode cL_take 9 = .ok (.lastore, 1) := by decide +kernel
theorem dL_take_10 : decode cL_take 10 = .ok (.goto 11, 3) := by decide +kernel
theorem dL_take_13 : decode cL_take 13 = .ok (.astore 4, 2) := by decide +kernel
theorem dL_take_15 : decode cL_take 15 = .ok (.iconst 1, 1) := by decide +kernel
theorem dL_take_16 : decode cL_take 16 = .ok (.ireturn, 1) := by decide +kernel
theorem dL_take_17 : decode cL_take 17 = .ok (.astore 4, 2) := by decide +kernel
theorem dL_take_19 : decode cL_take 19 = .ok (.iconst 2, 1) := by decide +kernel
theorem dL_take_20 : decode cL_take 20 = .ok (.ireturn, 1) := by decide +kernel
theorem dL_take_21 : decode cL_take 21 = .ok (.iconst 0, 1) := by decide +kernel
theorem dL_take_22 : decode cL_take 22 = .ok (.ireturn, 1) := by decide +kernel
theorem zhw_take_c : Cond.codeWith yL_take cL_take 5 (some .int) [(0, 10, 13, 19), (0, 10, 17, 21)] ∈ zTb := zTb_in (i := 766) (by decide +kernel) rfl
theorem zhw_take_l : Cond.methodLink RL 27 (zy 96) ∈ zTb := zTb_in (i := 767) (by decide +kernel) rfl
theorem zhw_take_o : 10 + zown 96 = 15 := by decide +kernel
theorem zhw_take_v : (match zMW[96]? with
      | some q => !q.1
      | none => false) = true := by decide +kernel
theorem zhw_take_p : (parseMethodDescriptor (zy 96).desc).map (fun d => d.parameters.length) = some 2 := by decide +kernel
theorem zhw_take_n : 3 ≤ (zP 96).2 := by decide +kernel
set_option maxHeartbeats 4000000 in
set_option maxRecDepth 100000 in
theorem zh_take {l : Launch} {D : va_G} {g : zIds} {adr : Nat → Nat → Nat} {H0 : Heap} (hAd : zAd adr H0) (hJv : zJv l D g adr H0) (hNw : zNw l D g adr H0) (x1 x2 : Int32) {σ σ1 : zSt} {k : Int32} (h : zhR 96 [zI x1, zI x2] cdT σ k σ1) : zHm l D g adr H0 96 yL_take cL_take 5 [(0, 10, 13, 19), (0, 10, 17, 21)] [zI x1, zI x2] σ k σ1 := by
  refine vx_ofWH (cc := cL_take) (maxL := 5) (ret := some .int) (hh := [(0, 10, 13, 19), (0, 10, 17, 21)]) (by decide) rfl ?_
  intro p e s m args below meth c s₁ B hml hv9
  obtain ⟨⟨hav, hG, hWd⟩, hN⟩ := hv9
  replace hav : args = [.ref (adr 15 0), .int x1, .int x2, .ref (adr 41 0)].toArray := hav
  subst hav
  have hx := B.exec
  have hb := B.bytes
  have hr := B.returns
  have hlocks := B.notSynchronized
  have hts0 := atoms_spec (ws := .codeWith yL_take cL_take 5 (some .int) [(0, 10, 13, 19), (0, 10, 17, 21)] :: zTb) B.pre
  have htab : c.exceptionTable.toList = tableOf [(0, 10, 13, 19), (0, 10, 17, 21)] := vx_table (x := yL_take) B (hts0 _ List.mem_cons_self)
  have hts : ∀ w ∈ zTb, w.before [.ref (adr 15 0), .int x1, .int x2, .ref (adr 41 0)].toArray s = true := fun w hw => hts0 w (List.mem_cons_of_mem _ hw)
  have hown : s.vm.findClass RL = some m.cls := findClass_of_methodNamed B.named
  have hle := zhR_le h
  have hH := hWd.2
  have hP : va_P D vwCl (zwd g adr σ) s.heap := hWd.1
  have hS : va_S (zA H0) s.heap s.heap [] := va_S.rf
  have hl := lv_entry ([.ref (adr 15 0), .int x1, .int x2, .ref (adr 41 0)]) (n := 5) (Nat.le_of_ble_eq_true rfl)
  rw [show (headSpec (.codeWith yL_take cL_take 5 (some .int) [(0, 10, 13, 19), (0, 10, 17, 21)] :: zTb) (zhrm 96 (σ1.2.2 - σ.2.2))).room = zhrm 96 (σ1.2.2 - σ.2.2) from rfl]
  rw [lg_entry_eq]
  generalize (lg_sl ([.ref (adr 15 0), .int x1, .int x2, .ref (adr 41 0)]) ++ List.replicate (5 - (lg_sl ([.ref (adr 15 0), .int x1, .int x2, .ref (adr 41 0)])).length) Slot.unset).toArray = ls at hl ⊢
  have hl : lv_has ls 5 [(0, .ref (adr 15 0)), (1, .int x1), (2, .int x2), (3, .ref (adr 41 0))] := hl
  refine lv_aload_n hx hb dL_take_0 rfl (lv_at hl 3 rfl) ?_
  refine lv_iconst (v := 0) hx hb dL_take_1 (by decide) ?_
  refine lv_aload_n hx hb dL_take_2 rfl (lv_at hl 0 rfl) ?_
  refine lv_iload_n hx hb dL_take_3 rfl (lv_at hl 1 rfl) ?_
  refine lv_iload_n hx hb dL_take_4 rfl (lv_at hl 2 rfl) ?_
  rcases h with ⟨x, M1, hrun, rfl, rfl⟩ | ⟨ex, M1, he3, hz, hrun, rfl, rfl⟩
  · obtain ⟨-, hle1, hM⟩ := zrun_met hAd hJv hNw (j := 96) (by decide) hrun (zva_ok (k := 15) (by decide) [x1, x2]) rfl zhw_take_n
    refine zW_ret hS (zl_v (a := 96) (kd := 15) (as := [zI x1, zI x2]) hx hb (hml.trans hl.1.symm) hown hts hG hH (by decide) zhw_take_o hM (by decide) zhw_take_l zhw_take_v zhw_take_p (Nat.le_refl _) (zl_lo 96 _) hP hS (Nat.le_of_ble_eq_true rfl) dL_take_5 (Nat.le_of_eq (Nat.zero_add _)) (Nat.le_of_eq (Nat.zero_add _)) rfl) (fun H locs hP hS => ?_)
    refine lv_i2l hx hb dL_take_8 rfl ?_
    refine va_last hx hb hG.1 hP (zwd_D hAd _) hS 414 2 zout_get rfl (vp_in_nI (n := 0) (N := 1) (by decide) (by decide)) dL_take_9 (fun H locs hP _ hS => ?_)
    have hP := zout_P rfl hP
    refine lv_goto (tgt := 21) hx hb dL_take_10 rfl ?_
    refine lv_iconst (v := 0) hx hb dL_take_21 (by decide) ?_
    refine W.widen (k := σ.2.2 - σ.2.2) (n := 6 * (σ.2.2 - σ.2.2)) (Nat.le_of_eq (Nat.zero_add _)) (Nat.le_of_eq (Nat.zero_add _)) ?_
    exact vx_ret (W.iret hx hb hr (fun t ht hW => ⟨rfl, by rw [ht]; exact zl_here hH hP hS⟩) hS.2.2 dL_take_22)
  · obtain ⟨-, hle1, hM⟩ := zrun_met hAd hJv hNw (j := 96) (by decide) hrun (zva_ok (k := 15) (by decide) [x1, x2]) rfl zhw_take_n
    refine zW_cat hS (zl_v (a := 96) (kd := 15) (as := [zI x1, zI x2]) hx hb (hml.trans hl.1.symm) hown hts hG hH (by decide) zhw_take_o hM (by decide) zhw_take_l zhw_take_v zhw_take_p (Nat.le_refl _) (zl_lo 96 _) hP hS (Nat.le_of_ble_eq_true rfl) dL_take_5 (Nat.le_of_eq (Nat.zero_add _)) (Nat.le_of_eq (Nat.zero_add _)) rfl) (fun q ce H locs hP hS hce hcv hcl => ?_)
    rcases (show ex = 0 ∨ ex = 1 ∨ ex = 2 by omega) with rfl | rfl | rfl
    · refine vx_catch (own := RL) (name := zxn 0) (E := zxn 0) hown [] ⟨0, 10, 13, 19⟩ [⟨0, 10, 17, 21⟩] (htab.trans rfl) (fun z hz => nomatch hz) (by decide) (by decide) (hts _ zhl_19) (va_Nw.use rfl (hG.2.2.2.2.2 (Cond.castable (zxn 0) (zxn 0)) (List.mem_of_getElem? (i := 3) rfl))) hce hcv hcl ?_
      refine lv_astore hx hb dL_take_13 hl (by decide) rfl (fun ls hl => ?_)
      refine lv_iconst (v := 1) hx hb dL_take_15 (by decide) ?_
      refine W.widen (k := σ.2.2 + 1 - σ.2.2) (n := 6 * (σ.2.2 + 1 - σ.2.2)) (Nat.le_of_eq (Nat.zero_add _)) (Nat.le_of_eq (Nat.zero_add _)) ?_
      exact vx_ret (W.iret hx hb hr (fun t ht hW => ⟨rfl, by rw [ht]; exact zl_here hH hP hS⟩) hS.2.2 dL_take_16)
    · exact absurd rfl hz
    · refine vx_catch (own := RL) (name := zxn 2) (E := zxn 2) hown [⟨0, 10, 13, 19⟩] ⟨0, 10, 17, 21⟩ [] (htab.trans rfl) (fun z hz => by simp only [List.mem_cons, List.not_mem_nil, or_false] at hz; rcases hz with rfl <;> first | exact Or.inr ⟨by decide, zxn 0, hts _ zhl_19, hN.2.1⟩) (by decide) (by decide) (hts _ zhl_21) (va_Nw.use rfl (hG.2.2.2.2.2 (Cond.castable (zxn 2) (zxn 2)) (List.mem_of_getElem? (i := 5) rfl))) hce hcv hcl ?_
      refine lv_astore hx hb dL_take_17 hl (by decide) rfl (fun ls hl => ?_)
      refine lv_iconst (v := 2) hx hb dL_take_19 (by decide) ?_
      refine W.widen (k := σ.2.2 + 1 - σ.2.2) (n := 6 * (σ.2.2 + 1 - σ.2.2)) (Nat.le_of_eq (Nat.zero_add _)) (Nat.le_of_eq (Nat.zero_add _)) ?_
      exact vx_ret (W.iret hx hb hr (fun t ht hW => ⟨rfl, by rw [ht]; exact zl_here hH hP hS⟩) hS.2.2 dL_take_20)
theorem dL_split_0 : decode cL_split 0 = .ok (.aload 4, 2) := by decide +kernel
theorem dL_split_2 : decode cL_split 2 = .ok (.iconst 0, 1) := by decide +kernel
theorem dL_split_3 : decode cL_split 3 = .ok (.aload_n 0, 1) := by decide +kernel
theorem dL_split_4 : decode cL_split 4 = .ok (.iload_n 1, 1) := by decide +kernel
theorem dL_split_5 : decode cL_split 5 = .ok (.iload_n 2, 1) := by decide +kernel
theorem dL_split_6 : decode cL_split 6 = .ok (.iload_n 3, 1) := by decide +kernel
theorem dL_split_7 : decode cL_split 7 = .ok (.invokevirtual 30, 3) := by decide +kernel
theorem dL_split_10 : decode cL_split 10 = .ok (.i2l, 1) := by decide +kernel
theorem dL_split_11 : decode cL_split 11 = .ok (.lastore, 1) := by decide +kernel
theorem dL_split_12 : decode cL_split 12 = .ok (.goto 15, 3) := by decide +kernel
theorem dL_split_15 : decode cL_split 15 = .ok (.astore 5, 2) := by decide +kernel
theorem dL_split_17 : decode cL_split 17 = .ok (.iconst 1, 1) := by decide +kernel
theorem dL_split_18 : decode cL_split 18 = .ok (.ireturn, 1) := by decide +kernel
theorem dL_split_19 : decode cL_split 19 = .ok (.astore 5, 2) := by decide +kernel
theorem dL_split_21 : decode cL_split 21 = .ok (.iconst 2, 1) := by decide +kernel
theorem dL_split_22 : decode cL_split 22 = .ok (.ireturn, 1) := by decide +kernel
theorem dL_split_23 : decode cL_split 23 = .ok (.astore 5, 2) := by decide +kernel
theorem dL_split_25 : decode cL_split 25 = .ok (.iconst 3, 1) := by decide +kernel
theorem dL_split_26 : decode cL_split 26 = .ok (.ireturn, 1) := by decide +kernel
theorem dL_split_27 : decode cL_split 27 = .ok (.iconst 0, 1) := by decide +kernel
theorem dL_split_28 : decode cL_split 28 = .ok (.ireturn, 1) := by decide +kernel
theorem zhw_split_c : Cond.codeWith yL_split cL_split 6 (some .int) [(0, 12, 15, 19), (0, 12, 19, 13), (0, 12, 23, 21)] ∈ zTb := zTb_in (i := 817) (by decide +kernel) rfl
theorem zhw_split_l : Cond.methodLink RL 30 (zy 97) ∈ zTb := zTb_in (i := 818) (by decide +kernel) rfl
theorem zhw_split_o : 10 + zown 97 = 15 := by decide +kernel
theorem zhw_split_v : (match zMW[97]? with
      | some q => !q.1
      | none => false) = true := by decide +kernel
theorem zhw_split_p : (parseMethodDescriptor (zy 97).desc).map (fun d => d.parameters.length) = some 3 := by decide +kernel
theorem zhw_split_n : 4 ≤ (zP 97).2 := by decide +kernel
set_option maxHeartbeats 4000000 in
set_option maxRecDepth 100000 in
theorem zh_split {l : Launch} {D : va_G} {g : zIds} {adr : Nat → Nat → Nat} {H0 : Heap} (hAd : zAd adr H0) (hJv : zJv l D g adr H0) (hNw : zNw l D g adr H0) (x1 x2 x3 : Int32) {σ σ1 : zSt} {k : Int32} (h : zhR 97 [zI x1, zI x2, zI x3] cd3 σ k σ1) : zHm l D g adr H0 97 yL_split cL_split 6 [(0, 12, 15, 19), (0, 12, 19, 13), (0, 12, 23, 21)] [zI x1, zI x2, zI x3] σ k σ1 := by
  refine vx_ofWH (cc := cL_split) (maxL := 6) (ret := some .int) (hh := [(0, 12, 15, 19), (0, 12, 19, 13), (0, 12, 23, 21)]) (by decide) rfl ?_
  intro p e s m args below meth c s₁ B hml hv9
  obtain ⟨⟨hav, hG, hWd⟩, hN⟩ := hv9
  replace hav : args = [.ref (adr 15 0), .int x1, .int x2, .int x3, .ref (adr 41 0)].toArray := hav
  subst hav
  have hx := B.exec
  have hb := B.bytes
  have hr := B.returns
  have hlocks := B.notSynchronized
  have hts0 := atoms_spec (ws := .codeWith yL_split cL_split 6 (some .int) [(0, 12, 15, 19), (0, 12, 19, 13), (0, 12, 23, 21)] :: zTb) B.pre
  have htab : c.exceptionTable.toList = tableOf [(0, 12, 15, 19), (0, 12, 19, 13), (0, 12, 23, 21)] := vx_table (x := yL_split) B (hts0 _ List.mem_cons_self)
  have hts : ∀ w ∈ zTb, w.before [.ref (adr 15 0), .int x1, .int x2, .int x3, .ref (adr 41 0)].toArray s = true := fun w hw => hts0 w (List.mem_cons_of_mem _ hw)
  have hown : s.vm.findClass RL = some m.cls := findClass_of_methodNamed B.named
  have hle := zhR_le h
  have hH := hWd.2
  have hP : va_P D vwCl (zwd g adr σ) s.heap := hWd.1
  have hS : va_S (zA H0) s.heap s.heap [] := va_S.rf
  have hl := lv_entry ([.ref (adr 15 0), .int x1, .int x2, .int x3, .ref (adr 41 0)]) (n := 6) (Nat.le_of_ble_eq_true rfl)
  rw [show (headSpec (.codeWith yL_split cL_split 6 (some .int) [(0, 12, 15, 19), (0, 12, 19, 13), (0, 12, 23, 21)] :: zTb) (zhrm 97 (σ1.2.2 - σ.2.2))).room = zhrm 97 (σ1.2.2 - σ.2.2) from rfl]
  rw [lg_entry_eq]
  generalize (lg_sl ([.ref (adr 15 0), .int x1, .int x2, .int x3, .ref (adr 41 0)]) ++ List.replicate (6 - (lg_sl ([.ref (adr 15 0), .int x1, .int x2, .int x3, .ref (adr 41 0)])).length) Slot.unset).toArray = ls at hl ⊢
  have hl : lv_has ls 6 [(0, .ref (adr 15 0)), (1, .int x1), (2, .int x2), (3, .int x3), (4, .ref (adr 41 0))] := hl
  refine lv_aload hx hb dL_split_0 (lv_at hl 4 rfl) ?_
  refine lv_iconst (v := 0) hx hb dL_split_2 (by decide) ?_
  refine lv_aload_n hx hb dL_split_3 rfl (lv_at hl 0 rfl) ?_
  refine lv_iload_n hx hb dL_split_4 rfl (lv_at hl 1 rfl) ?_
  refine lv_iload_n hx hb dL_split_5 rfl (lv_at hl 2 rfl) ?_
  refine lv_iload_n hx hb dL_split_6 rfl (lv_at hl 3 rfl) ?_
  rcases h with ⟨x, M1, hrun, rfl, rfl⟩ | ⟨ex, M1, he3, hz, hrun, rfl, rfl⟩
  · obtain ⟨-, hle1, hM⟩ := zrun_met hAd hJv hNw (j := 97) (by decide) hrun (zva_ok (k := 15) (by decide) [x1, x2, x3]) rfl zhw_split_n
    refine zW_ret hS (zl_v (a := 97) (kd := 15) (as := [zI x1, zI x2, zI x3]) hx hb (hml.trans hl.1.symm) hown hts hG hH (by decide) zhw_split_o hM (by decide) zhw_split_l zhw_split_v zhw_split_p (Nat.le_refl _) (zl_lo 97 _) hP hS (Nat.le_of_ble_eq_true rfl) dL_split_7 (Nat.le_of_eq (Nat.zero_add _)) (Nat.le_of_eq (Nat.zero_add _)) rfl) (fun H locs hP hS => ?_)
    refine lv_i2l hx hb dL_split_10 rfl ?_
    refine va_last hx hb hG.1 hP (zwd_D hAd _) hS 414 2 zout_get rfl (vp_in_nI (n := 0) (N := 1) (by decide) (by decide)) dL_split_11 (fun H locs hP _ hS => ?_)
    have hP := zout_P rfl hP
    refine lv_goto (tgt := 27) hx hb dL_split_12 rfl ?_
    refine lv_iconst (v := 0) hx hb dL_split_27 (by decide) ?_
    refine W.widen (k := σ.2.2 - σ.2.2) (n := 6 * (σ.2.2 - σ.2.2)) (Nat.le_of_eq (Nat.zero_add _)) (Nat.le_of_eq (Nat.zero_add _)) ?_
    exact vx_ret (W.iret hx hb hr (fun t ht hW => ⟨rfl, by rw [ht]; exact zl_here hH hP hS⟩) hS.2.2 dL_split_28)
  · obtain ⟨-, hle1, hM⟩ := zrun_met hAd hJv hNw (j := 97) (by decide) hrun (zva_ok (k := 15) (by decide) [x1, x2, x3]) rfl zhw_split_n
    refine zW_cat hS (zl_v (a := 97) (kd := 15) (as := [zI x1, zI x2, zI x3]) hx hb (hml.trans hl.1.symm) hown hts hG hH (by decide) zhw_split_o hM (by decide) zhw_split_l zhw_split_v zhw_split_p (Nat.le_refl _) (zl_lo 97 _) hP hS (Nat.le_of_ble_eq_true rfl) dL_split_7 (Nat.le_of_eq (Nat.zero_add _)) (Nat.le_of_eq (Nat.zero_add _)) rfl) (fun q ce H locs hP hS hce hcv hcl => ?_)
    rcases (show ex = 0 ∨ ex = 1 ∨ ex = 2 by omega) with rfl | rfl | rfl
    · refine vx_catch (own := RL) (name := zxn 0) (E := zxn 0) hown [] ⟨0, 12, 15, 19⟩ [⟨0, 12, 19, 13⟩, ⟨0, 12, 23, 21⟩] (htab.trans rfl) (fun z hz => nomatch hz) (by decide) (by decide) (hts _ zhl_19) (va_Nw.use rfl (hG.2.2.2.2.2 (Cond.castable (zxn 0) (zxn 0)) (List.mem_of_getElem? (i := 3) rfl))) hce hcv hcl ?_
      refine lv_astore hx hb dL_split_15 hl (by decide) rfl (fun ls hl => ?_)
      refine lv_iconst (v := 1) hx hb dL_split_17 (by decide) ?_
      refine W.widen (k := σ.2.2 + 1 - σ.2.2) (n := 6 * (σ.2.2 + 1 - σ.2.2)) (Nat.le_of_eq (Nat.zero_add _)) (Nat.le_of_eq (Nat.zero_add _)) ?_
      exact vx_ret (W.iret hx hb hr (fun t ht hW => ⟨rfl, by rw [ht]; exact zl_here hH hP hS⟩) hS.2.2 dL_split_18)
    · refine vx_catch (own := RL) (name := zxn 1) (E := zxn 1) hown [⟨0, 12, 15, 19⟩] ⟨0, 12, 19, 13⟩ [⟨0, 12, 23, 21⟩] (htab.trans rfl) (fun z hz => by simp only [List.mem_cons, List.not_mem_nil, or_false] at hz; rcases hz with rfl <;> first | exact Or.inr ⟨by decide, zxn 0, hts _ zhl_19, hN.1⟩) (by decide) (by decide) (hts _ zhl_13) (va_Nw.use rfl (hG.2.2.2.2.2 (Cond.castable (zxn 1) (zxn 1)) (List.mem_of_getElem? (i := 4) rfl))) hce hcv hcl ?_
      refine lv_astore hx hb dL_split_19 hl (by decide) rfl (fun ls hl => ?_)
      refine lv_iconst (v := 2) hx hb dL_split_21 (by decide) ?_
      refine W.widen (k := σ.2.2 + 1 - σ.2.2) (n := 6 * (σ.2.2 + 1 - σ.2.2)) (Nat.le_of_eq (Nat.zero_add _)) (Nat.le_of_eq (Nat.zero_add _)) ?_
      exact vx_ret (W.iret hx hb hr (fun t ht hW => ⟨rfl, by rw [ht]; exact zl_here hH hP hS⟩) hS.2.2 dL_split_22)
    · refine vx_catch (own := RL) (name := zxn 2) (E := zxn 2) hown [⟨0, 12, 15, 19⟩, ⟨0, 12, 19, 13⟩] ⟨0, 12, 23, 21⟩ [] (htab.trans rfl) (fun z hz => by simp only [List.mem_cons, List.not_mem_nil, or_false] at hz; rcases hz with rfl | rfl <;> first | exact Or.inr ⟨by decide, zxn 0, hts _ zhl_19, hN.2.1⟩ | exact Or.inr ⟨by decide, zxn 1, hts _ zhl_13, hN.2.2⟩) (by decide) (by decide) (hts _ zhl_21) (va_Nw.use rfl (hG.2.2.2.2.2 (Cond.castable (zxn 2) (zxn 2)) (List.mem_of_getElem? (i := 5) rfl))) hce hcv hcl ?_
      refine lv_astore hx hb dL_split_23 hl (by decide) rfl (fun ls hl => ?_)
      refine lv_iconst (v := 3) hx hb dL_split_25 (by decide) ?_
      refine W.widen (k := σ.2.2 + 1 - σ.2.2) (n := 6 * (σ.2.2 + 1 - σ.2.2)) (Nat.le_of_eq (Nat.zero_add _)) (Nat.le_of_eq (Nat.zero_add _)) ?_
      exact vx_ret (W.iret hx hb hr (fun t ht hW => ⟨rfl, by rw [ht]; exact zl_here hH hP hS⟩) hS.2.2 dL_split_26)
theorem dL_join_0 : decode cL_join 0 = .ok (.aload_n 3, 1) := by decide +kernel
theorem dL_join_1 : decode cL_join 1 = .ok (.iconst 0, 1) := by decide +kernel
theorem dL_join_2 : decode cL_join 2 = .ok (.aload_n 0, 1) := by decide +kernel
theorem dL_join_3 : decode cL_join 3 = .ok (.iload_n 1, 1) := by decide +kernel
theorem dL_join_4 : decode cL_join 4 = .ok (.iload_n 2, 1) := by decide +kernel
theorem dL_join_5 : decode cL_join 5 = .ok (.invokevirtual 33, 3) := by decide +kernel
theorem dL_join_8 : decode cL_join 8 = .ok (.i2l, 1) := by decide +kernel
theorem dL_join_9 : decode cL_join 9 = .ok (.lastore, 1) := by decide +kernel
theorem dL_join_10 : decode cL_join 10 = .ok (.goto 11, 3) := by decide +kernel
theorem dL_join_13 : decode cL_join 13 = .ok (.astore 4, 2) := by decide +kernel
theorem dL_join_15 : decode cL_join 15 = .ok (.iconst 1, 1) := by decide +kernel
theorem dL_join_16 : decode cL_join 16 = .ok (.ireturn, 1) := by decide +kernel
theorem dL_join_17 : decode cL_join 17 = .ok (.astore 4, 2) := by decide +kernel
theorem dL_join_19 : decode cL_join 19 = .ok (.iconst 2, 1) := by decide +kernel
theorem dL_join_20 : decode cL_join 20 = .ok (.ireturn, 1) := by decide +kernel
theorem dL_join_21 : decode cL_join 21 = .ok (.iconst 0, 1) := by decide +kernel
theorem dL_join_22 : decode cL_join 22 = .ok (.ireturn, 1) := by decide +kernel
theorem zhw_join_c : Cond.codeWith yL_join cL_join 5 (some .int) [(0, 10, 13, 19), (0, 10, 17, 21)] ∈ zTb := zTb_in (i := 827) (by decide +kernel) rfl
theorem zhw_join_l : Cond.methodLink RL 33 (zy 98) ∈ zTb := zTb_in (i := 828) (by decide +kernel) rfl
theorem zhw_join_o : 10 + zown 98 = 15 := by decide +kernel
theorem zhw_join_v : (match zMW[98]? with
      | some q => !q.1
      | none => false) = true := by decide +kernel
theorem zhw_join_p : (parseMethodDescriptor (zy 98).desc).map (fun d => d.parameters.length) = some 2 := by decide +kernel
theorem zhw_join_n : 3 ≤ (zP 98).2 := by decide +kernel
set_option maxHeartbeats 4000000 in
set_option maxRecDepth 100000 in
theorem zh_join {l : Launch} {D : va_G} {g : zIds} {adr : Nat → Nat → Nat} {H0 : Heap} (hAd : zAd adr H0) (hJv : zJv l D g adr H0) (hNw : zNw l D g adr H0) (x1 x2 : Int32) {σ σ1 : zSt} {k : Int32} (h : zhR 98 [zI x1, zI x2] cdT σ k σ1) : zHm l D g adr H0 98 yL_join cL_join 5 [(0, 10, 13, 19), (0, 10, 17, 21)] [zI x1, zI x2] σ k σ1 := by
  refine vx_ofWH (cc := cL_join) (maxL := 5) (ret := some .int) (hh := [(0, 10, 13, 19), (0, 10, 17, 21)]) (by decide) rfl ?_
  intro p e s m args below meth c s₁ B hml hv9
  obtain ⟨⟨hav, hG, hWd⟩, hN⟩ := hv9
  replace hav : args = [.ref (adr 15 0), .int x1, .int x2, .ref (adr 41 0)].toArray := hav
  subst hav
  have hx := B.exec
  have hb := B.bytes
  have hr := B.returns
  have hlocks := B.notSynchronized
  have hts0 := atoms_spec (ws := .codeWith yL_join cL_join 5 (some .int) [(0, 10, 13, 19), (0, 10, 17, 21)] :: zTb) B.pre
  have htab : c.exceptionTable.toList = tableOf [(0, 10, 13, 19), (0, 10, 17, 21)] := vx_table (x := yL_join) B (hts0 _ List.mem_cons_self)
  have hts : ∀ w ∈ zTb, w.before [.ref (adr 15 0), .int x1, .int x2, .ref (adr 41 0)].toArray s = true := fun w hw => hts0 w (List.mem_cons_of_mem _ hw)
  have hown : s.vm.findClass RL = some m.cls := findClass_of_methodNamed B.named
  have hle := zhR_le h
  have hH := hWd.2
  have hP : va_P D vwCl (zwd g adr σ) s.heap := hWd.1
  have hS : va_S (zA H0) s.heap s.heap [] := va_S.rf
  have hl := lv_entry ([.ref (adr 15 0), .int x1, .int x2, .ref (adr 41 0)]) (n := 5) (Nat.le_of_ble_eq_true rfl)
  rw [show (headSpec (.codeWith yL_join cL_join 5 (some .int) [(0, 10, 13, 19), (0, 10, 17, 21)] :: zTb) (zhrm 98 (σ1.2.2 - σ.2.2))).room = zhrm 98 (σ1.2.2 - σ.2.2) from rfl]
  rw [lg_entry_eq]
  generalize (lg_sl ([.ref (adr 15 0), .int x1, .int x2, .ref (adr 41 0)]) ++ List.replicate (5 - (lg_sl ([.ref (adr 15 0), .int x1, .int x2, .ref (adr 41 0)])).length) Slot.unset).toArray = ls at hl ⊢
  have hl : lv_has ls 5 [(0, .ref (adr 15 0)), (1, .int x1), (2, .int x2), (3, .ref (adr 41 0))] := hl
  refine lv_aload_n hx hb dL_join_0 rfl (lv_at hl 3 rfl) ?_
  refine lv_iconst (v := 0) hx hb dL_join_1 (by decide) ?_
  refine lv_aload_n hx hb dL_join_2 rfl (lv_at hl 0 rfl) ?_
  refine lv_iload_n hx hb dL_join_3 rfl (lv_at hl 1 rfl) ?_
  refine lv_iload_n hx hb dL_join_4 rfl (lv_at hl 2 rfl) ?_
  rcases h with ⟨x, M1, hrun, rfl, rfl⟩ | ⟨ex, M1, he3, hz, hrun, rfl, rfl⟩
  · obtain ⟨-, hle1, hM⟩ := zrun_met hAd hJv hNw (j := 98) (by decide) hrun (zva_ok (k := 15) (by decide) [x1, x2]) rfl zhw_join_n
    refine zW_ret hS (zl_v (a := 98) (kd := 15) (as := [zI x1, zI x2]) hx hb (hml.trans hl.1.symm) hown hts hG hH (by decide) zhw_join_o hM (by decide) zhw_join_l zhw_join_v zhw_join_p (Nat.le_refl _) (zl_lo 98 _) hP hS (Nat.le_of_ble_eq_true rfl) dL_join_5 (Nat.le_of_eq (Nat.zero_add _)) (Nat.le_of_eq (Nat.zero_add _)) rfl) (fun H locs hP hS => ?_)
    refine lv_i2l hx hb dL_join_8 rfl ?_
    refine va_last hx hb hG.1 hP (zwd_D hAd _) hS 414 2 zout_get rfl (vp_in_nI (n := 0) (N := 1) (by decide) (by decide)) dL_join_9 (fun H locs hP _ hS => ?_)
    have hP := zout_P rfl hP
    refine lv_goto (tgt := 21) hx hb dL_join_10 rfl ?_
    refine lv_iconst (v := 0) hx hb dL_join_21 (by decide) ?_
    refine W.widen (k := σ.2.2 - σ.2.2) (n := 6 * (σ.2.2 - σ.2.2)) (Nat.le_of_eq (Nat.zero_add _)) (Nat.le_of_eq (Nat.zero_add _)) ?_
    exact vx_ret (W.iret hx hb hr (fun t ht hW => ⟨rfl, by rw [ht]; exact zl_here hH hP hS⟩) hS.2.2 dL_join_22)
  · obtain ⟨-, hle1, hM⟩ := zrun_met hAd hJv hNw (j := 98) (by decide) hrun (zva_ok (k := 15) (by decide) [x1, x2]) rfl zhw_join_n
    refine zW_cat hS (zl_v (a := 98) (kd := 15) (as := [zI x1, zI x2]) hx hb (hml.trans hl.1.symm) hown hts hG hH (by decide) zhw_join_o hM (by decide) zhw_join_l zhw_join_v zhw_join_p (Nat.le_refl _) (zl_lo 98 _) hP hS (Nat.le_of_ble_eq_true rfl) dL_join_5 (Nat.le_of_eq (Nat.zero_add _)) (Nat.le_of_eq (Nat.zero_add _)) rfl) (fun q ce H locs hP hS hce hcv hcl => ?_)
    rcases (show ex = 0 ∨ ex = 1 ∨ ex = 2 by omega) with rfl | rfl | rfl
    · refine vx_catch (own := RL) (name := zxn 0) (E := zxn 0) hown [] ⟨0, 10, 13, 19⟩ [⟨0, 10, 17, 21⟩] (htab.trans rfl) (fun z hz => nomatch hz) (by decide) (by decide) (hts _ zhl_19) (va_Nw.use rfl (hG.2.2.2.2.2 (Cond.castable (zxn 0) (zxn 0)) (List.mem_of_getElem? (i := 3) rfl))) hce hcv hcl ?_
      refine lv_astore hx hb dL_join_13 hl (by decide) rfl (fun ls hl => ?_)
      refine lv_iconst (v := 1) hx hb dL_join_15 (by decide) ?_
      refine W.widen (k := σ.2.2 + 1 - σ.2.2) (n := 6 * (σ.2.2 + 1 - σ.2.2)) (Nat.le_of_eq (Nat.zero_add _)) (Nat.le_of_eq (Nat.zero_add _)) ?_
      exact vx_ret (W.iret hx hb hr (fun t ht hW => ⟨rfl, by rw [ht]; exact zl_here hH hP hS⟩) hS.2.2 dL_join_16)
    · exact absurd rfl hz
    · refine vx_catch (own := RL) (name := zxn 2) (E := zxn 2) hown [⟨0, 10, 13, 19⟩] ⟨0, 10, 17, 21⟩ [] (htab.trans rfl) (fun z hz => by simp only [List.mem_cons, List.not_mem_nil, or_false] at hz; rcases hz with rfl <;> first | exact Or.inr ⟨by decide, zxn 0, hts _ zhl_19, hN.2.1⟩) (by decide) (by decide) (hts _ zhl_21) (va_Nw.use rfl (hG.2.2.2.2.2 (Cond.castable (zxn 2) (zxn 2)) (List.mem_of_getElem? (i := 5) rfl))) hce hcv hcl ?_
      refine lv_astore hx hb dL_join_17 hl (by decide) rfl (fun ls hl => ?_)
      refine lv_iconst (v := 2) hx hb dL_join_19 (by decide) ?_
      refine W.widen (k := σ.2.2 + 1 - σ.2.2) (n := 6 * (σ.2.2 + 1 - σ.2.2)) (Nat.le_of_eq (Nat.zero_add _)) (Nat.le_of_eq (Nat.zero_add _)) ?_
      exact vx_ret (W.iret hx hb hr (fun t ht hW => ⟨rfl, by rw [ht]; exact zl_here hH hP hS⟩) hS.2.2 dL_join_20)
theorem dL_label_0 : decode cL_label 0 = .ok (.aload 4, 2) := by decide +kernel
theorem dL_label_2 : decode cL_label 2 = .ok (.iconst 0, 1) := by decide +kernel
theorem dL_label_3 : decode cL_label 3 = .ok (.aload_n 0, 1) := by decide +kernel
theorem dL_label_4 : decode cL_label 4 = .ok (.iload_n 1, 1) := by decide +kernel
theorem dL_label_5 : decode cL_label 5 = .ok (.iload_n 2, 1) := by decide +kernel
theorem dL_label_6 : decode cL_label 6 = .ok (.iload_n 3, 1) := by decide +kernel
theorem dL_label_7 : decode cL_label 7 = .ok (.invokevirtual 42, 3) := by decide +kernel
theorem dL_label_10 : decode cL_label 10 = .ok (.i2l, 1) := by decide +kernel
theorem dL_label_11 : decode cL_label 11 = .ok (.lastore, 1) := by decide +kernel
theorem dL_label_12 : decode cL_label 12 = .ok (.goto 11, 3) := by decide +kernel
theorem dL_label_15 : decode cL_label 15 = .ok (.astore 5, 2) := by decide +kernel
theorem dL_label_17 : decode cL_label 17 = .ok (.iconst 1, 1) := by decide +kernel
theorem dL_label_18 : decode cL_label 18 = .ok (.ireturn, 1) := by decide +kernel
theorem dL_label_19 : decode cL_label 19 = .ok (.astore 5, 2) := by decide +kernel
theorem dL_label_21 : decode cL_label 21 = .ok (.iconst 2, 1) := by decide +kernel
theorem dL_label_22 : decode cL_label 22 = .ok (.ireturn, 1) := by decide +kernel
theorem dL_label_23 : decode cL_label 23 = .ok (.iconst 0, 1) := by decide +kernel
theorem dL_label_24 : decode cL_label 24 = .ok (.ireturn, 1) := by decide +kernel
theorem zhw_label_c : Cond.codeWith yL_label cL_label 6 (some .int) [(0, 12, 15, 19), (0, 12, 19, 13)] ∈ zTb := zTb_in (i := 928) (by decide +kernel) rfl
theorem zhw_label_l : Cond.methodLink RL 42 (zy 101) ∈ zTb := zTb_in (i := 929) (by decide +kernel) rfl
theorem zhw_label_o : 10 + zown 101 = 15 := by decide +kernel
theorem zhw_label_v : (match zMW[101]? with
      | some q => !q.1
      | none => false) = true := by decide +kernel
theorem zhw_label_p : (parseMethodDescriptor (zy 101).desc).map (fun d => d.parameters.length) = some 3 := by decide +kernel
theorem zhw_label_n : 4 ≤ (zP 101).2 := by decide +kernel
set_option maxHeartbeats 4000000 in
set_option maxRecDepth 100000 in
theorem zh_label {l : Launch} {D : va_G} {g : zIds} {adr : Nat → Nat → Nat} {H0 : Heap} (hAd : zAd adr H0) (hJv : zJv l D g adr H0) (hNw : zNw l D g adr H0) (x1 x2 x3 : Int32) {σ σ1 : zSt} {k : Int32} (h : zhR 101 [zI x1, zI x2, zI x3] cdL σ k σ1) : zHm l D g adr H0 101 yL_label cL_label 6 [(0, 12, 15, 19), (0, 12, 19, 13)] [zI x1, zI x2, zI x3] σ k σ1 := by
  refine vx_ofWH (cc := cL_label) (maxL := 6) (ret := some .int) (hh := [(0, 12, 15, 19), (0, 12, 19, 13)]) (by decide) rfl ?_
  intro p e s m args below meth c s₁ B hml hv9
  obtain ⟨⟨hav, hG, hWd⟩, hN⟩ := hv9
  replace hav : args = [.ref (adr 15 0), .int x1, .int x2, .int x3, .ref (adr 41 0)].toArray := hav
  subst hav
  have hx := B.exec
  have hb := B.bytes
  have hr := B.returns
  have hlocks := B.notSynchronized
  have hts0 := atoms_spec (ws := .codeWith yL_label cL_label 6 (some .int) [(0, 12, 15, 19), (0, 12, 19, 13)] :: zTb) B.pre
  have htab : c.exceptionTable.toList = tableOf [(0, 12, 15, 19), (0, 12, 19, 13)] := vx_table (x := yL_label) B (hts0 _ List.mem_cons_self)
  have hts : ∀ w ∈ zTb, w.before [.ref (adr 15 0), .int x1, .int x2, .int x3, .ref (adr 41 0)].toArray s = true := fun w hw => hts0 w (List.mem_cons_of_mem _ hw)
  have hown : s.vm.findClass RL = some m.cls := findClass_of_methodNamed B.named
  have hle := zhR_le h
  have hH := hWd.2
  have hP : va_P D vwCl (zwd g adr σ) s.heap := hWd.1
  have hS : va_S (zA H0) s.heap s.heap [] := va_S.rf
  have hl := lv_entry ([.ref (adr 15 0), .int x1, .int x2, .int x3, .ref (adr 41 0)]) (n := 6) (Nat.le_of_ble_eq_true rfl)
  rw [show (headSpec (.codeWith yL_label cL_label 6 (some .int) [(0, 12, 15, 19), (0, 12, 19, 13)] :: zTb) (zhrm 101 (σ1.2.2 - σ.2.2))).room = zhrm 101 (σ1.2.2 - σ.2.2) from rfl]
  rw [lg_entry_eq]
  generalize (lg_sl ([.ref (adr 15 0), .int x1, .int x2, .int x3, .ref (adr 41 0)]) ++ List.replicate (6 - (lg_sl ([.ref (adr 15 0), .int x1, .int x2, .int x3, .ref (adr 41 0)])).length) Slot.unset).toArray = ls at hl ⊢
  have hl : lv_has ls 6 [(0, .ref (adr 15 0)), (1, .int x1), (2, .int x2), (3, .int x3), (4, .ref (adr 41 0))] := hl
  refine lv_aload hx hb dL_label_0 (lv_at hl 4 rfl) ?_
  refine lv_iconst (v := 0) hx hb dL_label_2 (by decide) ?_
  refine lv_aload_n hx hb dL_label_3 rfl (lv_at hl 0 rfl) ?_
  refine lv_iload_n hx hb dL_label_4 rfl (lv_at hl 1 rfl) ?_
  refine lv_iload_n hx hb dL_label_5 rfl (lv_at hl 2 rfl) ?_
  refine lv_iload_n hx hb dL_label_6 rfl (lv_at hl 3 rfl) ?_
  rcases h with ⟨x, M1, hrun, rfl, rfl⟩ | ⟨ex, M1, he3, hz, hrun, rfl, rfl⟩
  · obtain ⟨-, hle1, hM⟩ := zrun_met hAd hJv hNw (j := 101) (by decide) hrun (zva_ok (k := 15) (by decide) [x1, x2, x3]) rfl zhw_label_n
    refine zW_ret hS (zl_v (a := 101) (kd := 15) (as := [zI x1, zI x2, zI x3]) hx hb (hml.trans hl.1.symm) hown hts hG hH (by decide) zhw_label_o hM (by decide) zhw_label_l zhw_label_v zhw_label_p (Nat.le_refl _) (zl_lo 101 _) hP hS (Nat.le_of_ble_eq_true rfl) dL_label_7 (Nat.le_of_eq (Nat.zero_add _)) (Nat.le_of_eq (Nat.zero_add _)) rfl) (fun H locs hP hS => ?_)
    refine lv_i2l hx hb dL_label_10 rfl ?_
    refine va_last hx hb hG.1 hP (zwd_D hAd _) hS 414 2 zout_get rfl (vp_in_nI (n := 0) (N := 1) (by decide) (by decide)) dL_label_11 (fun H locs hP _ hS => ?_)
    have hP := zout_P rfl hP
    refine lv_goto (tgt := 23) hx hb dL_label_12 rfl ?_
    refine lv_iconst (v := 0) hx hb dL_label_23 (by decide) ?_
    refine W.widen (k := σ.2.2 - σ.2.2) (n := 6 * (σ.2.2 - σ.2.2)) (Nat.le_of_eq (Nat.zero_add _)) (Nat.le_of_eq (Nat.zero_add _)) ?_
    exact vx_ret (W.iret hx hb hr (fun t ht hW => ⟨rfl, by rw [ht]; exact zl_here hH hP hS⟩) hS.2.2 dL_label_24)
  · obtain ⟨-, hle1, hM⟩ := zrun_met hAd hJv hNw (j := 101) (by decide) hrun (zva_ok (k := 15) (by decide) [x1, x2, x3]) rfl zhw_label_n
    refine zW_cat hS (zl_v (a := 101) (kd := 15) (as := [zI x1, zI x2, zI x3]) hx hb (hml.trans hl.1.symm) hown hts hG hH (by decide) zhw_label_o hM (by decide) zhw_label_l zhw_label_v zhw_label_p (Nat.le_refl _) (zl_lo 101 _) hP hS (Nat.le_of_ble_eq_true rfl) dL_label_7 (Nat.le_of_eq (Nat.zero_add _)) (Nat.le_of_eq (Nat.zero_add _)) rfl) (fun q ce H locs hP hS hce hcv hcl => ?_)
    rcases (show ex = 0 ∨ ex = 1 ∨ ex = 2 by omega) with rfl | rfl | rfl
    · refine vx_catch (own := RL) (name := zxn 0) (E := zxn 0) hown [] ⟨0, 12, 15, 19⟩ [⟨0, 12, 19, 13⟩] (htab.trans rfl) (fun z hz => nomatch hz) (by decide) (by decide) (hts _ zhl_19) (va_Nw.use rfl (hG.2.2.2.2.2 (Cond.castable (zxn 0) (zxn 0)) (List.mem_of_getElem? (i := 3) rfl))) hce hcv hcl ?_
      refine lv_astore hx hb dL_label_15 hl (by decide) rfl (fun ls hl => ?_)
      refine lv_iconst (v := 1) hx hb dL_label_17 (by decide) ?_
      refine W.widen (k := σ.2.2 + 1 - σ.2.2) (n := 6 * (σ.2.2 + 1 - σ.2.2)) (Nat.le_of_eq (Nat.zero_add _)) (Nat.le_of_eq (Nat.zero_add _)) ?_
      exact vx_ret (W.iret hx hb hr (fun t ht hW => ⟨rfl, by rw [ht]; exact zl_here hH hP hS⟩) hS.2.2 dL_label_18)
    · refine vx_catch (own := RL) (name := zxn 1) (E := zxn 1) hown [⟨0, 12, 15, 19⟩] ⟨0, 12, 19, 13⟩ [] (htab.trans rfl) (fun z hz => by simp only [List.mem_cons, List.not_mem_nil, or_false] at hz; rcases hz with rfl <;> first | exact Or.inr ⟨by decide, zxn 0, hts _ zhl_19, hN.1⟩) (by decide) (by decide) (hts _ zhl_13) (va_Nw.use rfl (hG.2.2.2.2.2 (Cond.castable (zxn 1) (zxn 1)) (List.mem_of_getElem? (i := 4) rfl))) hce hcv hcl ?_
      refine lv_astore hx hb dL_label_19 hl (by decide) rfl (fun ls hl => ?_)
      refine lv_iconst (v := 2) hx hb dL_label_21 (by decide) ?_
      refine W.widen (k := σ.2.2 + 1 - σ.2.2) (n := 6 * (σ.2.2 + 1 - σ.2.2)) (Nat.le_of_eq (Nat.zero_add _)) (Nat.le_of_eq (Nat.zero_add _)) ?_
      exact vx_ret (W.iret hx hb hr (fun t ht hW => ⟨rfl, by rw [ht]; exact zl_here hH hP hS⟩) hS.2.2 dL_label_22)
    · exact absurd rfl hz
theorem dL_move_0 : decode cL_move 0 = .ok (.aload 4, 2) := by decide +kernel
theorem dL_move_2 : decode cL_move 2 = .ok (.iconst 0, 1) := by decide +kernel
theorem dL_move_3 : decode cL_move 3 = .ok (.aload_n 0, 1) := by decide +kernel
theorem dL_move_4 : decode cL_move 4 = .ok (.iload_n 1, 1) := by decide +kernel
theorem dL_move_5 : decode cL_move 5 = .ok (.iload_n 2, 1) := by decide +kernel
theorem dL_move_6 : decode cL_move 6 = .ok (.iload_n 3, 1) := by decide +kernel
theorem dL_move_7 : decode cL_move 7 = .ok (.invokevirtual 36, 3) := by decide +kernel
theorem dL_move_10 : decode cL_move 10 = .ok (.i2l, 1) := by decide +kernel
theorem dL_move_11 : decode cL_move 11 = .ok (.lastore, 1) := by decide +kernel
theorem dL_move_12 : decode cL_move 12 = .ok (.goto 15, 3) := by decide +kernel
theorem dL_move_15 : decode cL_move 15 = .ok (.astore 5, 2) := by decide +kernel
theorem dL_move_17 : decode cL_move 17 = .ok (.iconst 1, 1) := by decide +kernel
theorem dL_move_18 : decode cL_move 18 = .ok (.ireturn, 1) := by decide +kernel
theorem dL_move_19 : decode cL_move 19 = .ok (.astore 5, 2) := by decide +kernel
theorem dL_move_21 : decode cL_move 21 = .ok (.iconst 2, 1) := by decide +kernel
theorem dL_move_22 : decode cL_move 22 = .ok (.ireturn, 1) := by decide +kernel
theorem dL_move_23 : decode cL_move 23 = .ok (.astore 5, 2) := by decide +kernel
theorem dL_move_25 : decode cL_move 25 = .ok (.iconst 3, 1) := by decide +kernel
theorem dL_move_26 : decode cL_move 26 = .ok (.ireturn, 1) := by decide +kernel
theorem dL_move_27 : decode cL_move 27 = .ok (.iconst 0, 1) := by decide +kernel
theorem dL_move_28 : decode cL_move 28 = .ok (.ireturn, 1) := by decide +kernel
theorem zhw_move_c : Cond.codeWith yL_move cL_move 6 (some .int) [(0, 12, 15, 19), (0, 12, 19, 13), (0, 12, 23, 21)] ∈ zTb := zTb_in (i := 842) (by decide +kernel) rfl
theorem zhw_move_l : Cond.methodLink RL 36 (zy 99) ∈ zTb := zTb_in (i := 843) (by decide +kernel) rfl
theorem zhw_move_o : 10 + zown 99 = 15 := by decide +kernel
theorem zhw_move_v : (match zMW[99]? with
      | some q => !q.1
      | none => false) = true := by decide +kernel
theorem zhw_move_p : (parseMethodDescriptor (zy 99).desc).map (fun d => d.parameters.length) = some 3 := by decide +kernel
theorem zhw_move_n : 4 ≤ (zP 99).2 := by decide +kernel
set_option maxHeartbeats 4000000 in
set_option maxRecDepth 100000 in
theorem zh_move {l : Launch} {D : va_G} {g : zIds} {adr : Nat → Nat → Nat} {H0 : Heap} (hAd : zAd adr H0) (hJv : zJv l D g adr H0) (hNw : zNw l D g adr H0) (x1 x2 x3 : Int32) {σ σ1 : zSt} {k : Int32} (h : zhR 99 [zI x1, zI x2, zI x3] cd3 σ k σ1) : zHm l D g adr H0 99 yL_move cL_move 6 [(0, 12, 15, 19), (0, 12, 19, 13), (0, 12, 23, 21)] [zI x1, zI x2, zI x3] σ k σ1 := by
  refine vx_ofWH (cc := cL_move) (maxL := 6) (ret := some .int) (hh := [(0, 12, 15, 19), (0, 12, 19, 13), (0, 12, 23, 21)]) (by decide) rfl ?_
  intro p e s m args below meth c s₁ B hml hv9
  obtain ⟨⟨hav, hG, hWd⟩, hN⟩ := hv9
  replace hav : args = [.ref (adr 15 0), .int x1, .int x2, .int x3, .ref (adr 41 0)].toArray := hav
  subst hav
  have hx := B.exec
  have hb := B.bytes
  have hr := B.returns
  have hlocks := B.notSynchronized
  have hts0 := atoms_spec (ws := .codeWith yL_move cL_move 6 (some .int) [(0, 12, 15, 19), (0, 12, 19, 13), (0, 12, 23, 21)] :: zTb) B.pre
  have htab : c.exceptionTable.toList = tableOf [(0, 12, 15, 19), (0, 12, 19, 13), (0, 12, 23, 21)] := vx_table (x := yL_move) B (hts0 _ List.mem_cons_self)
  have hts : ∀ w ∈ zTb, w.before [.ref (adr 15 0), .int x1, .int x2, .int x3, .ref (adr 41 0)].toArray s = true := fun w hw => hts0 w (List.mem_cons_of_mem _ hw)
  have hown : s.vm.findClass RL = some m.cls := findClass_of_methodNamed B.named
  have hle := zhR_le h
  have hH := hWd.2
  have hP : va_P D vwCl (zwd g adr σ) s.heap := hWd.1
  have hS : va_S (zA H0) s.heap s.heap [] := va_S.rf
  have hl := lv_entry ([.ref (adr 15 0), .int x1, .int x2, .int x3, .ref (adr 41 0)]) (n := 6) (Nat.le_of_ble_eq_true rfl)
  rw [show (headSpec (.codeWith yL_move cL_move 6 (some .int) [(0, 12, 15, 19), (0, 12, 19, 13), (0, 12, 23, 21)] :: zTb) (zhrm 99 (σ1.2.2 - σ.2.2))).room = zhrm 99 (σ1.2.2 - σ.2.2) from rfl]
  rw [lg_entry_eq]
  generalize (lg_sl ([.ref (adr 15 0), .int x1, .int x2, .int x3, .ref (adr 41 0)]) ++ List.replicate (6 - (lg_sl ([.ref (adr 15 0), .int x1, .int x2, .int x3, .ref (adr 41 0)])).length) Slot.unset).toArray = ls at hl ⊢
  have hl : lv_has ls 6 [(0, .ref (adr 15 0)), (1, .int x1), (2, .int x2), (3, .int x3), (4, .ref (adr 41 0))] := hl
  refine lv_aload hx hb dL_move_0 (lv_at hl 4 rfl) ?_
  refine lv_iconst (v := 0) hx hb dL_move_2 (by decide) ?_
  refine lv_aload_n hx hb dL_move_3 rfl (lv_at hl 0 rfl) ?_
  refine lv_iload_n hx hb dL_move_4 rfl (lv_at hl 1 rfl) ?_
  refine lv_iload_n hx hb dL_move_5 rfl (lv_at hl 2 rfl) ?_
  refine lv_iload_n hx hb dL_move_6 rfl (lv_at hl 3 rfl) ?_
  rcases h with ⟨x, M1, hrun, rfl, rfl⟩ | ⟨ex, M1, he3, hz, hrun, rfl, rfl⟩
  · obtain ⟨-, hle1, hM⟩ := zrun_met hAd hJv hNw (j := 99) (by decide) hrun (zva_ok (k := 15) (by decide) [x1, x2, x3]) rfl zhw_move_n
    refine zW_ret hS (zl_v (a := 99) (kd := 15) (as := [zI x1, zI x2, zI x3]) hx hb (hml.trans hl.1.symm) hown hts hG hH (by decide) zhw_move_o hM (by decide) zhw_move_l zhw_move_v zhw_move_p (Nat.le_refl _) (zl_lo 99 _) hP hS (Nat.le_of_ble_eq_true rfl) dL_move_7 (Nat.le_of_eq (Nat.zero_add _)) (Nat.le_of_eq (Nat.zero_add _)) rfl) (fun H locs hP hS => ?_)
    refine lv_i2l hx hb dL_move_10 rfl ?_
    refine va_last hx hb hG.1 hP (zwd_D hAd _) hS 414 2 zout_get rfl (vp_in_nI (n := 0) (N := 1) (by decide) (by decide)) dL_move_11 (fun H locs hP _ hS => ?_)
    have hP := zout_P rfl hP
    refine lv_goto (tgt := 27) hx hb dL_move_12 rfl ?_
    refine lv_iconst (v := 0) hx hb dL_move_27 (by decide) ?_
    refine W.widen (k := σ.2.2 - σ.2.2) (n := 6 * (σ.2.2 - σ.2.2)) (Nat.le_of_eq (Nat.zero_add _)) (Nat.le_of_eq (Nat.zero_add _)) ?_
    exact vx_ret (W.iret hx hb hr (fun t ht hW => ⟨rfl, by rw [ht]; exact zl_here hH hP hS⟩) hS.2.2 dL_move_28)
  · obtain ⟨-, hle1, hM⟩ := zrun_met hAd hJv hNw (j := 99) (by decide) hrun (zva_ok (k := 15) (by decide) [x1, x2, x3]) rfl zhw_move_n
    refine zW_cat hS (zl_v (a := 99) (kd := 15) (as := [zI x1, zI x2, zI x3]) hx hb (hml.trans hl.1.symm) hown hts hG hH (by decide) zhw_move_o hM (by decide) zhw_move_l zhw_move_v zhw_move_p (Nat.le_refl _) (zl_lo 99 _) hP hS (Nat.le_of_ble_eq_true rfl) dL_move_7 (Nat.le_of_eq (Nat.zero_add _)) (Nat.le_of_eq (Nat.zero_add _)) rfl) (fun q ce H locs hP hS hce hcv hcl => ?_)
    rcases (show ex = 0 ∨ ex = 1 ∨ ex = 2 by omega) with rfl | rfl | rfl
    · refine vx_catch (own := RL) (name := zxn 0) (E := zxn 0) hown [] ⟨0, 12, 15, 19⟩ [⟨0, 12, 19, 13⟩, ⟨0, 12, 23, 21⟩] (htab.trans rfl) (fun z hz => nomatch hz) (by decide) (by decide) (hts _ zhl_19) (va_Nw.use rfl (hG.2.2.2.2.2 (Cond.castable (zxn 0) (zxn 0)) (List.mem_of_getElem? (i := 3) rfl))) hce hcv hcl ?_
      refine lv_astore hx hb dL_move_15 hl (by decide) rfl (fun ls hl => ?_)
      refine lv_iconst (v := 1) hx hb dL_move_17 (by decide) ?_
      refine W.widen (k := σ.2.2 + 1 - σ.2.2) (n := 6 * (σ.2.2 + 1 - σ.2.2)) (Nat.le_of_eq (Nat.zero_add _)) (Nat.le_of_eq (Nat.zero_add _)) ?_
      exact vx_ret (W.iret hx hb hr (fun t ht hW => ⟨rfl, by rw [ht]; exact zl_here hH hP hS⟩) hS.2.2 dL_move_18)
    · refine vx_catch (own := RL) (name := zxn 1) (E := zxn 1) hown [⟨0, 12, 15, 19⟩] ⟨0, 12, 19, 13⟩ [⟨0, 12, 23, 21⟩] (htab.trans rfl) (fun z hz => by simp only [List.mem_cons, List.not_mem_nil, or_false] at hz; rcases hz with rfl <;> first | exact Or.inr ⟨by decide, zxn 0, hts _ zhl_19, hN.1⟩) (by decide) (by decide) (hts _ zhl_13) (va_Nw.use rfl (hG.2.2.2.2.2 (Cond.castable (zxn 1) (zxn 1)) (List.mem_of_getElem? (i := 4) rfl))) hce hcv hcl ?_
      refine lv_astore hx hb dL_move_19 hl (by decide) rfl (fun ls hl => ?_)
      refine lv_iconst (v := 2) hx hb dL_move_21 (by decide) ?_
      refine W.widen (k := σ.2.2 + 1 - σ.2.2) (n := 6 * (σ.2.2 + 1 - σ.2.2)) (Nat.le_of_eq (Nat.zero_add _)) (Nat.le_of_eq (Nat.zero_add _)) ?_
      exact vx_ret (W.iret hx hb hr (fun t ht hW => ⟨rfl, by rw [ht]; exact zl_here hH hP hS⟩) hS.2.2 dL_move_22)
    · refine vx_catch (own := RL) (name := zxn 2) (E := zxn 2) hown [⟨0, 12, 15, 19⟩, ⟨0, 12, 19, 13⟩] ⟨0, 12, 23, 21⟩ [] (htab.trans rfl) (fun z hz => by simp only [List.mem_cons, List.not_mem_nil, or_false] at hz; rcases hz with rfl | rfl <;> first | exact Or.inr ⟨by decide, zxn 0, hts _ zhl_19, hN.2.1⟩ | exact Or.inr ⟨by decide, zxn 1, hts _ zhl_13, hN.2.2⟩) (by decide) (by decide) (hts _ zhl_21) (va_Nw.use rfl (hG.2.2.2.2.2 (Cond.castable (zxn 2) (zxn 2)) (List.mem_of_getElem? (i := 5) rfl))) hce hcv hcl ?_
      refine lv_astore hx hb dL_move_23 hl (by decide) rfl (fun ls hl => ?_)
      refine lv_iconst (v := 3) hx hb dL_move_25 (by decide) ?_
      refine W.widen (k := σ.2.2 + 1 - σ.2.2) (n := 6 * (σ.2.2 + 1 - σ.2.2)) (Nat.le_of_eq (Nat.zero_add _)) (Nat.le_of_eq (Nat.zero_add _)) ?_
      exact vx_ret (W.iret hx hb hr (fun t ht hW => ⟨rfl, by rw [ht]; exact zl_here hH hP hS⟩) hS.2.2 dL_move_26)
theorem dL_silence_0 : decode cL_silence 0 = .ok (.aload_n 3, 1) := by decide +kernel
theorem dL_silence_1 : decode cL_silence 1 = .ok (.iconst 0, 1) := by decide +kernel
theorem dL_silence_2 : decode cL_silence 2 = .ok (.aload_n 0, 1) := by decide +kernel
theorem dL_silence_3 : decode cL_silence 3 = .ok (.iload_n 1, 1) := by decide +kernel
theorem dL_silence_4 : decode cL_silence 4 = .ok (.iload_n 2, 1) := by decide +kernel
theorem dL_silence_5 : decode cL_silence 5 = .ok (.invokevirtual 39, 3) := by decide +kernel
theorem dL_silence_8 : decode cL_silence 8 = .ok (.i2l, 1) := by decide +kernel
theorem dL_silence_9 : decode cL_silence 9 = .ok (.lastore, 1) := by decide +kernel
theorem dL_silence_10 : decode cL_silence 10 = .ok (.goto 11, 3) := by decide +kernel
theorem dL_silence_13 : decode cL_silence 13 = .ok (.astore 4, 2) := by decide +kernel
theorem dL_silence_15 : decode cL_silence 15 = .ok (.iconst 1, 1) := by decide +kernel
theorem dL_silence_16 : decode cL_silence 16 = .ok (.ireturn, 1) := by decide +kernel
theorem dL_silence_17 : decode cL_silence 17 = .ok (.astore 4, 2) := by decide +kernel
theorem dL_silence_19 : decode cL_silence 19 = .ok (.iconst 2, 1) := by decide +kernel
theorem dL_silence_20 : decode cL_silence 20 = .ok (.ireturn, 1) := by decide +kernel
theorem dL_silence_21 : decode cL_silence 21 = .ok (.iconst 0, 1) := by decide +kernel
theorem dL_silence_22 : decode cL_silence 22 = .ok (.ireturn, 1) := by decide +kernel
theorem zhw_silence_c : Cond.codeWith yL_silence cL_silence 5 (some .int) [(0, 10, 13, 13), (0, 10, 17, 21)] ∈ zTb := zTb_in (i := 884) (by decide +kernel) rfl
theorem zhw_silence_l : Cond.methodLink RL 39 (zy 100) ∈ zTb := zTb_in (i := 885) (by decide +kernel) rfl
theorem zhw_silence_o : 10 + zown 100 = 15 := by decide +kernel
theorem zhw_silence_v : (match zMW[100]? with
      | some q => !q.1
      | none => false) = true := by decide +kernel
theorem zhw_silence_p : (parseMethodDescriptor (zy 100).desc).map (fun d => d.parameters.length) = some 2 := by decide +kernel
theorem zhw_silence_n : 3 ≤ (zP 100).2 := by decide +kernel
set_option maxHeartbeats 4000000 in
set_option maxRecDepth 100000 in
theorem zh_silence {l : Launch} {D : va_G} {g : zIds} {adr : Nat → Nat → Nat} {H0 : Heap} (hAd : zAd adr H0) (hJv : zJv l D g adr H0) (hNw : zNw l D g adr H0) (x1 x2 : Int32) {σ σ1 : zSt} {k : Int32} (h : zhR 100 [zI x1, zI x2] cdS σ k σ1) : zHm l D g adr H0 100 yL_silence cL_silence 5 [(0, 10, 13, 13), (0, 10, 17, 21)] [zI x1, zI x2] σ k σ1 := by
  refine vx_ofWH (cc := cL_silence) (maxL := 5) (ret := some .int) (hh := [(0, 10, 13, 13), (0, 10, 17, 21)]) (by decide) rfl ?_
  intro p e s m args below meth c s₁ B hml hv9
  obtain ⟨⟨hav, hG, hWd⟩, hN⟩ := hv9
  replace hav : args = [.ref (adr 15 0), .int x1, .int x2, .ref (adr 41 0)].toArray := hav
  subst hav
  have hx := B.exec
  have hb := B.bytes
  have hr := B.returns
  have hlocks := B.notSynchronized
  have hts0 := atoms_spec (ws := .codeWith yL_silence cL_silence 5 (some .int) [(0, 10, 13, 13), (0, 10, 17, 21)] :: zTb) B.pre
  have htab : c.exceptionTable.toList = tableOf [(0, 10, 13, 13), (0, 10, 17, 21)] := vx_table (x := yL_silence) B (hts0 _ List.mem_cons_self)
  have hts : ∀ w ∈ zTb, w.before [.ref (adr 15 0), .int x1, .int x2, .ref (adr 41 0)].toArray s = true := fun w hw => hts0 w (List.mem_cons_of_mem _ hw)
  have hown : s.vm.findClass RL = some m.cls := findClass_of_methodNamed B.named
  have hle := zhR_le h
  have hH := hWd.2
  have hP : va_P D vwCl (zwd g adr σ) s.heap := hWd.1
  have hS : va_S (zA H0) s.heap s.heap [] := va_S.rf
  have hl := lv_entry ([.ref (adr 15 0), .int x1, .int x2, .ref (adr 41 0)]) (n := 5) (Nat.le_of_ble_eq_true rfl)
  rw [show (headSpec (.codeWith yL_silence cL_silence 5 (some .int) [(0, 10, 13, 13), (0, 10, 17, 21)] :: zTb) (zhrm 100 (σ1.2.2 - σ.2.2))).room = zhrm 100 (σ1.2.2 - σ.2.2) from rfl]
  rw [lg_entry_eq]
  generalize (lg_sl ([.ref (adr 15 0), .int x1, .int x2, .ref (adr 41 0)]) ++ List.replicate (5 - (lg_sl ([.ref (adr 15 0), .int x1, .int x2, .ref (adr 41 0)])).length) Slot.unset).toArray = ls at hl ⊢
  have hl : lv_has ls 5 [(0, .ref (adr 15 0)), (1, .int x1), (2, .int x2), (3, .ref (adr 41 0))] := hl
  refine lv_aload_n hx hb dL_silence_0 rfl (lv_at hl 3 rfl) ?_
  refine lv_iconst (v := 0) hx hb dL_silence_1 (by decide) ?_
  refine lv_aload_n hx hb dL_silence_2 rfl (lv_at hl 0 rfl) ?_
  refine lv_iload_n hx hb dL_silence_3 rfl (lv_at hl 1 rfl) ?_
  refine lv_iload_n hx hb dL_silence_4 rfl (lv_at hl 2 rfl) ?_
  rcases h with ⟨x, M1, hrun, rfl, rfl⟩ | ⟨ex, M1, he3, hz, hrun, rfl, rfl⟩
  · obtain ⟨-, hle1, hM⟩ := zrun_met hAd hJv hNw (j := 100) (by decide) hrun (zva_ok (k := 15) (by decide) [x1, x2]) rfl zhw_silence_n
    refine zW_ret hS (zl_v (a := 100) (kd := 15) (as := [zI x1, zI x2]) hx hb (hml.trans hl.1.symm) hown hts hG hH (by decide) zhw_silence_o hM (by decide) zhw_silence_l zhw_silence_v zhw_silence_p (Nat.le_refl _) (zl_lo 100 _) hP hS (Nat.le_of_ble_eq_true rfl) dL_silence_5 (Nat.le_of_eq (Nat.zero_add _)) (Nat.le_of_eq (Nat.zero_add _)) rfl) (fun H locs hP hS => ?_)
    refine lv_i2l hx hb dL_silence_8 rfl ?_
    refine va_last hx hb hG.1 hP (zwd_D hAd _) hS 414 2 zout_get rfl (vp_in_nI (n := 0) (N := 1) (by decide) (by decide)) dL_silence_9 (fun H locs hP _ hS => ?_)
    have hP := zout_P rfl hP
    refine lv_goto (tgt := 21) hx hb dL_silence_10 rfl ?_
    refine lv_iconst (v := 0) hx hb dL_silence_21 (by decide) ?_
    refine W.widen (k := σ.2.2 - σ.2.2) (n := 6 * (σ.2.2 - σ.2.2)) (Nat.le_of_eq (Nat.zero_add _)) (Nat.le_of_eq (Nat.zero_add _)) ?_
    exact vx_ret (W.iret hx hb hr (fun t ht hW => ⟨rfl, by rw [ht]; exact zl_here hH hP hS⟩) hS.2.2 dL_silence_22)
  · obtain ⟨-, hle1, hM⟩ := zrun_met hAd hJv hNw (j := 100) (by decide) hrun (zva_ok (k := 15) (by decide) [x1, x2]) rfl zhw_silence_n
    refine zW_cat hS (zl_v (a := 100) (kd := 15) (as := [zI x1, zI x2]) hx hb (hml.trans hl.1.symm) hown hts hG hH (by decide) zhw_silence_o hM (by decide) zhw_silence_l zhw_silence_v zhw_silence_p (Nat.le_refl _) (zl_lo 100 _) hP hS (Nat.le_of_ble_eq_true rfl) dL_silence_5 (Nat.le_of_eq (Nat.zero_add _)) (Nat.le_of_eq (Nat.zero_add _)) rfl) (fun q ce H locs hP hS hce hcv hcl => ?_)
    rcases (show ex = 0 ∨ ex = 1 ∨ ex = 2 by omega) with rfl | rfl | rfl
    · exact absurd rfl hz
    · refine vx_catch (own := RL) (name := zxn 1) (E := zxn 1) hown [] ⟨0, 10, 13, 13⟩ [⟨0, 10, 17, 21⟩] (htab.trans rfl) (fun z hz => nomatch hz) (by decide) (by decide) (hts _ zhl_13) (va_Nw.use rfl (hG.2.2.2.2.2 (Cond.castable (zxn 1) (zxn 1)) (List.mem_of_getElem? (i := 4) rfl))) hce hcv hcl ?_
      refine lv_astore hx hb dL_silence_13 hl (by decide) rfl (fun ls hl => ?_)
      refine lv_iconst (v := 1) hx hb dL_silence_15 (by decide) ?_
      refine W.widen (k := σ.2.2 + 1 - σ.2.2) (n := 6 * (σ.2.2 + 1 - σ.2.2)) (Nat.le_of_eq (Nat.zero_add _)) (Nat.le_of_eq (Nat.zero_add _)) ?_
      exact vx_ret (W.iret hx hb hr (fun t ht hW => ⟨rfl, by rw [ht]; exact zl_here hH hP hS⟩) hS.2.2 dL_silence_16)
    · refine vx_catch (own := RL) (name := zxn 2) (E := zxn 2) hown [⟨0, 10, 13, 13⟩] ⟨0, 10, 17, 21⟩ [] (htab.trans rfl) (fun z hz => by simp only [List.mem_cons, List.not_mem_nil, or_false] at hz; rcases hz with rfl <;> first | exact Or.inr ⟨by decide, zxn 1, hts _ zhl_13, hN.2.2⟩) (by decide) (by decide) (hts _ zhl_21) (va_Nw.use rfl (hG.2.2.2.2.2 (Cond.castable (zxn 2) (zxn 2)) (List.mem_of_getElem? (i := 5) rfl))) hce hcv hcl ?_
      refine lv_astore hx hb dL_silence_17 hl (by decide) rfl (fun ls hl => ?_)
      refine lv_iconst (v := 2) hx hb dL_silence_19 (by decide) ?_
      refine W.widen (k := σ.2.2 + 1 - σ.2.2) (n := 6 * (σ.2.2 + 1 - σ.2.2)) (Nat.le_of_eq (Nat.zero_add _)) (Nat.le_of_eq (Nat.zero_add _)) ?_
      exact vx_ret (W.iret hx hb hr (fun t ht hW => ⟨rfl, by rw [ht]; exact zl_here hH hP hS⟩) hS.2.2 dL_silence_20)
theorem dL_told_0 : decode cL_told 0 = .ok (.aload_n 2, 1) := by decide +kernel
theorem dL_told_1 : decode cL_told 1 = .ok (.iconst 0, 1) := by decide +kernel
theorem dL_told_2 : decode cL_told 2 = .ok (.aload_n 0, 1) := by decide +kernel
theorem dL_told_3 : decode cL_told 3 = .ok (.iload_n 1, 1) := by decide +kernel
theorem dL_told_4 : decode cL_told 4 = .ok (.invokevirtual 51, 3) := by decide +kernel
theorem dL_told_7 : decode cL_told 7 = .ok (.i2l, 1) := by decide +kernel
theorem dL_told_8 : decode cL_told 8 = .ok (.lastore, 1) := by decide +kernel
theorem dL_told_9 : decode cL_told 9 = .ok (.goto 6, 3) := by decide +kernel
theorem dL_told_12 : decode cL_told 12 = .ok (.astore_n 3, 1) := by decide +kernel
theorem dL_told_13 : decode cL_told 13 = .ok (.iconst 1, 1) := by decide +kernel
theorem dL_told_14 : decode cL_told 14 = .ok (.ireturn, 1) := by decide +kernel
theorem dL_told_15 : decode cL_told 15 = .ok (.iconst 0, 1) := by decide +kernel
theorem dL_told_16 : decode cL_told 16 = .ok (.ireturn, 1) := by decide +kernel
theorem zhw_told_c : Cond.codeWith yL_told cL_told 4 (some .int) [(0, 9, 12, 13)] ∈ zTb := zTb_in (i := 983) (by decide +kernel) rfl
theorem zhw_told_l : Cond.methodLink RL 51 (zy 106) ∈ zTb := zTb_in (i := 984) (by decide +kernel) rfl
theorem zhw_told_o : 10 + zown 106 = 15 := by decide +kernel
theorem zhw_told_v : (match zMW[106]? with
      | some q => !q.1
      | none => false) = true := by decide +kernel
theorem zhw_told_p : (parseMethodDescriptor (zy 106).desc).map (fun d => d.parameters.length) = some 1 := by decide +kernel
theorem zhw_told_n : 2 ≤ (zP 106).2 := by decide +kernel
set_option maxHeartbeats 4000000 in
set_option maxRecDepth 100000 in
theorem zh_told {l : Launch} {D : va_G} {g : zIds} {adr : Nat → Nat → Nat} {H0 : Heap} (hAd : zAd adr H0) (hJv : zJv l D g adr H0) (hNw : zNw l D g adr H0) (x1 : Int32) {σ σ1 : zSt} {k : Int32} (h : zhR 106 [zI x1] cdI σ k σ1) : zHm l D g adr H0 106 yL_told cL_told 4 [(0, 9, 12, 13)] [zI x1] σ k σ1 := by
  refine vx_ofWH (cc := cL_told) (maxL := 4) (ret := some .int) (hh := [(0, 9, 12, 13)]) (by decide) rfl ?_
  intro p e s m args below meth c s₁ B hml hv9
  obtain ⟨⟨hav, hG, hWd⟩, hN⟩ := hv9
  replace hav : args = [.ref (adr 15 0), .int x1, .ref (adr 41 0)].toArray := hav
  subst hav
  have hx := B.exec
  have hb := B.bytes
  have hr := B.returns
  have hlocks := B.notSynchronized
  have hts0 := atoms_spec (ws := .codeWith yL_told cL_told 4 (some .int) [(0, 9, 12, 13)] :: zTb) B.pre
  have htab : c.exceptionTable.toList = tableOf [(0, 9, 12, 13)] := vx_table (x := yL_told) B (hts0 _ List.mem_cons_self)
  have hts : ∀ w ∈ zTb, w.before [.ref (adr 15 0), .int x1, .ref (adr 41 0)].toArray s = true := fun w hw => hts0 w (List.mem_cons_of_mem _ hw)
  have hown : s.vm.findClass RL = some m.cls := findClass_of_methodNamed B.named
  have hle := zhR_le h
  have hH := hWd.2
  have hP : va_P D vwCl (zwd g adr σ) s.heap := hWd.1
  have hS : va_S (zA H0) s.heap s.heap [] := va_S.rf
  have hl := lv_entry ([.ref (adr 15 0), .int x1, .ref (adr 41 0)]) (n := 4) (Nat.le_of_ble_eq_true rfl)
  rw [show (headSpec (.codeWith yL_told cL_told 4 (some .int) [(0, 9, 12, 13)] :: zTb) (zhrm 106 (σ1.2.2 - σ.2.2))).room = zhrm 106 (σ1.2.2 - σ.2.2) from rfl]
  rw [lg_entry_eq]
  generalize (lg_sl ([.ref (adr 15 0), .int x1, .ref (adr 41 0)]) ++ List.replicate (4 - (lg_sl ([.ref (adr 15 0), .int x1, .ref (adr 41 0)])).length) Slot.unset).toArray = ls at hl ⊢
  have hl : lv_has ls 4 [(0, .ref (adr 15 0)), (1, .int x1), (2, .ref (adr 41 0))] := hl
  refine lv_aload_n hx hb dL_told_0 rfl (lv_at hl 2 rfl) ?_
  refine lv_iconst (v := 0) hx hb dL_told_1 (by decide) ?_
  refine lv_aload_n hx hb dL_told_2 rfl (lv_at hl 0 rfl) ?_
  refine lv_iload_n hx hb dL_told_3 rfl (lv_at hl 1 rfl) ?_
  rcases h with ⟨x, M1, hrun, rfl, rfl⟩ | ⟨ex, M1, he3, hz, hrun, rfl, rfl⟩
  · obtain ⟨-, hle1, hM⟩ := zrun_met hAd hJv hNw (j := 106) (by decide) hrun (zva_ok (k := 15) (by decide) [x1]) rfl zhw_told_n
    refine zW_ret hS (zl_v (a := 106) (kd := 15) (as := [zI x1]) hx hb (hml.trans hl.1.symm) hown hts hG hH (by decide) zhw_told_o hM (by decide) zhw_told_l zhw_told_v zhw_told_p (Nat.le_refl _) (zl_lo 106 _) hP hS (Nat.le_of_ble_eq_true rfl) dL_told_4 (Nat.le_of_eq (Nat.zero_add _)) (Nat.le_of_eq (Nat.zero_add _)) rfl) (fun H locs hP hS => ?_)
    refine lv_i2l hx hb dL_told_7 rfl ?_
    refine va_last hx hb hG.1 hP (zwd_D hAd _) hS 414 2 zout_get rfl (vp_in_nI (n := 0) (N := 1) (by decide) (by decide)) dL_told_8 (fun H locs hP _ hS => ?_)
    have hP := zout_P rfl hP
    refine lv_goto (tgt := 15) hx hb dL_told_9 rfl ?_
    refine lv_iconst (v := 0) hx hb dL_told_15 (by decide) ?_
    refine W.widen (k := σ.2.2 - σ.2.2) (n := 6 * (σ.2.2 - σ.2.2)) (Nat.le_of_eq (Nat.zero_add _)) (Nat.le_of_eq (Nat.zero_add _)) ?_
    exact vx_ret (W.iret hx hb hr (fun t ht hW => ⟨rfl, by rw [ht]; exact zl_here hH hP hS⟩) hS.2.2 dL_told_16)
  · obtain ⟨-, hle1, hM⟩ := zrun_met hAd hJv hNw (j := 106) (by decide) hrun (zva_ok (k := 15) (by decide) [x1]) rfl zhw_told_n
    refine zW_cat hS (zl_v (a := 106) (kd := 15) (as := [zI x1]) hx hb (hml.trans hl.1.symm) hown hts hG hH (by decide) zhw_told_o hM (by decide) zhw_told_l zhw_told_v zhw_told_p (Nat.le_refl _) (zl_lo 106 _) hP hS (Nat.le_of_ble_eq_true rfl) dL_told_4 (Nat.le_of_eq (Nat.zero_add _)) (Nat.le_of_eq (Nat.zero_add _)) rfl) (fun q ce H locs hP hS hce hcv hcl => ?_)
    rcases (show ex = 0 ∨ ex = 1 ∨ ex = 2 by omega) with rfl | rfl | rfl
    · exact absurd rfl hz
    · refine vx_catch (own := RL) (name := zxn 1) (E := zxn 1) hown [] ⟨0, 9, 12, 13⟩ [] (htab.trans rfl) (fun z hz => nomatch hz) (by decide) (by decide) (hts _ zhl_13) (va_Nw.use rfl (hG.2.2.2.2.2 (Cond.castable (zxn 1) (zxn 1)) (List.mem_of_getElem? (i := 4) rfl))) hce hcv hcl ?_
      refine lv_astore_n hx hb dL_told_12 rfl hl (by decide) rfl (fun ls hl => ?_)
      refine lv_iconst (v := 1) hx hb dL_told_13 (by decide) ?_
      refine W.widen (k := σ.2.2 + 1 - σ.2.2) (n := 6 * (σ.2.2 + 1 - σ.2.2)) (Nat.le_of_eq (Nat.zero_add _)) (Nat.le_of_eq (Nat.zero_add _)) ?_
      exact vx_ret (W.iret hx hb hr (fun t ht hW => ⟨rfl, by rw [ht]; exact zl_here hH hP hS⟩) hS.2.2 dL_told_14)
    · exact absurd rfl hz
theorem dL_at_0 : decode cL_at 0 = .ok (.aload_n 3, 1) := by decide +kernel
theorem dL_at_1 : decode cL_at 1 = .ok (.iconst 0, 1) := by decide +kernel
theorem dL_at_2 : decode cL_at 2 = .ok (.aload_n 0, 1) := by decide +kernel
theorem dL_at_3 : decode cL_at 3 = .ok (.iload_n 1, 1) := by decide +kernel
theorem dL_at_4 : decode cL_at 4 = .ok (.iload_n 2, 1) := by decide +kernel
theorem dL_at_5 : decode cL_at 5 = .ok (.invokevirtual 60, 3) := by decide +kernel
theorem dL_at_8 : decode cL_at 8 = .ok (.i2l, 1) := by decide +kernel
theorem dL_at_9 : decode cL_at 9 = .ok (.lastore, 1) := by decide +kernel
theorem dL_at_10 : decode cL_at 10 = .ok (.goto 11, 3) := by decide +kernel
theorem dL_at_13 : decode cL_at 13 = .ok (.astore 4, 2) := by decide +kernel
theorem dL_at_15 : decode cL_at 15 = .ok (.iconst 1, 1) := by decide +kernel
theorem dL_at_16 : decode cL_at 16 = .ok (.ireturn, 1) := by decide +kernel
theorem dL_at_17 : decode cL_at 17 = .ok (.astore 4, 2) := by decide +kernel
theorem dL_at_19 : decode cL_at 19 = .ok (.iconst 2, 1) := by decide +kernel
theorem dL_at_20 : decode cL_at 20 = .ok (.ireturn, 1) := by decide +kernel
theorem dL_at_21 : decode cL_at 21 = .ok (.iconst 0, 1) := by decide +kernel
theorem dL_at_22 : decode cL_at 22 = .ok (.ireturn, 1) := by decide +kernel
theorem zhw_at_c : Cond.codeWith yL_at cL_at 5 (some .int) [(0, 10, 13, 19), (0, 10, 17, 13)] ∈ zTb := zTb_in (i := 1027) (by decide +kernel) rfl
theorem zhw_at_l : Cond.methodLink RL 60 (zy 109) ∈ zTb := zTb_in (i := 1028) (by decide +kernel) rfl
theorem zhw_at_o : 10 + zown 109 = 15 := by decide +kernel
theorem zhw_at_v : (match zMW[109]? with
      | some q => !q.1
      | none => false) = true := by decide +kernel
theorem zhw_at_p : (parseMethodDescriptor (zy 109).desc).map (fun d => d.parameters.length) = some 2 := by decide +kernel
theorem zhw_at_n : 3 ≤ (zP 109).2 := by decide +kernel
set_option maxHeartbeats 4000000 in
set_option maxRecDepth 100000 in
theorem zh_at {l : Launch} {D : va_G} {g : zIds} {adr : Nat → Nat → Nat} {H0 : Heap} (hAd : zAd adr H0) (hJv : zJv l D g adr H0) (hNw : zNw l D g adr H0) (x1 x2 : Int32) {σ σ1 : zSt} {k : Int32} (h : zhR 109 [zI x1, zI x2] cdL σ k σ1) : zHm l D g adr H0 109 yL_at cL_at 5 [(0, 10, 13, 19), (0, 10, 17, 13)] [zI x1, zI x2] σ k σ1 := by
  refine vx_ofWH (cc := cL_at) (maxL := 5) (ret := some .int) (hh := [(0, 10, 13, 19), (0, 10, 17, 13)]) (by decide) rfl ?_
  intro p e s m args below meth c s₁ B hml hv9
  obtain ⟨⟨hav, hG, hWd⟩, hN⟩ := hv9
  replace hav : args = [.ref (adr 15 0), .int x1, .int x2, .ref (adr 41 0)].toArray := hav
  subst hav
  have hx := B.exec
  have hb := B.bytes
  have hr := B.returns
  have hlocks := B.notSynchronized
  have hts0 := atoms_spec (ws := .codeWith yL_at cL_at 5 (some .int) [(0, 10, 13, 19), (0, 10, 17, 13)] :: zTb) B.pre
  have htab : c.exceptionTable.toList = tableOf [(0, 10, 13, 19), (0, 10, 17, 13)] := vx_table (x := yL_at) B (hts0 _ List.mem_cons_self)
  have hts : ∀ w ∈ zTb, w.before [.ref (adr 15 0), .int x1, .int x2, .ref (adr 41 0)].toArray s = true := fun w hw => hts0 w (List.mem_cons_of_mem _ hw)
  have hown : s.vm.findClass RL = some m.cls := findClass_of_methodNamed B.named
  have hle := zhR_le h
  have hH := hWd.2
  have hP : va_P D vwCl (zwd g adr σ) s.heap := hWd.1
  have hS : va_S (zA H0) s.heap s.heap [] := va_S.rf
  have hl := lv_entry ([.ref (adr 15 0), .int x1, .int x2, .ref (adr 41 0)]) (n := 5) (Nat.le_of_ble_eq_true rfl)
  rw [show (headSpec (.codeWith yL_at cL_at 5 (some .int) [(0, 10, 13, 19), (0, 10, 17, 13)] :: zTb) (zhrm 109 (σ1.2.2 - σ.2.2))).room = zhrm 109 (σ1.2.2 - σ.2.2) from rfl]
  rw [lg_entry_eq]
  generalize (lg_sl ([.ref (adr 15 0), .int x1, .int x2, .ref (adr 41 0)]) ++ List.replicate (5 - (lg_sl ([.ref (adr 15 0), .int x1, .int x2, .ref (adr 41 0)])).length) Slot.unset).toArray = ls at hl ⊢
  have hl : lv_has ls 5 [(0, .ref (adr 15 0)), (1, .int x1), (2, .int x2), (3, .ref (adr 41 0))] := hl
  refine lv_aload_n hx hb dL_at_0 rfl (lv_at hl 3 rfl) ?_
  refine lv_iconst (v := 0) hx hb dL_at_1 (by decide) ?_
  refine lv_aload_n hx hb dL_at_2 rfl (lv_at hl 0 rfl) ?_
  refine lv_iload_n hx hb dL_at_3 rfl (lv_at hl 1 rfl) ?_
  refine lv_iload_n hx hb dL_at_4 rfl (lv_at hl 2 rfl) ?_
  rcases h with ⟨x, M1, hrun, rfl, rfl⟩ | ⟨ex, M1, he3, hz, hrun, rfl, rfl⟩
  · obtain ⟨-, hle1, hM⟩ := zrun_met hAd hJv hNw (j := 109) (by decide) hrun (zva_ok (k := 15) (by decide) [x1, x2]) rfl zhw_at_n
    refine zW_ret hS (zl_v (a := 109) (kd := 15) (as := [zI x1, zI x2]) hx hb (hml.trans hl.1.symm) hown hts hG hH (by decide) zhw_at_o hM (by decide) zhw_at_l zhw_at_v zhw_at_p (Nat.le_refl _) (zl_lo 109 _) hP hS (Nat.le_of_ble_eq_true rfl) dL_at_5 (Nat.le_of_eq (Nat.zero_add _)) (Nat.le_of_eq (Nat.zero_add _)) rfl) (fun H locs hP hS => ?_)
    refine lv_i2l hx hb dL_at_8 rfl ?_
    refine va_last hx hb hG.1 hP (zwd_D hAd _) hS 414 2 zout_get rfl (vp_in_nI (n := 0) (N := 1) (by decide) (by decide)) dL_at_9 (fun H locs hP _ hS => ?_)
    have hP := zout_P rfl hP
    refine lv_goto (tgt := 21) hx hb dL_at_10 rfl ?_
    refine lv_iconst (v := 0) hx hb dL_at_21 (by decide) ?_
    refine W.widen (k := σ.2.2 - σ.2.2) (n := 6 * (σ.2.2 - σ.2.2)) (Nat.le_of_eq (Nat.zero_add _)) (Nat.le_of_eq (Nat.zero_add _)) ?_
    exact vx_ret (W.iret hx hb hr (fun t ht hW => ⟨rfl, by rw [ht]; exact zl_here hH hP hS⟩) hS.2.2 dL_at_22)
  · obtain ⟨-, hle1, hM⟩ := zrun_met hAd hJv hNw (j := 109) (by decide) hrun (zva_ok (k := 15) (by decide) [x1, x2]) rfl zhw_at_n
    refine zW_cat hS (zl_v (a := 109) (kd := 15) (as := [zI x1, zI x2]) hx hb (hml.trans hl.1.symm) hown hts hG hH (by decide) zhw_at_o hM (by decide) zhw_at_l zhw_at_v zhw_at_p (Nat.le_refl _) (zl_lo 109 _) hP hS (Nat.le_of_ble_eq_true rfl) dL_at_5 (Nat.le_of_eq (Nat.zero_add _)) (Nat.le_of_eq (Nat.zero_add _)) rfl) (fun q ce H locs hP hS hce hcv hcl => ?_)
    rcases (show ex = 0 ∨ ex = 1 ∨ ex = 2 by omega) with rfl | rfl | rfl
    · refine vx_catch (own := RL) (name := zxn 0) (E := zxn 0) hown [] ⟨0, 10, 13, 19⟩ [⟨0, 10, 17, 13⟩] (htab.trans rfl) (fun z hz => nomatch hz) (by decide) (by decide) (hts _ zhl_19) (va_Nw.use rfl (hG.2.2.2.2.2 (Cond.castable (zxn 0) (zxn 0)) (List.mem_of_getElem? (i := 3) rfl))) hce hcv hcl ?_
      refine lv_astore hx hb dL_at_13 hl (by decide) rfl (fun ls hl => ?_)
      refine lv_iconst (v := 1) hx hb dL_at_15 (by decide) ?_
      refine W.widen (k := σ.2.2 + 1 - σ.2.2) (n := 6 * (σ.2.2 + 1 - σ.2.2)) (Nat.le_of_eq (Nat.zero_add _)) (Nat.le_of_eq (Nat.zero_add _)) ?_
      exact vx_ret (W.iret hx hb hr (fun t ht hW => ⟨rfl, by rw [ht]; exact zl_here hH hP hS⟩) hS.2.2 dL_at_16)
    · refine vx_catch (own := RL) (name := zxn 1) (E := zxn 1) hown [⟨0, 10, 13, 19⟩] ⟨0, 10, 17, 13⟩ [] (htab.trans rfl) (fun z hz => by simp only [List.mem_cons, List.not_mem_nil, or_false] at hz; rcases hz with rfl <;> first | exact Or.inr ⟨by decide, zxn 0, hts _ zhl_19, hN.1⟩) (by decide) (by decide) (hts _ zhl_13) (va_Nw.use rfl (hG.2.2.2.2.2 (Cond.castable (zxn 1) (zxn 1)) (List.mem_of_getElem? (i := 4) rfl))) hce hcv hcl ?_
      refine lv_astore hx hb dL_at_17 hl (by decide) rfl (fun ls hl => ?_)
      refine lv_iconst (v := 2) hx hb dL_at_19 (by decide) ?_
      refine W.widen (k := σ.2.2 + 1 - σ.2.2) (n := 6 * (σ.2.2 + 1 - σ.2.2)) (Nat.le_of_eq (Nat.zero_add _)) (Nat.le_of_eq (Nat.zero_add _)) ?_
      exact vx_ret (W.iret hx hb hr (fun t ht hW => ⟨rfl, by rw [ht]; exact zl_here hH hP hS⟩) hS.2.2 dL_at_20)
    · exact absurd rfl hz
theorem dL_room_0 : decode cL_room 0 = .ok (.aload 4, 2) := by decide +kernel
theorem dL_room_2 : decode cL_room 2 = .ok (.iconst 0, 1) := by decide +kernel
theorem dL_room_3 : decode cL_room 3 = .ok (.aload_n 0, 1) := by decide +kernel
theorem dL_room_4 : decode cL_room 4 = .ok (.iload_n 1, 1) := by decide +kernel
theorem dL_room_5 : decode cL_room 5 = .ok (.iload_n 2, 1) := by decide +kernel
theorem dL_room_6 : decode cL_room 6 = .ok (.iload_n 3, 1) := by decide +kernel
theorem dL_room_7 : decode cL_room 7 = .ok (.invokevirtual 85, 3) := by decide +kernel
theorem dL_room_10 : decode cL_room 10 = .ok (.i2l, 1) := by decide +kernel
theorem dL_room_11 : decode cL_room 11 = .ok (.lastore, 1) := by decide +kernel
theorem dL_room_12 : decode cL_room 12 = .ok (.goto 11, 3) := by decide +kernel
theorem dL_room_15 : decode cL_room 15 = .ok (.astore 5, 2) := by decide +kernel
theorem dL_room_17 : decode cL_room 17 = .ok (.iconst 1, 1) := by decide +kernel
theorem dL_room_18 : decode cL_room 18 = .ok (.ireturn, 1) := by decide +kernel
theorem dL_room_19 : decode cL_room 19 = .ok (.astore 5, 2) := by decide +kernel
theorem dL_room_21 : decode cL_room 21 = .ok (.iconst 2, 1) := by decide +kernel
theorem dL_room_22 : decode cL_room 22 = .ok (.ireturn, 1) := by decide +kernel
theorem dL_room_23 : decode cL_room 23 = .ok (.iconst 0, 1) := by decide +kernel
theorem dL_room_24 : decode cL_room 24 = .ok (.ireturn, 1) := by decide +kernel
theorem zhw_room_c : Cond.codeWith yL_room cL_room 6 (some .int) [(0, 12, 15, 19), (0, 12, 19, 13)] ∈ zTb := zTb_in (i := 1097) (by decide +kernel) rfl
theorem zhw_room_l : Cond.methodLink RL 85 (zy 117) ∈ zTb := zTb_in (i := 1098) (by decide +kernel) rfl
theorem zhw_room_o : 10 + zown 117 = 15 := by decide +kernel
theorem zhw_room_v : (match zMW[117]? with
      | some q => !q.1
      | none => false) = true := by decide +kernel
theorem zhw_room_p : (parseMethodDescriptor (zy 117).desc).map (fun d => d.parameters.length) = some 3 := by decide +kernel
theorem zhw_room_n : 4 ≤ (zP 117).2 := by decide +kernel
set_option maxHeartbeats 4000000 in
set_option maxRecDepth 100000 in
theorem zh_room {l : Launch} {D : va_G} {g : zIds} {adr : Nat → Nat → Nat} {H0 : Heap} (hAd : zAd adr H0) (hJv : zJv l D g adr H0) (hNw : zNw l D g adr H0) (x1 x2 x3 : Int32) {σ σ1 : zSt} {k : Int32} (h : zhR 117 [zI x1, zI x2, zI x3] cdL σ k σ1) : zHm l D g adr H0 117 yL_room cL_room 6 [(0, 12, 15, 19), (0, 12, 19, 13)] [zI x1, zI x2, zI x3] σ k σ1 := by
  refine vx_ofWH (cc := cL_room) (maxL := 6) (ret := some .int) (hh := [(0, 12, 15, 19), (0, 12, 19, 13)]) (by decide) rfl ?_
  intro p e s m args below meth c s₁ B hml hv9
  obtain ⟨⟨hav, hG, hWd⟩, hN⟩ := hv9
  replace hav : args = [.ref (adr 15 0), .int x1, .int x2, .int x3, .ref (adr 41 0)].toArray := hav
  subst hav
  have hx := B.exec
  have hb := B.bytes
  have hr := B.returns
  have hlocks := B.notSynchronized
  have hts0 := atoms_spec (ws := .codeWith yL_room cL_room 6 (some .int) [(0, 12, 15, 19), (0, 12, 19, 13)] :: zTb) B.pre
  have htab : c.exceptionTable.toList = tableOf [(0, 12, 15, 19), (0, 12, 19, 13)] := vx_table (x := yL_room) B (hts0 _ List.mem_cons_self)
  have hts : ∀ w ∈ zTb, w.before [.ref (adr 15 0), .int x1, .int x2, .int x3, .ref (adr 41 0)].toArray s = true := fun w hw => hts0 w (List.mem_cons_of_mem _ hw)
  have hown : s.vm.findClass RL = some m.cls := findClass_of_methodNamed B.named
  have hle := zhR_le h
  have hH := hWd.2
  have hP : va_P D vwCl (zwd g adr σ) s.heap := hWd.1
  have hS : va_S (zA H0) s.heap s.heap [] := va_S.rf
  have hl := lv_entry ([.ref (adr 15 0), .int x1, .int x2, .int x3, .ref (adr 41 0)]) (n := 6) (Nat.le_of_ble_eq_true rfl)
  rw [show (headSpec (.codeWith yL_room cL_room 6 (some .int) [(0, 12, 15, 19), (0, 12, 19, 13)] :: zTb) (zhrm 117 (σ1.2.2 - σ.2.2))).room = zhrm 117 (σ1.2.2 - σ.2.2) from rfl]
  rw [lg_entry_eq]
  generalize (lg_sl ([.ref (adr 15 0), .int x1, .int x2, .int x3, .ref (adr 41 0)]) ++ List.replicate (6 - (lg_sl ([.ref (adr 15 0), .int x1, .int x2, .int x3, .ref (adr 41 0)])).length) Slot.unset).toArray = ls at hl ⊢
  have hl : lv_has ls 6 [(0, .ref (adr 15 0)), (1, .int x1), (2, .int x2), (3, .int x3), (4, .ref (adr 41 0))] := hl
  refine lv_aload hx hb dL_room_0 (lv_at hl 4 rfl) ?_
  refine lv_iconst (v := 0) hx hb dL_room_2 (by decide) ?_
  refine lv_aload_n hx hb dL_room_3 rfl (lv_at hl 0 rfl) ?_
  refine lv_iload_n hx hb dL_room_4 rfl (lv_at hl 1 rfl) ?_
  refine lv_iload_n hx hb dL_room_5 rfl (lv_at hl 2 rfl) ?_
  refine lv_iload_n hx hb dL_room_6 rfl (lv_at hl 3 rfl) ?_
  rcases h with ⟨x, M1, hrun, rfl, rfl⟩ | ⟨ex, M1, he3, hz, hrun, rfl, rfl⟩
  · obtain ⟨-, hle1, hM⟩ := zrun_met hAd hJv hNw (j := 117) (by decide) hrun (zva_ok (k := 15) (by decide) [x1, x2, x3]) rfl zhw_room_n
    refine zW_ret hS (zl_v (a := 117) (kd := 15) (as := [zI x1, zI x2, zI x3]) hx hb (hml.trans hl.1.symm) hown hts hG hH (by decide) zhw_room_o hM (by decide) zhw_room_l zhw_room_v zhw_room_p (Nat.le_refl _) (zl_lo 117 _) hP hS (Nat.le_of_ble_eq_true rfl) dL_room_7 (Nat.le_of_eq (Nat.zero_add _)) (Nat.le_of_eq (Nat.zero_add _)) rfl) (fun H locs hP hS => ?_)
    refine lv_i2l hx hb dL_room_10 rfl ?_
    refine va_last hx hb hG.1 hP (zwd_D hAd _) hS 414 2 zout_get rfl (vp_in_nI (n := 0) (N := 1) (by decide) (by decide)) dL_room_11 (fun H locs hP _ hS => ?_)
    have hP := zout_P rfl hP
    refine lv_goto (tgt := 23) hx hb dL_room_12 rfl ?_
    refine lv_iconst (v := 0) hx hb dL_room_23 (by decide) ?_
    refine W.widen (k := σ.2.2 - σ.2.2) (n := 6 * (σ.2.2 - σ.2.2)) (Nat.le_of_eq (Nat.zero_add _)) (Nat.le_of_eq (Nat.zero_add _)) ?_
    exact vx_ret (W.iret hx hb hr (fun t ht hW => ⟨rfl, by rw [ht]; exact zl_here hH hP hS⟩) hS.2.2 dL_room_24)
  · obtain ⟨-, hle1, hM⟩ := zrun_met hAd hJv hNw (j := 117) (by decide) hrun (zva_ok (k := 15) (by decide) [x1, x2, x3]) rfl zhw_room_n
    refine zW_cat hS (zl_v (a := 117) (kd := 15) (as := [zI x1, zI x2, zI x3]) hx hb (hml.trans hl.1.symm) hown hts hG hH (by decide) zhw_room_o hM (by decide) zhw_room_l zhw_room_v zhw_room_p (Nat.le_refl _) (zl_lo 117 _) hP hS (Nat.le_of_ble_eq_true rfl) dL_room_7 (Nat.le_of_eq (Nat.zero_add _)) (Nat.le_of_eq (Nat.zero_add _)) rfl) (fun q ce H locs hP hS hce hcv hcl => ?_)
    rcases (show ex = 0 ∨ ex = 1 ∨ ex = 2 by omega) with rfl | rfl | rfl
    · refine vx_catch (own := RL) (name := zxn 0) (E := zxn 0) hown [] ⟨0, 12, 15, 19⟩ [⟨0, 12, 19, 13⟩] (htab.trans rfl) (fun z hz => nomatch hz) (by decide) (by decide) (hts _ zhl_19) (va_Nw.use rfl (hG.2.2.2.2.2 (Cond.castable (zxn 0) (zxn 0)) (List.mem_of_getElem? (i := 3) rfl))) hce hcv hcl ?_
      refine lv_astore hx hb dL_room_15 hl (by decide) rfl (fun ls hl => ?_)
      refine lv_iconst (v := 1) hx hb dL_room_17 (by decide) ?_
      refine W.widen (k := σ.2.2 + 1 - σ.2.2) (n := 6 * (σ.2.2 + 1 - σ.2.2)) (Nat.le_of_eq (Nat.zero_add _)) (Nat.le_of_eq (Nat.zero_add _)) ?_
      exact vx_ret (W.iret hx hb hr (fun t ht hW => ⟨rfl, by rw [ht]; exact zl_here hH hP hS⟩) hS.2.2 dL_room_18)
    · refine vx_catch (own := RL) (name := zxn 1) (E := zxn 1) hown [⟨0, 12, 15, 19⟩] ⟨0, 12, 19, 13⟩ [] (htab.trans rfl) (fun z hz => by simp only [List.mem_cons, List.not_mem_nil, or_false] at hz; rcases hz with rfl <;> first | exact Or.inr ⟨by decide, zxn 0, hts _ zhl_19, hN.1⟩) (by decide) (by decide) (hts _ zhl_13) (va_Nw.use rfl (hG.2.2.2.2.2 (Cond.castable (zxn 1) (zxn 1)) (List.mem_of_getElem? (i := 4) rfl))) hce hcv hcl ?_
      refine lv_astore hx hb dL_room_19 hl (by decide) rfl (fun ls hl => ?_)
      refine lv_iconst (v := 2) hx hb dL_room_21 (by decide) ?_
      refine W.widen (k := σ.2.2 + 1 - σ.2.2) (n := 6 * (σ.2.2 + 1 - σ.2.2)) (Nat.le_of_eq (Nat.zero_add _)) (Nat.le_of_eq (Nat.zero_add _)) ?_
      exact vx_ret (W.iret hx hb hr (fun t ht hW => ⟨rfl, by rw [ht]; exact zl_here hH hP hS⟩) hS.2.2 dL_room_22)
    · exact absurd rfl hz
theorem dL_stop_0 : decode cL_stop 0 = .ok (.aload_n 3, 1) := by decide +kernel
theorem dL_stop_1 : decode cL_stop 1 = .ok (.iconst 0, 1) := by decide +kernel
theorem dL_stop_2 : decode cL_stop 2 = .ok (.aload_n 0, 1) := by decide +kernel
theorem dL_stop_3 : decode cL_stop 3 = .ok (.iload_n 1, 1) := by decide +kernel
theorem dL_stop_4 : decode cL_stop 4 = .ok (.iload_n 2, 1) := by decide +kernel
theorem dL_stop_5 : decode cL_stop 5 = .ok (.invokevirtual 82, 3) := by decide +kernel
theorem dL_stop_8 : decode cL_stop 8 = .ok (.i2l, 1) := by decide +kernel
theorem dL_stop_9 : decode cL_stop 9 = .ok (.lastore, 1) := by decide +kernel
theorem dL_stop_10 : decode cL_stop 10 = .ok (.goto 7, 3) := by decide +kernel
theorem dL_stop_13 : decode cL_stop 13 = .ok (.astore 4, 2) := by decide +kernel
theorem dL_stop_15 : decode cL_stop 15 = .ok (.iconst 1, 1) := by decide +kernel
theorem dL_stop_16 : decode cL_stop 16 = .ok (.ireturn, 1) := by decide +kernel
theorem dL_stop_17 : decode cL_stop 17 = .ok (.iconst 0, 1) := by decide +kernel
theorem dL_stop_18 : decode cL_stop 18 = .ok (.ireturn, 1) := by decide +kernel
theorem zhw_stop_c : Cond.codeWith yL_stop cL_stop 5 (some .int) [(0, 10, 13, 19)] ∈ zTb := zTb_in (i := 1090) (by decide +kernel) rfl
theorem zhw_stop_l : Cond.methodLink RL 82 (zy 116) ∈ zTb := zTb_in (i := 1091) (by decide +kernel) rfl
theorem zhw_stop_o : 10 + zown 116 = 15 := by decide +kernel
theorem zhw_stop_v : (match zMW[116]? with
      | some q => !q.1
      | none => false) = true := by decide +kernel
theorem zhw_stop_p : (parseMethodDescriptor (zy 116).desc).map (fun d => d.parameters.length) = some 2 := by decide +kernel
theorem zhw_stop_n : 3 ≤ (zP 116).2 := by decide +kernel
set_option maxHeartbeats 4000000 in
set_option maxRecDepth 100000 in
theorem zh_stop {l : Launch} {D : va_G} {g : zIds} {adr : Nat → Nat → Nat} {H0 : Heap} (hAd : zAd adr H0) (hJv : zJv l D g adr H0) (hNw : zNw l D g adr H0) (x1 x2 : Int32) {σ σ1 : zSt} {k : Int32} (h : zhR 116 [zI x1, zI x2] cdF σ k σ1) : zHm l D g adr H0 116 yL_stop cL_stop 5 [(0, 10, 13, 19)] [zI x1, zI x2] σ k σ1 := by
  refine vx_ofWH (cc := cL_stop) (maxL := 5) (ret := some .int) (hh := [(0, 10, 13, 19)]) (by decide) rfl ?_
  intro p e s m args below meth c s₁ B hml hv9
  obtain ⟨⟨hav, hG, hWd⟩, hN⟩ := hv9
  replace hav : args = [.ref (adr 15 0), .int x1, .int x2, .ref (adr 41 0)].toArray := hav
  subst hav
  have hx := B.exec
  have hb := B.bytes
  have hr := B.returns
  have hlocks := B.notSynchronized
  have hts0 := atoms_spec (ws := .codeWith yL_stop cL_stop 5 (some .int) [(0, 10, 13, 19)] :: zTb) B.pre
  have htab : c.exceptionTable.toList = tableOf [(0, 10, 13, 19)] := vx_table (x := yL_stop) B (hts0 _ List.mem_cons_self)
  have hts : ∀ w ∈ zTb, w.before [.ref (adr 15 0), .int x1, .int x2, .ref (adr 41 0)].toArray s = true := fun w hw => hts0 w (List.mem_cons_of_mem _ hw)
  have hown : s.vm.findClass RL = some m.cls := findClass_of_methodNamed B.named
  have hle := zhR_le h
  have hH := hWd.2
  have hP : va_P D vwCl (zwd g adr σ) s.heap := hWd.1
  have hS : va_S (zA H0) s.heap s.heap [] := va_S.rf
  have hl := lv_entry ([.ref (adr 15 0), .int x1, .int x2, .ref (adr 41 0)]) (n := 5) (Nat.le_of_ble_eq_true rfl)
  rw [show (headSpec (.codeWith yL_stop cL_stop 5 (some .int) [(0, 10, 13, 19)] :: zTb) (zhrm 116 (σ1.2.2 - σ.2.2))).room = zhrm 116 (σ1.2.2 - σ.2.2) from rfl]
  rw [lg_entry_eq]
  generalize (lg_sl ([.ref (adr 15 0), .int x1, .int x2, .ref (adr 41 0)]) ++ List.replicate (5 - (lg_sl ([.ref (adr 15 0), .int x1, .int x2, .ref (adr 41 0)])).length) Slot.unset).toArray = ls at hl ⊢
  have hl : lv_has ls 5 [(0, .ref (adr 15 0)), (1, .int x1), (2, .int x2), (3, .ref (adr 41 0))] := hl
  refine lv_aload_n hx hb dL_stop_0 rfl (lv_at hl 3 rfl) ?_
  refine lv_iconst (v := 0) hx hb dL_stop_1 (by decide) ?_
  refine lv_aload_n hx hb dL_stop_2 rfl (lv_at hl 0 rfl) ?_
  refine lv_iload_n hx hb dL_stop_3 rfl (lv_at hl 1 rfl) ?_
  refine lv_iload_n hx hb dL_stop_4 rfl (lv_at hl 2 rfl) ?_
  rcases h with ⟨x, M1, hrun, rfl, rfl⟩ | ⟨ex, M1, he3, hz, hrun, rfl, rfl⟩
  · obtain ⟨-, hle1, hM⟩ := zrun_met hAd hJv hNw (j := 116) (by decide) hrun (zva_ok (k := 15) (by decide) [x1, x2]) rfl zhw_stop_n
    refine zW_ret hS (zl_v (a := 116) (kd := 15) (as := [zI x1, zI x2]) hx hb (hml.trans hl.1.symm) hown hts hG hH (by decide) zhw_stop_o hM (by decide) zhw_stop_l zhw_stop_v zhw_stop_p (Nat.le_refl _) (zl_lo 116 _) hP hS (Nat.le_of_ble_eq_true rfl) dL_stop_5 (Nat.le_of_eq (Nat.zero_add _)) (Nat.le_of_eq (Nat.zero_add _)) rfl) (fun H locs hP hS => ?_)
    refine lv_i2l hx hb dL_stop_8 rfl ?_
    refine va_last hx hb hG.1 hP (zwd_D hAd _) hS 414 2 zout_get rfl (vp_in_nI (n := 0) (N := 1) (by decide) (by decide)) dL_stop_9 (fun H locs hP _ hS => ?_)
    have hP := zout_P rfl hP
    refine lv_goto (tgt := 17) hx hb dL_stop_10 rfl ?_
    refine lv_iconst (v := 0) hx hb dL_stop_17 (by decide) ?_
    refine W.widen (k := σ.2.2 - σ.2.2) (n := 6 * (σ.2.2 - σ.2.2)) (Nat.le_of_eq (Nat.zero_add _)) (Nat.le_of_eq (Nat.zero_add _)) ?_
    exact vx_ret (W.iret hx hb hr (fun t ht hW => ⟨rfl, by rw [ht]; exact zl_here hH hP hS⟩) hS.2.2 dL_stop_18)
  · obtain ⟨-, hle1, hM⟩ := zrun_met hAd hJv hNw (j := 116) (by decide) hrun (zva_ok (k := 15) (by decide) [x1, x2]) rfl zhw_stop_n
    refine zW_cat hS (zl_v (a := 116) (kd := 15) (as := [zI x1, zI x2]) hx hb (hml.trans hl.1.symm) hown hts hG hH (by decide) zhw_stop_o hM (by decide) zhw_stop_l zhw_stop_v zhw_stop_p (Nat.le_refl _) (zl_lo 116 _) hP hS (Nat.le_of_ble_eq_true rfl) dL_stop_5 (Nat.le_of_eq (Nat.zero_add _)) (Nat.le_of_eq (Nat.zero_add _)) rfl) (fun q ce H locs hP hS hce hcv hcl => ?_)
    rcases (show ex = 0 ∨ ex = 1 ∨ ex = 2 by omega) with rfl | rfl | rfl
    · refine vx_catch (own := RL) (name := zxn 0) (E := zxn 0) hown [] ⟨0, 10, 13, 19⟩ [] (htab.trans rfl) (fun z hz => nomatch hz) (by decide) (by decide) (hts _ zhl_19) (va_Nw.use rfl (hG.2.2.2.2.2 (Cond.castable (zxn 0) (zxn 0)) (List.mem_of_getElem? (i := 3) rfl))) hce hcv hcl ?_
      refine lv_astore hx hb dL_stop_13 hl (by decide) rfl (fun ls hl => ?_)
      refine lv_iconst (v := 1) hx hb dL_stop_15 (by decide) ?_
      refine W.widen (k := σ.2.2 + 1 - σ.2.2) (n := 6 * (σ.2.2 + 1 - σ.2.2)) (Nat.le_of_eq (Nat.zero_add _)) (Nat.le_of_eq (Nat.zero_add _)) ?_
      exact vx_ret (W.iret hx hb hr (fun t ht hW => ⟨rfl, by rw [ht]; exact zl_here hH hP hS⟩) hS.2.2 dL_stop_16)
    · exact absurd rfl hz
    · exact absurd rfl hz
theorem dL_find_0 : decode cL_find 0 = .ok (.aload 4, 2) := by decide +kernel
theorem dL_find_2 : decode cL_find 2 = .ok (.iconst 0, 1) := by decide +kernel
theorem dL_find_3 : decode cL_find 3 = .ok (.aload_n 0, 1) := by decide +kernel
theorem dL_find_4 : decode cL_find 4 = .ok (.iload_n 1, 1) := by decide +kernel
theorem dL_find_5 : decode cL_find 5 = .ok (.iload_n 2, 1) := by decide +kernel
theorem dL_find_6 : decode cL_find 6 = .ok (.iload_n 3, 1) := by decide +kernel
theorem dL_find_7 : decode cL_find 7 = .ok (.invokevirtual 70, 3) := by decide +kernel
theorem dL_find_10 : decode cL_find 10 = .ok (.i2l, 1) := by decide +kernel
theorem dL_find_11 : decode cL_find 11 = .ok (.lastore, 1) := by decide +kernel
theorem dL_find_12 : decode cL_find 12 = .ok (.goto 7, 3) := by decide +kernel
theorem dL_find_15 : decode cL_find 15 = .ok (.astore 5, 2) := by decide +kernel
theorem dL_find_17 : decode cL_find 17 = .ok (.iconst 1, 1) := by decide +kernel
theorem dL_find_18 : decode cL_find 18 = .ok (.ireturn, 1) := by decide +kernel
theorem dL_find_19 : decode cL_find 19 = .ok (.iconst 0, 1) := by decide +kernel
theorem dL_find_20 : decode cL_find 20 = .ok (.ireturn, 1) := by decide +kernel
theorem zhw_find_c : Cond.codeWith yL_find cL_find 6 (some .int) [(0, 12, 15, 19)] ∈ zTb := zTb_in (i := 1058) (by decide +kernel) rfl
theorem zhw_find_l : Cond.methodLink RL 70 (zy 112) ∈ zTb := zTb_in (i := 1059) (by decide +kernel) rfl
theorem zhw_find_o : 10 + zown 112 = 15 := by decide +kernel
theorem zhw_find_v : (match zMW[112]? with
      | some q => !q.1
      | none => false) = true := by decide +kernel
theorem zhw_find_p : (parseMethodDescriptor (zy 112).desc).map (fun d => d.parameters.length) = some 3 := by decide +kernel
theorem zhw_find_n : 4 ≤ (zP 112).2 := by decide +kernel
set_option maxHeartbeats 4000000 in
set_option maxRecDepth 100000 in
theorem zh_find {l : Launch} {D : va_G} {g : zIds} {adr : Nat → Nat → Nat} {H0 : Heap} (hAd : zAd adr H0) (hJv : zJv l D g adr H0) (hNw : zNw l D g adr H0) (x1 x2 x3 : Int32) {σ σ1 : zSt} {k : Int32} (h : zhR 112 [zI x1, zI x2, zI x3] cdF σ k σ1) : zHm l D g adr H0 112 yL_find cL_find 6 [(0, 12, 15, 19)] [zI x1, zI x2, zI x3] σ k σ1 := by
  refine vx_ofWH (cc := cL_find) (maxL := 6) (ret := some .int) (hh := [(0, 12, 15, 19)]) (by decide) rfl ?_
  intro p e s m args below meth c s₁ B hml hv9
  obtain ⟨⟨hav, hG, hWd⟩, hN⟩ := hv9
  replace hav : args = [.ref (adr 15 0), .int x1, .int x2, .int x3, .ref (adr 41 0)].toArray := hav
  subst hav
  have hx := B.exec
  have hb := B.bytes
  have hr := B.returns
  have hlocks := B.notSynchronized
  have hts0 := atoms_spec (ws := .codeWith yL_find cL_find 6 (some .int) [(0, 12, 15, 19)] :: zTb) B.pre
  have htab : c.exceptionTable.toList = tableOf [(0, 12, 15, 19)] := vx_table (x := yL_find) B (hts0 _ List.mem_cons_self)
  have hts : ∀ w ∈ zTb, w.before [.ref (adr 15 0), .int x1, .int x2, .int x3, .ref (adr 41 0)].toArray s = true := fun w hw => hts0 w (List.mem_cons_of_mem _ hw)
  have hown : s.vm.findClass RL = some m.cls := findClass_of_methodNamed B.named
  have hle := zhR_le h
  have hH := hWd.2
  have hP : va_P D vwCl (zwd g adr σ) s.heap := hWd.1
  have hS : va_S (zA H0) s.heap s.heap [] := va_S.rf
  have hl := lv_entry ([.ref (adr 15 0), .int x1, .int x2, .int x3, .ref (adr 41 0)]) (n := 6) (Nat.le_of_ble_eq_true rfl)
  rw [show (headSpec (.codeWith yL_find cL_find 6 (some .int) [(0, 12, 15, 19)] :: zTb) (zhrm 112 (σ1.2.2 - σ.2.2))).room = zhrm 112 (σ1.2.2 - σ.2.2) from rfl]
  rw [lg_entry_eq]
  generalize (lg_sl ([.ref (adr 15 0), .int x1, .int x2, .int x3, .ref (adr 41 0)]) ++ List.replicate (6 - (lg_sl ([.ref (adr 15 0), .int x1, .int x2, .int x3, .ref (adr 41 0)])).length) Slot.unset).toArray = ls at hl ⊢
  have hl : lv_has ls 6 [(0, .ref (adr 15 0)), (1, .int x1), (2, .int x2), (3, .int x3), (4, .ref (adr 41 0))] := hl
  refine lv_aload hx hb dL_find_0 (lv_at hl 4 rfl) ?_
  refine lv_iconst (v := 0) hx hb dL_find_2 (by decide) ?_
  refine lv_aload_n hx hb dL_find_3 rfl (lv_at hl 0 rfl) ?_
  refine lv_iload_n hx hb dL_find_4 rfl (lv_at hl 1 rfl) ?_
  refine lv_iload_n hx hb dL_find_5 rfl (lv_at hl 2 rfl) ?_
  refine lv_iload_n hx hb dL_find_6 rfl (lv_at hl 3 rfl) ?_
  rcases h with ⟨x, M1, hrun, rfl, rfl⟩ | ⟨ex, M1, he3, hz, hrun, rfl, rfl⟩
  · obtain ⟨-, hle1, hM⟩ := zrun_met hAd hJv hNw (j := 112) (by decide) hrun (zva_ok (k := 15) (by decide) [x1, x2, x3]) rfl zhw_find_n
    refine zW_ret hS (zl_v (a := 112) (kd := 15) (as := [zI x1, zI x2, zI x3]) hx hb (hml.trans hl.1.symm) hown hts hG hH (by decide) zhw_find_o hM (by decide) zhw_find_l zhw_find_v zhw_find_p (Nat.le_refl _) (zl_lo 112 _) hP hS (Nat.le_of_ble_eq_true rfl) dL_find_7 (Nat.le_of_eq (Nat.zero_add _)) (Nat.le_of_eq (Nat.zero_add _)) rfl) (fun H locs hP hS => ?_)
    refine lv_i2l hx hb dL_find_10 rfl ?_
    refine va_last hx hb hG.1 hP (zwd_D hAd _) hS 414 2 zout_get rfl (vp_in_nI (n := 0) (N := 1) (by decide) (by decide)) dL_find_11 (fun H locs hP _ hS => ?_)
    have hP := zout_P rfl hP
    refine lv_goto (tgt := 19) hx hb dL_find_12 rfl ?_
    refine lv_iconst (v := 0) hx hb dL_find_19 (by decide) ?_
    refine W.widen (k := σ.2.2 - σ.2.2) (n := 6 * (σ.2.2 - σ.2.2)) (Nat.le_of_eq (Nat.zero_add _)) (Nat.le_of_eq (Nat.zero_add _)) ?_
    exact vx_ret (W.iret hx hb hr (fun t ht hW => ⟨rfl, by rw [ht]; exact zl_here hH hP hS⟩) hS.2.2 dL_find_20)
  · obtain ⟨-, hle1, hM⟩ := zrun_met hAd hJv hNw (j := 112) (by decide) hrun (zva_ok (k := 15) (by decide) [x1, x2, x3]) rfl zhw_find_n
    refine zW_cat hS (zl_v (a := 112) (kd := 15) (as := [zI x1, zI x2, zI x3]) hx hb (hml.trans hl.1.symm) hown hts hG hH (by decide) zhw_find_o hM (by decide) zhw_find_l zhw_find_v zhw_find_p (Nat.le_refl _) (zl_lo 112 _) hP hS (Nat.le_of_ble_eq_true rfl) dL_find_7 (Nat.le_of_eq (Nat.zero_add _)) (Nat.le_of_eq (Nat.zero_add _)) rfl) (fun q ce H locs hP hS hce hcv hcl => ?_)
    rcases (show ex = 0 ∨ ex = 1 ∨ ex = 2 by omega) with rfl | rfl | rfl
    · refine vx_catch (own := RL) (name := zxn 0) (E := zxn 0) hown [] ⟨0, 12, 15, 19⟩ [] (htab.trans rfl) (fun z hz => nomatch hz) (by decide) (by decide) (hts _ zhl_19) (va_Nw.use rfl (hG.2.2.2.2.2 (Cond.castable (zxn 0) (zxn 0)) (List.mem_of_getElem? (i := 3) rfl))) hce hcv hcl ?_
      refine lv_astore hx hb dL_find_15 hl (by decide) rfl (fun ls hl => ?_)
      refine lv_iconst (v := 1) hx hb dL_find_17 (by decide) ?_
      refine W.widen (k := σ.2.2 + 1 - σ.2.2) (n := 6 * (σ.2.2 + 1 - σ.2.2)) (Nat.le_of_eq (Nat.zero_add _)) (Nat.le_of_eq (Nat.zero_add _)) ?_
      exact vx_ret (W.iret hx hb hr (fun t ht hW => ⟨rfl, by rw [ht]; exact zl_here hH hP hS⟩) hS.2.2 dL_find_18)
    · exact absurd rfl hz
    · exact absurd rfl hz
theorem dL_tier_0 : decode cL_tier 0 = .ok (.aload_n 3, 1) := by decide +kernel
theorem dL_tier_1 : decode cL_tier 1 = .ok (.iconst 0, 1) := by decide +kernel
theorem dL_tier_2 : decode cL_tier 2 = .ok (.aload_n 0, 1) := by decide +kernel
theorem dL_tier_3 : decode cL_tier 3 = .ok (.iload_n 1, 1) := by decide +kernel
theorem dL_tier_4 : decode cL_tier 4 = .ok (.iload_n 2, 1) := by decide +kernel
theorem dL_tier_5 : decode cL_tier 5 = .ok (.invokevirtual 54, 3) := by decide +kernel
theorem dL_tier_8 : decode cL_tier 8 = .ok (.i2l, 1) := by decide +kernel
theorem dL_tier_9 : decode cL_tier 9 = .ok (.lastore, 1) := by decide +kernel
theorem dL_tier_10 : decode cL_tier 10 = .ok (.goto 11, 3) := by decide +kernel
theorem dL_tier_13 : decode cL_tier 13 = .ok (.astore 4, 2) := by decide +kernel
theorem dL_tier_15 : decode cL_tier 15 = .ok (.iconst 1, 1) := by decide +kernel
theorem dL_tier_16 : decode cL_tier 16 = .ok (.ireturn, 1) := by decide +kernel
theorem dL_tier_17 : decode cL_tier 17 = .ok (.astore 4, 2) := by decide +kernel
theorem dL_tier_19 : decode cL_tier 19 = .ok (.iconst 2, 1) := by decide +kernel
theorem dL_tier_20 : decode cL_tier 20 = .ok (.ireturn, 1) := by decide +kernel
theorem dL_tier_21 : decode cL_tier 21 = .ok (.iconst 0, 1) := by decide +kernel
theorem dL_tier_22 : decode cL_tier 22 = .ok (.ireturn, 1) := by decide +kernel
theorem zhw_tier_c : Cond.codeWith yL_tier cL_tier 5 (some .int) [(0, 10, 13, 19), (0, 10, 17, 13)] ∈ zTb := zTb_in (i := 998) (by decide +kernel) rfl
theorem zhw_tier_l : Cond.methodLink RL 54 (zy 107) ∈ zTb := zTb_in (i := 999) (by decide +kernel) rfl
theorem zhw_tier_o : 10 + zown 107 = 15 := by decide +kernel
theorem zhw_tier_v : (match zMW[107]? with
      | some q => !q.1
      | none => false) = true := by decide +kernel
theorem zhw_tier_p : (parseMethodDescriptor (zy 107).desc).map (fun d => d.parameters.length) = some 2 := by decide +kernel
theorem zhw_tier_n : 3 ≤ (zP 107).2 := by decide +kernel
set_option maxHeartbeats 4000000 in
set_option maxRecDepth 100000 in
theorem zh_tier {l : Launch} {D : va_G} {g : zIds} {adr : Nat → Nat → Nat} {H0 : Heap} (hAd : zAd adr H0) (hJv : zJv l D g adr H0) (hNw : zNw l D g adr H0) (x1 x2 : Int32) {σ σ1 : zSt} {k : Int32} (h : zhR 107 [zI x1, zI x2] cdL σ k σ1) : zHm l D g adr H0 107 yL_tier cL_tier 5 [(0, 10, 13, 19), (0, 10, 17, 13)] [zI x1, zI x2] σ k σ1 := by
  refine vx_ofWH (cc := cL_tier) (maxL := 5) (ret := some .int) (hh := [(0, 10, 13, 19), (0, 10, 17, 13)]) (by decide) rfl ?_
  intro p e s m args below meth c s₁ B hml hv9
  obtain ⟨⟨hav, hG, hWd⟩, hN⟩ := hv9
  replace hav : args = [.ref (adr 15 0), .int x1, .int x2, .ref (adr 41 0)].toArray := hav
  subst hav
  have hx := B.exec
  have hb := B.bytes
  have hr := B.returns
  have hlocks := B.notSynchronized
  have hts0 := atoms_spec (ws := .codeWith yL_tier cL_tier 5 (some .int) [(0, 10, 13, 19), (0, 10, 17, 13)] :: zTb) B.pre
  have htab : c.exceptionTable.toList = tableOf [(0, 10, 13, 19), (0, 10, 17, 13)] := vx_table (x := yL_tier) B (hts0 _ List.mem_cons_self)
  have hts : ∀ w ∈ zTb, w.before [.ref (adr 15 0), .int x1, .int x2, .ref (adr 41 0)].toArray s = true := fun w hw => hts0 w (List.mem_cons_of_mem _ hw)
  have hown : s.vm.findClass RL = some m.cls := findClass_of_methodNamed B.named
  have hle := zhR_le h
  have hH := hWd.2
  have hP : va_P D vwCl (zwd g adr σ) s.heap := hWd.1
  have hS : va_S (zA H0) s.heap s.heap [] := va_S.rf
  have hl := lv_entry ([.ref (adr 15 0), .int x1, .int x2, .ref (adr 41 0)]) (n := 5) (Nat.le_of_ble_eq_true rfl)
  rw [show (headSpec (.codeWith yL_tier cL_tier 5 (some .int) [(0, 10, 13, 19), (0, 10, 17, 13)] :: zTb) (zhrm 107 (σ1.2.2 - σ.2.2))).room = zhrm 107 (σ1.2.2 - σ.2.2) from rfl]
  rw [lg_entry_eq]
  generalize (lg_sl ([.ref (adr 15 0), .int x1, .int x2, .ref (adr 41 0)]) ++ List.replicate (5 - (lg_sl ([.ref (adr 15 0), .int x1, .int x2, .ref (adr 41 0)])).length) Slot.unset).toArray = ls at hl ⊢
  have hl : lv_has ls 5 [(0, .ref (adr 15 0)), (1, .int x1), (2, .int x2), (3, .ref (adr 41 0))] := hl
  refine lv_aload_n hx hb dL_tier_0 rfl (lv_at hl 3 rfl) ?_
  refine lv_iconst (v := 0) hx hb dL_tier_1 (by decide) ?_
  refine lv_aload_n hx hb dL_tier_2 rfl (lv_at hl 0 rfl) ?_
  refine lv_iload_n hx hb dL_tier_3 rfl (lv_at hl 1 rfl) ?_
  refine lv_iload_n hx hb dL_tier_4 rfl (lv_at hl 2 rfl) ?_
  rcases h with ⟨x, M1, hrun, rfl, rfl⟩ | ⟨ex, M1, he3, hz, hrun, rfl, rfl⟩
  · obtain ⟨-, hle1, hM⟩ := zrun_met hAd hJv hNw (j := 107) (by decide) hrun (zva_ok (k := 15) (by decide) [x1, x2]) rfl zhw_tier_n
    refine zW_ret hS (zl_v (a := 107) (kd := 15) (as := [zI x1, zI x2]) hx hb (hml.trans hl.1.symm) hown hts hG hH (by decide) zhw_tier_o hM (by decide) zhw_tier_l zhw_tier_v zhw_tier_p (Nat.le_refl _) (zl_lo 107 _) hP hS (Nat.le_of_ble_eq_true rfl) dL_tier_5 (Nat.le_of_eq (Nat.zero_add _)) (Nat.le_of_eq (Nat.zero_add _)) rfl) (fun H locs hP hS => ?_)
    refine lv_i2l hx hb dL_tier_8 rfl ?_
    refine va_last hx hb hG.1 hP (zwd_D hAd _) hS 414 2 zout_get rfl (vp_in_nI (n := 0) (N := 1) (by decide) (by decide)) dL_tier_9 (fun H locs hP _ hS => ?_)
    have hP := zout_P rfl hP
    refine lv_goto (tgt := 21) hx hb dL_tier_10 rfl ?_
    refine lv_iconst (v := 0) hx hb dL_tier_21 (by decide) ?_
    refine W.widen (k := σ.2.2 - σ.2.2) (n := 6 * (σ.2.2 - σ.2.2)) (Nat.le_of_eq (Nat.zero_add _)) (Nat.le_of_eq (Nat.zero_add _)) ?_
    exact vx_ret (W.iret hx hb hr (fun t ht hW => ⟨rfl, by rw [ht]; exact zl_here hH hP hS⟩) hS.2.2 dL_tier_22)
  · obtain ⟨-, hle1, hM⟩ := zrun_met hAd hJv hNw (j := 107) (by decide) hrun (zva_ok (k := 15) (by decide) [x1, x2]) rfl zhw_tier_n
    refine zW_cat hS (zl_v (a := 107) (kd := 15) (as := [zI x1, zI x2]) hx hb (hml.trans hl.1.symm) hown hts hG hH (by decide) zhw_tier_o hM (by decide) zhw_tier_l zhw_tier_v zhw_tier_p (Nat.le_refl _) (zl_lo 107 _) hP hS (Nat.le_of_ble_eq_true rfl) dL_tier_5 (Nat.le_of_eq (Nat.zero_add _)) (Nat.le_of_eq (Nat.zero_add _)) rfl) (fun q ce H locs hP hS hce hcv hcl => ?_)
    rcases (show ex = 0 ∨ ex = 1 ∨ ex = 2 by omega) with rfl | rfl | rfl
    · refine vx_catch (own := RL) (name := zxn 0) (E := zxn 0) hown [] ⟨0, 10, 13, 19⟩ [⟨0, 10, 17, 13⟩] (htab.trans rfl) (fun z hz => nomatch hz) (by decide) (by decide) (hts _ zhl_19) (va_Nw.use rfl (hG.2.2.2.2.2 (Cond.castable (zxn 0) (zxn 0)) (List.mem_of_getElem? (i := 3) rfl))) hce hcv hcl ?_
      refine lv_astore hx hb dL_tier_13 hl (by decide) rfl (fun ls hl => ?_)
      refine lv_iconst (v := 1) hx hb dL_tier_15 (by decide) ?_
      refine W.widen (k := σ.2.2 + 1 - σ.2.2) (n := 6 * (σ.2.2 + 1 - σ.2.2)) (Nat.le_of_eq (Nat.zero_add _)) (Nat.le_of_eq (Nat.zero_add _)) ?_
      exact vx_ret (W.iret hx hb hr (fun t ht hW => ⟨rfl, by rw [ht]; exact zl_here hH hP hS⟩) hS.2.2 dL_tier_16)
    · refine vx_catch (own := RL) (name := zxn 1) (E := zxn 1) hown [⟨0, 10, 13, 19⟩] ⟨0, 10, 17, 13⟩ [] (htab.trans rfl) (fun z hz => by simp only [List.mem_cons, List.not_mem_nil, or_false] at hz; rcases hz with rfl <;> first | exact Or.inr ⟨by decide, zxn 0, hts _ zhl_19, hN.1⟩) (by decide) (by decide) (hts _ zhl_13) (va_Nw.use rfl (hG.2.2.2.2.2 (Cond.castable (zxn 1) (zxn 1)) (List.mem_of_getElem? (i := 4) rfl))) hce hcv hcl ?_
      refine lv_astore hx hb dL_tier_17 hl (by decide) rfl (fun ls hl => ?_)
      refine lv_iconst (v := 2) hx hb dL_tier_19 (by decide) ?_
      refine W.widen (k := σ.2.2 + 1 - σ.2.2) (n := 6 * (σ.2.2 + 1 - σ.2.2)) (Nat.le_of_eq (Nat.zero_add _)) (Nat.le_of_eq (Nat.zero_add _)) ?_
      exact vx_ret (W.iret hx hb hr (fun t ht hW => ⟨rfl, by rw [ht]; exact zl_here hH hP hS⟩) hS.2.2 dL_tier_20)
    · exact absurd rfl hz
theorem dL_mark_0 : decode cL_mark 0 = .ok (.aload 4, 2) := by decide +kernel
theorem dL_mark_2 : decode cL_mark 2 = .ok (.iconst 0, 1) := by decide +kernel
theorem dL_mark_3 : decode cL_mark 3 = .ok (.aload_n 0, 1) := by decide +kernel
theorem dL_mark_4 : decode cL_mark 4 = .ok (.iload_n 1, 1) := by decide +kernel
theorem dL_mark_5 : decode cL_mark 5 = .ok (.iload_n 2, 1) := by decide +kernel
theorem dL_mark_6 : decode cL_mark 6 = .ok (.iload_n 3, 1) := by decide +kernel
theorem dL_mark_7 : decode cL_mark 7 = .ok (.invokevirtual 57, 3) := by decide +kernel
theorem dL_mark_10 : decode cL_mark 10 = .ok (.i2l, 1) := by decide +kernel
theorem dL_mark_11 : decode cL_mark 11 = .ok (.lastore, 1) := by decide +kernel
theorem dL_mark_12 : decode cL_mark 12 = .ok (.goto 11, 3) := by decide +kernel
theorem dL_mark_15 : decode cL_mark 15 = .ok (.astore 5, 2) := by decide +kernel
theorem dL_mark_17 : decode cL_mark 17 = .ok (.iconst 1, 1) := by decide +kernel
theorem dL_mark_18 : decode cL_mark 18 = .ok (.ireturn, 1) := by decide +kernel
theorem dL_mark_19 : decode cL_mark 19 = .ok (.astore 5, 2) := by decide +kernel
theorem dL_mark_21 : decode cL_mark 21 = .ok (.iconst 2, 1) := by decide +kernel
theorem dL_mark_22 : decode cL_mark 22 = .ok (.ireturn, 1) := by decide +kernel
theorem dL_mark_23 : decode cL_mark 23 = .ok (.iconst 0, 1) := by decide +kernel
theorem dL_mark_24 : decode cL_mark 24 = .ok (.ireturn, 1) := by decide +kernel
theorem zhw_mark_c : Cond.codeWith yL_mark cL_mark 6 (some .int) [(0, 12, 15, 19), (0, 12, 19, 13)] ∈ zTb := zTb_in (i := 1015) (by decide +kernel) rfl
theorem zhw_mark_l : Cond.methodLink RL 57 (zy 108) ∈ zTb := zTb_in (i := 1016) (by decide +kernel) rfl
theorem zhw_mark_o : 10 + zown 108 = 15 := by decide +kernel
theorem zhw_mark_v : (match zMW[108]? with
      | some q => !q.1
      | none => false) = true := by decide +kernel
theorem zhw_mark_p : (parseMethodDescriptor (zy 108).desc).map (fun d => d.parameters.length) = some 3 := by decide +kernel
theorem zhw_mark_n : 4 ≤ (zP 108).2 := by decide +kernel
set_option maxHeartbeats 4000000 in
set_option maxRecDepth 100000 in
theorem zh_mark {l : Launch} {D : va_G} {g : zIds} {adr : Nat → Nat → Nat} {H0 : Heap} (hAd : zAd adr H0) (hJv : zJv l D g adr H0) (hNw : zNw l D g adr H0) (x1 x2 x3 : Int32) {σ σ1 : zSt} {k : Int32} (h : zhR 108 [zI x1, zI x2, zI x3] cdL σ k σ1) : zHm l D g adr H0 108 yL_mark cL_mark 6 [(0, 12, 15, 19), (0, 12, 19, 13)] [zI x1, zI x2, zI x3] σ k σ1 := by
  refine vx_ofWH (cc := cL_mark) (maxL := 6) (ret := some .int) (hh := [(0, 12, 15, 19), (0, 12, 19, 13)]) (by decide) rfl ?_
  intro p e s m args below meth c s₁ B hml hv9
  obtain ⟨⟨hav, hG, hWd⟩, hN⟩ := hv9
  replace hav : args = [.ref (adr 15 0), .int x1, .int x2, .int x3, .ref (adr 41 0)].toArray := hav
  subst hav
  have hx := B.exec
  have hb := B.bytes
  have hr := B.returns
  have hlocks := B.notSynchronized
  have hts0 := atoms_spec (ws := .codeWith yL_mark cL_mark 6 (some .int) [(0, 12, 15, 19), (0, 12, 19, 13)] :: zTb) B.pre
  have htab : c.exceptionTable.toList = tableOf [(0, 12, 15, 19), (0, 12, 19, 13)] := vx_table (x := yL_mark) B (hts0 _ List.mem_cons_self)
  have hts : ∀ w ∈ zTb, w.before [.ref (adr 15 0), .int x1, .int x2, .int x3, .ref (adr 41 0)].toArray s = true := fun w hw => hts0 w (List.mem_cons_of_mem _ hw)
  have hown : s.vm.findClass RL = some m.cls := findClass_of_methodNamed B.named
  have hle := zhR_le h
  have hH := hWd.2
  have hP : va_P D vwCl (zwd g adr σ) s.heap := hWd.1
  have hS : va_S (zA H0) s.heap s.heap [] := va_S.rf
  have hl := lv_entry ([.ref (adr 15 0), .int x1, .int x2, .int x3, .ref (adr 41 0)]) (n := 6) (Nat.le_of_ble_eq_true rfl)
  rw [show (headSpec (.codeWith yL_mark cL_mark 6 (some .int) [(0, 12, 15, 19), (0, 12, 19, 13)] :: zTb) (zhrm 108 (σ1.2.2 - σ.2.2))).room = zhrm 108 (σ1.2.2 - σ.2.2) from rfl]
  rw [lg_entry_eq]
  generalize (lg_sl ([.ref (adr 15 0), .int x1, .int x2, .int x3, .ref (adr 41 0)]) ++ List.replicate (6 - (lg_sl ([.ref (adr 15 0), .int x1, .int x2, .int x3, .ref (adr 41 0)])).length) Slot.unset).toArray = ls at hl ⊢
  have hl : lv_has ls 6 [(0, .ref (adr 15 0)), (1, .int x1), (2, .int x2), (3, .int x3), (4, .ref (adr 41 0))] := hl
  refine lv_aload hx hb dL_mark_0 (lv_at hl 4 rfl) ?_
  refine lv_iconst (v := 0) hx hb dL_mark_2 (by decide) ?_
  refine lv_aload_n hx hb dL_mark_3 rfl (lv_at hl 0 rfl) ?_
  refine lv_iload_n hx hb dL_mark_4 rfl (lv_at hl 1 rfl) ?_
  refine lv_iload_n hx hb dL_mark_5 rfl (lv_at hl 2 rfl) ?_
  refine lv_iload_n hx hb dL_mark_6 rfl (lv_at hl 3 rfl) ?_
  rcases h with ⟨x, M1, hrun, rfl, rfl⟩ | ⟨ex, M1, he3, hz, hrun, rfl, rfl⟩
  · obtain ⟨-, hle1, hM⟩ := zrun_met hAd hJv hNw (j := 108) (by decide) hrun (zva_ok (k := 15) (by decide) [x1, x2, x3]) rfl zhw_mark_n
    refine zW_ret hS (zl_v (a := 108) (kd := 15) (as := [zI x1, zI x2, zI x3]) hx hb (hml.trans hl.1.symm) hown hts hG hH (by decide) zhw_mark_o hM (by decide) zhw_mark_l zhw_mark_v zhw_mark_p (Nat.le_refl _) (zl_lo 108 _) hP hS (Nat.le_of_ble_eq_true rfl) dL_mark_7 (Nat.le_of_eq (Nat.zero_add _)) (Nat.le_of_eq (Nat.zero_add _)) rfl) (fun H locs hP hS => ?_)
    refine lv_i2l hx hb dL_mark_10 rfl ?_
    refine va_last hx hb hG.1 hP (zwd_D hAd _) hS 414 2 zout_get rfl (vp_in_nI (n := 0) (N := 1) (by decide) (by decide)) dL_mark_11 (fun H locs hP _ hS => ?_)
    have hP := zout_P rfl hP
    refine lv_goto (tgt := 23) hx hb dL_mark_12 rfl ?_
    refine lv_iconst (v := 0) hx hb dL_mark_23 (by decide) ?_
    refine W.widen (k := σ.2.2 - σ.2.2) (n := 6 * (σ.2.2 - σ.2.2)) (Nat.le_of_eq (Nat.zero_add _)) (Nat.le_of_eq (Nat.zero_add _)) ?_
    exact vx_ret (W.iret hx hb hr (fun t ht hW => ⟨rfl, by rw [ht]; exact zl_here hH hP hS⟩) hS.2.2 dL_mark_24)
  · obtain ⟨-, hle1, hM⟩ := zrun_met hAd hJv hNw (j := 108) (by decide) hrun (zva_ok (k := 15) (by decide) [x1, x2, x3]) rfl zhw_mark_n
    refine zW_cat hS (zl_v (a := 108) (kd := 15) (as := [zI x1, zI x2, zI x3]) hx hb (hml.trans hl.1.symm) hown hts hG hH (by decide) zhw_mark_o hM (by decide) zhw_mark_l zhw_mark_v zhw_mark_p (Nat.le_refl _) (zl_lo 108 _) hP hS (Nat.le_of_ble_eq_true rfl) dL_mark_7 (Nat.le_of_eq (Nat.zero_add _)) (Nat.le_of_eq (Nat.zero_add _)) rfl) (fun q ce H locs hP hS hce hcv hcl => ?_)
    rcases (show ex = 0 ∨ ex = 1 ∨ ex = 2 by omega) with rfl | rfl | rfl
    · refine vx_catch (own := RL) (name := zxn 0) (E := zxn 0) hown [] ⟨0, 12, 15, 19⟩ [⟨0, 12, 19, 13⟩] (htab.trans rfl) (fun z hz => nomatch hz) (by decide) (by decide) (hts _ zhl_19) (va_Nw.use rfl (hG.2.2.2.2.2 (Cond.castable (zxn 0) (zxn 0)) (List.mem_of_getElem? (i := 3) rfl))) hce hcv hcl ?_
      refine lv_astore hx hb dL_mark_15 hl (by decide) rfl (fun ls hl => ?_)
      refine lv_iconst (v := 1) hx hb dL_mark_17 (by decide) ?_
      refine W.widen (k := σ.2.2 + 1 - σ.2.2) (n := 6 * (σ.2.2 + 1 - σ.2.2)) (Nat.le_of_eq (Nat.zero_add _)) (Nat.le_of_eq (Nat.zero_add _)) ?_
      exact vx_ret (W.iret hx hb hr (fun t ht hW => ⟨rfl, by rw [ht]; exact zl_here hH hP hS⟩) hS.2.2 dL_mark_18)
    · refine vx_catch (own := RL) (name := zxn 1) (E := zxn 1) hown [⟨0, 12, 15, 19⟩] ⟨0, 12, 19, 13⟩ [] (htab.trans rfl) (fun z hz => by simp only [List.mem_cons, List.not_mem_nil, or_false] at hz; rcases hz with rfl <;> first | exact Or.inr ⟨by decide, zxn 0, hts _ zhl_19, hN.1⟩) (by decide) (by decide) (hts _ zhl_13) (va_Nw.use rfl (hG.2.2.2.2.2 (Cond.castable (zxn 1) (zxn 1)) (List.mem_of_getElem? (i := 4) rfl))) hce hcv hcl ?_
      refine lv_astore hx hb dL_mark_19 hl (by decide) rfl (fun ls hl => ?_)
      refine lv_iconst (v := 2) hx hb dL_mark_21 (by decide) ?_
      refine W.widen (k := σ.2.2 + 1 - σ.2.2) (n := 6 * (σ.2.2 + 1 - σ.2.2)) (Nat.le_of_eq (Nat.zero_add _)) (Nat.le_of_eq (Nat.zero_add _)) ?_
      exact vx_ret (W.iret hx hb hr (fun t ht hW => ⟨rfl, by rw [ht]; exact zl_here hH hP hS⟩) hS.2.2 dL_mark_22)
    · exact absurd rfl hz
theorem dL_over_0 : decode cL_over 0 = .ok (.aload 5, 2) := by decide +kernel
theorem dL_over_2 : decode cL_over 2 = .ok (.iconst 0, 1) := by decide +kernel
theorem dL_over_3 : decode cL_over 3 = .ok (.aload_n 0, 1) := by decide +kernel
theorem dL_over_4 : decode cL_over 4 = .ok (.iload_n 1, 1) := by decide +kernel
theorem dL_over_5 : decode cL_over 5 = .ok (.iload_n 2, 1) := by decide +kernel
theorem dL_over_6 : decode cL_over 6 = .ok (.iload_n 3, 1) := by decide +kernel
theorem dL_over_7 : decode cL_over 7 = .ok (.iload 4, 2) := by decide +kernel
theorem dL_over_9 : decode cL_over 9 = .ok (.invokevirtual 63, 3) := by decide +kernel
theorem dL_over_12 : decode cL_over 12 = .ok (.i2l, 1) := by decide +kernel
theorem dL_over_13 : decode cL_over 13 = .ok (.lastore, 1) := by decide +kernel
theorem dL_over_14 : decode cL_over 14 = .ok (.goto 11, 3) := by decide +kernel
theorem dL_over_17 : decode cL_over 17 = .ok (.astore 6, 2) := by decide +kernel
theorem dL_over_19 : decode cL_over 19 = .ok (.iconst 1, 1) := by decide +kernel
theorem dL_over_20 : decode cL_over 20 = .ok (.ireturn, 1) := by decide +kernel
theorem dL_over_21 : decode cL_over 21 = .ok (.astore 6, 2) := by decide +kernel
theorem dL_over_23 : decode cL_over 23 = .ok (.iconst 2, 1) := by decide +kernel
theorem dL_over_24 : decode cL_over 24 = .ok (.ireturn, 1) := by decide +kernel
theorem dL_over_25 : decode cL_over 25 = .ok (.iconst 0, 1) := by decide +kernel
theorem dL_over_26 : decode cL_over 26 = .ok (.ireturn, 1) := by decide +kernel
theorem zhw_over_c : Cond.codeWith yL_over cL_over 7 (some .int) [(0, 14, 17, 19), (0, 14, 21, 13)] ∈ zTb := zTb_in (i := 1035) (by decide +kernel) rfl
theorem zhw_over_l : Cond.methodLink RL 63 (zy 110) ∈ zTb := zTb_in (i := 1036) (by decide +kernel) rfl
theorem zhw_over_o : 10 + zown 110 = 15 := by decide +kernel
theorem zhw_over_v : (match zMW[110]? with
      | some q => !q.1
      | none => false) = true := by decide +kernel
theorem zhw_over_p : (parseMethodDescriptor (zy 110).desc).map (fun d => d.parameters.length) = some 4 := by decide +kernel
theorem zhw_over_n : 5 ≤ (zP 110).2 := by decide +kernel
set_option maxHeartbeats 4000000 in
set_option maxRecDepth 100000 in
theorem zh_over {l : Launch} {D : va_G} {g : zIds} {adr : Nat → Nat → Nat} {H0 : Heap} (hAd : zAd adr H0) (hJv : zJv l D g adr H0) (hNw : zNw l D g adr H0) (x1 x2 x3 x4 : Int32) {σ σ1 : zSt} {k : Int32} (h : zhR 110 [zI x1, zI x2, zI x3, zI x4] cdL σ k σ1) : zHm l D g adr H0 110 yL_over cL_over 7 [(0, 14, 17, 19), (0, 14, 21, 13)] [zI x1, zI x2, zI x3, zI x4] σ k σ1 := by
  refine vx_ofWH (cc := cL_over) (maxL := 7) (ret := some .int) (hh := [(0, 14, 17, 19), (0, 14, 21, 13)]) (by decide) rfl ?_
  intro p e s m args below meth c s₁ B hml hv9
  obtain ⟨⟨hav, hG, hWd⟩, hN⟩ := hv9
  replace hav : args = [.ref (adr 15 0), .int x1, .int x2, .int x3, .int x4, .ref (adr 41 0)].toArray := hav
  subst hav
  have hx := B.exec
  have hb := B.bytes
  have hr := B.returns
  have hlocks := B.notSynchronized
  have hts0 := atoms_spec (ws := .codeWith yL_over cL_over 7 (some .int) [(0, 14, 17, 19), (0, 14, 21, 13)] :: zTb) B.pre
  have htab : c.exceptionTable.toList = tableOf [(0, 14, 17, 19), (0, 14, 21, 13)] := vx_table (x := yL_over) B (hts0 _ List.mem_cons_self)
  have hts : ∀ w ∈ zTb, w.before [.ref (adr 15 0), .int x1, .int x2, .int x3, .int x4, .ref (adr 41 0)].toArray s = true := fun w hw => hts0 w (List.mem_cons_of_mem _ hw)
  have hown : s.vm.findClass RL = some m.cls := findClass_of_methodNamed B.named
  have hle := zhR_le h
  have hH := hWd.2
  have hP : va_P D vwCl (zwd g adr σ) s.heap := hWd.1
  have hS : va_S (zA H0) s.heap s.heap [] := va_S.rf
  have hl := lv_entry ([.ref (adr 15 0), .int x1, .int x2, .int x3, .int x4, .ref (adr 41 0)]) (n := 7) (Nat.le_of_ble_eq_true rfl)
  rw [show (headSpec (.codeWith yL_over cL_over 7 (some .int) [(0, 14, 17, 19), (0, 14, 21, 13)] :: zTb) (zhrm 110 (σ1.2.2 - σ.2.2))).room = zhrm 110 (σ1.2.2 - σ.2.2) from rfl]
  rw [lg_entry_eq]
  generalize (lg_sl ([.ref (adr 15 0), .int x1, .int x2, .int x3, .int x4, .ref (adr 41 0)]) ++ List.replicate (7 - (lg_sl ([.ref (adr 15 0), .int x1, .int x2, .int x3, .int x4, .ref (adr 41 0)])).length) Slot.unset).toArray = ls at hl ⊢
  have hl : lv_has ls 7 [(0, .ref (adr 15 0)), (1, .int x1), (2, .int x2), (3, .int x3), (4, .int x4), (5, .ref (adr 41 0))] := hl
  refine lv_aload hx hb dL_over_0 (lv_at hl 5 rfl) ?_
  refine lv_iconst (v := 0) hx hb dL_over_2 (by decide) ?_
  refine lv_aload_n hx hb dL_over_3 rfl (lv_at hl 0 rfl) ?_
  refine lv_iload_n hx hb dL_over_4 rfl (lv_at hl 1 rfl) ?_
  refine lv_iload_n hx hb dL_over_5 rfl (lv_at hl 2 rfl) ?_
  refine lv_iload_n hx hb dL_over_6 rfl (lv_at hl 3 rfl) ?_
  refine lv_iload hx hb dL_over_7 (lv_at hl 4 rfl) ?_
  rcases h with ⟨x, M1, hrun, rfl, rfl⟩ | ⟨ex, M1, he3, hz, hrun, rfl, rfl⟩
  · obtain ⟨-, hle1, hM⟩ := zrun_met hAd hJv hNw (j := 110) (by decide) hrun (zva_ok (k := 15) (by decide) [x1, x2, x3, x4]) rfl zhw_over_n
    refine zW_ret hS (zl_v (a := 110) (kd := 15) (as := [zI x1, zI x2, zI x3, zI x4]) hx hb (hml.trans hl.1.symm) hown hts hG hH (by decide) zhw_over_o hM (by decide) zhw_over_l zhw_over_v zhw_over_p (Nat.le_refl _) (zl_lo 110 _) hP hS (Nat.le_of_ble_eq_true rfl) dL_over_9 (Nat.le_of_eq (Nat.zero_add _)) (Nat.le_of_eq (Nat.zero_add _)) rfl) (fun H locs hP hS => ?_)
    refine lv_i2l hx hb dL_over_12 rfl ?_
    refine va_last hx hb hG.1 hP (zwd_D hAd _) hS 414 2 zout_get rfl (vp_in_nI (n := 0) (N := 1) (by decide) (by decide)) dL_over_13 (fun H locs hP _ hS => ?_)
    have hP := zout_P rfl hP
    refine lv_goto (tgt := 25) hx hb dL_over_14 rfl ?_
    refine lv_iconst (v := 0) hx hb dL_over_25 (by decide) ?_
    refine W.widen (k := σ.2.2 - σ.2.2) (n := 6 * (σ.2.2 - σ.2.2)) (Nat.le_of_eq (Nat.zero_add _)) (Nat.le_of_eq (Nat.zero_add _)) ?_
    exact vx_ret (W.iret hx hb hr (fun t ht hW => ⟨rfl, by rw [ht]; exact zl_here hH hP hS⟩) hS.2.2 dL_over_26)
  · obtain ⟨-, hle1, hM⟩ := zrun_met hAd hJv hNw (j := 110) (by decide) hrun (zva_ok (k := 15) (by decide) [x1, x2, x3, x4]) rfl zhw_over_n
    refine zW_cat hS (zl_v (a := 110) (kd := 15) (as := [zI x1, zI x2, zI x3, zI x4]) hx hb (hml.trans hl.1.symm) hown hts hG hH (by decide) zhw_over_o hM (by decide) zhw_over_l zhw_over_v zhw_over_p (Nat.le_refl _) (zl_lo 110 _) hP hS (Nat.le_of_ble_eq_true rfl) dL_over_9 (Nat.le_of_eq (Nat.zero_add _)) (Nat.le_of_eq (Nat.zero_add _)) rfl) (fun q ce H locs hP hS hce hcv hcl => ?_)
    rcases (show ex = 0 ∨ ex = 1 ∨ ex = 2 by omega) with rfl | rfl | rfl
    · refine vx_catch (own := RL) (name := zxn 0) (E := zxn 0) hown [] ⟨0, 14, 17, 19⟩ [⟨0, 14, 21, 13⟩] (htab.trans rfl) (fun z hz => nomatch hz) (by decide) (by decide) (hts _ zhl_19) (va_Nw.use rfl (hG.2.2.2.2.2 (Cond.castable (zxn 0) (zxn 0)) (List.mem_of_getElem? (i := 3) rfl))) hce hcv hcl ?_
      refine lv_astore hx hb dL_over_17 hl (by decide) rfl (fun ls hl => ?_)
      refine lv_iconst (v := 1) hx hb dL_over_19 (by decide) ?_
      refine W.widen (k := σ.2.2 + 1 - σ.2.2) (n := 6 * (σ.2.2 + 1 - σ.2.2)) (Nat.le_of_eq (Nat.zero_add _)) (Nat.le_of_eq (Nat.zero_add _)) ?_
      exact vx_ret (W.iret hx hb hr (fun t ht hW => ⟨rfl, by rw [ht]; exact zl_here hH hP hS⟩) hS.2.2 dL_over_20)
    · refine vx_catch (own := RL) (name := zxn 1) (E := zxn 1) hown [⟨0, 14, 17, 19⟩] ⟨0, 14, 21, 13⟩ [] (htab.trans rfl) (fun z hz => by simp only [List.mem_cons, List.not_mem_nil, or_false] at hz; rcases hz with rfl <;> first | exact Or.inr ⟨by decide, zxn 0, hts _ zhl_19, hN.1⟩) (by decide) (by decide) (hts _ zhl_13) (va_Nw.use rfl (hG.2.2.2.2.2 (Cond.castable (zxn 1) (zxn 1)) (List.mem_of_getElem? (i := 4) rfl))) hce hcv hcl ?_
      refine lv_astore hx hb dL_over_21 hl (by decide) rfl (fun ls hl => ?_)
      refine lv_iconst (v := 2) hx hb dL_over_23 (by decide) ?_
      refine W.widen (k := σ.2.2 + 1 - σ.2.2) (n := 6 * (σ.2.2 + 1 - σ.2.2)) (Nat.le_of_eq (Nat.zero_add _)) (Nat.le_of_eq (Nat.zero_add _)) ?_
      exact vx_ret (W.iret hx hb hr (fun t ht hW => ⟨rfl, by rw [ht]; exact zl_here hH hP hS⟩) hS.2.2 dL_over_24)
    · exact absurd rfl hz
theorem dL_within_0 : decode cL_within 0 = .ok (.aload 5, 2) := by decide +kernel
theorem dL_within_2 : decode cL_within 2 = .ok (.iconst 0, 1) := by decide +kernel
theorem dL_within_3 : decode cL_within 3 = .ok (.aload_n 0, 1) := by decide +kernel
theorem dL_within_4 : decode cL_within 4 = .ok (.iload_n 1, 1) := by decide +kernel
theorem dL_within_5 : decode cL_within 5 = .ok (.iload_n 2, 1) := by decide +kernel
theorem dL_within_6 : decode cL_within 6 = .ok (.iload_n 3, 1) := by decide +kernel
theorem dL_within_7 : decode cL_within 7 = .ok (.iload 4, 2) := by decide +kernel
theorem dL_within_9 : decode cL_within 9 = .ok (.invokevirtual 67, 3) := by decide +kernel
theorem dL_within_12 : decode cL_within 12 = .ok (.i2l, 1) := by decide +kernel
theorem dL_within_13 : decode cL_within 13 = .ok (.lastore, 1) := by decide +kernel
theorem dL_within_14 : decode cL_within 14 = .ok (.goto 11, 3) := by decide +kernel
theorem dL_within_17 : decode cL_within 17 = .ok (.astore 6, 2) := by decide +kernel
theorem dL_within_19 : decode cL_within 19 = .ok (.iconst 1, 1) := by decide +kernel
theorem dL_within_20 : decode cL_within 20 = .ok (.ireturn, 1) := by decide +kernel
theorem dL_within_21 : decode cL_within 21 = .ok (.astore 6, 2) := by decide +kernel
theorem dL_within_23 : decode cL_within 23 = .ok (.iconst 2, 1) := by decide +kernel
theorem dL_within_24 : decode cL_within 24 = .ok (.ireturn, 1) := by decide +kernel
theorem dL_within_25 : decode cL_within 25 = .ok (.iconst 0, 1) := by decide +kernel
theorem dL_within_26 : decode cL_within 26 = .ok (.ireturn, 1) := by decide +kernel
theorem zhw_within_c : Cond.codeWith yL_within cL_within 7 (some .int) [(0, 14, 17, 19), (0, 14, 21, 13)] ∈ zTb := zTb_in (i := 1049) (by decide +kernel) rfl
theorem zhw_within_l : Cond.methodLink RL 67 (zy 111) ∈ zTb := zTb_in (i := 1050) (by decide +kernel) rfl
theorem zhw_within_o : 10 + zown 111 = 15 := by decide +kernel
theorem zhw_within_v : (match zMW[111]? with
      | some q => !q.1
      | none => false) = true := by decide +kernel
theorem zhw_within_p : (parseMethodDescriptor (zy 111).desc).map (fun d => d.parameters.length) = some 4 := by decide +kernel
theorem zhw_within_n : 5 ≤ (zP 111).2 := by decide +kernel
set_option maxHeartbeats 4000000 in
set_option maxRecDepth 100000 in
theorem zh_within {l : Launch} {D : va_G} {g : zIds} {adr : Nat → Nat → Nat} {H0 : Heap} (hAd : zAd adr H0) (hJv : zJv l D g adr H0) (hNw : zNw l D g adr H0) (x1 x2 x3 x4 : Int32) {σ σ1 : zSt} {k : Int32} (h : zhR 111 [zI x1, zI x2, zI x3, zI x4] cdL σ k σ1) : zHm l D g adr H0 111 yL_within cL_within 7 [(0, 14, 17, 19), (0, 14, 21, 13)] [zI x1, zI x2, zI x3, zI x4] σ k σ1 := by
  refine vx_ofWH (cc := cL_within) (maxL := 7) (ret := some .int) (hh := [(0, 14, 17, 19), (0, 14, 21, 13)]) (by decide) rfl ?_
  intro p e s m args below meth c s₁ B hml hv9
  obtain ⟨⟨hav, hG, hWd⟩, hN⟩ := hv9
  replace hav : args = [.ref (adr 15 0), .int x1, .int x2, .int x3, .int x4, .ref (adr 41 0)].toArray := hav
  subst hav
  have hx := B.exec
  have hb := B.bytes
  have hr := B.returns
  have hlocks := B.notSynchronized
  have hts0 := atoms_spec (ws := .codeWith yL_within cL_within 7 (some .int) [(0, 14, 17, 19), (0, 14, 21, 13)] :: zTb) B.pre
  have htab : c.exceptionTable.toList = tableOf [(0, 14, 17, 19), (0, 14, 21, 13)] := vx_table (x := yL_within) B (hts0 _ List.mem_cons_self)
  have hts : ∀ w ∈ zTb, w.before [.ref (adr 15 0), .int x1, .int x2, .int x3, .int x4, .ref (adr 41 0)].toArray s = true := fun w hw => hts0 w (List.mem_cons_of_mem _ hw)
  have hown : s.vm.findClass RL = some m.cls := findClass_of_methodNamed B.named
  have hle := zhR_le h
  have hH := hWd.2
  have hP : va_P D vwCl (zwd g adr σ) s.heap := hWd.1
  have hS : va_S (zA H0) s.heap s.heap [] := va_S.rf
  have hl := lv_entry ([.ref (adr 15 0), .int x1, .int x2, .int x3, .int x4, .ref (adr 41 0)]) (n := 7) (Nat.le_of_ble_eq_true rfl)
  rw [show (headSpec (.codeWith yL_within cL_within 7 (some .int) [(0, 14, 17, 19), (0, 14, 21, 13)] :: zTb) (zhrm 111 (σ1.2.2 - σ.2.2))).room = zhrm 111 (σ1.2.2 - σ.2.2) from rfl]
  rw [lg_entry_eq]
  generalize (lg_sl ([.ref (adr 15 0), .int x1, .int x2, .int x3, .int x4, .ref (adr 41 0)]) ++ List.replicate (7 - (lg_sl ([.ref (adr 15 0), .int x1, .int x2, .int x3, .int x4, .ref (adr 41 0)])).length) Slot.unset).toArray = ls at hl ⊢
  have hl : lv_has ls 7 [(0, .ref (adr 15 0)), (1, .int x1), (2, .int x2), (3, .int x3), (4, .int x4), (5, .ref (adr 41 0))] := hl
  refine lv_aload hx hb dL_within_0 (lv_at hl 5 rfl) ?_
  refine lv_iconst (v := 0) hx hb dL_within_2 (by decide) ?_
  refine lv_aload_n hx hb dL_within_3 rfl (lv_at hl 0 rfl) ?_
  refine lv_iload_n hx hb dL_within_4 rfl (lv_at hl 1 rfl) ?_
  refine lv_iload_n hx hb dL_within_5 rfl (lv_at hl 2 rfl) ?_
  refine lv_iload_n hx hb dL_within_6 rfl (lv_at hl 3 rfl) ?_
  refine lv_iload hx hb dL_within_7 (lv_at hl 4 rfl) ?_
  rcases h with ⟨x, M1, hrun, rfl, rfl⟩ | ⟨ex, M1, he3, hz, hrun, rfl, rfl⟩
  · obtain ⟨-, hle1, hM⟩ := zrun_met hAd hJv hNw (j := 111) (by decide) hrun (zva_ok (k := 15) (by decide) [x1, x2, x3, x4]) rfl zhw_within_n
    refine zW_ret hS (zl_v (a := 111) (kd := 15) (as := [zI x1, zI x2, zI x3, zI x4]) hx hb (hml.trans hl.1.symm) hown hts hG hH (by decide) zhw_within_o hM (by decide) zhw_within_l zhw_within_v zhw_within_p (Nat.le_refl _) (zl_lo 111 _) hP hS (Nat.le_of_ble_eq_true rfl) dL_within_9 (Nat.le_of_eq (Nat.zero_add _)) (Nat.le_of_eq (Nat.zero_add _)) rfl) (fun H locs hP hS => ?_)
    refine lv_i2l hx hb dL_within_12 rfl ?_
    refine va_last hx hb hG.1 hP (zwd_D hAd _) hS 414 2 zout_get rfl (vp_in_nI (n := 0) (N := 1) (by decide) (by decide)) dL_within_13 (fun H locs hP _ hS => ?_)
    have hP := zout_P rfl hP
    refine lv_goto (tgt := 25) hx hb dL_within_14 rfl ?_
    refine lv_iconst (v := 0) hx hb dL_within_25 (by decide) ?_
    refine W.widen (k := σ.2.2 - σ.2.2) (n := 6 * (σ.2.2 - σ.2.2)) (Nat.le_of_eq (Nat.zero_add _)) (Nat.le_of_eq (Nat.zero_add _)) ?_
    exact vx_ret (W.iret hx hb hr (fun t ht hW => ⟨rfl, by rw [ht]; exact zl_here hH hP hS⟩) hS.2.2 dL_within_26)
  · obtain ⟨-, hle1, hM⟩ := zrun_met hAd hJv hNw (j := 111) (by decide) hrun (zva_ok (k := 15) (by decide) [x1, x2, x3, x4]) rfl zhw_within_n
    refine zW_cat hS (zl_v (a := 111) (kd := 15) (as := [zI x1, zI x2, zI x3, zI x4]) hx hb (hml.trans hl.1.symm) hown hts hG hH (by decide) zhw_within_o hM (by decide) zhw_within_l zhw_within_v zhw_within_p (Nat.le_refl _) (zl_lo 111 _) hP hS (Nat.le_of_ble_eq_true rfl) dL_within_9 (Nat.le_of_eq (Nat.zero_add _)) (Nat.le_of_eq (Nat.zero_add _)) rfl) (fun q ce H locs hP hS hce hcv hcl => ?_)
    rcases (show ex = 0 ∨ ex = 1 ∨ ex = 2 by omega) with rfl | rfl | rfl
    · refine vx_catch (own := RL) (name := zxn 0) (E := zxn 0) hown [] ⟨0, 14, 17, 19⟩ [⟨0, 14, 21, 13⟩] (htab.trans rfl) (fun z hz => nomatch hz) (by decide) (by decide) (hts _ zhl_19) (va_Nw.use rfl (hG.2.2.2.2.2 (Cond.castable (zxn 0) (zxn 0)) (List.mem_of_getElem? (i := 3) rfl))) hce hcv hcl ?_
      refine lv_astore hx hb dL_within_17 hl (by decide) rfl (fun ls hl => ?_)
      refine lv_iconst (v := 1) hx hb dL_within_19 (by decide) ?_
      refine W.widen (k := σ.2.2 + 1 - σ.2.2) (n := 6 * (σ.2.2 + 1 - σ.2.2)) (Nat.le_of_eq (Nat.zero_add _)) (Nat.le_of_eq (Nat.zero_add _)) ?_
      exact vx_ret (W.iret hx hb hr (fun t ht hW => ⟨rfl, by rw [ht]; exact zl_here hH hP hS⟩) hS.2.2 dL_within_20)
    · refine vx_catch (own := RL) (name := zxn 1) (E := zxn 1) hown [⟨0, 14, 17, 19⟩] ⟨0, 14, 21, 13⟩ [] (htab.trans rfl) (fun z hz => by simp only [List.mem_cons, List.not_mem_nil, or_false] at hz; rcases hz with rfl <;> first | exact Or.inr ⟨by decide, zxn 0, hts _ zhl_19, hN.1⟩) (by decide) (by decide) (hts _ zhl_13) (va_Nw.use rfl (hG.2.2.2.2.2 (Cond.castable (zxn 1) (zxn 1)) (List.mem_of_getElem? (i := 4) rfl))) hce hcv hcl ?_
      refine lv_astore hx hb dL_within_21 hl (by decide) rfl (fun ls hl => ?_)
      refine lv_iconst (v := 2) hx hb dL_within_23 (by decide) ?_
      refine W.widen (k := σ.2.2 + 1 - σ.2.2) (n := 6 * (σ.2.2 + 1 - σ.2.2)) (Nat.le_of_eq (Nat.zero_add _)) (Nat.le_of_eq (Nat.zero_add _)) ?_
      exact vx_ret (W.iret hx hb hr (fun t ht hW => ⟨rfl, by rw [ht]; exact zl_here hH hP hS⟩) hS.2.2 dL_within_24)
    · exact absurd rfl hz
theorem dL_longest_0 : decode cL_longest 0 = .ok (.aload 4, 2) := by decide +kernel
theorem dL_longest_2 : decode cL_longest 2 = .ok (.iconst 0, 1) := by decide +kernel
theorem dL_longest_3 : decode cL_longest 3 = .ok (.aload_n 0, 1) := by decide +kernel
theorem dL_longest_4 : decode cL_longest 4 = .ok (.iload_n 1, 1) := by decide +kernel
theorem dL_longest_5 : decode cL_longest 5 = .ok (.iload_n 2, 1) := by decide +kernel
theorem dL_longest_6 : decode cL_longest 6 = .ok (.iload_n 3, 1) := by decide +kernel
theorem dL_longest_7 : decode cL_longest 7 = .ok (.invokevirtual 76, 3) := by decide +kernel
theorem dL_longest_10 : decode cL_longest 10 = .ok (.i2l, 1) := by decide +kernel
theorem dL_longest_11 : decode cL_longest 11 = .ok (.lastore, 1) := by decide +kernel
theorem dL_longest_12 : decode cL_longest 12 = .ok (.goto 11, 3) := by decide +kernel
theorem dL_longest_15 : decode cL_longest 15 = .ok (.astore 5, 2) := by decide +kernel
theorem dL_longest_17 : decode cL_longest 17 = .ok (.iconst 1, 1) := by decide +kernel
theorem dL_longest_18 : decode cL_longest 18 = .ok (.ireturn, 1) := by decide +kernel
theorem dL_longest_19 : decode cL_longest 19 = .ok (.astore 5, 2) := by decide +kernel
theorem dL_longest_21 : decode cL_longest 21 = .ok (.iconst 2, 1) := by decide +kernel
theorem dL_longest_22 : decode cL_longest 22 = .ok (.ireturn, 1) := by decide +kernel
theorem dL_longest_23 : decode cL_longest 23 = .ok (.iconst 0, 1) := by decide +kernel
theorem dL_longest_24 : decode cL_longest 24 = .ok (.ireturn, 1) := by decide +kernel
theorem zhw_longest_c : Cond.codeWith yL_longest cL_longest 6 (some .int) [(0, 12, 15, 19), (0, 12, 19, 13)] ∈ zTb := zTb_in (i := 1072) (by decide +kernel) rfl
theorem zhw_longest_l : Cond.methodLink RL 76 (zy 114) ∈ zTb := zTb_in (i := 1073) (by decide +kernel) rfl
theorem zhw_longest_o : 10 + zown 114 = 15 := by decide +kernel
theorem zhw_longest_v : (match zMW[114]? with
      | some q => !q.1
      | none => false) = true := by decide +kernel
theorem zhw_longest_p : (parseMethodDescriptor (zy 114).desc).map (fun d => d.parameters.length) = some 3 := by decide +kernel
theorem zhw_longest_n : 4 ≤ (zP 114).2 := by decide +kernel
set_option maxHeartbeats 4000000 in
set_option maxRecDepth 100000 in
theorem zh_longest {l : Launch} {D : va_G} {g : zIds} {adr : Nat → Nat → Nat} {H0 : Heap} (hAd : zAd adr H0) (hJv : zJv l D g adr H0) (hNw : zNw l D g adr H0) (x1 x2 x3 : Int32) {σ σ1 : zSt} {k : Int32} (h : zhR 114 [zI x1, zI x2, zI x3] cdL σ k σ1) : zHm l D g adr H0 114 yL_longest cL_longest 6 [(0, 12, 15, 19), (0, 12, 19, 13)] [zI x1, zI x2, zI x3] σ k σ1 := by
  refine vx_ofWH (cc := cL_longest) (maxL := 6) (ret := some .int) (hh := [(0, 12, 15, 19), (0, 12, 19, 13)]) (by decide) rfl ?_
  intro p e s m args below meth c s₁ B hml hv9
  obtain ⟨⟨hav, hG, hWd⟩, hN⟩ := hv9
  replace hav : args = [.ref (adr 15 0), .int x1, .int x2, .int x3, .ref (adr 41 0)].toArray := hav
  subst hav
  have hx := B.exec
  have hb := B.bytes
  have hr := B.returns
  have hlocks := B.notSynchronized
  have hts0 := atoms_spec (ws := .codeWith yL_longest cL_longest 6 (some .int) [(0, 12, 15, 19), (0, 12, 19, 13)] :: zTb) B.pre
  have htab : c.exceptionTable.toList = tableOf [(0, 12, 15, 19), (0, 12, 19, 13)] := vx_table (x := yL_longest) B (hts0 _ List.mem_cons_self)
  have hts : ∀ w ∈ zTb, w.before [.ref (adr 15 0), .int x1, .int x2, .int x3, .ref (adr 41 0)].toArray s = true := fun w hw => hts0 w (List.mem_cons_of_mem _ hw)
  have hown : s.vm.findClass RL = some m.cls := findClass_of_methodNamed B.named
  have hle := zhR_le h
  have hH := hWd.2
  have hP : va_P D vwCl (zwd g adr σ) s.heap := hWd.1
  have hS : va_S (zA H0) s.heap s.heap [] := va_S.rf
  have hl := lv_entry ([.ref (adr 15 0), .int x1, .int x2, .int x3, .ref (adr 41 0)]) (n := 6) (Nat.le_of_ble_eq_true rfl)
  rw [show (headSpec (.codeWith yL_longest cL_longest 6 (some .int) [(0, 12, 15, 19), (0, 12, 19, 13)] :: zTb) (zhrm 114 (σ1.2.2 - σ.2.2))).room = zhrm 114 (σ1.2.2 - σ.2.2) from rfl]
  rw [lg_entry_eq]
  generalize (lg_sl ([.ref (adr 15 0), .int x1, .int x2, .int x3, .ref (adr 41 0)]) ++ List.replicate (6 - (lg_sl ([.ref (adr 15 0), .int x1, .int x2, .int x3, .ref (adr 41 0)])).length) Slot.unset).toArray = ls at hl ⊢
  have hl : lv_has ls 6 [(0, .ref (adr 15 0)), (1, .int x1), (2, .int x2), (3, .int x3), (4, .ref (adr 41 0))] := hl
  refine lv_aload hx hb dL_longest_0 (lv_at hl 4 rfl) ?_
  refine lv_iconst (v := 0) hx hb dL_longest_2 (by decide) ?_
  refine lv_aload_n hx hb dL_longest_3 rfl (lv_at hl 0 rfl) ?_
  refine lv_iload_n hx hb dL_longest_4 rfl (lv_at hl 1 rfl) ?_
  refine lv_iload_n hx hb dL_longest_5 rfl (lv_at hl 2 rfl) ?_
  refine lv_iload_n hx hb dL_longest_6 rfl (lv_at hl 3 rfl) ?_
  rcases h with ⟨x, M1, hrun, rfl, rfl⟩ | ⟨ex, M1, he3, hz, hrun, rfl, rfl⟩
  · obtain ⟨-, hle1, hM⟩ := zrun_met hAd hJv hNw (j := 114) (by decide) hrun (zva_ok (k := 15) (by decide) [x1, x2, x3]) rfl zhw_longest_n
    refine zW_ret hS (zl_v (a := 114) (kd := 15) (as := [zI x1, zI x2, zI x3]) hx hb (hml.trans hl.1.symm) hown hts hG hH (by decide) zhw_longest_o hM (by decide) zhw_longest_l zhw_longest_v zhw_longest_p (Nat.le_refl _) (zl_lo 114 _) hP hS (Nat.le_of_ble_eq_true rfl) dL_longest_7 (Nat.le_of_eq (Nat.zero_add _)) (Nat.le_of_eq (Nat.zero_add _)) rfl) (fun H locs hP hS => ?_)
    refine lv_i2l hx hb dL_longest_10 rfl ?_
    refine va_last hx hb hG.1 hP (zwd_D hAd _) hS 414 2 zout_get rfl (vp_in_nI (n := 0) (N := 1) (by decide) (by decide)) dL_longest_11 (fun H locs hP _ hS => ?_)
    have hP := zout_P rfl hP
    refine lv_goto (tgt := 23) hx hb dL_longest_12 rfl ?_
    refine lv_iconst (v := 0) hx hb dL_longest_23 (by decide) ?_
    refine W.widen (k := σ.2.2 - σ.2.2) (n := 6 * (σ.2.2 - σ.2.2)) (Nat.le_of_eq (Nat.zero_add _)) (Nat.le_of_eq (Nat.zero_add _)) ?_
    exact vx_ret (W.iret hx hb hr (fun t ht hW => ⟨rfl, by rw [ht]; exact zl_here hH hP hS⟩) hS.2.2 dL_longest_24)
  · obtain ⟨-, hle1, hM⟩ := zrun_met hAd hJv hNw (j := 114) (by decide) hrun (zva_ok (k := 15) (by decide) [x1, x2, x3]) rfl zhw_longest_n
    refine zW_cat hS (zl_v (a := 114) (kd := 15) (as := [zI x1, zI x2, zI x3]) hx hb (hml.trans hl.1.symm) hown hts hG hH (by decide) zhw_longest_o hM (by decide) zhw_longest_l zhw_longest_v zhw_longest_p (Nat.le_refl _) (zl_lo 114 _) hP hS (Nat.le_of_ble_eq_true rfl) dL_longest_7 (Nat.le_of_eq (Nat.zero_add _)) (Nat.le_of_eq (Nat.zero_add _)) rfl) (fun q ce H locs hP hS hce hcv hcl => ?_)
    rcases (show ex = 0 ∨ ex = 1 ∨ ex = 2 by omega) with rfl | rfl | rfl
    · refine vx_catch (own := RL) (name := zxn 0) (E := zxn 0) hown [] ⟨0, 12, 15, 19⟩ [⟨0, 12, 19, 13⟩] (htab.trans rfl) (fun z hz => nomatch hz) (by decide) (by decide) (hts _ zhl_19) (va_Nw.use rfl (hG.2.2.2.2.2 (Cond.castable (zxn 0) (zxn 0)) (List.mem_of_getElem? (i := 3) rfl))) hce hcv hcl ?_
      refine lv_astore hx hb dL_longest_15 hl (by decide) rfl (fun ls hl => ?_)
      refine lv_iconst (v := 1) hx hb dL_longest_17 (by decide) ?_
      refine W.widen (k := σ.2.2 + 1 - σ.2.2) (n := 6 * (σ.2.2 + 1 - σ.2.2)) (Nat.le_of_eq (Nat.zero_add _)) (Nat.le_of_eq (Nat.zero_add _)) ?_
      exact vx_ret (W.iret hx hb hr (fun t ht hW => ⟨rfl, by rw [ht]; exact zl_here hH hP hS⟩) hS.2.2 dL_longest_18)
    · refine vx_catch (own := RL) (name := zxn 1) (E := zxn 1) hown [⟨0, 12, 15, 19⟩] ⟨0, 12, 19, 13⟩ [] (htab.trans rfl) (fun z hz => by simp only [List.mem_cons, List.not_mem_nil, or_false] at hz; rcases hz with rfl <;> first | exact Or.inr ⟨by decide, zxn 0, hts _ zhl_19, hN.1⟩) (by decide) (by decide) (hts _ zhl_13) (va_Nw.use rfl (hG.2.2.2.2.2 (Cond.castable (zxn 1) (zxn 1)) (List.mem_of_getElem? (i := 4) rfl))) hce hcv hcl ?_
      refine lv_astore hx hb dL_longest_19 hl (by decide) rfl (fun ls hl => ?_)
      refine lv_iconst (v := 2) hx hb dL_longest_21 (by decide) ?_
      refine W.widen (k := σ.2.2 + 1 - σ.2.2) (n := 6 * (σ.2.2 + 1 - σ.2.2)) (Nat.le_of_eq (Nat.zero_add _)) (Nat.le_of_eq (Nat.zero_add _)) ?_
      exact vx_ret (W.iret hx hb hr (fun t ht hW => ⟨rfl, by rw [ht]; exact zl_here hH hP hS⟩) hS.2.2 dL_longest_22)
    · exact absurd rfl hz
theorem dL_gaps_0 : decode cL_gaps 0 = .ok (.aload_n 3, 1) := by decide +kernel
theorem dL_gaps_1 : decode cL_gaps 1 = .ok (.iconst 0, 1) := by decide +kernel
theorem dL_gaps_2 : decode cL_gaps 2 = .ok (.aload_n 0, 1) := by decide +kernel
theorem dL_gaps_3 : decode cL_gaps 3 = .ok (.iload_n 1, 1) := by decide +kernel
theorem dL_gaps_4 : decode cL_gaps 4 = .ok (.iload_n 2, 1) := by decide +kernel
theorem dL_gaps_5 : decode cL_gaps 5 = .ok (.invokevirtual 79, 3) := by decide +kernel
theorem dL_gaps_8 : decode cL_gaps 8 = .ok (.i2l, 1) := by decide +kernel
theorem dL_gaps_9 : decode cL_gaps 9 = .ok (.lastore, 1) := by decide +kernel
theorem dL_gaps_10 : decode cL_gaps 10 = .ok (.goto 11, 3) := by decide +kernel
theorem dL_gaps_13 : decode cL_gaps 13 = .ok (.astore 4, 2) := by decide +kernel
theorem dL_gaps_15 : decode cL_gaps 15 = .ok (.iconst 1, 1) := by decide +kernel
theorem dL_gaps_16 : decode cL_gaps 16 = .ok (.ireturn, 1) := by decide +kernel
theorem dL_gaps_17 : decode cL_gaps 17 = .ok (.astore 4, 2) := by decide +kernel
theorem dL_gaps_19 : decode cL_gaps 19 = .ok (.iconst 2, 1) := by decide +kernel
theorem dL_gaps_20 : decode cL_gaps 20 = .ok (.ireturn, 1) := by decide +kernel
theorem dL_gaps_21 : decode cL_gaps 21 = .ok (.iconst 0, 1) := by decide +kernel
theorem dL_gaps_22 : decode cL_gaps 22 = .ok (.ireturn, 1) := by decide +kernel
theorem zhw_gaps_c : Cond.codeWith yL_gaps cL_gaps 5 (some .int) [(0, 10, 13, 19), (0, 10, 17, 13)] ∈ zTb := zTb_in (i := 1079) (by decide +kernel) rfl
theorem zhw_gaps_l : Cond.methodLink RL 79 (zy 115) ∈ zTb := zTb_in (i := 1080) (by decide +kernel) rfl
theorem zhw_gaps_o : 10 + zown 115 = 15 := by decide +kernel
theorem zhw_gaps_v : (match zMW[115]? with
      | some q => !q.1
      | none => false) = true := by decide +kernel
theorem zhw_gaps_p : (parseMethodDescriptor (zy 115).desc).map (fun d => d.parameters.length) = some 2 := by decide +kernel
theorem zhw_gaps_n : 3 ≤ (zP 115).2 := by decide +kernel
set_option maxHeartbeats 4000000 in
set_option maxRecDepth 100000 in
theorem zh_gaps {l : Launch} {D : va_G} {g : zIds} {adr : Nat → Nat → Nat} {H0 : Heap} (hAd : zAd adr H0) (hJv : zJv l D g adr H0) (hNw : zNw l D g adr H0) (x1 x2 : Int32) {σ σ1 : zSt} {k : Int32} (h : zhR 115 [zI x1, zI x2] cdL σ k σ1) : zHm l D g adr H0 115 yL_gaps cL_gaps 5 [(0, 10, 13, 19), (0, 10, 17, 13)] [zI x1, zI x2] σ k σ1 := by
  refine vx_ofWH (cc := cL_gaps) (maxL := 5) (ret := some .int) (hh := [(0, 10, 13, 19), (0, 10, 17, 13)]) (by decide) rfl ?_
  intro p e s m args below meth c s₁ B hml hv9
  obtain ⟨⟨hav, hG, hWd⟩, hN⟩ := hv9
  replace hav : args = [.ref (adr 15 0), .int x1, .int x2, .ref (adr 41 0)].toArray := hav
  subst hav
  have hx := B.exec
  have hb := B.bytes
  have hr := B.returns
  have hlocks := B.notSynchronized
  have hts0 := atoms_spec (ws := .codeWith yL_gaps cL_gaps 5 (some .int) [(0, 10, 13, 19), (0, 10, 17, 13)] :: zTb) B.pre
  have htab : c.exceptionTable.toList = tableOf [(0, 10, 13, 19), (0, 10, 17, 13)] := vx_table (x := yL_gaps) B (hts0 _ List.mem_cons_self)
  have hts : ∀ w ∈ zTb, w.before [.ref (adr 15 0), .int x1, .int x2, .ref (adr 41 0)].toArray s = true := fun w hw => hts0 w (List.mem_cons_of_mem _ hw)
  have hown : s.vm.findClass RL = some m.cls := findClass_of_methodNamed B.named
  have hle := zhR_le h
  have hH := hWd.2
  have hP : va_P D vwCl (zwd g adr σ) s.heap := hWd.1
  have hS : va_S (zA H0) s.heap s.heap [] := va_S.rf
  have hl := lv_entry ([.ref (adr 15 0), .int x1, .int x2, .ref (adr 41 0)]) (n := 5) (Nat.le_of_ble_eq_true rfl)
  rw [show (headSpec (.codeWith yL_gaps cL_gaps 5 (some .int) [(0, 10, 13, 19), (0, 10, 17, 13)] :: zTb) (zhrm 115 (σ1.2.2 - σ.2.2))).room = zhrm 115 (σ1.2.2 - σ.2.2) from rfl]
  rw [lg_entry_eq]
  generalize (lg_sl ([.ref (adr 15 0), .int x1, .int x2, .ref (adr 41 0)]) ++ List.replicate (5 - (lg_sl ([.ref (adr 15 0), .int x1, .int x2, .ref (adr 41 0)])).length) Slot.unset).toArray = ls at hl ⊢
  have hl : lv_has ls 5 [(0, .ref (adr 15 0)), (1, .int x1), (2, .int x2), (3, .ref (adr 41 0))] := hl
  refine lv_aload_n hx hb dL_gaps_0 rfl (lv_at hl 3 rfl) ?_
  refine lv_iconst (v := 0) hx hb dL_gaps_1 (by decide) ?_
  refine lv_aload_n hx hb dL_gaps_2 rfl (lv_at hl 0 rfl) ?_
  refine lv_iload_n hx hb dL_gaps_3 rfl (lv_at hl 1 rfl) ?_
  refine lv_iload_n hx hb dL_gaps_4 rfl (lv_at hl 2 rfl) ?_
  rcases h with ⟨x, M1, hrun, rfl, rfl⟩ | ⟨ex, M1, he3, hz, hrun, rfl, rfl⟩
  · obtain ⟨-, hle1, hM⟩ := zrun_met hAd hJv hNw (j := 115) (by decide) hrun (zva_ok (k := 15) (by decide) [x1, x2]) rfl zhw_gaps_n
    refine zW_ret hS (zl_v (a := 115) (kd := 15) (as := [zI x1, zI x2]) hx hb (hml.trans hl.1.symm) hown hts hG hH (by decide) zhw_gaps_o hM (by decide) zhw_gaps_l zhw_gaps_v zhw_gaps_p (Nat.le_refl _) (zl_lo 115 _) hP hS (Nat.le_of_ble_eq_true rfl) dL_gaps_5 (Nat.le_of_eq (Nat.zero_add _)) (Nat.le_of_eq (Nat.zero_add _)) rfl) (fun H locs hP hS => ?_)
    refine lv_i2l hx hb dL_gaps_8 rfl ?_
    refine va_last hx hb hG.1 hP (zwd_D hAd _) hS 414 2 zout_get rfl (vp_in_nI (n := 0) (N := 1) (by decide) (by decide)) dL_gaps_9 (fun H locs hP _ hS => ?_)
    have hP := zout_P rfl hP
    refine lv_goto (tgt := 21) hx hb dL_gaps_10 rfl ?_
    refine lv_iconst (v := 0) hx hb dL_gaps_21 (by decide) ?_
    refine W.widen (k := σ.2.2 - σ.2.2) (n := 6 * (σ.2.2 - σ.2.2)) (Nat.le_of_eq (Nat.zero_add _)) (Nat.le_of_eq (Nat.zero_add _)) ?_
    exact vx_ret (W.iret hx hb hr (fun t ht hW => ⟨rfl, by rw [ht]; exact zl_here hH hP hS⟩) hS.2.2 dL_gaps_22)
  · obtain ⟨-, hle1, hM⟩ := zrun_met hAd hJv hNw (j := 115) (by decide) hrun (zva_ok (k := 15) (by decide) [x1, x2]) rfl zhw_gaps_n
    refine zW_cat hS (zl_v (a := 115) (kd := 15) (as := [zI x1, zI x2]) hx hb (hml.trans hl.1.symm) hown hts hG hH (by decide) zhw_gaps_o hM (by decide) zhw_gaps_l zhw_gaps_v zhw_gaps_p (Nat.le_refl _) (zl_lo 115 _) hP hS (Nat.le_of_ble_eq_true rfl) dL_gaps_5 (Nat.le_of_eq (Nat.zero_add _)) (Nat.le_of_eq (Nat.zero_add _)) rfl) (fun q ce H locs hP hS hce hcv hcl => ?_)
    rcases (show ex = 0 ∨ ex = 1 ∨ ex = 2 by omega) with rfl | rfl | rfl
    · refine vx_catch (own := RL) (name := zxn 0) (E := zxn 0) hown [] ⟨0, 10, 13, 19⟩ [⟨0, 10, 17, 13⟩] (htab.trans rfl) (fun z hz => nomatch hz) (by decide) (by decide) (hts _ zhl_19) (va_Nw.use rfl (hG.2.2.2.2.2 (Cond.castable (zxn 0) (zxn 0)) (List.mem_of_getElem? (i := 3) rfl))) hce hcv hcl ?_
      refine lv_astore hx hb dL_gaps_13 hl (by decide) rfl (fun ls hl => ?_)
      refine lv_iconst (v := 1) hx hb dL_gaps_15 (by decide) ?_
      refine W.widen (k := σ.2.2 + 1 - σ.2.2) (n := 6 * (σ.2.2 + 1 - σ.2.2)) (Nat.le_of_eq (Nat.zero_add _)) (Nat.le_of_eq (Nat.zero_add _)) ?_
      exact vx_ret (W.iret hx hb hr (fun t ht hW => ⟨rfl, by rw [ht]; exact zl_here hH hP hS⟩) hS.2.2 dL_gaps_16)
    · refine vx_catch (own := RL) (name := zxn 1) (E := zxn 1) hown [⟨0, 10, 13, 19⟩] ⟨0, 10, 17, 13⟩ [] (htab.trans rfl) (fun z hz => by simp only [List.mem_cons, List.not_mem_nil, or_false] at hz; rcases hz with rfl <;> first | exact Or.inr ⟨by decide, zxn 0, hts _ zhl_19, hN.1⟩) (by decide) (by decide) (hts _ zhl_13) (va_Nw.use rfl (hG.2.2.2.2.2 (Cond.castable (zxn 1) (zxn 1)) (List.mem_of_getElem? (i := 4) rfl))) hce hcv hcl ?_
      refine lv_astore hx hb dL_gaps_17 hl (by decide) rfl (fun ls hl => ?_)
      refine lv_iconst (v := 2) hx hb dL_gaps_19 (by decide) ?_
      refine W.widen (k := σ.2.2 + 1 - σ.2.2) (n := 6 * (σ.2.2 + 1 - σ.2.2)) (Nat.le_of_eq (Nat.zero_add _)) (Nat.le_of_eq (Nat.zero_add _)) ?_
      exact vx_ret (W.iret hx hb hr (fun t ht hW => ⟨rfl, by rw [ht]; exact zl_here hH hP hS⟩) hS.2.2 dL_gaps_20)
    · exact absurd rfl hz
theorem dL_together_0 : decode cL_together 0 = .ok (.aload 5, 2) := by decide +kernel
theorem dL_together_2 : decode cL_together 2 = .ok (.iconst 0, 1) := by decide +kernel
theorem dL_together_3 : decode cL_together 3 = .ok (.aload_n 0, 1) := by decide +kernel
theorem dL_together_4 : decode cL_together 4 = .ok (.iload_n 1, 1) := by decide +kernel
theorem dL_together_5 : decode cL_together 5 = .ok (.iload_n 2, 1) := by decide +kernel
theorem dL_together_6 : decode cL_together 6 = .ok (.iload_n 3, 1) := by decide +kernel
theorem dL_together_7 : decode cL_together 7 = .ok (.iload 4, 2) := by decide +kernel
theorem dL_together_9 : decode cL_together 9 = .ok (.invokevirtual 73, 3) := by decide +kernel
theorem dL_together_12 : decode cL_together 12 = .ok (.i2l, 1) := by decide +kernel
theorem dL_together_13 : decode cL_together 13 = .ok (.lastore, 1) := by decide +kernel
theorem dL_together_14 : decode cL_together 14 = .ok (.goto 7, 3) := by decide +kernel
theorem dL_together_17 : decode cL_together 17 = .ok (.astore 6, 2) := by decide +kernel
theorem dL_together_19 : decode cL_together 19 = .ok (.iconst 1, 1) := by decide +kernel
theorem dL_together_20 : decode cL_together 20 = .ok (.ireturn, 1) := by decide +kernel
theorem dL_together_21 : decode cL_together 21 = .ok (.iconst 0, 1) := by decide +kernel
theorem dL_together_22 : decode cL_together 22 = .ok (.ireturn, 1) := by decide +kernel
theorem zhw_together_c : Cond.codeWith yL_together cL_together 7 (some .int) [(0, 14, 17, 19)] ∈ zTb := zTb_in (i := 1065) (by decide +kernel) rfl
theorem zhw_together_l : Cond.methodLink RL 73 (zy 113) ∈ zTb := zTb_in (i := 1066) (by decide +kernel) rfl
theorem zhw_together_o : 10 + zown 113 = 15 := by decide +kernel
theorem zhw_together_v : (match zMW[113]? with
      | some q => !q.1
      | none => false) = true := by decide +kernel
theorem zhw_together_p : (parseMethodDescriptor (zy 113).desc).map (fun d => d.parameters.length) = some 4 := by decide +kernel
theorem zhw_together_n : 5 ≤ (zP 113).2 := by decide +kernel
set_option maxHeartbeats 4000000 in
set_option maxRecDepth 100000 in
theorem zh_together {l : Launch} {D : va_G} {g : zIds} {adr : Nat → Nat → Nat} {H0 : Heap} (hAd : zAd adr H0) (hJv : zJv l D g adr H0) (hNw : zNw l D g adr H0) (x1 x2 x3 x4 : Int32) {σ σ1 : zSt} {k : Int32} (h : zhR 113 [zI x1, zI x2, zI x3, zI x4] cdF σ k σ1) : zHm l D g adr H0 113 yL_together cL_together 7 [(0, 14, 17, 19)] [zI x1, zI x2, zI x3, zI x4] σ k σ1 := by
  refine vx_ofWH (cc := cL_together) (maxL := 7) (ret := some .int) (hh := [(0, 14, 17, 19)]) (by decide) rfl ?_
  intro p e s m args below meth c s₁ B hml hv9
  obtain ⟨⟨hav, hG, hWd⟩, hN⟩ := hv9
  replace hav : args = [.ref (adr 15 0), .int x1, .int x2, .int x3, .int x4, .ref (adr 41 0)].toArray := hav
  subst hav
  have hx := B.exec
  have hb := B.bytes
  have hr := B.returns
  have hlocks := B.notSynchronized
  have hts0 := atoms_spec (ws := .codeWith yL_together cL_together 7 (some .int) [(0, 14, 17, 19)] :: zTb) B.pre
  have htab : c.exceptionTable.toList = tableOf [(0, 14, 17, 19)] := vx_table (x := yL_together) B (hts0 _ List.mem_cons_self)
  have hts : ∀ w ∈ zTb, w.before [.ref (adr 15 0), .int x1, .int x2, .int x3, .int x4, .ref (adr 41 0)].toArray s = true := fun w hw => hts0 w (List.mem_cons_of_mem _ hw)
  have hown : s.vm.findClass RL = some m.cls := findClass_of_methodNamed B.named
  have hle := zhR_le h
  have hH := hWd.2
  have hP : va_P D vwCl (zwd g adr σ) s.heap := hWd.1
  have hS : va_S (zA H0) s.heap s.heap [] := va_S.rf
  have hl := lv_entry ([.ref (adr 15 0), .int x1, .int x2, .int x3, .int x4, .ref (adr 41 0)]) (n := 7) (Nat.le_of_ble_eq_true rfl)
  rw [show (headSpec (.codeWith yL_together cL_together 7 (some .int) [(0, 14, 17, 19)] :: zTb) (zhrm 113 (σ1.2.2 - σ.2.2))).room = zhrm 113 (σ1.2.2 - σ.2.2) from rfl]
  rw [lg_entry_eq]
  generalize (lg_sl ([.ref (adr 15 0), .int x1, .int x2, .int x3, .int x4, .ref (adr 41 0)]) ++ List.replicate (7 - (lg_sl ([.ref (adr 15 0), .int x1, .int x2, .int x3, .int x4, .ref (adr 41 0)])).length) Slot.unset).toArray = ls at hl ⊢
  have hl : lv_has ls 7 [(0, .ref (adr 15 0)), (1, .int x1), (2, .int x2), (3, .int x3), (4, .int x4), (5, .ref (adr 41 0))] := hl
  refine lv_aload hx hb dL_together_0 (lv_at hl 5 rfl) ?_
  refine lv_iconst (v := 0) hx hb dL_together_2 (by decide) ?_
  refine lv_aload_n hx hb dL_together_3 rfl (lv_at hl 0 rfl) ?_
  refine lv_iload_n hx hb dL_together_4 rfl (lv_at hl 1 rfl) ?_
  refine lv_iload_n hx hb dL_together_5 rfl (lv_at hl 2 rfl) ?_
  refine lv_iload_n hx hb dL_together_6 rfl (lv_at hl 3 rfl) ?_
  refine lv_iload hx hb dL_together_7 (lv_at hl 4 rfl) ?_
  rcases h with ⟨x, M1, hrun, rfl, rfl⟩ | ⟨ex, M1, he3, hz, hrun, rfl, rfl⟩
  · obtain ⟨-, hle1, hM⟩ := zrun_met hAd hJv hNw (j := 113) (by decide) hrun (zva_ok (k := 15) (by decide) [x1, x2, x3, x4]) rfl zhw_together_n
    refine zW_ret hS (zl_v (a := 113) (kd := 15) (as := [zI x1, zI x2, zI x3, zI x4]) hx hb (hml.trans hl.1.symm) hown hts hG hH (by decide) zhw_together_o hM (by decide) zhw_together_l zhw_together_v zhw_together_p (Nat.le_refl _) (zl_lo 113 _) hP hS (Nat.le_of_ble_eq_true rfl) dL_together_9 (Nat.le_of_eq (Nat.zero_add _)) (Nat.le_of_eq (Nat.zero_add _)) rfl) (fun H locs hP hS => ?_)
    refine lv_i2l hx hb dL_together_12 rfl ?_
    refine va_last hx hb hG.1 hP (zwd_D hAd _) hS 414 2 zout_get rfl (vp_in_nI (n := 0) (N := 1) (by decide) (by decide)) dL_together_13 (fun H locs hP _ hS => ?_)
    have hP := zout_P rfl hP
    refine lv_goto (tgt := 21) hx hb dL_together_14 rfl ?_
    refine lv_iconst (v := 0) hx hb dL_together_21 (by decide) ?_
    refine W.widen (k := σ.2.2 - σ.2.2) (n := 6 * (σ.2.2 - σ.2.2)) (Nat.le_of_eq (Nat.zero_add _)) (Nat.le_of_eq (Nat.zero_add _)) ?_
    exact vx_ret (W.iret hx hb hr (fun t ht hW => ⟨rfl, by rw [ht]; exact zl_here hH hP hS⟩) hS.2.2 dL_together_22)
  · obtain ⟨-, hle1, hM⟩ := zrun_met hAd hJv hNw (j := 113) (by decide) hrun (zva_ok (k := 15) (by decide) [x1, x2, x3, x4]) rfl zhw_together_n
    refine zW_cat hS (zl_v (a := 113) (kd := 15) (as := [zI x1, zI x2, zI x3, zI x4]) hx hb (hml.trans hl.1.symm) hown hts hG hH (by decide) zhw_together_o hM (by decide) zhw_together_l zhw_together_v zhw_together_p (Nat.le_refl _) (zl_lo 113 _) hP hS (Nat.le_of_ble_eq_true rfl) dL_together_9 (Nat.le_of_eq (Nat.zero_add _)) (Nat.le_of_eq (Nat.zero_add _)) rfl) (fun q ce H locs hP hS hce hcv hcl => ?_)
    rcases (show ex = 0 ∨ ex = 1 ∨ ex = 2 by omega) with rfl | rfl | rfl
    · refine vx_catch (own := RL) (name := zxn 0) (E := zxn 0) hown [] ⟨0, 14, 17, 19⟩ [] (htab.trans rfl) (fun z hz => nomatch hz) (by decide) (by decide) (hts _ zhl_19) (va_Nw.use rfl (hG.2.2.2.2.2 (Cond.castable (zxn 0) (zxn 0)) (List.mem_of_getElem? (i := 3) rfl))) hce hcv hcl ?_
      refine lv_astore hx hb dL_together_17 hl (by decide) rfl (fun ls hl => ?_)
      refine lv_iconst (v := 1) hx hb dL_together_19 (by decide) ?_
      refine W.widen (k := σ.2.2 + 1 - σ.2.2) (n := 6 * (σ.2.2 + 1 - σ.2.2)) (Nat.le_of_eq (Nat.zero_add _)) (Nat.le_of_eq (Nat.zero_add _)) ?_
      exact vx_ret (W.iret hx hb hr (fun t ht hW => ⟨rfl, by rw [ht]; exact zl_here hH hP hS⟩) hS.2.2 dL_together_20)
    · exact absurd rfl hz
    · exact absurd rfl hz
theorem dL_agree_0 : decode cL_agree 0 = .ok (.aload_n 3, 1) := by decide +kernel
theorem dL_agree_1 : decode cL_agree 1 = .ok (.iconst 0, 1) := by decide +kernel
theorem dL_agree_2 : decode cL_agree 2 = .ok (.aload_n 0, 1) := by decide +kernel
theorem dL_agree_3 : decode cL_agree 3 = .ok (.iload_n 1, 1) := by decide +kernel
theorem dL_agree_4 : decode cL_agree 4 = .ok (.iload_n 2, 1) := by decide +kernel
theorem dL_agree_5 : decode cL_agree 5 = .ok (.invokevirtual 88, 3) := by decide +kernel
theorem dL_agree_8 : decode cL_agree 8 = .ok (.i2l, 1) := by decide +kernel
theorem dL_agree_9 : decode cL_agree 9 = .ok (.lastore, 1) := by decide +kernel
theorem dL_agree_10 : decode cL_agree 10 = .ok (.goto 11, 3) := by decide +kernel
theorem dL_agree_13 : decode cL_agree 13 = .ok (.astore 4, 2) := by decide +kernel
theorem dL_agree_15 : decode cL_agree 15 = .ok (.iconst 1, 1) := by decide +kernel
theorem dL_agree_16 : decode cL_agree 16 = .ok (.ireturn, 1) := by decide +kernel
theorem dL_agree_17 : decode cL_agree 17 = .ok (.astore 4, 2) := by decide +kernel
theorem dL_agree_19 : decode cL_agree 19 = .ok (.iconst 2, 1) := by decide +kernel
theorem dL_agree_20 : decode cL_agree 20 = .ok (.ireturn, 1) := by decide +kernel
theorem dL_agree_21 : decode cL_agree 21 = .ok (.iconst 0, 1) := by decide +kernel
theorem dL_agree_22 : decode cL_agree 22 = .ok (.ireturn, 1) := by decide +kernel
theorem zhw_agree_c : Cond.codeWith yL_agree cL_agree 5 (some .int) [(0, 10, 13, 19), (0, 10, 17, 13)] ∈ zTb := zTb_in (i := 1106) (by decide +kernel) rfl
theorem zhw_agree_l : Cond.methodLink RL 88 (zy 118) ∈ zTb := zTb_in (i := 1107) (by decide +kernel) rfl
theorem zhw_agree_o : 10 + zown 118 = 15 := by decide +kernel
theorem zhw_agree_v : (match zMW[118]? with
      | some q => !q.1
      | none => false) = true := by decide +kernel
theorem zhw_agree_p : (parseMethodDescriptor (zy 118).desc).map (fun d => d.parameters.length) = some 2 := by decide +kernel
theorem zhw_agree_n : 3 ≤ (zP 118).2 := by decide +kernel
set_option maxHeartbeats 4000000 in
set_option maxRecDepth 100000 in
theorem zh_agree {l : Launch} {D : va_G} {g : zIds} {adr : Nat → Nat → Nat} {H0 : Heap} (hAd : zAd adr H0) (hJv : zJv l D g adr H0) (hNw : zNw l D g adr H0) (x1 x2 : Int32) {σ σ1 : zSt} {k : Int32} (h : zhR 118 [zI x1, zI x2] cdL σ k σ1) : zHm l D g adr H0 118 yL_agree cL_agree 5 [(0, 10, 13, 19), (0, 10, 17, 13)] [zI x1, zI x2] σ k σ1 := by
  refine vx_ofWH (cc := cL_agree) (maxL := 5) (ret := some .int) (hh := [(0, 10, 13, 19), (0, 10, 17, 13)]) (by decide) rfl ?_
  intro p e s m args below meth c s₁ B hml hv9
  obtain ⟨⟨hav, hG, hWd⟩, hN⟩ := hv9
  replace hav : args = [.ref (adr 15 0), .int x1, .int x2, .ref (adr 41 0)].toArray := hav
  subst hav
  have hx := B.exec
  have hb := B.bytes
  have hr := B.returns
  have hlocks := B.notSynchronized
  have hts0 := atoms_spec (ws := .codeWith yL_agree cL_agree 5 (some .int) [(0, 10, 13, 19), (0, 10, 17, 13)] :: zTb) B.pre
  have htab : c.exceptionTable.toList = tableOf [(0, 10, 13, 19), (0, 10, 17, 13)] := vx_table (x := yL_agree) B (hts0 _ List.mem_cons_self)
  have hts : ∀ w ∈ zTb, w.before [.ref (adr 15 0), .int x1, .int x2, .ref (adr 41 0)].toArray s = true := fun w hw => hts0 w (List.mem_cons_of_mem _ hw)
  have hown : s.vm.findClass RL = some m.cls := findClass_of_methodNamed B.named
  have hle := zhR_le h
  have hH := hWd.2
  have hP : va_P D vwCl (zwd g adr σ) s.heap := hWd.1
  have hS : va_S (zA H0) s.heap s.heap [] := va_S.rf
  have hl := lv_entry ([.ref (adr 15 0), .int x1, .int x2, .ref (adr 41 0)]) (n := 5) (Nat.le_of_ble_eq_true rfl)
  rw [show (headSpec (.codeWith yL_agree cL_agree 5 (some .int) [(0, 10, 13, 19), (0, 10, 17, 13)] :: zTb) (zhrm 118 (σ1.2.2 - σ.2.2))).room = zhrm 118 (σ1.2.2 - σ.2.2) from rfl]
  rw [lg_entry_eq]
  generalize (lg_sl ([.ref (adr 15 0), .int x1, .int x2, .ref (adr 41 0)]) ++ List.replicate (5 - (lg_sl ([.ref (adr 15 0), .int x1, .int x2, .ref (adr 41 0)])).length) Slot.unset).toArray = ls at hl ⊢
  have hl : lv_has ls 5 [(0, .ref (adr 15 0)), (1, .int x1), (2, .int x2), (3, .ref (adr 41 0))] := hl
  refine lv_aload_n hx hb dL_agree_0 rfl (lv_at hl 3 rfl) ?_
  refine lv_iconst (v := 0) hx hb dL_agree_1 (by decide) ?_
  refine lv_aload_n hx hb dL_agree_2 rfl (lv_at hl 0 rfl) ?_
  refine lv_iload_n hx hb dL_agree_3 rfl (lv_at hl 1 rfl) ?_
  refine lv_iload_n hx hb dL_agree_4 rfl (lv_at hl 2 rfl) ?_
  rcases h with ⟨x, M1, hrun, rfl, rfl⟩ | ⟨ex, M1, he3, hz, hrun, rfl, rfl⟩
  · obtain ⟨-, hle1, hM⟩ := zrun_met hAd hJv hNw (j := 118) (by decide) hrun (zva_ok (k := 15) (by decide) [x1, x2]) rfl zhw_agree_n
    refine zW_ret hS (zl_v (a := 118) (kd := 15) (as := [zI x1, zI x2]) hx hb (hml.trans hl.1.symm) hown hts hG hH (by decide) zhw_agree_o hM (by decide) zhw_agree_l zhw_agree_v zhw_agree_p (Nat.le_refl _) (zl_lo 118 _) hP hS (Nat.le_of_ble_eq_true rfl) dL_agree_5 (Nat.le_of_eq (Nat.zero_add _)) (Nat.le_of_eq (Nat.zero_add _)) rfl) (fun H locs hP hS => ?_)
    refine lv_i2l hx hb dL_agree_8 rfl ?_
    refine va_last hx hb hG.1 hP (zwd_D hAd _) hS 414 2 zout_get rfl (vp_in_nI (n := 0) (N := 1) (by decide) (by decide)) dL_agree_9 (fun H locs hP _ hS => ?_)
    have hP := zout_P rfl hP
    refine lv_goto (tgt := 21) hx hb dL_agree_10 rfl ?_
    refine lv_iconst (v := 0) hx hb dL_agree_21 (by decide) ?_
    refine W.widen (k := σ.2.2 - σ.2.2) (n := 6 * (σ.2.2 - σ.2.2)) (Nat.le_of_eq (Nat.zero_add _)) (Nat.le_of_eq (Nat.zero_add _)) ?_
    exact vx_ret (W.iret hx hb hr (fun t ht hW => ⟨rfl, by rw [ht]; exact zl_here hH hP hS⟩) hS.2.2 dL_agree_22)
  · obtain ⟨-, hle1, hM⟩ := zrun_met hAd hJv hNw (j := 118) (by decide) hrun (zva_ok (k := 15) (by decide) [x1, x2]) rfl zhw_agree_n
    refine zW_cat hS (zl_v (a := 118) (kd := 15) (as := [zI x1, zI x2]) hx hb (hml.trans hl.1.symm) hown hts hG hH (by decide) zhw_agree_o hM (by decide) zhw_agree_l zhw_agree_v zhw_agree_p (Nat.le_refl _) (zl_lo 118 _) hP hS (Nat.le_of_ble_eq_true rfl) dL_agree_5 (Nat.le_of_eq (Nat.zero_add _)) (Nat.le_of_eq (Nat.zero_add _)) rfl) (fun q ce H locs hP hS hce hcv hcl => ?_)
    rcases (show ex = 0 ∨ ex = 1 ∨ ex = 2 by omega) with rfl | rfl | rfl
    · refine vx_catch (own := RL) (name := zxn 0) (E := zxn 0) hown [] ⟨0, 10, 13, 19⟩ [⟨0, 10, 17, 13⟩] (htab.trans rfl) (fun z hz => nomatch hz) (by decide) (by decide) (hts _ zhl_19) (va_Nw.use rfl (hG.2.2.2.2.2 (Cond.castable (zxn 0) (zxn 0)) (List.mem_of_getElem? (i := 3) rfl))) hce hcv hcl ?_
      refine lv_astore hx hb dL_agree_13 hl (by decide) rfl (fun ls hl => ?_)
      refine lv_iconst (v := 1) hx hb dL_agree_15 (by decide) ?_
      refine W.widen (k := σ.2.2 + 1 - σ.2.2) (n := 6 * (σ.2.2 + 1 - σ.2.2)) (Nat.le_of_eq (Nat.zero_add _)) (Nat.le_of_eq (Nat.zero_add _)) ?_
      exact vx_ret (W.iret hx hb hr (fun t ht hW => ⟨rfl, by rw [ht]; exact zl_here hH hP hS⟩) hS.2.2 dL_agree_16)
    · refine vx_catch (own := RL) (name := zxn 1) (E := zxn 1) hown [⟨0, 10, 13, 19⟩] ⟨0, 10, 17, 13⟩ [] (htab.trans rfl) (fun z hz => by simp only [List.mem_cons, List.not_mem_nil, or_false] at hz; rcases hz with rfl <;> first | exact Or.inr ⟨by decide, zxn 0, hts _ zhl_19, hN.1⟩) (by decide) (by decide) (hts _ zhl_13) (va_Nw.use rfl (hG.2.2.2.2.2 (Cond.castable (zxn 1) (zxn 1)) (List.mem_of_getElem? (i := 4) rfl))) hce hcv hcl ?_
      refine lv_astore hx hb dL_agree_17 hl (by decide) rfl (fun ls hl => ?_)
      refine lv_iconst (v := 2) hx hb dL_agree_19 (by decide) ?_
      refine W.widen (k := σ.2.2 + 1 - σ.2.2) (n := 6 * (σ.2.2 + 1 - σ.2.2)) (Nat.le_of_eq (Nat.zero_add _)) (Nat.le_of_eq (Nat.zero_add _)) ?_
      exact vx_ret (W.iret hx hb hr (fun t ht hW => ⟨rfl, by rw [ht]; exact zl_here hH hP hS⟩) hS.2.2 dL_agree_20)
    · exact absurd rfl hz
theorem dL_adopt_0 : decode cL_adopt 0 = .ok (.aload_n 2, 1) := by decide +kernel
theorem dL_adopt_1 : decode cL_adopt 1 = .ok (.iconst 0, 1) := by decide +kernel
theorem dL_adopt_2 : decode cL_adopt 2 = .ok (.aload_n 0, 1) := by decide +kernel
theorem dL_adopt_3 : decode cL_adopt 3 = .ok (.iload_n 1, 1) := by decide +kernel
theorem dL_adopt_4 : decode cL_adopt 4 = .ok (.invokevirtual 45, 3) := by decide +kernel
theorem dL_adopt_7 : decode cL_adopt 7 = .ok (.i2l, 1) := by decide +kernel
theorem dL_adopt_8 : decode cL_adopt 8 = .ok (.lastore, 1) := by decide +kernel
theorem dL_adopt_9 : decode cL_adopt 9 = .ok (.goto 6, 3) := by decide +kernel
theorem dL_adopt_12 : decode cL_adopt 12 = .ok (.astore_n 3, 1) := by decide +kernel
theorem dL_adopt_13 : decode cL_adopt 13 = .ok (.iconst 1, 1) := by decide +kernel
theorem dL_adopt_14 : decode cL_adopt 14 = .ok (.ireturn, 1) := by decide +kernel
theorem dL_adopt_15 : decode cL_adopt 15 = .ok (.iconst 0, 1) := by decide +kernel
theorem dL_adopt_16 : decode cL_adopt 16 = .ok (.ireturn, 1) := by decide +kernel
theorem zhw_adopt_c : Cond.codeWith yL_adopt cL_adopt 4 (some .int) [(0, 9, 12, 19)] ∈ zTb := zTb_in (i := 939) (by decide +kernel) rfl
theorem zhw_adopt_l : Cond.methodLink RL 45 (zy 102) ∈ zTb := zTb_in (i := 940) (by decide +kernel) rfl
theorem zhw_adopt_o : 10 + zown 102 = 15 := by decide +kernel
theorem zhw_adopt_v : (match zMW[102]? with
      | some q => !q.1
      | none => false) = true := by decide +kernel
theorem zhw_adopt_p : (parseMethodDescriptor (zy 102).desc).map (fun d => d.parameters.length) = some 1 := by decide +kernel
theorem zhw_adopt_n : 2 ≤ (zP 102).2 := by decide +kernel
set_option maxHeartbeats 4000000 in
set_option maxRecDepth 100000 in
theorem zh_adopt {l : Launch} {D : va_G} {g : zIds} {adr : Nat → Nat → Nat} {H0 : Heap} (hAd : zAd adr H0) (hJv : zJv l D g adr H0) (hNw : zNw l D g adr H0) (x1 : Int32) {σ σ1 : zSt} {k : Int32} (h : zhR 102 [zI x1] cdF σ k σ1) : zHm l D g adr H0 102 yL_adopt cL_adopt 4 [(0, 9, 12, 19)] [zI x1] σ k σ1 := by
  refine vx_ofWH (cc := cL_adopt) (maxL := 4) (ret := some .int) (hh := [(0, 9, 12, 19)]) (by decide) rfl ?_
  intro p e s m args below meth c s₁ B hml hv9
  obtain ⟨⟨hav, hG, hWd⟩, hN⟩ := hv9
  replace hav : args = [.ref (adr 15 0), .int x1, .ref (adr 41 0)].toArray := hav
  subst hav
  have hx := B.exec
  have hb := B.bytes
  have hr := B.returns
  have hlocks := B.notSynchronized
  have hts0 := atoms_spec (ws := .codeWith yL_adopt cL_adopt 4 (some .int) [(0, 9, 12, 19)] :: zTb) B.pre
  have htab : c.exceptionTable.toList = tableOf [(0, 9, 12, 19)] := vx_table (x := yL_adopt) B (hts0 _ List.mem_cons_self)
  have hts : ∀ w ∈ zTb, w.before [.ref (adr 15 0), .int x1, .ref (adr 41 0)].toArray s = true := fun w hw => hts0 w (List.mem_cons_of_mem _ hw)
  have hown : s.vm.findClass RL = some m.cls := findClass_of_methodNamed B.named
  have hle := zhR_le h
  have hH := hWd.2
  have hP : va_P D vwCl (zwd g adr σ) s.heap := hWd.1
  have hS : va_S (zA H0) s.heap s.heap [] := va_S.rf
  have hl := lv_entry ([.ref (adr 15 0), .int x1, .ref (adr 41 0)]) (n := 4) (Nat.le_of_ble_eq_true rfl)
  rw [show (headSpec (.codeWith yL_adopt cL_adopt 4 (some .int) [(0, 9, 12, 19)] :: zTb) (zhrm 102 (σ1.2.2 - σ.2.2))).room = zhrm 102 (σ1.2.2 - σ.2.2) from rfl]
  rw [lg_entry_eq]
  generalize (lg_sl ([.ref (adr 15 0), .int x1, .ref (adr 41 0)]) ++ List.replicate (4 - (lg_sl ([.ref (adr 15 0), .int x1, .ref (adr 41 0)])).length) Slot.unset).toArray = ls at hl ⊢
  have hl : lv_has ls 4 [(0, .ref (adr 15 0)), (1, .int x1), (2, .ref (adr 41 0))] := hl
  refine lv_aload_n hx hb dL_adopt_0 rfl (lv_at hl 2 rfl) ?_
  refine lv_iconst (v := 0) hx hb dL_adopt_1 (by decide) ?_
  refine lv_aload_n hx hb dL_adopt_2 rfl (lv_at hl 0 rfl) ?_
  refine lv_iload_n hx hb dL_adopt_3 rfl (lv_at hl 1 rfl) ?_
  rcases h with ⟨x, M1, hrun, rfl, rfl⟩ | ⟨ex, M1, he3, hz, hrun, rfl, rfl⟩
  · obtain ⟨-, hle1, hM⟩ := zrun_met hAd hJv hNw (j := 102) (by decide) hrun (zva_ok (k := 15) (by decide) [x1]) rfl zhw_adopt_n
    refine zW_ret hS (zl_v (a := 102) (kd := 15) (as := [zI x1]) hx hb (hml.trans hl.1.symm) hown hts hG hH (by decide) zhw_adopt_o hM (by decide) zhw_adopt_l zhw_adopt_v zhw_adopt_p (Nat.le_refl _) (zl_lo 102 _) hP hS (Nat.le_of_ble_eq_true rfl) dL_adopt_4 (Nat.le_of_eq (Nat.zero_add _)) (Nat.le_of_eq (Nat.zero_add _)) rfl) (fun H locs hP hS => ?_)
    refine lv_i2l hx hb dL_adopt_7 rfl ?_
    refine va_last hx hb hG.1 hP (zwd_D hAd _) hS 414 2 zout_get rfl (vp_in_nI (n := 0) (N := 1) (by decide) (by decide)) dL_adopt_8 (fun H locs hP _ hS => ?_)
    have hP := zout_P rfl hP
    refine lv_goto (tgt := 15) hx hb dL_adopt_9 rfl ?_
    refine lv_iconst (v := 0) hx hb dL_adopt_15 (by decide) ?_
    refine W.widen (k := σ.2.2 - σ.2.2) (n := 6 * (σ.2.2 - σ.2.2)) (Nat.le_of_eq (Nat.zero_add _)) (Nat.le_of_eq (Nat.zero_add _)) ?_
    exact vx_ret (W.iret hx hb hr (fun t ht hW => ⟨rfl, by rw [ht]; exact zl_here hH hP hS⟩) hS.2.2 dL_adopt_16)
  · obtain ⟨-, hle1, hM⟩ := zrun_met hAd hJv hNw (j := 102) (by decide) hrun (zva_ok (k := 15) (by decide) [x1]) rfl zhw_adopt_n
    refine zW_cat hS (zl_v (a := 102) (kd := 15) (as := [zI x1]) hx hb (hml.trans hl.1.symm) hown hts hG hH (by decide) zhw_adopt_o hM (by decide) zhw_adopt_l zhw_adopt_v zhw_adopt_p (Nat.le_refl _) (zl_lo 102 _) hP hS (Nat.le_of_ble_eq_true rfl) dL_adopt_4 (Nat.le_of_eq (Nat.zero_add _)) (Nat.le_of_eq (Nat.zero_add _)) rfl) (fun q ce H locs hP hS hce hcv hcl => ?_)
    rcases (show ex = 0 ∨ ex = 1 ∨ ex = 2 by omega) with rfl | rfl | rfl
    · refine vx_catch (own := RL) (name := zxn 0) (E := zxn 0) hown [] ⟨0, 9, 12, 19⟩ [] (htab.trans rfl) (fun z hz => nomatch hz) (by decide) (by decide) (hts _ zhl_19) (va_Nw.use rfl (hG.2.2.2.2.2 (Cond.castable (zxn 0) (zxn 0)) (List.mem_of_getElem? (i := 3) rfl))) hce hcv hcl ?_
      refine lv_astore_n hx hb dL_adopt_12 rfl hl (by decide) rfl (fun ls hl => ?_)
      refine lv_iconst (v := 1) hx hb dL_adopt_13 (by decide) ?_
      refine W.widen (k := σ.2.2 + 1 - σ.2.2) (n := 6 * (σ.2.2 + 1 - σ.2.2)) (Nat.le_of_eq (Nat.zero_add _)) (Nat.le_of_eq (Nat.zero_add _)) ?_
      exact vx_ret (W.iret hx hb hr (fun t ht hW => ⟨rfl, by rw [ht]; exact zl_here hH hP hS⟩) hS.2.2 dL_adopt_14)
    · exact absurd rfl hz
    · exact absurd rfl hz
theorem dL_snap_0 : decode cL_snap 0 = .ok (.aload_n 3, 1) := by decide +kernel
theorem dL_snap_1 : decode cL_snap 1 = .ok (.iconst 0, 1) := by decide +kernel
theorem dL_snap_2 : decode cL_snap 2 = .ok (.aload_n 0, 1) := by decide +kernel
theorem dL_snap_3 : decode cL_snap 3 = .ok (.iload_n 1, 1) := by decide +kernel
theorem dL_snap_4 : decode cL_snap 4 = .ok (.iload_n 2, 1) := by decide +kernel
theorem dL_snap_5 : decode cL_snap 5 = .ok (.invokevirtual 48, 3) := by decide +kernel
theorem dL_snap_8 : decode cL_snap 8 = .ok (.i2l, 1) := by decide +kernel
theorem dL_snap_9 : decode cL_snap 9 = .ok (.lastore, 1) := by decide +kernel
theorem dL_snap_10 : decode cL_snap 10 = .ok (.goto 11, 3) := by decide +kernel
theorem dL_snap_13 : decode cL_snap 13 = .ok (.astore 4, 2) := by decide +kernel
theorem dL_snap_15 : decode cL_snap 15 = .ok (.iconst 1, 1) := by decide +kernel
theorem dL_snap_16 : decode cL_snap 16 = .ok (.ireturn, 1) := by decide +kernel
theorem dL_snap_17 : decode cL_snap 17 = .ok (.astore 4, 2) := by decide +kernel
theorem dL_snap_19 : decode cL_snap 19 = .ok (.iconst 2, 1) := by decide +kernel
theorem dL_snap_20 : decode cL_snap 20 = .ok (.ireturn, 1) := by decide +kernel
theorem dL_snap_21 : decode cL_snap 21 = .ok (.iconst 0, 1) := by decide +kernel
theorem dL_snap_22 : decode cL_snap 22 = .ok (.ireturn, 1) := by decide +kernel
theorem zhw_snap_c : Cond.codeWith yL_snap cL_snap 5 (some .int) [(0, 10, 13, 19), (0, 10, 17, 13)] ∈ zTb := zTb_in (i := 955) (by decide +kernel) rfl
theorem zhw_snap_l : Cond.methodLink RL 48 (zy 103) ∈ zTb := zTb_in (i := 956) (by decide +kernel) rfl
theorem zhw_snap_o : 10 + zown 103 = 15 := by decide +kernel
theorem zhw_snap_v : (match zMW[103]? with
      | some q => !q.1
      | none => false) = true := by decide +kernel
theorem zhw_snap_p : (parseMethodDescriptor (zy 103).desc).map (fun d => d.parameters.length) = some 2 := by decide +kernel
theorem zhw_snap_n : 3 ≤ (zP 103).2 := by decide +kernel
set_option maxHeartbeats 4000000 in
set_option maxRecDepth 100000 in
theorem zh_snap {l : Launch} {D : va_G} {g : zIds} {adr : Nat → Nat → Nat} {H0 : Heap} (hAd : zAd adr H0) (hJv : zJv l D g adr H0) (hNw : zNw l D g adr H0) (x1 x2 : Int32) {σ σ1 : zSt} {k : Int32} (h : zhR 103 [zI x1, zI x2] cdL σ k σ1) : zHm l D g adr H0 103 yL_snap cL_snap 5 [(0, 10, 13, 19), (0, 10, 17, 13)] [zI x1, zI x2] σ k σ1 := by
  refine vx_ofWH (cc := cL_snap) (maxL := 5) (ret := some .int) (hh := [(0, 10, 13, 19), (0, 10, 17, 13)]) (by decide) rfl ?_
  intro p e s m args below meth c s₁ B hml hv9
  obtain ⟨⟨hav, hG, hWd⟩, hN⟩ := hv9
  replace hav : args = [.ref (adr 15 0), .int x1, .int x2, .ref (adr 41 0)].toArray := hav
  subst hav
  have hx := B.exec
  have hb := B.bytes
  have hr := B.returns
  have hlocks := B.notSynchronized
  have hts0 := atoms_spec (ws := .codeWith yL_snap cL_snap 5 (some .int) [(0, 10, 13, 19), (0, 10, 17, 13)] :: zTb) B.pre
  have htab : c.exceptionTable.toList = tableOf [(0, 10, 13, 19), (0, 10, 17, 13)] := vx_table (x := yL_snap) B (hts0 _ List.mem_cons_self)
  have hts : ∀ w ∈ zTb, w.before [.ref (adr 15 0), .int x1, .int x2, .ref (adr 41 0)].toArray s = true := fun w hw => hts0 w (List.mem_cons_of_mem _ hw)
  have hown : s.vm.findClass RL = some m.cls := findClass_of_methodNamed B.named
  have hle := zhR_le h
  have hH := hWd.2
  have hP : va_P D vwCl (zwd g adr σ) s.heap := hWd.1
  have hS : va_S (zA H0) s.heap s.heap [] := va_S.rf
  have hl := lv_entry ([.ref (adr 15 0), .int x1, .int x2, .ref (adr 41 0)]) (n := 5) (Nat.le_of_ble_eq_true rfl)
  rw [show (headSpec (.codeWith yL_snap cL_snap 5 (some .int) [(0, 10, 13, 19), (0, 10, 17, 13)] :: zTb) (zhrm 103 (σ1.2.2 - σ.2.2))).room = zhrm 103 (σ1.2.2 - σ.2.2) from rfl]
  rw [lg_entry_eq]
  generalize (lg_sl ([.ref (adr 15 0), .int x1, .int x2, .ref (adr 41 0)]) ++ List.replicate (5 - (lg_sl ([.ref (adr 15 0), .int x1, .int x2, .ref (adr 41 0)])).length) Slot.unset).toArray = ls at hl ⊢
  have hl : lv_has ls 5 [(0, .ref (adr 15 0)), (1, .int x1), (2, .int x2), (3, .ref (adr 41 0))] := hl
  refine lv_aload_n hx hb dL_snap_0 rfl (lv_at hl 3 rfl) ?_
  refine lv_iconst (v := 0) hx hb dL_snap_1 (by decide) ?_
  refine lv_aload_n hx hb dL_snap_2 rfl (lv_at hl 0 rfl) ?_
  refine lv_iload_n hx hb dL_snap_3 rfl (lv_at hl 1 rfl) ?_
  refine lv_iload_n hx hb dL_snap_4 rfl (lv_at hl 2 rfl) ?_
  rcases h with ⟨x, M1, hrun, rfl, rfl⟩ | ⟨ex, M1, he3, hz, hrun, rfl, rfl⟩
  · obtain ⟨-, hle1, hM⟩ := zrun_met hAd hJv hNw (j := 103) (by decide) hrun (zva_ok (k := 15) (by decide) [x1, x2]) rfl zhw_snap_n
    refine zW_ret hS (zl_v (a := 103) (kd := 15) (as := [zI x1, zI x2]) hx hb (hml.trans hl.1.symm) hown hts hG hH (by decide) zhw_snap_o hM (by decide) zhw_snap_l zhw_snap_v zhw_snap_p (Nat.le_refl _) (zl_lo 103 _) hP hS (Nat.le_of_ble_eq_true rfl) dL_snap_5 (Nat.le_of_eq (Nat.zero_add _)) (Nat.le_of_eq (Nat.zero_add _)) rfl) (fun H locs hP hS => ?_)
    refine lv_i2l hx hb dL_snap_8 rfl ?_
    refine va_last hx hb hG.1 hP (zwd_D hAd _) hS 414 2 zout_get rfl (vp_in_nI (n := 0) (N := 1) (by decide) (by decide)) dL_snap_9 (fun H locs hP _ hS => ?_)
    have hP := zout_P rfl hP
    refine lv_goto (tgt := 21) hx hb dL_snap_10 rfl ?_
    refine lv_iconst (v := 0) hx hb dL_snap_21 (by decide) ?_
    refine W.widen (k := σ.2.2 - σ.2.2) (n := 6 * (σ.2.2 - σ.2.2)) (Nat.le_of_eq (Nat.zero_add _)) (Nat.le_of_eq (Nat.zero_add _)) ?_
    exact vx_ret (W.iret hx hb hr (fun t ht hW => ⟨rfl, by rw [ht]; exact zl_here hH hP hS⟩) hS.2.2 dL_snap_22)
  · obtain ⟨-, hle1, hM⟩ := zrun_met hAd hJv hNw (j := 103) (by decide) hrun (zva_ok (k := 15) (by decide) [x1, x2]) rfl zhw_snap_n
    refine zW_cat hS (zl_v (a := 103) (kd := 15) (as := [zI x1, zI x2]) hx hb (hml.trans hl.1.symm) hown hts hG hH (by decide) zhw_snap_o hM (by decide) zhw_snap_l zhw_snap_v zhw_snap_p (Nat.le_refl _) (zl_lo 103 _) hP hS (Nat.le_of_ble_eq_true rfl) dL_snap_5 (Nat.le_of_eq (Nat.zero_add _)) (Nat.le_of_eq (Nat.zero_add _)) rfl) (fun q ce H locs hP hS hce hcv hcl => ?_)
    rcases (show ex = 0 ∨ ex = 1 ∨ ex = 2 by omega) with rfl | rfl | rfl
    · refine vx_catch (own := RL) (name := zxn 0) (E := zxn 0) hown [] ⟨0, 10, 13, 19⟩ [⟨0, 10, 17, 13⟩] (htab.trans rfl) (fun z hz => nomatch hz) (by decide) (by decide) (hts _ zhl_19) (va_Nw.use rfl (hG.2.2.2.2.2 (Cond.castable (zxn 0) (zxn 0)) (List.mem_of_getElem? (i := 3) rfl))) hce hcv hcl ?_
      refine lv_astore hx hb dL_snap_13 hl (by decide) rfl (fun ls hl => ?_)
      refine lv_iconst (v := 1) hx hb dL_snap_15 (by decide) ?_
      refine W.widen (k := σ.2.2 + 1 - σ.2.2) (n := 6 * (σ.2.2 + 1 - σ.2.2)) (Nat.le_of_eq (Nat.zero_add _)) (Nat.le_of_eq (Nat.zero_add _)) ?_
      exact vx_ret (W.iret hx hb hr (fun t ht hW => ⟨rfl, by rw [ht]; exact zl_here hH hP hS⟩) hS.2.2 dL_snap_16)
    · refine vx_catch (own := RL) (name := zxn 1) (E := zxn 1) hown [⟨0, 10, 13, 19⟩] ⟨0, 10, 17, 13⟩ [] (htab.trans rfl) (fun z hz => by simp only [List.mem_cons, List.not_mem_nil, or_false] at hz; rcases hz with rfl <;> first | exact Or.inr ⟨by decide, zxn 0, hts _ zhl_19, hN.1⟩) (by decide) (by decide) (hts _ zhl_13) (va_Nw.use rfl (hG.2.2.2.2.2 (Cond.castable (zxn 1) (zxn 1)) (List.mem_of_getElem? (i := 4) rfl))) hce hcv hcl ?_
      refine lv_astore hx hb dL_snap_17 hl (by decide) rfl (fun ls hl => ?_)
      refine lv_iconst (v := 2) hx hb dL_snap_19 (by decide) ?_
      refine W.widen (k := σ.2.2 + 1 - σ.2.2) (n := 6 * (σ.2.2 + 1 - σ.2.2)) (Nat.le_of_eq (Nat.zero_add _)) (Nat.le_of_eq (Nat.zero_add _)) ?_
      exact vx_ret (W.iret hx hb hr (fun t ht hW => ⟨rfl, by rw [ht]; exact zl_here hH hP hS⟩) hS.2.2 dL_snap_20)
    · exact absurd rfl hz
theorem dL_same_0 : decode cL_same 0 = .ok (.aload 4, 2) := by decide +kernel
theorem dL_same_2 : decode cL_same 2 = .ok (.iconst 0, 1) := by decide +kernel
theorem dL_same_3 : decode cL_same 3 = .ok (.aload_n 0, 1) := by decide +kernel
theorem dL_same_4 : decode cL_same 4 = .ok (.iload_n 1, 1) := by decide +kernel
theorem dL_same_5 : decode cL_same 5 = .ok (.iload_n 2, 1) := by decide +kernel
theorem dL_same_6 : decode cL_same 6 = .ok (.iload_n 3, 1) := by decide +kernel
theorem dL_same_7 : decode cL_same 7 = .ok (.invokevirtual 91, 3) := by decide +kernel
theorem dL_same_10 : decode cL_same 10 = .ok (.i2l, 1) := by decide +kernel
theorem dL_same_11 : decode cL_same 11 = .ok (.lastore, 1) := by decide +kernel
theorem dL_same_12 : decode cL_same 12 = .ok (.goto 11, 3) := by decide +kernel
theorem dL_same_15 : decode cL_same 15 = .ok (.astore 5, 2) := by decide +kernel
theorem dL_same_17 : decode cL_same 17 = .ok (.iconst 1, 1) := by decide +kernel
theorem dL_same_18 : decode cL_same 18 = .ok (.ireturn, 1) := by decide +kernel
theorem dL_same_19 : decode cL_same 19 = .ok (.astore 5, 2) := by decide +kernel
theorem dL_same_21 : decode cL_same 21 = .ok (.iconst 2, 1) := by decide +kernel
theorem dL_same_22 : decode cL_same 22 = .ok (.ireturn, 1) := by decide +kernel
theorem dL_same_23 : decode cL_same 23 = .ok (.iconst 0, 1) := by decide +kernel
theorem dL_same_24 : decode cL_same 24 = .ok (.ireturn, 1) := by decide +kernel
theorem zhw_same_c : Cond.codeWith yL_same cL_same 6 (some .int) [(0, 12, 15, 19), (0, 12, 19, 13)] ∈ zTb := zTb_in (i := 1118) (by decide +kernel) rfl
theorem zhw_same_l : Cond.methodLink RL 91 (zy 119) ∈ zTb := zTb_in (i := 1119) (by decide +kernel) rfl
theorem zhw_same_o : 10 + zown 119 = 15 := by decide +kernel
theorem zhw_same_v : (match zMW[119]? with
      | some q => !q.1
      | none => false) = true := by decide +kernel
theorem zhw_same_p : (parseMethodDescriptor (zy 119).desc).map (fun d => d.parameters.length) = some 3 := by decide +kernel
theorem zhw_same_n : 4 ≤ (zP 119).2 := by decide +kernel
set_option maxHeartbeats 4000000 in
set_option maxRecDepth 100000 in
theorem zh_same {l : Launch} {D : va_G} {g : zIds} {adr : Nat → Nat → Nat} {H0 : Heap} (hAd : zAd adr H0) (hJv : zJv l D g adr H0) (hNw : zNw l D g adr H0) (x1 x2 x3 : Int32) {σ σ1 : zSt} {k : Int32} (h : zhR 119 [zI x1, zI x2, zI x3] cdL σ k σ1) : zHm l D g adr H0 119 yL_same cL_same 6 [(0, 12, 15, 19), (0, 12, 19, 13)] [zI x1, zI x2, zI x3] σ k σ1 := by
  refine vx_ofWH (cc := cL_same) (maxL := 6) (ret := some .int) (hh := [(0, 12, 15, 19), (0, 12, 19, 13)]) (by decide) rfl ?_
  intro p e s m args below meth c s₁ B hml hv9
  obtain ⟨⟨hav, hG, hWd⟩, hN⟩ := hv9
  replace hav : args = [.ref (adr 15 0), .int x1, .int x2, .int x3, .ref (adr 41 0)].toArray := hav
  subst hav
  have hx := B.exec
  have hb := B.bytes
  have hr := B.returns
  have hlocks := B.notSynchronized
  have hts0 := atoms_spec (ws := .codeWith yL_same cL_same 6 (some .int) [(0, 12, 15, 19), (0, 12, 19, 13)] :: zTb) B.pre
  have htab : c.exceptionTable.toList = tableOf [(0, 12, 15, 19), (0, 12, 19, 13)] := vx_table (x := yL_same) B (hts0 _ List.mem_cons_self)
  have hts : ∀ w ∈ zTb, w.before [.ref (adr 15 0), .int x1, .int x2, .int x3, .ref (adr 41 0)].toArray s = true := fun w hw => hts0 w (List.mem_cons_of_mem _ hw)
  have hown : s.vm.findClass RL = some m.cls := findClass_of_methodNamed B.named
  have hle := zhR_le h
  have hH := hWd.2
  have hP : va_P D vwCl (zwd g adr σ) s.heap := hWd.1
  have hS : va_S (zA H0) s.heap s.heap [] := va_S.rf
  have hl := lv_entry ([.ref (adr 15 0), .int x1, .int x2, .int x3, .ref (adr 41 0)]) (n := 6) (Nat.le_of_ble_eq_true rfl)
  rw [show (headSpec (.codeWith yL_same cL_same 6 (some .int) [(0, 12, 15, 19), (0, 12, 19, 13)] :: zTb) (zhrm 119 (σ1.2.2 - σ.2.2))).room = zhrm 119 (σ1.2.2 - σ.2.2) from rfl]
  rw [lg_entry_eq]
  generalize (lg_sl ([.ref (adr 15 0), .int x1, .int x2, .int x3, .ref (adr 41 0)]) ++ List.replicate (6 - (lg_sl ([.ref (adr 15 0), .int x1, .int x2, .int x3, .ref (adr 41 0)])).length) Slot.unset).toArray = ls at hl ⊢
  have hl : lv_has ls 6 [(0, .ref (adr 15 0)), (1, .int x1), (2, .int x2), (3, .int x3), (4, .ref (adr 41 0))] := hl
  refine lv_aload hx hb dL_same_0 (lv_at hl 4 rfl) ?_
  refine lv_iconst (v := 0) hx hb dL_same_2 (by decide) ?_
  refine lv_aload_n hx hb dL_same_3 rfl (lv_at hl 0 rfl) ?_
  refine lv_iload_n hx hb dL_same_4 rfl (lv_at hl 1 rfl) ?_
  refine lv_iload_n hx hb dL_same_5 rfl (lv_at hl 2 rfl) ?_
  refine lv_iload_n hx hb dL_same_6 rfl (lv_at hl 3 rfl) ?_
  rcases h with ⟨x, M1, hrun, rfl, rfl⟩ | ⟨ex, M1, he3, hz, hrun, rfl, rfl⟩
  · obtain ⟨-, hle1, hM⟩ := zrun_met hAd hJv hNw (j := 119) (by decide) hrun (zva_ok (k := 15) (by decide) [x1, x2, x3]) rfl zhw_same_n
    refine zW_ret hS (zl_v (a := 119) (kd := 15) (as := [zI x1, zI x2, zI x3]) hx hb (hml.trans hl.1.symm) hown hts hG hH (by decide) zhw_same_o hM (by decide) zhw_same_l zhw_same_v zhw_same_p (Nat.le_refl _) (zl_lo 119 _) hP hS (Nat.le_of_ble_eq_true rfl) dL_same_7 (Nat.le_of_eq (Nat.zero_add _)) (Nat.le_of_eq (Nat.zero_add _)) rfl) (fun H locs hP hS => ?_)
    refine lv_i2l hx hb dL_same_10 rfl ?_
    refine va_last hx hb hG.1 hP (zwd_D hAd _) hS 414 2 zout_get rfl (vp_in_nI (n := 0) (N := 1) (by decide) (by decide)) dL_same_11 (fun H locs hP _ hS => ?_)
    have hP := zout_P rfl hP
    refine lv_goto (tgt := 23) hx hb dL_same_12 rfl ?_
    refine lv_iconst (v := 0) hx hb dL_same_23 (by decide) ?_
    refine W.widen (k := σ.2.2 - σ.2.2) (n := 6 * (σ.2.2 - σ.2.2)) (Nat.le_of_eq (Nat.zero_add _)) (Nat.le_of_eq (Nat.zero_add _)) ?_
    exact vx_ret (W.iret hx hb hr (fun t ht hW => ⟨rfl, by rw [ht]; exact zl_here hH hP hS⟩) hS.2.2 dL_same_24)
  · obtain ⟨-, hle1, hM⟩ := zrun_met hAd hJv hNw (j := 119) (by decide) hrun (zva_ok (k := 15) (by decide) [x1, x2, x3]) rfl zhw_same_n
    refine zW_cat hS (zl_v (a := 119) (kd := 15) (as := [zI x1, zI x2, zI x3]) hx hb (hml.trans hl.1.symm) hown hts hG hH (by decide) zhw_same_o hM (by decide) zhw_same_l zhw_same_v zhw_same_p (Nat.le_refl _) (zl_lo 119 _) hP hS (Nat.le_of_ble_eq_true rfl) dL_same_7 (Nat.le_of_eq (Nat.zero_add _)) (Nat.le_of_eq (Nat.zero_add _)) rfl) (fun q ce H locs hP hS hce hcv hcl => ?_)
    rcases (show ex = 0 ∨ ex = 1 ∨ ex = 2 by omega) with rfl | rfl | rfl
    · refine vx_catch (own := RL) (name := zxn 0) (E := zxn 0) hown [] ⟨0, 12, 15, 19⟩ [⟨0, 12, 19, 13⟩] (htab.trans rfl) (fun z hz => nomatch hz) (by decide) (by decide) (hts _ zhl_19) (va_Nw.use rfl (hG.2.2.2.2.2 (Cond.castable (zxn 0) (zxn 0)) (List.mem_of_getElem? (i := 3) rfl))) hce hcv hcl ?_
      refine lv_astore hx hb dL_same_15 hl (by decide) rfl (fun ls hl => ?_)
      refine lv_iconst (v := 1) hx hb dL_same_17 (by decide) ?_
      refine W.widen (k := σ.2.2 + 1 - σ.2.2) (n := 6 * (σ.2.2 + 1 - σ.2.2)) (Nat.le_of_eq (Nat.zero_add _)) (Nat.le_of_eq (Nat.zero_add _)) ?_
      exact vx_ret (W.iret hx hb hr (fun t ht hW => ⟨rfl, by rw [ht]; exact zl_here hH hP hS⟩) hS.2.2 dL_same_18)
    · refine vx_catch (own := RL) (name := zxn 1) (E := zxn 1) hown [⟨0, 12, 15, 19⟩] ⟨0, 12, 19, 13⟩ [] (htab.trans rfl) (fun z hz => by simp only [List.mem_cons, List.not_mem_nil, or_false] at hz; rcases hz with rfl <;> first | exact Or.inr ⟨by decide, zxn 0, hts _ zhl_19, hN.1⟩) (by decide) (by decide) (hts _ zhl_13) (va_Nw.use rfl (hG.2.2.2.2.2 (Cond.castable (zxn 1) (zxn 1)) (List.mem_of_getElem? (i := 4) rfl))) hce hcv hcl ?_
      refine lv_astore hx hb dL_same_19 hl (by decide) rfl (fun ls hl => ?_)
      refine lv_iconst (v := 2) hx hb dL_same_21 (by decide) ?_
      refine W.widen (k := σ.2.2 + 1 - σ.2.2) (n := 6 * (σ.2.2 + 1 - σ.2.2)) (Nat.le_of_eq (Nat.zero_add _)) (Nat.le_of_eq (Nat.zero_add _)) ?_
      exact vx_ret (W.iret hx hb hr (fun t ht hW => ⟨rfl, by rw [ht]; exact zl_here hH hP hS⟩) hS.2.2 dL_same_22)
    · exact absurd rfl hz
theorem dL_text_0 : decode cL_text 0 = .ok (.aload_n 2, 1) := by decide +kernel
theorem dL_text_1 : decode cL_text 1 = .ok (.iconst 0, 1) := by decide +kernel
theorem dL_text_2 : decode cL_text 2 = .ok (.aload_n 0, 1) := by decide +kernel
theorem dL_text_3 : decode cL_text 3 = .ok (.iload_n 1, 1) := by decide +kernel
theorem dL_text_4 : decode cL_text 4 = .ok (.invokevirtual 7, 3) := by decide +kernel
theorem dL_text_7 : decode cL_text 7 = .ok (.i2l, 1) := by decide +kernel
theorem dL_text_8 : decode cL_text 8 = .ok (.lastore, 1) := by decide +kernel
theorem dL_text_9 : decode cL_text 9 = .ok (.goto 6, 3) := by decide +kernel
theorem dL_text_12 : decode cL_text 12 = .ok (.astore_n 3, 1) := by decide +kernel
theorem dL_text_13 : decode cL_text 13 = .ok (.iconst 1, 1) := by decide +kernel
theorem dL_text_14 : decode cL_text 14 = .ok (.ireturn, 1) := by decide +kernel
theorem dL_text_15 : decode cL_text 15 = .ok (.iconst 0, 1) := by decide +kernel
theorem dL_text_16 : decode cL_text 16 = .ok (.ireturn, 1) := by decide +kernel
theorem zhw_text_c : Cond.codeWith yL_text cL_text 4 (some .int) [(0, 9, 12, 13)] ∈ zTb := zTb_in (i := 360) (by decide +kernel) rfl
theorem zhw_text_l : Cond.methodLink RL 7 (zy 92) ∈ zTb := zTb_in (i := 362) (by decide +kernel) rfl
theorem zhw_text_o : 10 + zown 92 = 15 := by decide +kernel
theorem zhw_text_v : (match zMW[92]? with
      | some q => !q.1
      | none => false) = true := by decide +kernel
theorem zhw_text_p : (parseMethodDescriptor (zy 92).desc).map (fun d => d.parameters.length) = some 1 := by decide +kernel
theorem zhw_text_n : 2 ≤ (zP 92).2 := by decide +kernel
set_option maxHeartbeats 4000000 in
set_option maxRecDepth 100000 in
theorem zh_text {l : Launch} {D : va_G} {g : zIds} {adr : Nat → Nat → Nat} {H0 : Heap} (hAd : zAd adr H0) (hJv : zJv l D g adr H0) (hNw : zNw l D g adr H0) (x1 : Int32) {σ σ1 : zSt} {k : Int32} (h : zhR 92 [zI x1] cdI σ k σ1) : zHm l D g adr H0 92 yL_text cL_text 4 [(0, 9, 12, 13)] [zI x1] σ k σ1 := by
  refine vx_ofWH (cc := cL_text) (maxL := 4) (ret := some .int) (hh := [(0, 9, 12, 13)]) (by decide) rfl ?_
  intro p e s m args below meth c s₁ B hml hv9
  obtain ⟨⟨hav, hG, hWd⟩, hN⟩ := hv9
  replace hav : args = [.ref (adr 15 0), .int x1, .ref (adr 41 0)].toArray := hav
  subst hav
  have hx := B.exec
  have hb := B.bytes
  have hr := B.returns
  have hlocks := B.notSynchronized
  have hts0 := atoms_spec (ws := .codeWith yL_text cL_text 4 (some .int) [(0, 9, 12, 13)] :: zTb) B.pre
  have htab : c.exceptionTable.toList = tableOf [(0, 9, 12, 13)] := vx_table (x := yL_text) B (hts0 _ List.mem_cons_self)
  have hts : ∀ w ∈ zTb, w.before [.ref (adr 15 0), .int x1, .ref (adr 41 0)].toArray s = true := fun w hw => hts0 w (List.mem_cons_of_mem _ hw)
  have hown : s.vm.findClass RL = some m.cls := findClass_of_methodNamed B.named
  have hle := zhR_le h
  have hH := hWd.2
  have hP : va_P D vwCl (zwd g adr σ) s.heap := hWd.1
  have hS : va_S (zA H0) s.heap s.heap [] := va_S.rf
  have hl := lv_entry ([.ref (adr 15 0), .int x1, .ref (adr 41 0)]) (n := 4) (Nat.le_of_ble_eq_true rfl)
  rw [show (headSpec (.codeWith yL_text cL_text 4 (some .int) [(0, 9, 12, 13)] :: zTb) (zhrm 92 (σ1.2.2 - σ.2.2))).room = zhrm 92 (σ1.2.2 - σ.2.2) from rfl]
  rw [lg_entry_eq]
  generalize (lg_sl ([.ref (adr 15 0), .int x1, .ref (adr 41 0)]) ++ List.replicate (4 - (lg_sl ([.ref (adr 15 0), .int x1, .ref (adr 41 0)])).length) Slot.unset).toArray = ls at hl ⊢
  have hl : lv_has ls 4 [(0, .ref (adr 15 0)), (1, .int x1), (2, .ref (adr 41 0))] := hl
  refine lv_aload_n hx hb dL_text_0 rfl (lv_at hl 2 rfl) ?_
  refine lv_iconst (v := 0) hx hb dL_text_1 (by decide) ?_
  refine lv_aload_n hx hb dL_text_2 rfl (lv_at hl 0 rfl) ?_
  refine lv_iload_n hx hb dL_text_3 rfl (lv_at hl 1 rfl) ?_
  rcases h with ⟨x, M1, hrun, rfl, rfl⟩ | ⟨ex, M1, he3, hz, hrun, rfl, rfl⟩
  · obtain ⟨-, hle1, hM⟩ := zrun_met hAd hJv hNw (j := 92) (by decide) hrun (zva_ok (k := 15) (by decide) [x1]) rfl zhw_text_n
    refine zW_ret hS (zl_v (a := 92) (kd := 15) (as := [zI x1]) hx hb (hml.trans hl.1.symm) hown hts hG hH (by decide) zhw_text_o hM (by decide) zhw_text_l zhw_text_v zhw_text_p (Nat.le_refl _) (zl_lo 92 _) hP hS (Nat.le_of_ble_eq_true rfl) dL_text_4 (Nat.le_of_eq (Nat.zero_add _)) (Nat.le_of_eq (Nat.zero_add _)) rfl) (fun H locs hP hS => ?_)
    refine lv_i2l hx hb dL_text_7 rfl ?_
    refine va_last hx hb hG.1 hP (zwd_D hAd _) hS 414 2 zout_get rfl (vp_in_nI (n := 0) (N := 1) (by decide) (by decide)) dL_text_8 (fun H locs hP _ hS => ?_)
    have hP := zout_P rfl hP
    refine lv_goto (tgt := 15) hx hb dL_text_9 rfl ?_
    refine lv_iconst (v := 0) hx hb dL_text_15 (by decide) ?_
    refine W.widen (k := σ.2.2 - σ.2.2) (n := 6 * (σ.2.2 - σ.2.2)) (Nat.le_of_eq (Nat.zero_add _)) (Nat.le_of_eq (Nat.zero_add _)) ?_
    exact vx_ret (W.iret hx hb hr (fun t ht hW => ⟨rfl, by rw [ht]; exact zl_here hH hP hS⟩) hS.2.2 dL_text_16)
  · obtain ⟨-, hle1, hM⟩ := zrun_met hAd hJv hNw (j := 92) (by decide) hrun (zva_ok (k := 15) (by decide) [x1]) rfl zhw_text_n
    refine zW_cat hS (zl_v (a := 92) (kd := 15) (as := [zI x1]) hx hb (hml.trans hl.1.symm) hown hts hG hH (by decide) zhw_text_o hM (by decide) zhw_text_l zhw_text_v zhw_text_p (Nat.le_refl _) (zl_lo 92 _) hP hS (Nat.le_of_ble_eq_true rfl) dL_text_4 (Nat.le_of_eq (Nat.zero_add _)) (Nat.le_of_eq (Nat.zero_add _)) rfl) (fun q ce H locs hP hS hce hcv hcl => ?_)
    rcases (show ex = 0 ∨ ex = 1 ∨ ex = 2 by omega) with rfl | rfl | rfl
    · exact absurd rfl hz
    · refine vx_catch (own := RL) (name := zxn 1) (E := zxn 1) hown [] ⟨0, 9, 12, 13⟩ [] (htab.trans rfl) (fun z hz => nomatch hz) (by decide) (by decide) (hts _ zhl_13) (va_Nw.use rfl (hG.2.2.2.2.2 (Cond.castable (zxn 1) (zxn 1)) (List.mem_of_getElem? (i := 4) rfl))) hce hcv hcl ?_
      refine lv_astore_n hx hb dL_text_12 rfl hl (by decide) rfl (fun ls hl => ?_)
      refine lv_iconst (v := 1) hx hb dL_text_13 (by decide) ?_
      refine W.widen (k := σ.2.2 + 1 - σ.2.2) (n := 6 * (σ.2.2 + 1 - σ.2.2)) (Nat.le_of_eq (Nat.zero_add _)) (Nat.le_of_eq (Nat.zero_add _)) ?_
      exact vx_ret (W.iret hx hb hr (fun t ht hW => ⟨rfl, by rw [ht]; exact zl_here hH hP hS⟩) hS.2.2 dL_text_14)
    · exact absurd rfl hz
