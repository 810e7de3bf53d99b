/-! the law's helpers -/
theorem zva_ok {k : Nat} (hk : 0 < zcnt k) (xs : List Int32) : ∀ v ∈ (zR k 0 :: xs.map zI : List zAV), zvok v := by
  intro v hv
  rcases List.mem_cons.mp hv with rfl | hv
  · exact Or.inr (Or.inr hk)
  · obtain ⟨x, -, rfl⟩ := List.mem_map.mp hv
    exact trivial
theorem zout_get {g : zIds} {adr : Nat → Nat → Nat} {σ : zSt} : (zwd g adr σ)[414]? = some (adr 41 0, .inl (g.2.2.1, 1, .inr (.inl (fun _ => σ.2.1)))) := zwd_get (k := 41) (i := 0) (by decide) σ
theorem dL_put_0 : decode cL_put 0 = .ok (.aload 4, 2) := by decide +kernel
theorem dL_put_2 : decode cL_put 2 = .ok (.iconst 0, 1) := by decide +kernel
theorem dL_put_3 : decode cL_put 3 = .ok (.aload_n 0, 1) := by decide +kernel
theorem dL_put_4 : decode cL_put 4 = .ok (.iload_n 1, 1) := by decide +kernel
theorem dL_put_5 : decode cL_put 5 = .ok (.iload_n 2, 1) := by decide +kernel
theorem dL_put_6 : decode cL_put 6 = .ok (.iload_n 3, 1) := by decide +kernel
theorem dL_put_7 : decode cL_put 7 = .ok (.invokevirtual 15, 3) := by decide +kernel
theorem dL_put_10 : decode cL_put 10 = .ok (.i2l, 1) := by decide +kernel
theorem dL_put_11 : decode cL_put 11 = .ok (.lastore, 1) := by decide +kernel
theorem dL_put_12 : decode cL_put 12 = .ok (.goto 15, 3) := by decide +kernel
theorem dL_put_15 : decode cL_put 15 = .ok (.astore 5, 2) := by decide +kernel
theorem dL_put_17 : decode cL_put 17 = .ok (.iconst 1, 1) := by decide +kernel
theorem dL_put_18 : decode cL_put 18 = .ok (.ireturn, 1) := by decide +kernel
theorem dL_put_19 : decode cL_put 19 = .ok (.astore 5, 2) := by decide +kernel
theorem dL_put_21 : decode cL_put 21 = .ok (.iconst 2, 1) := by decide +kernel
theorem dL_put_22 : decode cL_put 22 = .ok (.ireturn, 1) := by decide +kernel
theorem dL_put_23 : decode cL_put 23 = .ok (.astore 5, 2) := by decide +kernel
theorem dL_put_25 : decode cL_put 25 = .ok (.iconst 3, 1) := by decide +kernel
theorem dL_put_26 : decode cL_put 26 = .ok (.ireturn, 1) := by decide +kernel
theorem dL_put_27 : decode cL_put 27 = .ok (.iconst 0, 1) := by decide +kernel
theorem dL_put_28 : decode cL_put 28 = .ok (.ireturn, 1) := by decide +kernel
theorem zhw_put_c : Cond.codeWith yL_put cL_put 6 (some .int) [(0, 12, 15, 19), (0, 12, 19, 13), (0, 12, 23, 21)] ∈ zTb := zTb_in (i := 687) (by decide +kernel) rfl
theorem zhw_put_l : Cond.methodLink RL 15 (zy 94) ∈ zTb := zTb_in (i := 690) (by decide +kernel) rfl
theorem zhw_put_o : 10 + zown 94 = 15 := by decide +kernel
theorem zhw_put_v : (match zMW[94]? with
      | some q => !q.1
      | none => false) = true := by decide +kernel
theorem zhw_put_p : (parseMethodDescriptor (zy 94).desc).map (fun d => d.parameters.length) = some 3 := by decide +kernel
theorem zhw_put_n : 4 ≤ (zP 94).2 := by decide +kernel
set_option maxHeartbeats 4000000 in
set_option maxRecDepth 100000 in
theorem zh_put {l : Launch} {D : va_G} {g : zIds} {adr : Nat → Nat → Nat} {H0 : Heap} (hAd : zAd adr H0) (hJv : zJv l D g adr H0) (hNw : zNw l D g adr H0) (x1 x2 x3 : Int32) {σ σ1 : zSt} {k : Int32} (h : zhR 94 [zI x1, zI x2, zI x3] cd3 σ k σ1) : zHm l D g adr H0 94 yL_put cL_put 6 [(0, 12, 15, 19), (0, 12, 19, 13), (0, 12, 23, 21)] [zI x1, zI x2, zI x3] σ k σ1 := by
  refine vx_ofWH (cc := cL_put) (maxL := 6) (ret := some .int) (hh := [(0, 12, 15, 19), (0, 12, 19, 13), (0, 12, 23, 21)]) (by decide) rfl ?_
  intro p e s m args below meth c s₁ B hml hv9
  obtain ⟨⟨hav, hG, hWd⟩, hN⟩ := hv9
  replace hav : args = [.ref (adr 15 0), .int x1, .int x2, .int x3, .ref (adr 41 0)].toArray := hav
  subst hav
  have hx := B.exec
  have hb := B.bytes
  have hr := B.returns
  have hlocks := B.notSynchronized
  have hts0 := atoms_spec (ws := .codeWith yL_put cL_put 6 (some .int) [(0, 12, 15, 19), (0, 12, 19, 13), (0, 12, 23, 21)] :: zTb) B.pre
  have htab : c.exceptionTable.toList = tableOf [(0, 12, 15, 19), (0, 12, 19, 13), (0, 12, 23, 21)] := vx_table (x := yL_put) B (hts0 _ List.mem_cons_self)
  have hts : ∀ w ∈ zTb, w.before [.ref (adr 15 0), .int x1, .int x2, .int x3, .ref (adr 41 0)].toArray s = true := fun w hw => hts0 w (List.mem_cons_of_mem _ hw)
  have hown : s.vm.findClass RL = some m.cls := findClass_of_methodNamed B.named
  have hle := zhR_le h
  have hH := hWd.2
  have hP : va_P D vwCl (zwd g adr σ) s.heap := hWd.1
  have hS : va_S (zA H0) s.heap s.heap [] := va_S.rf
  have hl := lv_entry ([.ref (adr 15 0), .int x1, .int x2, .int x3, .ref (adr 41 0)]) (n := 6) (Nat.le_of_ble_eq_true rfl)
  rw [show (headSpec (.codeWith yL_put cL_put 6 (some .int) [(0, 12, 15, 19), (0, 12, 19, 13), (0, 12, 23, 21)] :: zTb) (zhrm 94 (σ1.2.2 - σ.2.2))).room = zhrm 94 (σ1.2.2 - σ.2.2) from rfl]
  rw [lg_entry_eq]
  generalize (lg_sl ([.ref (adr 15 0), .int x1, .int x2, .int x3, .ref (adr 41 0)]) ++ List.replicate (6 - (lg_sl ([.ref (adr 15 0), .int x1, .int x2, .int x3, .ref (adr 41 0)])).length) Slot.unset).toArray = ls at hl ⊢
  have hl : lv_has ls 6 [(0, .ref (adr 15 0)), (1, .int x1), (2, .int x2), (3, .int x3), (4, .ref (adr 41 0))] := hl
  refine lv_aload hx hb dL_put_0 (lv_at hl 4 rfl) ?_
  refine lv_iconst (v := 0) hx hb dL_put_2 (by decide) ?_
  refine lv_aload_n hx hb dL_put_3 rfl (lv_at hl 0 rfl) ?_
  refine lv_iload_n hx hb dL_put_4 rfl (lv_at hl 1 rfl) ?_
  refine lv_iload_n hx hb dL_put_5 rfl (lv_at hl 2 rfl) ?_
  refine lv_iload_n hx hb dL_put_6 rfl (lv_at hl 3 rfl) ?_
  rcases h with ⟨x, M1, hrun, rfl, rfl⟩ | ⟨ex, M1, he3, hz, hrun, rfl, rfl⟩
  · obtain ⟨-, hle1, hM⟩ := zrun_met hAd hJv hNw (j := 94) (by decide) hrun (zva_ok (k := 15) (by decide) [x1, x2, x3]) rfl zhw_put_n
    refine zW_ret hS (zl_v (a := 94) (kd := 15) (as := [zI x1, zI x2, zI x3]) hx hb (hml.trans hl.1.symm) hown hts hG hH (by decide) zhw_put_o hM (by decide) zhw_put_l zhw_put_v zhw_put_p (Nat.le_refl _) (zl_lo 94 _) hP hS (Nat.le_of_ble_eq_true rfl) dL_put_7 (Nat.le_of_eq (Nat.zero_add _)) (Nat.le_of_eq (Nat.zero_add _)) rfl) (fun H locs hP hS => ?_)
    refine lv_i2l hx hb dL_put_10 rfl ?_
    refine va_last hx hb hG.1 hP (zwd_D hAd _) hS 414 2 zout_get rfl (vp_in_nI (n := 0) (N := 1) (by decide) (by decide)) dL_put_11 (fun H locs hP _ hS => ?_)
    have hP := zout_P rfl hP
    refine lv_goto (tgt := 27) hx hb dL_put_12 rfl ?_
    refine lv_iconst (v := 0) hx hb dL_put_27 (by decide) ?_
    refine W.widen (k := σ.2.2 - σ.2.2) (n := 6 * (σ.2.2 - σ.2.2)) (Nat.le_of_eq (Nat.zero_add _)) (Nat.le_of_eq (Nat.zero_add _)) ?_
    exact vx_ret (W.iret hx hb hr (fun t ht hW => ⟨rfl, by rw [ht]; exact zl_here hH hP hS⟩) hS.2.2 dL_put_28)
  · obtain ⟨-, hle1, hM⟩ := zrun_met hAd hJv hNw (j := 94) (by decide) hrun (zva_ok (k := 15) (by decide) [x1, x2, x3]) rfl zhw_put_n
    refine zW_cat hS (zl_v (a := 94) (kd := 15) (as := [zI x1, zI x2, zI x3]) hx hb (hml.trans hl.1.symm) hown hts hG hH (by decide) zhw_put_o hM (by decide) zhw_put_l zhw_put_v zhw_put_p (Nat.le_refl _) (zl_lo 94 _) hP hS (Nat.le_of_ble_eq_true rfl) dL_put_7 (Nat.le_of_eq (Nat.zero_add _)) (Nat.le_of_eq (Nat.zero_add _)) rfl) (fun q ce H locs hP hS hce hcv hcl => ?_)
    rcases (show ex = 0 ∨ ex = 1 ∨ ex = 2 by omega) with rfl | rfl | rfl
    · refine vx_catch (own := RL) (name := zxn 0) (E := zxn 0) hown [] ⟨0, 12, 15, 19⟩ [⟨0, 12, 19, 13⟩, ⟨0, 12, 23, 21⟩] (htab.trans rfl) (fun z hz => nomatch hz) (by decide) (by decide) (hts _ zhl_19) (va_Nw.use rfl (hG.2.2.2.2.2 (Cond.castable (zxn 0) (zxn 0)) (List.mem_of_getElem? (i := 3) rfl))) hce hcv hcl ?_
      refine lv_astore hx hb dL_put_15 hl (by decide) rfl (fun ls hl => ?_)
      refine lv_iconst (v := 1) hx hb dL_put_17 (by decide) ?_
      refine W.widen (k := σ.2.2 + 1 - σ.2.2) (n := 6 * (σ.2.2 + 1 - σ.2.2)) (Nat.le_of_eq (Nat.zero_add _)) (Nat.le_of_eq (Nat.zero_add _)) ?_
      exact vx_ret (W.iret hx hb hr (fun t ht hW => ⟨rfl, by rw [ht]; exact zl_here hH hP hS⟩) hS.2.2 dL_put_18)
    · refine vx_catch (own := RL) (name := zxn 1) (E := zxn 1) hown [⟨0, 12, 15, 19⟩] ⟨0, 12, 19, 13⟩ [⟨0, 12, 23, 21⟩] (htab.trans rfl) (fun z hz => by simp only [List.mem_cons, List.not_mem_nil, or_false] at hz; rcases hz with rfl <;> first | exact Or.inr ⟨by decide, zxn 0, hts _ zhl_19, hN.1⟩) (by decide) (by decide) (hts _ zhl_13) (va_Nw.use rfl (hG.2.2.2.2.2 (Cond.castable (zxn 1) (zxn 1)) (List.mem_of_getElem? (i := 4) rfl))) hce hcv hcl ?_
      refine lv_astore hx hb dL_put_19 hl (by decide) rfl (fun ls hl => ?_)
      refine lv_iconst (v := 2) hx hb dL_put_21 (by decide) ?_
      refine W.widen (k := σ.2.2 + 1 - σ.2.2) (n := 6 * (σ.2.2 + 1 - σ.2.2)) (Nat.le_of_eq (Nat.zero_add _)) (Nat.le_of_eq (Nat.zero_add _)) ?_
      exact vx_ret (W.iret hx hb hr (fun t ht hW => ⟨rfl, by rw [ht]; exact zl_here hH hP hS⟩) hS.2.2 dL_put_22)
    · refine vx_catch (own := RL) (name := zxn 2) (E := zxn 2) hown [⟨0, 12, 15, 19⟩, ⟨0, 12, 19, 13⟩] ⟨0, 12, 23, 21⟩ [] (htab.trans rfl) (fun z hz => by simp only [List.mem_cons, List.not_mem_nil, or_false] at hz; rcases hz with rfl | rfl <;> first | exact Or.inr ⟨by decide, zxn 0, hts _ zhl_19, hN.2.1⟩ | exact Or.inr ⟨by decide, zxn 1, hts _ zhl_13, hN.2.2⟩) (by decide) (by decide) (hts _ zhl_21) (va_Nw.use rfl (hG.2.2.2.2.2 (Cond.castable (zxn 2) (zxn 2)) (List.mem_of_getElem? (i := 5) rfl))) hce hcv hcl ?_
      refine lv_astore hx hb dL_put_23 hl (by decide) rfl (fun ls hl => ?_)
      refine lv_iconst (v := 3) hx hb dL_put_25 (by decide) ?_
      refine W.widen (k := σ.2.2 + 1 - σ.2.2) (n := 6 * (σ.2.2 + 1 - σ.2.2)) (Nat.le_of_eq (Nat.zero_add _)) (Nat.le_of_eq (Nat.zero_add _)) ?_
      exact vx_ret (W.iret hx hb hr (fun t ht hW => ⟨rfl, by rw [ht]; exact zl_here hH hP hS⟩) hS.2.2 dL_put_26)
