section ZKC
variable {p : Program} {l : Launch} {e : Env} {s : State} {m : MethodId} {below : List Frame} {meth : Method} {c : Code} {H : Heap} {locs : List Loc} {Q : State → Prop} {ls : Array Slot} {D : va_G} {g : zIds} {adr : Nat → Nat → Nat} {bS L : Nat} {xs : Nat → Int32}
theorem zkw_X6_move_l : Cond.methodLink RL 136 (zy 205) ∈ zTb := zTb_in (i := 1460) (by decide +kernel) rfl
theorem zkw_X6_move_o : 10 + zown 205 = 16 := by decide +kernel
theorem zkw_X6_move_v : (match zMW[205]? with
      | some q => !q.1
      | none => false) = true := by decide +kernel
theorem zkw_X6_move_p : (parseMethodDescriptor (zy 205).desc).map (fun d => d.parameters.length) = some 3 := by decide +kernel
theorem zkw_X6_move_n : 4 ≤ (zP 205).2 := by decide +kernel
theorem zkw_X6_move_f : zfr 205 + 1 ≤ 14 := by decide +kernel
theorem zkw_X6_move_r : 8 + ((zP 205).2 + 11) + zlo 205 ≤ 526 := by decide +kernel
theorem zkh_move_l : Cond.methodLink RL 134 yL_move ∈ zTb := zTb_in (i := 840) (by decide +kernel) rfl
theorem zkh_move_s : Cond.static yL_move ∈ zTb := zTb_in (i := 841) (by decide +kernel) rfl
theorem zkh_move_p : (parseMethodDescriptor yL_move.desc).map (fun d => d.parameters.length) = some (3 + 2) := by decide +kernel
theorem zkh_move_f : zfr 99 + 1 + 1 ≤ 14 := by decide +kernel
theorem zkh_move_r : 8 + (6 + 11) + (19 + (zP 99).2 + zlo 99) ≤ 526 := by decide +kernel
set_option maxHeartbeats 4000000 in
set_option maxRecDepth 100000 in
theorem zkc_8 (C : zLC D g adr p s m meth c bS L xs) (hAd : zAd adr s.heap) (hJv : zJv l D g adr s.heap) (hNw : zNw l D g adr s.heap) {t : Nat} (ht : 6 * t + 6 ≤ L) {M : zMem} {ρ : Int64 × Nat} (hR : zRel M) (hl : lv_has ls 7 (zLl adr bS (6 * t))) (hP : va_P D vwCl (zwd g adr (M, ρ)) H) (hS : va_S (zA s.heap) s.heap H locs) (hn : ρ.2 ≤ t) (kk : zKo p l e s m below meth c Q D g adr bS t) : W p l e room_1 s m #[Value.ref bS] below meth c H locs (415 + ρ.2) (38178 + 6 * ρ.2) Q (F0 m 686 ls []) := by
  have C0 := C
  obtain ⟨hx, hb, hml, hown, hts, hG, hN, hX, hbl, hL⟩ := C0
  have hH : s.heap.size ≤ s.heap.size ∧ ∀ q : Nat, q < s.heap.size → s.heap[q]? = s.heap[q]? := ⟨Nat.le_refl _, fun _ _ => rfl⟩
  have hmz := hml.trans hl.1.symm
  obtain ⟨k, M1, ρ1, x2, M2, hh, hm, ht0, ho, hR2, hn1, hn2⟩ := zag_use (a_move hR (xs (6 * t + 1)) (xs (6 * t + 2)) (xs (6 * t + 3))) ρ
  refine lv_aload_n hx hb dL_law_686 rfl (lv_at hl 3 rfl) ?_
  refine zl_arg C 1 (lv_at hl 4 rfl) (lv_at hl 0 rfl) (by omega) hS rfl dL_law_687 dL_law_688 dL_law_690 dL_law_691 dL_law_692 ?_
  refine zl_arg C 2 (lv_at hl 4 rfl) (lv_at hl 0 rfl) (by omega) hS rfl dL_law_693 dL_law_694 dL_law_696 dL_law_697 dL_law_698 ?_
  refine zl_arg C 3 (lv_at hl 4 rfl) (lv_at hl 0 rfl) (by omega) hS rfl dL_law_699 dL_law_700 dL_law_702 dL_law_703 dL_law_704 ?_
  refine lv_aload_n hx hb dL_law_705 rfl (lv_at hl 1 rfl) ?_
  refine zW_ret hS (zl_help (rest := []) hx hb hmz hown hts hG hN hH (zh_move hAd hJv hNw (xs (6 * t + 1)) (xs (6 * t + 2)) (xs (6 * t + 3)) hh) rfl zkh_move_l zkh_move_s zhw_move_c zkh_move_p zkh_move_f zkh_move_r hP hS (Nat.le_of_ble_eq_true rfl) dL_law_706 (by show 415 + ρ.2 + (ρ1.2 - ρ.2) ≤ 601024; omega) (by show 38178 + 6 * ρ.2 + 6 * (ρ1.2 - ρ.2) ≤ 7293034; omega) rfl) (fun H locs hP hS => ?_)
  refine W.widen (k := 415 + ρ1.2) (n := 38178 + 6 * ρ1.2) (by show 415 + ρ.2 + (ρ1.2 - ρ.2) ≤ _; omega) (by show 38178 + 6 * ρ.2 + 6 * (ρ1.2 - ρ.2) ≤ _; omega) ?_
  refine lv_istore hx hb dL_law_709 hl (by decide) rfl (fun ls hl => ?_)
  have hmz := hml.trans hl.1.symm
  refine lv_aload_n hx hb dL_law_711 rfl (lv_at hl 3 rfl) ?_
  refine zl_arg C 1 (lv_at hl 5 rfl) (lv_at hl 1 rfl) (by omega) hS rfl dL_law_712 dL_law_713 dL_law_715 dL_law_716 dL_law_717 ?_
  refine zl_arg C 2 (lv_at hl 5 rfl) (lv_at hl 1 rfl) (by omega) hS rfl dL_law_718 dL_law_719 dL_law_721 dL_law_722 dL_law_723 ?_
  refine zl_arg C 3 (lv_at hl 5 rfl) (lv_at hl 1 rfl) (by omega) hS rfl dL_law_724 dL_law_725 dL_law_727 dL_law_728 dL_law_729 ?_
  obtain ⟨-, -, hM⟩ := zrun_met hAd hJv hNw (j := 205) (by decide) hm (zva_ok (k := 16) (by decide) [(xs (6 * t + 1)), (xs (6 * t + 2)), (xs (6 * t + 3))]) rfl zkw_X6_move_n
  refine zW_ret hS (zl_v (a := 205) (kd := 16) (as := [zI (xs (6 * t + 1)), zI (xs (6 * t + 2)), zI (xs (6 * t + 3))]) (rest := []) hx hb hmz hown hts hG hH (by decide) zkw_X6_move_o hM (by decide) zkw_X6_move_l zkw_X6_move_v zkw_X6_move_p zkw_X6_move_f zkw_X6_move_r hP hS (Nat.le_of_ble_eq_true rfl) dL_law_730 (by show 415 + ρ1.2 + (ρ1.2 - ρ1.2) ≤ 601024; omega) (by show 38178 + 6 * ρ1.2 + 6 * (ρ1.2 - ρ1.2) ≤ 7293034; omega) rfl) (fun H locs hP hS => ?_)
  refine W.widen (k := 415 + ρ1.2) (n := 38178 + 6 * ρ1.2) (by show 415 + ρ1.2 + (ρ1.2 - ρ1.2) ≤ _; omega) (by show 38178 + 6 * ρ1.2 + 6 * (ρ1.2 - ρ1.2) ≤ _; omega) ?_
  refine lv_istore hx hb dL_law_733 hl (by decide) rfl (fun ls hl => ?_)
  have hmz := hml.trans hl.1.symm
  refine lv_aload_n hx hb dL_law_735 rfl (lv_at hl 4 rfl) ?_
  clear hM
  obtain ⟨-, -, hM⟩ := zrun_met hAd hJv hNw (j := 135) (by decide) (e_X6_thrown 0 (M2, ρ1)) (zva_ok (k := 16) (by decide) []) rfl zkw_X6_thrown_n
  refine zW_ret hS (zl_v (a := 135) (kd := 16) (as := []) (rest := []) hx hb hmz hown hts hG hH (by decide) zkw_X6_thrown_o hM (by decide) zkw_X6_thrown_l zkw_X6_thrown_v zkw_X6_thrown_p zkw_X6_thrown_f zkw_X6_thrown_r hP hS (Nat.le_of_ble_eq_true rfl) dL_law_736 (by show 415 + ρ1.2 + (ρ1.2 - ρ1.2) ≤ 601024; omega) (by show 38178 + 6 * ρ1.2 + 6 * (ρ1.2 - ρ1.2) ≤ 7293034; omega) rfl) (fun H locs hP hS => ?_)
  refine W.widen (k := 415 + ρ1.2) (n := 38178 + 6 * ρ1.2) (by show 415 + ρ1.2 + (ρ1.2 - ρ1.2) ≤ _; omega) (by show 38178 + 6 * ρ1.2 + 6 * (ρ1.2 - ρ1.2) ≤ _; omega) ?_
  refine lv_iload hx hb dL_law_739 (lv_at hl 1 rfl) ?_
  refine lv_icmp_eq (tgt := 746) hx hb dL_law_741 rfl (fun _ => ?_) (fun q => absurd ht0 q)
  refine lv_iload hx hb dL_law_746 (lv_at hl 1 rfl) ?_
  have fin : W p l e room_1 s m #[Value.ref bS] below meth c H locs (415 + ρ1.2) (38178 + 6 * ρ1.2) Q (F0 m 763 ls []) := lv_goto (tgt := 2175) hx hb dL_law_763 rfl (kk M2 ρ1 _ _ ls hR2 (by omega) (lv_sub hl [2, 3, 4, 5, 6] rfl) hP hS)
  refine lv_if_ne (tgt := 763) hx hb dL_law_748 rfl (fun _ => fin) (fun hk => ?_)
  refine lv_aload_n hx hb dL_law_751 rfl (lv_at hl 3 rfl) ?_
  refine lv_iconst (v := 0) hx hb dL_law_752 (by decide) ?_
  refine va_lald hx hb hG.1 hP 414 2 zout_get rfl (vp_in_nI (n := 0) (N := 1) (by decide) (by decide)) dL_law_753 ?_
  refine lv_iload hx hb dL_law_754 (lv_at hl 0 rfl) ?_
  refine lv_i2l hx hb dL_law_756 rfl ?_
  refine W.lcmp hx hb dL_law_757 ?_
  exact lv_if_eq (tgt := 763) hx hb dL_law_758 rfl (fun _ => fin) (fun q => absurd (by rw [← ho hk]; exact lg_cmp_self _) q)
theorem zkw_X6_silence_l : Cond.methodLink RL 139 (zy 208) ∈ zTb := zTb_in (i := 1496) (by decide +kernel) rfl
theorem zkw_X6_silence_o : 10 + zown 208 = 16 := by decide +kernel
theorem zkw_X6_silence_v : (match zMW[208]? with
      | some q => !q.1
      | none => false) = true := by decide +kernel
theorem zkw_X6_silence_p : (parseMethodDescriptor (zy 208).desc).map (fun d => d.parameters.length) = some 2 := by decide +kernel
theorem zkw_X6_silence_n : 3 ≤ (zP 208).2 := by decide +kernel
theorem zkw_X6_silence_f : zfr 208 + 1 ≤ 14 := by decide +kernel
theorem zkw_X6_silence_r : 8 + ((zP 208).2 + 11) + zlo 208 ≤ 526 := by decide +kernel
theorem zkh_silence_l : Cond.methodLink RL 137 yL_silence ∈ zTb := zTb_in (i := 882) (by decide +kernel) rfl
theorem zkh_silence_s : Cond.static yL_silence ∈ zTb := zTb_in (i := 883) (by decide +kernel) rfl
theorem zkh_silence_p : (parseMethodDescriptor yL_silence.desc).map (fun d => d.parameters.length) = some (2 + 2) := by decide +kernel
theorem zkh_silence_f : zfr 100 + 1 + 1 ≤ 14 := by decide +kernel
theorem zkh_silence_r : 8 + (5 + 11) + (19 + (zP 100).2 + zlo 100) ≤ 526 := by decide +kernel
set_option maxHeartbeats 4000000 in
set_option maxRecDepth 100000 in
theorem zkc_9 (C : zLC D g adr p s m meth c bS L xs) (hAd : zAd adr s.heap) (hJv : zJv l D g adr s.heap) (hNw : zNw l D g adr s.heap) {t : Nat} (ht : 6 * t + 6 ≤ L) {M : zMem} {ρ : Int64 × Nat} (hR : zRel M) (hl : lv_has ls 7 (zLl adr bS (6 * t))) (hP : va_P D vwCl (zwd g adr (M, ρ)) H) (hS : va_S (zA s.heap) s.heap H locs) (hn : ρ.2 ≤ t) (kk : zKo p l e s m below meth c Q D g adr bS t) : W p l e room_1 s m #[Value.ref bS] below meth c H locs (415 + ρ.2) (38178 + 6 * ρ.2) Q (F0 m 766 ls []) := by
  have C0 := C
  obtain ⟨hx, hb, hml, hown, hts, hG, hN, hX, hbl, hL⟩ := C0
  have hH : s.heap.size ≤ s.heap.size ∧ ∀ q : Nat, q < s.heap.size → s.heap[q]? = s.heap[q]? := ⟨Nat.le_refl _, fun _ _ => rfl⟩
  have hmz := hml.trans hl.1.symm
  obtain ⟨k, M1, ρ1, x2, M2, hh, hm, ht0, ho, hR2, hn1, hn2⟩ := zag_use (a_silence hR (xs (6 * t + 1)) (xs (6 * t + 2))) ρ
  refine lv_aload_n hx hb dL_law_766 rfl (lv_at hl 3 rfl) ?_
  refine zl_arg C 1 (lv_at hl 4 rfl) (lv_at hl 0 rfl) (by omega) hS rfl dL_law_767 dL_law_768 dL_law_770 dL_law_771 dL_law_772 ?_
  refine zl_arg C 2 (lv_at hl 4 rfl) (lv_at hl 0 rfl) (by omega) hS rfl dL_law_773 dL_law_774 dL_law_776 dL_law_777 dL_law_778 ?_
  refine lv_aload_n hx hb dL_law_779 rfl (lv_at hl 1 rfl) ?_
  refine zW_ret hS (zl_help (rest := []) hx hb hmz hown hts hG hN hH (zh_silence hAd hJv hNw (xs (6 * t + 1)) (xs (6 * t + 2)) hh) rfl zkh_silence_l zkh_silence_s zhw_silence_c zkh_silence_p zkh_silence_f zkh_silence_r hP hS (Nat.le_of_ble_eq_true rfl) dL_law_780 (by show 415 + ρ.2 + (ρ1.2 - ρ.2) ≤ 601024; omega) (by show 38178 + 6 * ρ.2 + 6 * (ρ1.2 - ρ.2) ≤ 7293034; omega) rfl) (fun H locs hP hS => ?_)
  refine W.widen (k := 415 + ρ1.2) (n := 38178 + 6 * ρ1.2) (by show 415 + ρ.2 + (ρ1.2 - ρ.2) ≤ _; omega) (by show 38178 + 6 * ρ.2 + 6 * (ρ1.2 - ρ.2) ≤ _; omega) ?_
  refine lv_istore hx hb dL_law_783 hl (by decide) rfl (fun ls hl => ?_)
  have hmz := hml.trans hl.1.symm
  refine lv_aload_n hx hb dL_law_785 rfl (lv_at hl 3 rfl) ?_
  refine zl_arg C 1 (lv_at hl 5 rfl) (lv_at hl 1 rfl) (by omega) hS rfl dL_law_786 dL_law_787 dL_law_789 dL_law_790 dL_law_791 ?_
  refine zl_arg C 2 (lv_at hl 5 rfl) (lv_at hl 1 rfl) (by omega) hS rfl dL_law_792 dL_law_793 dL_law_795 dL_law_796 dL_law_797 ?_
  obtain ⟨-, -, hM⟩ := zrun_met hAd hJv hNw (j := 208) (by decide) hm (zva_ok (k := 16) (by decide) [(xs (6 * t + 1)), (xs (6 * t + 2))]) rfl zkw_X6_silence_n
  refine zW_ret hS (zl_v (a := 208) (kd := 16) (as := [zI (xs (6 * t + 1)), zI (xs (6 * t + 2))]) (rest := []) hx hb hmz hown hts hG hH (by decide) zkw_X6_silence_o hM (by decide) zkw_X6_silence_l zkw_X6_silence_v zkw_X6_silence_p zkw_X6_silence_f zkw_X6_silence_r hP hS (Nat.le_of_ble_eq_true rfl) dL_law_798 (by show 415 + ρ1.2 + (ρ1.2 - ρ1.2) ≤ 601024; omega) (by show 38178 + 6 * ρ1.2 + 6 * (ρ1.2 - ρ1.2) ≤ 7293034; omega) rfl) (fun H locs hP hS => ?_)
  refine W.widen (k := 415 + ρ1.2) (n := 38178 + 6 * ρ1.2) (by show 415 + ρ1.2 + (ρ1.2 - ρ1.2) ≤ _; omega) (by show 38178 + 6 * ρ1.2 + 6 * (ρ1.2 - ρ1.2) ≤ _; omega) ?_
  refine lv_istore hx hb dL_law_801 hl (by decide) rfl (fun ls hl => ?_)
  have hmz := hml.trans hl.1.symm
  refine lv_aload_n hx hb dL_law_803 rfl (lv_at hl 4 rfl) ?_
  clear hM
  obtain ⟨-, -, hM⟩ := zrun_met hAd hJv hNw (j := 135) (by decide) (e_X6_thrown 0 (M2, ρ1)) (zva_ok (k := 16) (by decide) []) rfl zkw_X6_thrown_n
  refine zW_ret hS (zl_v (a := 135) (kd := 16) (as := []) (rest := []) hx hb hmz hown hts hG hH (by decide) zkw_X6_thrown_o hM (by decide) zkw_X6_thrown_l zkw_X6_thrown_v zkw_X6_thrown_p zkw_X6_thrown_f zkw_X6_thrown_r hP hS (Nat.le_of_ble_eq_true rfl) dL_law_804 (by show 415 + ρ1.2 + (ρ1.2 - ρ1.2) ≤ 601024; omega) (by show 38178 + 6 * ρ1.2 + 6 * (ρ1.2 - ρ1.2) ≤ 7293034; omega) rfl) (fun H locs hP hS => ?_)
  refine W.widen (k := 415 + ρ1.2) (n := 38178 + 6 * ρ1.2) (by show 415 + ρ1.2 + (ρ1.2 - ρ1.2) ≤ _; omega) (by show 38178 + 6 * ρ1.2 + 6 * (ρ1.2 - ρ1.2) ≤ _; omega) ?_
  refine lv_iload hx hb dL_law_807 (lv_at hl 1 rfl) ?_
  refine lv_icmp_eq (tgt := 814) hx hb dL_law_809 rfl (fun _ => ?_) (fun q => absurd ht0 q)
  refine lv_iload hx hb dL_law_814 (lv_at hl 1 rfl) ?_
  have fin : W p l e room_1 s m #[Value.ref bS] below meth c H locs (415 + ρ1.2) (38178 + 6 * ρ1.2) Q (F0 m 831 ls []) := lv_goto (tgt := 2175) hx hb dL_law_831 rfl (kk M2 ρ1 _ _ ls hR2 (by omega) (lv_sub hl [2, 3, 4, 5, 6] rfl) hP hS)
  refine lv_if_ne (tgt := 831) hx hb dL_law_816 rfl (fun _ => fin) (fun hk => ?_)
  refine lv_aload_n hx hb dL_law_819 rfl (lv_at hl 3 rfl) ?_
  refine lv_iconst (v := 0) hx hb dL_law_820 (by decide) ?_
  refine va_lald hx hb hG.1 hP 414 2 zout_get rfl (vp_in_nI (n := 0) (N := 1) (by decide) (by decide)) dL_law_821 ?_
  refine lv_iload hx hb dL_law_822 (lv_at hl 0 rfl) ?_
  refine lv_i2l hx hb dL_law_824 rfl ?_
  refine W.lcmp hx hb dL_law_825 ?_
  exact lv_if_eq (tgt := 831) hx hb dL_law_826 rfl (fun _ => fin) (fun q => absurd (by rw [← ho hk]; exact lg_cmp_self _) q)
theorem zkw_X6_label_l : Cond.methodLink RL 142 (zy 210) ∈ zTb := zTb_in (i := 1509) (by decide +kernel) rfl
theorem zkw_X6_label_o : 10 + zown 210 = 16 := by decide +kernel
theorem zkw_X6_label_v : (match zMW[210]? with
      | some q => !q.1
      | none => false) = true := by decide +kernel
theorem zkw_X6_label_p : (parseMethodDescriptor (zy 210).desc).map (fun d => d.parameters.length) = some 3 := by decide +kernel
theorem zkw_X6_label_n : 4 ≤ (zP 210).2 := by decide +kernel
theorem zkw_X6_label_f : zfr 210 + 1 ≤ 14 := by decide +kernel
theorem zkw_X6_label_r : 8 + ((zP 210).2 + 11) + zlo 210 ≤ 526 := by decide +kernel
theorem zkh_label_l : Cond.methodLink RL 140 yL_label ∈ zTb := zTb_in (i := 926) (by decide +kernel) rfl
theorem zkh_label_s : Cond.static yL_label ∈ zTb := zTb_in (i := 927) (by decide +kernel) rfl
theorem zkh_label_p : (parseMethodDescriptor yL_label.desc).map (fun d => d.parameters.length) = some (3 + 2) := by decide +kernel
theorem zkh_label_f : zfr 101 + 1 + 1 ≤ 14 := by decide +kernel
theorem zkh_label_r : 8 + (6 + 11) + (19 + (zP 101).2 + zlo 101) ≤ 526 := by decide +kernel
set_option maxHeartbeats 4000000 in
set_option maxRecDepth 100000 in
theorem zkc_10 (C : zLC D g adr p s m meth c bS L xs) (hAd : zAd adr s.heap) (hJv : zJv l D g adr s.heap) (hNw : zNw l D g adr s.heap) {t : Nat} (ht : 6 * t + 6 ≤ L) {M : zMem} {ρ : Int64 × Nat} (hR : zRel M) (hl : lv_has ls 7 (zLl adr bS (6 * t))) (hP : va_P D vwCl (zwd g adr (M, ρ)) H) (hS : va_S (zA s.heap) s.heap H locs) (hn : ρ.2 ≤ t) (kk : zKo p l e s m below meth c Q D g adr bS t) : W p l e room_1 s m #[Value.ref bS] below meth c H locs (415 + ρ.2) (38178 + 6 * ρ.2) Q (F0 m 834 ls []) := by
  have C0 := C
  obtain ⟨hx, hb, hml, hown, hts, hG, hN, hX, hbl, hL⟩ := C0
  have hH : s.heap.size ≤ s.heap.size ∧ ∀ q : Nat, q < s.heap.size → s.heap[q]? = s.heap[q]? := ⟨Nat.le_refl _, fun _ _ => rfl⟩
  have hmz := hml.trans hl.1.symm
  obtain ⟨k, M1, ρ1, x2, M2, hh, hm, ht0, ho, hR2, hn1, hn2⟩ := zag_use (a_label hR (xs (6 * t + 1)) (xs (6 * t + 2)) (xs (6 * t + 3))) ρ
  refine lv_aload_n hx hb dL_law_834 rfl (lv_at hl 3 rfl) ?_
  refine zl_arg C 1 (lv_at hl 4 rfl) (lv_at hl 0 rfl) (by omega) hS rfl dL_law_835 dL_law_836 dL_law_838 dL_law_839 dL_law_840 ?_
  refine zl_arg C 2 (lv_at hl 4 rfl) (lv_at hl 0 rfl) (by omega) hS rfl dL_law_841 dL_law_842 dL_law_844 dL_law_845 dL_law_846 ?_
  refine zl_arg C 3 (lv_at hl 4 rfl) (lv_at hl 0 rfl) (by omega) hS rfl dL_law_847 dL_law_848 dL_law_850 dL_law_851 dL_law_852 ?_
  refine lv_aload_n hx hb dL_law_853 rfl (lv_at hl 1 rfl) ?_
  refine zW_ret hS (zl_help (rest := []) hx hb hmz hown hts hG hN hH (zh_label hAd hJv hNw (xs (6 * t + 1)) (xs (6 * t + 2)) (xs (6 * t + 3)) hh) rfl zkh_label_l zkh_label_s zhw_label_c zkh_label_p zkh_label_f zkh_label_r hP hS (Nat.le_of_ble_eq_true rfl) dL_law_854 (by show 415 + ρ.2 + (ρ1.2 - ρ.2) ≤ 601024; omega) (by show 38178 + 6 * ρ.2 + 6 * (ρ1.2 - ρ.2) ≤ 7293034; omega) rfl) (fun H locs hP hS => ?_)
  refine W.widen (k := 415 + ρ1.2) (n := 38178 + 6 * ρ1.2) (by show 415 + ρ.2 + (ρ1.2 - ρ.2) ≤ _; omega) (by show 38178 + 6 * ρ.2 + 6 * (ρ1.2 - ρ.2) ≤ _; omega) ?_
  refine lv_istore hx hb dL_law_857 hl (by decide) rfl (fun ls hl => ?_)
  have hmz := hml.trans hl.1.symm
  refine lv_aload_n hx hb dL_law_859 rfl (lv_at hl 3 rfl) ?_
  refine zl_arg C 1 (lv_at hl 5 rfl) (lv_at hl 1 rfl) (by omega) hS rfl dL_law_860 dL_law_861 dL_law_863 dL_law_864 dL_law_865 ?_
  refine zl_arg C 2 (lv_at hl 5 rfl) (lv_at hl 1 rfl) (by omega) hS rfl dL_law_866 dL_law_867 dL_law_869 dL_law_870 dL_law_871 ?_
  refine zl_arg C 3 (lv_at hl 5 rfl) (lv_at hl 1 rfl) (by omega) hS rfl dL_law_872 dL_law_873 dL_law_875 dL_law_876 dL_law_877 ?_
  obtain ⟨-, -, hM⟩ := zrun_met hAd hJv hNw (j := 210) (by decide) hm (zva_ok (k := 16) (by decide) [(xs (6 * t + 1)), (xs (6 * t + 2)), (xs (6 * t + 3))]) rfl zkw_X6_label_n
  refine zW_ret hS (zl_v (a := 210) (kd := 16) (as := [zI (xs (6 * t + 1)), zI (xs (6 * t + 2)), zI (xs (6 * t + 3))]) (rest := []) hx hb hmz hown hts hG hH (by decide) zkw_X6_label_o hM (by decide) zkw_X6_label_l zkw_X6_label_v zkw_X6_label_p zkw_X6_label_f zkw_X6_label_r hP hS (Nat.le_of_ble_eq_true rfl) dL_law_878 (by show 415 + ρ1.2 + (ρ1.2 - ρ1.2) ≤ 601024; omega) (by show 38178 + 6 * ρ1.2 + 6 * (ρ1.2 - ρ1.2) ≤ 7293034; omega) rfl) (fun H locs hP hS => ?_)
  refine W.widen (k := 415 + ρ1.2) (n := 38178 + 6 * ρ1.2) (by show 415 + ρ1.2 + (ρ1.2 - ρ1.2) ≤ _; omega) (by show 38178 + 6 * ρ1.2 + 6 * (ρ1.2 - ρ1.2) ≤ _; omega) ?_
  refine lv_istore hx hb dL_law_881 hl (by decide) rfl (fun ls hl => ?_)
  have hmz := hml.trans hl.1.symm
  refine lv_aload_n hx hb dL_law_883 rfl (lv_at hl 4 rfl) ?_
  clear hM
  obtain ⟨-, -, hM⟩ := zrun_met hAd hJv hNw (j := 135) (by decide) (e_X6_thrown 0 (M2, ρ1)) (zva_ok (k := 16) (by decide) []) rfl zkw_X6_thrown_n
  refine zW_ret hS (zl_v (a := 135) (kd := 16) (as := []) (rest := []) hx hb hmz hown hts hG hH (by decide) zkw_X6_thrown_o hM (by decide) zkw_X6_thrown_l zkw_X6_thrown_v zkw_X6_thrown_p zkw_X6_thrown_f zkw_X6_thrown_r hP hS (Nat.le_of_ble_eq_true rfl) dL_law_884 (by show 415 + ρ1.2 + (ρ1.2 - ρ1.2) ≤ 601024; omega) (by show 38178 + 6 * ρ1.2 + 6 * (ρ1.2 - ρ1.2) ≤ 7293034; omega) rfl) (fun H locs hP hS => ?_)
  refine W.widen (k := 415 + ρ1.2) (n := 38178 + 6 * ρ1.2) (by show 415 + ρ1.2 + (ρ1.2 - ρ1.2) ≤ _; omega) (by show 38178 + 6 * ρ1.2 + 6 * (ρ1.2 - ρ1.2) ≤ _; omega) ?_
  refine lv_iload hx hb dL_law_887 (lv_at hl 1 rfl) ?_
  refine lv_icmp_eq (tgt := 894) hx hb dL_law_889 rfl (fun _ => ?_) (fun q => absurd ht0 q)
  refine lv_iload hx hb dL_law_894 (lv_at hl 1 rfl) ?_
  have fin : W p l e room_1 s m #[Value.ref bS] below meth c H locs (415 + ρ1.2) (38178 + 6 * ρ1.2) Q (F0 m 911 ls []) := lv_goto (tgt := 2175) hx hb dL_law_911 rfl (kk M2 ρ1 _ _ ls hR2 (by omega) (lv_sub hl [2, 3, 4, 5, 6] rfl) hP hS)
  refine lv_if_ne (tgt := 911) hx hb dL_law_896 rfl (fun _ => fin) (fun hk => ?_)
  refine lv_aload_n hx hb dL_law_899 rfl (lv_at hl 3 rfl) ?_
  refine lv_iconst (v := 0) hx hb dL_law_900 (by decide) ?_
  refine va_lald hx hb hG.1 hP 414 2 zout_get rfl (vp_in_nI (n := 0) (N := 1) (by decide) (by decide)) dL_law_901 ?_
  refine lv_iload hx hb dL_law_902 (lv_at hl 0 rfl) ?_
  refine lv_i2l hx hb dL_law_904 rfl ?_
  refine W.lcmp hx hb dL_law_905 ?_
  exact lv_if_eq (tgt := 911) hx hb dL_law_906 rfl (fun _ => fin) (fun q => absurd (by rw [← ho hk]; exact lg_cmp_self _) q)
theorem zkw_X6_adopt_l : Cond.methodLink RL 145 (zy 211) ∈ zTb := zTb_in (i := 1516) (by decide +kernel) rfl
theorem zkw_X6_adopt_o : 10 + zown 211 = 16 := by decide +kernel
theorem zkw_X6_adopt_v : (match zMW[211]? with
      | some q => !q.1
      | none => false) = true := by decide +kernel
theorem zkw_X6_adopt_p : (parseMethodDescriptor (zy 211).desc).map (fun d => d.parameters.length) = some 1 := by decide +kernel
theorem zkw_X6_adopt_n : 2 ≤ (zP 211).2 := by decide +kernel
theorem zkw_X6_adopt_f : zfr 211 + 1 ≤ 14 := by decide +kernel
theorem zkw_X6_adopt_r : 8 + ((zP 211).2 + 11) + zlo 211 ≤ 526 := by decide +kernel
theorem zkh_adopt_l : Cond.methodLink RL 143 yL_adopt ∈ zTb := zTb_in (i := 937) (by decide +kernel) rfl
theorem zkh_adopt_s : Cond.static yL_adopt ∈ zTb := zTb_in (i := 938) (by decide +kernel) rfl
theorem zkh_adopt_p : (parseMethodDescriptor yL_adopt.desc).map (fun d => d.parameters.length) = some (1 + 2) := by decide +kernel
theorem zkh_adopt_f : zfr 102 + 1 + 1 ≤ 14 := by decide +kernel
theorem zkh_adopt_r : 8 + (4 + 11) + (19 + (zP 102).2 + zlo 102) ≤ 526 := by decide +kernel
set_option maxHeartbeats 4000000 in
set_option maxRecDepth 100000 in
theorem zkc_11 (C : zLC D g adr p s m meth c bS L xs) (hAd : zAd adr s.heap) (hJv : zJv l D g adr s.heap) (hNw : zNw l D g adr s.heap) {t : Nat} (ht : 6 * t + 6 ≤ L) {M : zMem} {ρ : Int64 × Nat} (hR : zRel M) (hl : lv_has ls 7 (zLl adr bS (6 * t))) (hP : va_P D vwCl (zwd g adr (M, ρ)) H) (hS : va_S (zA s.heap) s.heap H locs) (hn : ρ.2 ≤ t) (kk : zKo p l e s m below meth c Q D g adr bS t) : W p l e room_1 s m #[Value.ref bS] below meth c H locs (415 + ρ.2) (38178 + 6 * ρ.2) Q (F0 m 914 ls []) := by
  have C0 := C
  obtain ⟨hx, hb, hml, hown, hts, hG, hN, hX, hbl, hL⟩ := C0
  have hH : s.heap.size ≤ s.heap.size ∧ ∀ q : Nat, q < s.heap.size → s.heap[q]? = s.heap[q]? := ⟨Nat.le_refl _, fun _ _ => rfl⟩
  have hmz := hml.trans hl.1.symm
  obtain ⟨k, M1, ρ1, x2, M2, hh, hm, ht0, ho, hR2, hn1, hn2⟩ := zag_use (a_adopt hR (xs (6 * t + 1))) ρ
  refine lv_aload_n hx hb dL_law_914 rfl (lv_at hl 3 rfl) ?_
  refine zl_arg C 1 (lv_at hl 4 rfl) (lv_at hl 0 rfl) (by omega) hS rfl dL_law_915 dL_law_916 dL_law_918 dL_law_919 dL_law_920 ?_
  refine lv_aload_n hx hb dL_law_921 rfl (lv_at hl 1 rfl) ?_
  refine zW_ret hS (zl_help (rest := []) hx hb hmz hown hts hG hN hH (zh_adopt hAd hJv hNw (xs (6 * t + 1)) hh) rfl zkh_adopt_l zkh_adopt_s zhw_adopt_c zkh_adopt_p zkh_adopt_f zkh_adopt_r hP hS (Nat.le_of_ble_eq_true rfl) dL_law_922 (by show 415 + ρ.2 + (ρ1.2 - ρ.2) ≤ 601024; omega) (by show 38178 + 6 * ρ.2 + 6 * (ρ1.2 - ρ.2) ≤ 7293034; omega) rfl) (fun H locs hP hS => ?_)
  refine W.widen (k := 415 + ρ1.2) (n := 38178 + 6 * ρ1.2) (by show 415 + ρ.2 + (ρ1.2 - ρ.2) ≤ _; omega) (by show 38178 + 6 * ρ.2 + 6 * (ρ1.2 - ρ.2) ≤ _; omega) ?_
  refine lv_istore hx hb dL_law_925 hl (by decide) rfl (fun ls hl => ?_)
  have hmz := hml.trans hl.1.symm
  refine lv_aload_n hx hb dL_law_927 rfl (lv_at hl 3 rfl) ?_
  refine zl_arg C 1 (lv_at hl 5 rfl) (lv_at hl 1 rfl) (by omega) hS rfl dL_law_928 dL_law_929 dL_law_931 dL_law_932 dL_law_933 ?_
  obtain ⟨-, -, hM⟩ := zrun_met hAd hJv hNw (j := 211) (by decide) hm (zva_ok (k := 16) (by decide) [(xs (6 * t + 1))]) rfl zkw_X6_adopt_n
  refine zW_ret hS (zl_v (a := 211) (kd := 16) (as := [zI (xs (6 * t + 1))]) (rest := []) hx hb hmz hown hts hG hH (by decide) zkw_X6_adopt_o hM (by decide) zkw_X6_adopt_l zkw_X6_adopt_v zkw_X6_adopt_p zkw_X6_adopt_f zkw_X6_adopt_r hP hS (Nat.le_of_ble_eq_true rfl) dL_law_934 (by show 415 + ρ1.2 + (ρ1.2 - ρ1.2) ≤ 601024; omega) (by show 38178 + 6 * ρ1.2 + 6 * (ρ1.2 - ρ1.2) ≤ 7293034; omega) rfl) (fun H locs hP hS => ?_)
  refine W.widen (k := 415 + ρ1.2) (n := 38178 + 6 * ρ1.2) (by show 415 + ρ1.2 + (ρ1.2 - ρ1.2) ≤ _; omega) (by show 38178 + 6 * ρ1.2 + 6 * (ρ1.2 - ρ1.2) ≤ _; omega) ?_
  refine lv_istore hx hb dL_law_937 hl (by decide) rfl (fun ls hl => ?_)
  have hmz := hml.trans hl.1.symm
  refine lv_aload_n hx hb dL_law_939 rfl (lv_at hl 4 rfl) ?_
  clear hM
  obtain ⟨-, -, hM⟩ := zrun_met hAd hJv hNw (j := 135) (by decide) (e_X6_thrown 0 (M2, ρ1)) (zva_ok (k := 16) (by decide) []) rfl zkw_X6_thrown_n
  refine zW_ret hS (zl_v (a := 135) (kd := 16) (as := []) (rest := []) hx hb hmz hown hts hG hH (by decide) zkw_X6_thrown_o hM (by decide) zkw_X6_thrown_l zkw_X6_thrown_v zkw_X6_thrown_p zkw_X6_thrown_f zkw_X6_thrown_r hP hS (Nat.le_of_ble_eq_true rfl) dL_law_940 (by show 415 + ρ1.2 + (ρ1.2 - ρ1.2) ≤ 601024; omega) (by show 38178 + 6 * ρ1.2 + 6 * (ρ1.2 - ρ1.2) ≤ 7293034; omega) rfl) (fun H locs hP hS => ?_)
  refine W.widen (k := 415 + ρ1.2) (n := 38178 + 6 * ρ1.2) (by show 415 + ρ1.2 + (ρ1.2 - ρ1.2) ≤ _; omega) (by show 38178 + 6 * ρ1.2 + 6 * (ρ1.2 - ρ1.2) ≤ _; omega) ?_
  refine lv_iload hx hb dL_law_943 (lv_at hl 1 rfl) ?_
  refine lv_icmp_eq (tgt := 950) hx hb dL_law_945 rfl (fun _ => ?_) (fun q => absurd ht0 q)
  refine lv_iload hx hb dL_law_950 (lv_at hl 1 rfl) ?_
  have fin : W p l e room_1 s m #[Value.ref bS] below meth c H locs (415 + ρ1.2) (38178 + 6 * ρ1.2) Q (F0 m 967 ls []) := lv_goto (tgt := 2175) hx hb dL_law_967 rfl (kk M2 ρ1 _ _ ls hR2 (by omega) (lv_sub hl [2, 3, 4, 5, 6] rfl) hP hS)
  refine lv_if_ne (tgt := 967) hx hb dL_law_952 rfl (fun _ => fin) (fun hk => ?_)
  refine lv_aload_n hx hb dL_law_955 rfl (lv_at hl 3 rfl) ?_
  refine lv_iconst (v := 0) hx hb dL_law_956 (by decide) ?_
  refine va_lald hx hb hG.1 hP 414 2 zout_get rfl (vp_in_nI (n := 0) (N := 1) (by decide) (by decide)) dL_law_957 ?_
  refine lv_iload hx hb dL_law_958 (lv_at hl 0 rfl) ?_
  refine lv_i2l hx hb dL_law_960 rfl ?_
  refine W.lcmp hx hb dL_law_961 ?_
  exact lv_if_eq (tgt := 967) hx hb dL_law_962 rfl (fun _ => fin) (fun q => absurd (by rw [← ho hk]; exact lg_cmp_self _) q)
theorem zkw_X6_snap_l : Cond.methodLink RL 148 (zy 216) ∈ zTb := zTb_in (i := 1528) (by decide +kernel) rfl
theorem zkw_X6_snap_o : 10 + zown 216 = 16 := by decide +kernel
theorem zkw_X6_snap_v : (match zMW[216]? with
      | some q => !q.1
      | none => false) = true := by decide +kernel
theorem zkw_X6_snap_p : (parseMethodDescriptor (zy 216).desc).map (fun d => d.parameters.length) = some 2 := by decide +kernel
theorem zkw_X6_snap_n : 3 ≤ (zP 216).2 := by decide +kernel
theorem zkw_X6_snap_f : zfr 216 + 1 ≤ 14 := by decide +kernel
theorem zkw_X6_snap_r : 8 + ((zP 216).2 + 11) + zlo 216 ≤ 526 := by decide +kernel
theorem zkh_snap_l : Cond.methodLink RL 146 yL_snap ∈ zTb := zTb_in (i := 953) (by decide +kernel) rfl
theorem zkh_snap_s : Cond.static yL_snap ∈ zTb := zTb_in (i := 954) (by decide +kernel) rfl
theorem zkh_snap_p : (parseMethodDescriptor yL_snap.desc).map (fun d => d.parameters.length) = some (2 + 2) := by decide +kernel
theorem zkh_snap_f : zfr 103 + 1 + 1 ≤ 14 := by decide +kernel
theorem zkh_snap_r : 8 + (5 + 11) + (19 + (zP 103).2 + zlo 103) ≤ 526 := by decide +kernel
set_option maxHeartbeats 4000000 in
set_option maxRecDepth 100000 in
theorem zkc_12 (C : zLC D g adr p s m meth c bS L xs) (hAd : zAd adr s.heap) (hJv : zJv l D g adr s.heap) (hNw : zNw l D g adr s.heap) {t : Nat} (ht : 6 * t + 6 ≤ L) {M : zMem} {ρ : Int64 × Nat} (hR : zRel M) (hl : lv_has ls 7 (zLl adr bS (6 * t))) (hP : va_P D vwCl (zwd g adr (M, ρ)) H) (hS : va_S (zA s.heap) s.heap H locs) (hn : ρ.2 ≤ t) (kk : zKo p l e s m below meth c Q D g adr bS t) : W p l e room_1 s m #[Value.ref bS] below meth c H locs (415 + ρ.2) (38178 + 6 * ρ.2) Q (F0 m 970 ls []) := by
  have C0 := C
  obtain ⟨hx, hb, hml, hown, hts, hG, hN, hX, hbl, hL⟩ := C0
  have hH : s.heap.size ≤ s.heap.size ∧ ∀ q : Nat, q < s.heap.size → s.heap[q]? = s.heap[q]? := ⟨Nat.le_refl _, fun _ _ => rfl⟩
  have hmz := hml.trans hl.1.symm
  obtain ⟨k, M1, ρ1, x2, M2, hh, hm, ht0, ho, hR2, hn1, hn2⟩ := zag_use (a_snap hR (xs (6 * t + 1)) (xs (6 * t + 2))) ρ
  refine lv_aload_n hx hb dL_law_970 rfl (lv_at hl 3 rfl) ?_
  refine zl_arg C 1 (lv_at hl 4 rfl) (lv_at hl 0 rfl) (by omega) hS rfl dL_law_971 dL_law_972 dL_law_974 dL_law_975 dL_law_976 ?_
  refine zl_arg C 2 (lv_at hl 4 rfl) (lv_at hl 0 rfl) (by omega) hS rfl dL_law_977 dL_law_978 dL_law_980 dL_law_981 dL_law_982 ?_
  refine lv_aload_n hx hb dL_law_983 rfl (lv_at hl 1 rfl) ?_
  refine zW_ret hS (zl_help (rest := []) hx hb hmz hown hts hG hN hH (zh_snap hAd hJv hNw (xs (6 * t + 1)) (xs (6 * t + 2)) hh) rfl zkh_snap_l zkh_snap_s zhw_snap_c zkh_snap_p zkh_snap_f zkh_snap_r hP hS (Nat.le_of_ble_eq_true rfl) dL_law_984 (by show 415 + ρ.2 + (ρ1.2 - ρ.2) ≤ 601024; omega) (by show 38178 + 6 * ρ.2 + 6 * (ρ1.2 - ρ.2) ≤ 7293034; omega) rfl) (fun H locs hP hS => ?_)
  refine W.widen (k := 415 + ρ1.2) (n := 38178 + 6 * ρ1.2) (by show 415 + ρ.2 + (ρ1.2 - ρ.2) ≤ _; omega) (by show 38178 + 6 * ρ.2 + 6 * (ρ1.2 - ρ.2) ≤ _; omega) ?_
  refine lv_istore hx hb dL_law_987 hl (by decide) rfl (fun ls hl => ?_)
  have hmz := hml.trans hl.1.symm
  refine lv_aload_n hx hb dL_law_989 rfl (lv_at hl 3 rfl) ?_
  refine zl_arg C 1 (lv_at hl 5 rfl) (lv_at hl 1 rfl) (by omega) hS rfl dL_law_990 dL_law_991 dL_law_993 dL_law_994 dL_law_995 ?_
  refine zl_arg C 2 (lv_at hl 5 rfl) (lv_at hl 1 rfl) (by omega) hS rfl dL_law_996 dL_law_997 dL_law_999 dL_law_1000 dL_law_1001 ?_
  obtain ⟨-, -, hM⟩ := zrun_met hAd hJv hNw (j := 216) (by decide) hm (zva_ok (k := 16) (by decide) [(xs (6 * t + 1)), (xs (6 * t + 2))]) rfl zkw_X6_snap_n
  refine zW_ret hS (zl_v (a := 216) (kd := 16) (as := [zI (xs (6 * t + 1)), zI (xs (6 * t + 2))]) (rest := []) hx hb hmz hown hts hG hH (by decide) zkw_X6_snap_o hM (by decide) zkw_X6_snap_l zkw_X6_snap_v zkw_X6_snap_p zkw_X6_snap_f zkw_X6_snap_r hP hS (Nat.le_of_ble_eq_true rfl) dL_law_1002 (by show 415 + ρ1.2 + (ρ1.2 - ρ1.2) ≤ 601024; omega) (by show 38178 + 6 * ρ1.2 + 6 * (ρ1.2 - ρ1.2) ≤ 7293034; omega) rfl) (fun H locs hP hS => ?_)
  refine W.widen (k := 415 + ρ1.2) (n := 38178 + 6 * ρ1.2) (by show 415 + ρ1.2 + (ρ1.2 - ρ1.2) ≤ _; omega) (by show 38178 + 6 * ρ1.2 + 6 * (ρ1.2 - ρ1.2) ≤ _; omega) ?_
  refine lv_istore hx hb dL_law_1005 hl (by decide) rfl (fun ls hl => ?_)
  have hmz := hml.trans hl.1.symm
  refine lv_aload_n hx hb dL_law_1007 rfl (lv_at hl 4 rfl) ?_
  clear hM
  obtain ⟨-, -, hM⟩ := zrun_met hAd hJv hNw (j := 135) (by decide) (e_X6_thrown 0 (M2, ρ1)) (zva_ok (k := 16) (by decide) []) rfl zkw_X6_thrown_n
  refine zW_ret hS (zl_v (a := 135) (kd := 16) (as := []) (rest := []) hx hb hmz hown hts hG hH (by decide) zkw_X6_thrown_o hM (by decide) zkw_X6_thrown_l zkw_X6_thrown_v zkw_X6_thrown_p zkw_X6_thrown_f zkw_X6_thrown_r hP hS (Nat.le_of_ble_eq_true rfl) dL_law_1008 (by show 415 + ρ1.2 + (ρ1.2 - ρ1.2) ≤ 601024; omega) (by show 38178 + 6 * ρ1.2 + 6 * (ρ1.2 - ρ1.2) ≤ 7293034; omega) rfl) (fun H locs hP hS => ?_)
  refine W.widen (k := 415 + ρ1.2) (n := 38178 + 6 * ρ1.2) (by show 415 + ρ1.2 + (ρ1.2 - ρ1.2) ≤ _; omega) (by show 38178 + 6 * ρ1.2 + 6 * (ρ1.2 - ρ1.2) ≤ _; omega) ?_
  refine lv_iload hx hb dL_law_1011 (lv_at hl 1 rfl) ?_
  refine lv_icmp_eq (tgt := 1018) hx hb dL_law_1013 rfl (fun _ => ?_) (fun q => absurd ht0 q)
  refine lv_iload hx hb dL_law_1018 (lv_at hl 1 rfl) ?_
  have fin : W p l e room_1 s m #[Value.ref bS] below meth c H locs (415 + ρ1.2) (38178 + 6 * ρ1.2) Q (F0 m 1035 ls []) := lv_goto (tgt := 2175) hx hb dL_law_1035 rfl (kk M2 ρ1 _ _ ls hR2 (by omega) (lv_sub hl [2, 3, 4, 5, 6] rfl) hP hS)
  refine lv_if_ne (tgt := 1035) hx hb dL_law_1020 rfl (fun _ => fin) (fun hk => ?_)
  refine lv_aload_n hx hb dL_law_1023 rfl (lv_at hl 3 rfl) ?_
  refine lv_iconst (v := 0) hx hb dL_law_1024 (by decide) ?_
  refine va_lald hx hb hG.1 hP 414 2 zout_get rfl (vp_in_nI (n := 0) (N := 1) (by decide) (by decide)) dL_law_1025 ?_
  refine lv_iload hx hb dL_law_1026 (lv_at hl 0 rfl) ?_
  refine lv_i2l hx hb dL_law_1028 rfl ?_
  refine W.lcmp hx hb dL_law_1029 ?_
  exact lv_if_eq (tgt := 1035) hx hb dL_law_1030 rfl (fun _ => fin) (fun q => absurd (by rw [← ho hk]; exact lg_cmp_self _) q)
theorem zkw_X6_undo_l : Cond.methodLink RL 152 (zy 218) ∈ zTb := zTb_in (i := 1543) (by decide +kernel) rfl
theorem zkw_X6_undo_o : 10 + zown 218 = 16 := by decide +kernel
theorem zkw_X6_undo_v : (match zMW[218]? with
      | some q => !q.1
      | none => false) = true := by decide +kernel
theorem zkw_X6_undo_p : (parseMethodDescriptor (zy 218).desc).map (fun d => d.parameters.length) = some 0 := by decide +kernel
theorem zkw_X6_undo_n : 1 ≤ (zP 218).2 := by decide +kernel
theorem zkw_X6_undo_f : zfr 218 + 1 ≤ 14 := by decide +kernel
theorem zkw_X6_undo_r : 8 + ((zP 218).2 + 11) + zlo 218 ≤ 526 := by decide +kernel
theorem zkw_X5_undo_l : Cond.methodLink RL 149 (zy 104) ∈ zTb := zTb_in (i := 321) (by decide +kernel) rfl
theorem zkw_X5_undo_o : 10 + zown 104 = 15 := by decide +kernel
theorem zkw_X5_undo_v : (match zMW[104]? with
      | some q => !q.1
      | none => false) = true := by decide +kernel
theorem zkw_X5_undo_p : (parseMethodDescriptor (zy 104).desc).map (fun d => d.parameters.length) = some 0 := by decide +kernel
theorem zkw_X5_undo_n : 1 ≤ (zP 104).2 := by decide +kernel
theorem zkw_X5_undo_f : zfr 104 + 1 ≤ 14 := by decide +kernel
theorem zkw_X5_undo_r : 8 + ((zP 104).2 + 11) + zlo 104 ≤ 526 := by decide +kernel
set_option maxHeartbeats 4000000 in
set_option maxRecDepth 100000 in
theorem zkc_13 (C : zLC D g adr p s m meth c bS L xs) (hAd : zAd adr s.heap) (hJv : zJv l D g adr s.heap) (hNw : zNw l D g adr s.heap) {t : Nat} (ht : 6 * t + 6 ≤ L) {M : zMem} {ρ : Int64 × Nat} (hR : zRel M) (hl : lv_has ls 7 (zLl adr bS (6 * t))) (hP : va_P D vwCl (zwd g adr (M, ρ)) H) (hS : va_S (zA s.heap) s.heap H locs) (hn : ρ.2 ≤ t) (kk : zKo p l e s m below meth c Q D g adr bS t) : W p l e room_1 s m #[Value.ref bS] below meth c H locs (415 + ρ.2) (38178 + 6 * ρ.2) Q (F0 m 1038 ls []) := by
  have C0 := C
  obtain ⟨hx, hb, hml, hown, hts, hG, hN, hX, hbl, hL⟩ := C0
  have hH : s.heap.size ≤ s.heap.size ∧ ∀ q : Nat, q < s.heap.size → s.heap[q]? = s.heap[q]? := ⟨Nat.le_refl _, fun _ _ => rfl⟩
  have hmz := hml.trans hl.1.symm
  obtain ⟨x, M1, M2, h1, h2, hR2⟩ := zag_none (a_undo hR ) ρ
  refine lv_aload_n hx hb dL_law_1038 rfl (lv_at hl 3 rfl) ?_
  obtain ⟨-, -, hM⟩ := zrun_met hAd hJv hNw (j := 104) (by decide) h1 (zva_ok (k := 15) (by decide) []) rfl zkw_X5_undo_n
  refine zW_ret hS (zl_v (a := 104) (kd := 15) (as := []) (rest := []) hx hb hmz hown hts hG hH (by decide) zkw_X5_undo_o hM (by decide) zkw_X5_undo_l zkw_X5_undo_v zkw_X5_undo_p zkw_X5_undo_f zkw_X5_undo_r hP hS (Nat.le_of_ble_eq_true rfl) dL_law_1039 (by show 415 + ρ.2 + (ρ.2 - ρ.2) ≤ 601024; omega) (by show 38178 + 6 * ρ.2 + 6 * (ρ.2 - ρ.2) ≤ 7293034; omega) rfl) (fun H locs hP hS => ?_)
  refine W.widen (k := 415 + ρ.2) (n := 38178 + 6 * ρ.2) (by show 415 + ρ.2 + (ρ.2 - ρ.2) ≤ _; omega) (by show 38178 + 6 * ρ.2 + 6 * (ρ.2 - ρ.2) ≤ _; omega) ?_
  refine lv_aload_n hx hb dL_law_1042 rfl (lv_at hl 2 rfl) ?_
  clear hM
  obtain ⟨-, -, hM⟩ := zrun_met hAd hJv hNw (j := 218) (by decide) h2 (zva_ok (k := 16) (by decide) []) rfl zkw_X6_undo_n
  refine zW_ret hS (zl_v (a := 218) (kd := 16) (as := []) (rest := [.int x]) hx hb hmz hown hts hG hH (by decide) zkw_X6_undo_o hM (by decide) zkw_X6_undo_l zkw_X6_undo_v zkw_X6_undo_p zkw_X6_undo_f zkw_X6_undo_r hP hS (Nat.le_of_ble_eq_true rfl) dL_law_1043 (by show 415 + ρ.2 + (ρ.2 - ρ.2) ≤ 601024; omega) (by show 38178 + 6 * ρ.2 + 6 * (ρ.2 - ρ.2) ≤ 7293034; omega) rfl) (fun H locs hP hS => ?_)
  refine W.widen (k := 415 + ρ.2) (n := 38178 + 6 * ρ.2) (by show 415 + ρ.2 + (ρ.2 - ρ.2) ≤ _; omega) (by show 38178 + 6 * ρ.2 + 6 * (ρ.2 - ρ.2) ≤ _; omega) ?_
  exact lv_icmp_eq (tgt := 2175) hx hb dL_law_1046 rfl (fun _ => kk M2 ρ _ _ ls hR2 (by omega) hl hP hS) (fun q => absurd rfl q)
theorem zkw_X6_keep_l : Cond.methodLink RL 156 (zy 219) ∈ zTb := zTb_in (i := 1547) (by decide +kernel) rfl
theorem zkw_X6_keep_o : 10 + zown 219 = 16 := by decide +kernel
theorem zkw_X6_keep_v : (match zMW[219]? with
      | some q => !q.1
      | none => false) = true := by decide +kernel
theorem zkw_X6_keep_p : (parseMethodDescriptor (zy 219).desc).map (fun d => d.parameters.length) = some 0 := by decide +kernel
theorem zkw_X6_keep_n : 1 ≤ (zP 219).2 := by decide +kernel
theorem zkw_X6_keep_f : zfr 219 + 1 ≤ 14 := by decide +kernel
theorem zkw_X6_keep_r : 8 + ((zP 219).2 + 11) + zlo 219 ≤ 526 := by decide +kernel
theorem zkw_X5_keep_l : Cond.methodLink RL 153 (zy 105) ∈ zTb := zTb_in (i := 340) (by decide +kernel) rfl
theorem zkw_X5_keep_o : 10 + zown 105 = 15 := by decide +kernel
theorem zkw_X5_keep_v : (match zMW[105]? with
      | some q => !q.1
      | none => false) = true := by decide +kernel
theorem zkw_X5_keep_p : (parseMethodDescriptor (zy 105).desc).map (fun d => d.parameters.length) = some 0 := by decide +kernel
theorem zkw_X5_keep_n : 1 ≤ (zP 105).2 := by decide +kernel
theorem zkw_X5_keep_f : zfr 105 + 1 ≤ 14 := by decide +kernel
theorem zkw_X5_keep_r : 8 + ((zP 105).2 + 11) + zlo 105 ≤ 526 := by decide +kernel
set_option maxHeartbeats 4000000 in
set_option maxRecDepth 100000 in
theorem zkc_14 (C : zLC D g adr p s m meth c bS L xs) (hAd : zAd adr s.heap) (hJv : zJv l D g adr s.heap) (hNw : zNw l D g adr s.heap) {t : Nat} (ht : 6 * t + 6 ≤ L) {M : zMem} {ρ : Int64 × Nat} (hR : zRel M) (hl : lv_has ls 7 (zLl adr bS (6 * t))) (hP : va_P D vwCl (zwd g adr (M, ρ)) H) (hS : va_S (zA s.heap) s.heap H locs) (hn : ρ.2 ≤ t) (kk : zKo p l e s m below meth c Q D g adr bS t) : W p l e room_1 s m #[Value.ref bS] below meth c H locs (415 + ρ.2) (38178 + 6 * ρ.2) Q (F0 m 1051 ls []) := by
  have C0 := C
  obtain ⟨hx, hb, hml, hown, hts, hG, hN, hX, hbl, hL⟩ := C0
  have hH : s.heap.size ≤ s.heap.size ∧ ∀ q : Nat, q < s.heap.size → s.heap[q]? = s.heap[q]? := ⟨Nat.le_refl _, fun _ _ => rfl⟩
  have hmz := hml.trans hl.1.symm
  obtain ⟨x, M1, M2, h1, h2, hR2⟩ := zag_none (a_keep hR ) ρ
  refine lv_aload_n hx hb dL_law_1051 rfl (lv_at hl 3 rfl) ?_
  obtain ⟨-, -, hM⟩ := zrun_met hAd hJv hNw (j := 105) (by decide) h1 (zva_ok (k := 15) (by decide) []) rfl zkw_X5_keep_n
  refine zW_ret hS (zl_v (a := 105) (kd := 15) (as := []) (rest := []) hx hb hmz hown hts hG hH (by decide) zkw_X5_keep_o hM (by decide) zkw_X5_keep_l zkw_X5_keep_v zkw_X5_keep_p zkw_X5_keep_f zkw_X5_keep_r hP hS (Nat.le_of_ble_eq_true rfl) dL_law_1052 (by show 415 + ρ.2 + (ρ.2 - ρ.2) ≤ 601024; omega) (by show 38178 + 6 * ρ.2 + 6 * (ρ.2 - ρ.2) ≤ 7293034; omega) rfl) (fun H locs hP hS => ?_)
  refine W.widen (k := 415 + ρ.2) (n := 38178 + 6 * ρ.2) (by show 415 + ρ.2 + (ρ.2 - ρ.2) ≤ _; omega) (by show 38178 + 6 * ρ.2 + 6 * (ρ.2 - ρ.2) ≤ _; omega) ?_
  refine lv_aload_n hx hb dL_law_1055 rfl (lv_at hl 2 rfl) ?_
  clear hM
  obtain ⟨-, -, hM⟩ := zrun_met hAd hJv hNw (j := 219) (by decide) h2 (zva_ok (k := 16) (by decide) []) rfl zkw_X6_keep_n
  refine zW_ret hS (zl_v (a := 219) (kd := 16) (as := []) (rest := [.int x]) hx hb hmz hown hts hG hH (by decide) zkw_X6_keep_o hM (by decide) zkw_X6_keep_l zkw_X6_keep_v zkw_X6_keep_p zkw_X6_keep_f zkw_X6_keep_r hP hS (Nat.le_of_ble_eq_true rfl) dL_law_1056 (by show 415 + ρ.2 + (ρ.2 - ρ.2) ≤ 601024; omega) (by show 38178 + 6 * ρ.2 + 6 * (ρ.2 - ρ.2) ≤ 7293034; omega) rfl) (fun H locs hP hS => ?_)
  refine W.widen (k := 415 + ρ.2) (n := 38178 + 6 * ρ.2) (by show 415 + ρ.2 + (ρ.2 - ρ.2) ≤ _; omega) (by show 38178 + 6 * ρ.2 + 6 * (ρ.2 - ρ.2) ≤ _; omega) ?_
  exact lv_icmp_eq (tgt := 2175) hx hb dL_law_1059 rfl (fun _ => kk M2 ρ _ _ ls hR2 (by omega) hl hP hS) (fun q => absurd rfl q)
theorem zkw_X6_told_l : Cond.methodLink RL 159 (zy 221) ∈ zTb := zTb_in (i := 1551) (by decide +kernel) rfl
theorem zkw_X6_told_o : 10 + zown 221 = 16 := by decide +kernel
theorem zkw_X6_told_v : (match zMW[221]? with
      | some q => !q.1
      | none => false) = true := by decide +kernel
theorem zkw_X6_told_p : (parseMethodDescriptor (zy 221).desc).map (fun d => d.parameters.length) = some 1 := by decide +kernel
theorem zkw_X6_told_n : 2 ≤ (zP 221).2 := by decide +kernel
theorem zkw_X6_told_f : zfr 221 + 1 ≤ 14 := by decide +kernel
theorem zkw_X6_told_r : 8 + ((zP 221).2 + 11) + zlo 221 ≤ 526 := by decide +kernel
theorem zkh_told_l : Cond.methodLink RL 157 yL_told ∈ zTb := zTb_in (i := 981) (by decide +kernel) rfl
theorem zkh_told_s : Cond.static yL_told ∈ zTb := zTb_in (i := 982) (by decide +kernel) rfl
theorem zkh_told_p : (parseMethodDescriptor yL_told.desc).map (fun d => d.parameters.length) = some (1 + 2) := by decide +kernel
theorem zkh_told_f : zfr 106 + 1 + 1 ≤ 14 := by decide +kernel
theorem zkh_told_r : 8 + (4 + 11) + (19 + (zP 106).2 + zlo 106) ≤ 526 := by decide +kernel
set_option maxHeartbeats 4000000 in
set_option maxRecDepth 100000 in
theorem zkc_15 (C : zLC D g adr p s m meth c bS L xs) (hAd : zAd adr s.heap) (hJv : zJv l D g adr s.heap) (hNw : zNw l D g adr s.heap) {t : Nat} (ht : 6 * t + 6 ≤ L) {M : zMem} {ρ : Int64 × Nat} (hR : zRel M) (hl : lv_has ls 7 (zLl adr bS (6 * t))) (hP : va_P D vwCl (zwd g adr (M, ρ)) H) (hS : va_S (zA s.heap) s.heap H locs) (hn : ρ.2 ≤ t) (kk : zKo p l e s m below meth c Q D g adr bS t) : W p l e room_1 s m #[Value.ref bS] below meth c H locs (415 + ρ.2) (38178 + 6 * ρ.2) Q (F0 m 1064 ls []) := by
  have C0 := C
  obtain ⟨hx, hb, hml, hown, hts, hG, hN, hX, hbl, hL⟩ := C0
  have hH : s.heap.size ≤ s.heap.size ∧ ∀ q : Nat, q < s.heap.size → s.heap[q]? = s.heap[q]? := ⟨Nat.le_refl _, fun _ _ => rfl⟩
  have hmz := hml.trans hl.1.symm
  obtain ⟨k, M1, ρ1, x2, M2, hh, hm, ht0, ho, hR2, hn1, hn2⟩ := zag_use (a_told hR (xs (6 * t + 1))) ρ
  refine lv_aload_n hx hb dL_law_1064 rfl (lv_at hl 3 rfl) ?_
  refine zl_arg C 1 (lv_at hl 4 rfl) (lv_at hl 0 rfl) (by omega) hS rfl dL_law_1065 dL_law_1066 dL_law_1068 dL_law_1069 dL_law_1070 ?_
  refine lv_aload_n hx hb dL_law_1071 rfl (lv_at hl 1 rfl) ?_
  refine zW_ret hS (zl_help (rest := []) hx hb hmz hown hts hG hN hH (zh_told hAd hJv hNw (xs (6 * t + 1)) hh) rfl zkh_told_l zkh_told_s zhw_told_c zkh_told_p zkh_told_f zkh_told_r hP hS (Nat.le_of_ble_eq_true rfl) dL_law_1072 (by show 415 + ρ.2 + (ρ1.2 - ρ.2) ≤ 601024; omega) (by show 38178 + 6 * ρ.2 + 6 * (ρ1.2 - ρ.2) ≤ 7293034; omega) rfl) (fun H locs hP hS => ?_)
  refine W.widen (k := 415 + ρ1.2) (n := 38178 + 6 * ρ1.2) (by show 415 + ρ.2 + (ρ1.2 - ρ.2) ≤ _; omega) (by show 38178 + 6 * ρ.2 + 6 * (ρ1.2 - ρ.2) ≤ _; omega) ?_
  refine lv_istore hx hb dL_law_1075 hl (by decide) rfl (fun ls hl => ?_)
  have hmz := hml.trans hl.1.symm
  refine lv_aload_n hx hb dL_law_1077 rfl (lv_at hl 3 rfl) ?_
  refine zl_arg C 1 (lv_at hl 5 rfl) (lv_at hl 1 rfl) (by omega) hS rfl dL_law_1078 dL_law_1079 dL_law_1081 dL_law_1082 dL_law_1083 ?_
  obtain ⟨-, -, hM⟩ := zrun_met hAd hJv hNw (j := 221) (by decide) hm (zva_ok (k := 16) (by decide) [(xs (6 * t + 1))]) rfl zkw_X6_told_n
  refine zW_ret hS (zl_v (a := 221) (kd := 16) (as := [zI (xs (6 * t + 1))]) (rest := []) hx hb hmz hown hts hG hH (by decide) zkw_X6_told_o hM (by decide) zkw_X6_told_l zkw_X6_told_v zkw_X6_told_p zkw_X6_told_f zkw_X6_told_r hP hS (Nat.le_of_ble_eq_true rfl) dL_law_1084 (by show 415 + ρ1.2 + (ρ1.2 - ρ1.2) ≤ 601024; omega) (by show 38178 + 6 * ρ1.2 + 6 * (ρ1.2 - ρ1.2) ≤ 7293034; omega) rfl) (fun H locs hP hS => ?_)
  refine W.widen (k := 415 + ρ1.2) (n := 38178 + 6 * ρ1.2) (by show 415 + ρ1.2 + (ρ1.2 - ρ1.2) ≤ _; omega) (by show 38178 + 6 * ρ1.2 + 6 * (ρ1.2 - ρ1.2) ≤ _; omega) ?_
  refine lv_istore hx hb dL_law_1087 hl (by decide) rfl (fun ls hl => ?_)
  have hmz := hml.trans hl.1.symm
  refine lv_aload_n hx hb dL_law_1089 rfl (lv_at hl 4 rfl) ?_
  clear hM
  obtain ⟨-, -, hM⟩ := zrun_met hAd hJv hNw (j := 135) (by decide) (e_X6_thrown 0 (M2, ρ1)) (zva_ok (k := 16) (by decide) []) rfl zkw_X6_thrown_n
  refine zW_ret hS (zl_v (a := 135) (kd := 16) (as := []) (rest := []) hx hb hmz hown hts hG hH (by decide) zkw_X6_thrown_o hM (by decide) zkw_X6_thrown_l zkw_X6_thrown_v zkw_X6_thrown_p zkw_X6_thrown_f zkw_X6_thrown_r hP hS (Nat.le_of_ble_eq_true rfl) dL_law_1090 (by show 415 + ρ1.2 + (ρ1.2 - ρ1.2) ≤ 601024; omega) (by show 38178 + 6 * ρ1.2 + 6 * (ρ1.2 - ρ1.2) ≤ 7293034; omega) rfl) (fun H locs hP hS => ?_)
  refine W.widen (k := 415 + ρ1.2) (n := 38178 + 6 * ρ1.2) (by show 415 + ρ1.2 + (ρ1.2 - ρ1.2) ≤ _; omega) (by show 38178 + 6 * ρ1.2 + 6 * (ρ1.2 - ρ1.2) ≤ _; omega) ?_
  refine lv_iload hx hb dL_law_1093 (lv_at hl 1 rfl) ?_
  refine lv_icmp_eq (tgt := 1100) hx hb dL_law_1095 rfl (fun _ => ?_) (fun q => absurd ht0 q)
  refine lv_iload hx hb dL_law_1100 (lv_at hl 1 rfl) ?_
  have fin : W p l e room_1 s m #[Value.ref bS] below meth c H locs (415 + ρ1.2) (38178 + 6 * ρ1.2) Q (F0 m 1117 ls []) := lv_goto (tgt := 2175) hx hb dL_law_1117 rfl (kk M2 ρ1 _ _ ls hR2 (by omega) (lv_sub hl [2, 3, 4, 5, 6] rfl) hP hS)
  refine lv_if_ne (tgt := 1117) hx hb dL_law_1102 rfl (fun _ => fin) (fun hk => ?_)
  refine lv_aload_n hx hb dL_law_1105 rfl (lv_at hl 3 rfl) ?_
  refine lv_iconst (v := 0) hx hb dL_law_1106 (by decide) ?_
  refine va_lald hx hb hG.1 hP 414 2 zout_get rfl (vp_in_nI (n := 0) (N := 1) (by decide) (by decide)) dL_law_1107 ?_
  refine lv_iload hx hb dL_law_1108 (lv_at hl 0 rfl) ?_
  refine lv_i2l hx hb dL_law_1110 rfl ?_
  refine W.lcmp hx hb dL_law_1111 ?_
  exact lv_if_eq (tgt := 1117) hx hb dL_law_1112 rfl (fun _ => fin) (fun q => absurd (by rw [← ho hk]; exact lg_cmp_self _) q)
end ZKC
