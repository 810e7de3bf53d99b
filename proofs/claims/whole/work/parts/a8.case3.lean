section ZKC
variable {p : Program} {l : Launch} {e : Env} {s : State} {m : MethodId} {below : List Frame} {meth : Method} {c : Code} {H : Heap} {locs : List Loc} {Q : State → Prop} {ls : Array Slot} {D : va_G} {g : zIds} {adr : Nat → Nat → Nat} {bS L : Nat} {xs : Nat → Int32}
theorem zkw_X6_gaps_l : Cond.methodLink RL 187 (zy 217) ∈ zTb := zTb_in (i := 1539) (by decide +kernel) rfl
theorem zkw_X6_gaps_o : 10 + zown 217 = 16 := by decide +kernel
theorem zkw_X6_gaps_v : (match zMW[217]? with
      | some q => !q.1
      | none => false) = true := by decide +kernel
theorem zkw_X6_gaps_p : (parseMethodDescriptor (zy 217).desc).map (fun d => d.parameters.length) = some 2 := by decide +kernel
theorem zkw_X6_gaps_n : 3 ≤ (zP 217).2 := by decide +kernel
theorem zkw_X6_gaps_f : zfr 217 + 1 ≤ 14 := by decide +kernel
theorem zkw_X6_gaps_r : 8 + ((zP 217).2 + 11) + zlo 217 ≤ 526 := by decide +kernel
theorem zkh_gaps_l : Cond.methodLink RL 185 yL_gaps ∈ zTb := zTb_in (i := 1077) (by decide +kernel) rfl
theorem zkh_gaps_s : Cond.static yL_gaps ∈ zTb := zTb_in (i := 1078) (by decide +kernel) rfl
theorem zkh_gaps_p : (parseMethodDescriptor yL_gaps.desc).map (fun d => d.parameters.length) = some (2 + 2) := by decide +kernel
theorem zkh_gaps_f : zfr 115 + 1 + 1 ≤ 14 := by decide +kernel
theorem zkh_gaps_r : 8 + (5 + 11) + (19 + (zP 115).2 + zlo 115) ≤ 526 := by decide +kernel
set_option maxHeartbeats 4000000 in
set_option maxRecDepth 100000 in
theorem zkc_24 (C : zLC D g adr p s m meth c bS L xs) (hAd : zAd adr s.heap) (hJv : zJv l D g adr s.heap) (hNw : zNw l D g adr s.heap) {t : Nat} (ht : 6 * t + 6 ≤ L) {M : zMem} {ρ : Int64 × Nat} (hR : zRel M) (hl : lv_has ls 7 (zLl adr bS (6 * t))) (hP : va_P D vwCl (zwd g adr (M, ρ)) H) (hS : va_S (zA s.heap) s.heap H locs) (hn : ρ.2 ≤ t) (kk : zKo p l e s m below meth c Q D g adr bS t) : W p l e room_1 s m #[Value.ref bS] below meth c H locs (415 + ρ.2) (38178 + 6 * ρ.2) Q (F0 m 1772 ls []) := by
  have C0 := C
  obtain ⟨hx, hb, hml, hown, hts, hG, hN, hX, hbl, hL⟩ := C0
  have hH : s.heap.size ≤ s.heap.size ∧ ∀ q : Nat, q < s.heap.size → s.heap[q]? = s.heap[q]? := ⟨Nat.le_refl _, fun _ _ => rfl⟩
  have hmz := hml.trans hl.1.symm
  obtain ⟨k, M1, ρ1, x2, M2, hh, hm, ht0, ho, hR2, hn1, hn2⟩ := zag_use (a_gaps hR (xs (6 * t + 1)) (xs (6 * t + 2))) ρ
  refine lv_aload_n hx hb dL_law_1772 rfl (lv_at hl 3 rfl) ?_
  refine zl_arg C 1 (lv_at hl 4 rfl) (lv_at hl 0 rfl) (by omega) hS rfl dL_law_1773 dL_law_1774 dL_law_1776 dL_law_1777 dL_law_1778 ?_
  refine zl_arg C 2 (lv_at hl 4 rfl) (lv_at hl 0 rfl) (by omega) hS rfl dL_law_1779 dL_law_1780 dL_law_1782 dL_law_1783 dL_law_1784 ?_
  refine lv_aload_n hx hb dL_law_1785 rfl (lv_at hl 1 rfl) ?_
  refine zW_ret hS (zl_help (rest := []) hx hb hmz hown hts hG hN hH (zh_gaps hAd hJv hNw (xs (6 * t + 1)) (xs (6 * t + 2)) hh) rfl zkh_gaps_l zkh_gaps_s zhw_gaps_c zkh_gaps_p zkh_gaps_f zkh_gaps_r hP hS (Nat.le_of_ble_eq_true rfl) dL_law_1786 (by show 415 + ρ.2 + (ρ1.2 - ρ.2) ≤ 601024; omega) (by show 38178 + 6 * ρ.2 + 6 * (ρ1.2 - ρ.2) ≤ 7293034; omega) rfl) (fun H locs hP hS => ?_)
  refine W.widen (k := 415 + ρ1.2) (n := 38178 + 6 * ρ1.2) (by show 415 + ρ.2 + (ρ1.2 - ρ.2) ≤ _; omega) (by show 38178 + 6 * ρ.2 + 6 * (ρ1.2 - ρ.2) ≤ _; omega) ?_
  refine lv_istore hx hb dL_law_1789 hl (by decide) rfl (fun ls hl => ?_)
  have hmz := hml.trans hl.1.symm
  refine lv_aload_n hx hb dL_law_1791 rfl (lv_at hl 3 rfl) ?_
  refine zl_arg C 1 (lv_at hl 5 rfl) (lv_at hl 1 rfl) (by omega) hS rfl dL_law_1792 dL_law_1793 dL_law_1795 dL_law_1796 dL_law_1797 ?_
  refine zl_arg C 2 (lv_at hl 5 rfl) (lv_at hl 1 rfl) (by omega) hS rfl dL_law_1798 dL_law_1799 dL_law_1801 dL_law_1802 dL_law_1803 ?_
  obtain ⟨-, -, hM⟩ := zrun_met hAd hJv hNw (j := 217) (by decide) hm (zva_ok (k := 16) (by decide) [(xs (6 * t + 1)), (xs (6 * t + 2))]) rfl zkw_X6_gaps_n
  refine zW_ret hS (zl_v (a := 217) (kd := 16) (as := [zI (xs (6 * t + 1)), zI (xs (6 * t + 2))]) (rest := []) hx hb hmz hown hts hG hH (by decide) zkw_X6_gaps_o hM (by decide) zkw_X6_gaps_l zkw_X6_gaps_v zkw_X6_gaps_p zkw_X6_gaps_f zkw_X6_gaps_r hP hS (Nat.le_of_ble_eq_true rfl) dL_law_1804 (by show 415 + ρ1.2 + (ρ1.2 - ρ1.2) ≤ 601024; omega) (by show 38178 + 6 * ρ1.2 + 6 * (ρ1.2 - ρ1.2) ≤ 7293034; omega) rfl) (fun H locs hP hS => ?_)
  refine W.widen (k := 415 + ρ1.2) (n := 38178 + 6 * ρ1.2) (by show 415 + ρ1.2 + (ρ1.2 - ρ1.2) ≤ _; omega) (by show 38178 + 6 * ρ1.2 + 6 * (ρ1.2 - ρ1.2) ≤ _; omega) ?_
  refine lv_istore hx hb dL_law_1807 hl (by decide) rfl (fun ls hl => ?_)
  have hmz := hml.trans hl.1.symm
  refine lv_aload_n hx hb dL_law_1809 rfl (lv_at hl 4 rfl) ?_
  clear hM
  obtain ⟨-, -, hM⟩ := zrun_met hAd hJv hNw (j := 135) (by decide) (e_X6_thrown 0 (M2, ρ1)) (zva_ok (k := 16) (by decide) []) rfl zkw_X6_thrown_n
  refine zW_ret hS (zl_v (a := 135) (kd := 16) (as := []) (rest := []) hx hb hmz hown hts hG hH (by decide) zkw_X6_thrown_o hM (by decide) zkw_X6_thrown_l zkw_X6_thrown_v zkw_X6_thrown_p zkw_X6_thrown_f zkw_X6_thrown_r hP hS (Nat.le_of_ble_eq_true rfl) dL_law_1810 (by show 415 + ρ1.2 + (ρ1.2 - ρ1.2) ≤ 601024; omega) (by show 38178 + 6 * ρ1.2 + 6 * (ρ1.2 - ρ1.2) ≤ 7293034; omega) rfl) (fun H locs hP hS => ?_)
  refine W.widen (k := 415 + ρ1.2) (n := 38178 + 6 * ρ1.2) (by show 415 + ρ1.2 + (ρ1.2 - ρ1.2) ≤ _; omega) (by show 38178 + 6 * ρ1.2 + 6 * (ρ1.2 - ρ1.2) ≤ _; omega) ?_
  refine lv_iload hx hb dL_law_1813 (lv_at hl 1 rfl) ?_
  refine lv_icmp_eq (tgt := 1820) hx hb dL_law_1815 rfl (fun _ => ?_) (fun q => absurd ht0 q)
  refine lv_iload hx hb dL_law_1820 (lv_at hl 1 rfl) ?_
  have fin : W p l e room_1 s m #[Value.ref bS] below meth c H locs (415 + ρ1.2) (38178 + 6 * ρ1.2) Q (F0 m 1837 ls []) := lv_goto (tgt := 2175) hx hb dL_law_1837 rfl (kk M2 ρ1 _ _ ls hR2 (by omega) (lv_sub hl [2, 3, 4, 5, 6] rfl) hP hS)
  refine lv_if_ne (tgt := 1837) hx hb dL_law_1822 rfl (fun _ => fin) (fun hk => ?_)
  refine lv_aload_n hx hb dL_law_1825 rfl (lv_at hl 3 rfl) ?_
  refine lv_iconst (v := 0) hx hb dL_law_1826 (by decide) ?_
  refine va_lald hx hb hG.1 hP 414 2 zout_get rfl (vp_in_nI (n := 0) (N := 1) (by decide) (by decide)) dL_law_1827 ?_
  refine lv_iload hx hb dL_law_1828 (lv_at hl 0 rfl) ?_
  refine lv_i2l hx hb dL_law_1830 rfl ?_
  refine W.lcmp hx hb dL_law_1831 ?_
  exact lv_if_eq (tgt := 1837) hx hb dL_law_1832 rfl (fun _ => fin) (fun q => absurd (by rw [← ho hk]; exact lg_cmp_self _) q)
theorem zkw_X6_stop_l : Cond.methodLink RL 190 (zy 234) ∈ zTb := zTb_in (i := 1611) (by decide +kernel) rfl
theorem zkw_X6_stop_o : 10 + zown 234 = 16 := by decide +kernel
theorem zkw_X6_stop_v : (match zMW[234]? with
      | some q => !q.1
      | none => false) = true := by decide +kernel
theorem zkw_X6_stop_p : (parseMethodDescriptor (zy 234).desc).map (fun d => d.parameters.length) = some 2 := by decide +kernel
theorem zkw_X6_stop_n : 3 ≤ (zP 234).2 := by decide +kernel
theorem zkw_X6_stop_f : zfr 234 + 1 ≤ 14 := by decide +kernel
theorem zkw_X6_stop_r : 8 + ((zP 234).2 + 11) + zlo 234 ≤ 526 := by decide +kernel
theorem zkh_stop_l : Cond.methodLink RL 188 yL_stop ∈ zTb := zTb_in (i := 1088) (by decide +kernel) rfl
theorem zkh_stop_s : Cond.static yL_stop ∈ zTb := zTb_in (i := 1089) (by decide +kernel) rfl
theorem zkh_stop_p : (parseMethodDescriptor yL_stop.desc).map (fun d => d.parameters.length) = some (2 + 2) := by decide +kernel
theorem zkh_stop_f : zfr 116 + 1 + 1 ≤ 14 := by decide +kernel
theorem zkh_stop_r : 8 + (5 + 11) + (19 + (zP 116).2 + zlo 116) ≤ 526 := by decide +kernel
set_option maxHeartbeats 4000000 in
set_option maxRecDepth 100000 in
theorem zkc_25 (C : zLC D g adr p s m meth c bS L xs) (hAd : zAd adr s.heap) (hJv : zJv l D g adr s.heap) (hNw : zNw l D g adr s.heap) {t : Nat} (ht : 6 * t + 6 ≤ L) {M : zMem} {ρ : Int64 × Nat} (hR : zRel M) (hl : lv_has ls 7 (zLl adr bS (6 * t))) (hP : va_P D vwCl (zwd g adr (M, ρ)) H) (hS : va_S (zA s.heap) s.heap H locs) (hn : ρ.2 ≤ t) (kk : zKo p l e s m below meth c Q D g adr bS t) : W p l e room_1 s m #[Value.ref bS] below meth c H locs (415 + ρ.2) (38178 + 6 * ρ.2) Q (F0 m 1840 ls []) := by
  have C0 := C
  obtain ⟨hx, hb, hml, hown, hts, hG, hN, hX, hbl, hL⟩ := C0
  have hH : s.heap.size ≤ s.heap.size ∧ ∀ q : Nat, q < s.heap.size → s.heap[q]? = s.heap[q]? := ⟨Nat.le_refl _, fun _ _ => rfl⟩
  have hmz := hml.trans hl.1.symm
  obtain ⟨k, M1, ρ1, x2, M2, hh, hm, ht0, ho, hR2, hn1, hn2⟩ := zag_use (a_stop hR (xs (6 * t + 1)) (xs (6 * t + 2))) ρ
  refine lv_aload_n hx hb dL_law_1840 rfl (lv_at hl 3 rfl) ?_
  refine zl_arg C 1 (lv_at hl 4 rfl) (lv_at hl 0 rfl) (by omega) hS rfl dL_law_1841 dL_law_1842 dL_law_1844 dL_law_1845 dL_law_1846 ?_
  refine zl_arg C 2 (lv_at hl 4 rfl) (lv_at hl 0 rfl) (by omega) hS rfl dL_law_1847 dL_law_1848 dL_law_1850 dL_law_1851 dL_law_1852 ?_
  refine lv_aload_n hx hb dL_law_1853 rfl (lv_at hl 1 rfl) ?_
  refine zW_ret hS (zl_help (rest := []) hx hb hmz hown hts hG hN hH (zh_stop hAd hJv hNw (xs (6 * t + 1)) (xs (6 * t + 2)) hh) rfl zkh_stop_l zkh_stop_s zhw_stop_c zkh_stop_p zkh_stop_f zkh_stop_r hP hS (Nat.le_of_ble_eq_true rfl) dL_law_1854 (by show 415 + ρ.2 + (ρ1.2 - ρ.2) ≤ 601024; omega) (by show 38178 + 6 * ρ.2 + 6 * (ρ1.2 - ρ.2) ≤ 7293034; omega) rfl) (fun H locs hP hS => ?_)
  refine W.widen (k := 415 + ρ1.2) (n := 38178 + 6 * ρ1.2) (by show 415 + ρ.2 + (ρ1.2 - ρ.2) ≤ _; omega) (by show 38178 + 6 * ρ.2 + 6 * (ρ1.2 - ρ.2) ≤ _; omega) ?_
  refine lv_istore hx hb dL_law_1857 hl (by decide) rfl (fun ls hl => ?_)
  have hmz := hml.trans hl.1.symm
  refine lv_aload_n hx hb dL_law_1859 rfl (lv_at hl 3 rfl) ?_
  refine zl_arg C 1 (lv_at hl 5 rfl) (lv_at hl 1 rfl) (by omega) hS rfl dL_law_1860 dL_law_1861 dL_law_1863 dL_law_1864 dL_law_1865 ?_
  refine zl_arg C 2 (lv_at hl 5 rfl) (lv_at hl 1 rfl) (by omega) hS rfl dL_law_1866 dL_law_1867 dL_law_1869 dL_law_1870 dL_law_1871 ?_
  obtain ⟨-, -, hM⟩ := zrun_met hAd hJv hNw (j := 234) (by decide) hm (zva_ok (k := 16) (by decide) [(xs (6 * t + 1)), (xs (6 * t + 2))]) rfl zkw_X6_stop_n
  refine zW_ret hS (zl_v (a := 234) (kd := 16) (as := [zI (xs (6 * t + 1)), zI (xs (6 * t + 2))]) (rest := []) hx hb hmz hown hts hG hH (by decide) zkw_X6_stop_o hM (by decide) zkw_X6_stop_l zkw_X6_stop_v zkw_X6_stop_p zkw_X6_stop_f zkw_X6_stop_r hP hS (Nat.le_of_ble_eq_true rfl) dL_law_1872 (by show 415 + ρ1.2 + (ρ1.2 - ρ1.2) ≤ 601024; omega) (by show 38178 + 6 * ρ1.2 + 6 * (ρ1.2 - ρ1.2) ≤ 7293034; omega) rfl) (fun H locs hP hS => ?_)
  refine W.widen (k := 415 + ρ1.2) (n := 38178 + 6 * ρ1.2) (by show 415 + ρ1.2 + (ρ1.2 - ρ1.2) ≤ _; omega) (by show 38178 + 6 * ρ1.2 + 6 * (ρ1.2 - ρ1.2) ≤ _; omega) ?_
  refine lv_istore hx hb dL_law_1875 hl (by decide) rfl (fun ls hl => ?_)
  have hmz := hml.trans hl.1.symm
  refine lv_aload_n hx hb dL_law_1877 rfl (lv_at hl 4 rfl) ?_
  clear hM
  obtain ⟨-, -, hM⟩ := zrun_met hAd hJv hNw (j := 135) (by decide) (e_X6_thrown 0 (M2, ρ1)) (zva_ok (k := 16) (by decide) []) rfl zkw_X6_thrown_n
  refine zW_ret hS (zl_v (a := 135) (kd := 16) (as := []) (rest := []) hx hb hmz hown hts hG hH (by decide) zkw_X6_thrown_o hM (by decide) zkw_X6_thrown_l zkw_X6_thrown_v zkw_X6_thrown_p zkw_X6_thrown_f zkw_X6_thrown_r hP hS (Nat.le_of_ble_eq_true rfl) dL_law_1878 (by show 415 + ρ1.2 + (ρ1.2 - ρ1.2) ≤ 601024; omega) (by show 38178 + 6 * ρ1.2 + 6 * (ρ1.2 - ρ1.2) ≤ 7293034; omega) rfl) (fun H locs hP hS => ?_)
  refine W.widen (k := 415 + ρ1.2) (n := 38178 + 6 * ρ1.2) (by show 415 + ρ1.2 + (ρ1.2 - ρ1.2) ≤ _; omega) (by show 38178 + 6 * ρ1.2 + 6 * (ρ1.2 - ρ1.2) ≤ _; omega) ?_
  refine lv_iload hx hb dL_law_1881 (lv_at hl 1 rfl) ?_
  refine lv_icmp_eq (tgt := 1888) hx hb dL_law_1883 rfl (fun _ => ?_) (fun q => absurd ht0 q)
  refine lv_iload hx hb dL_law_1888 (lv_at hl 1 rfl) ?_
  have fin : W p l e room_1 s m #[Value.ref bS] below meth c H locs (415 + ρ1.2) (38178 + 6 * ρ1.2) Q (F0 m 1905 ls []) := lv_goto (tgt := 2175) hx hb dL_law_1905 rfl (kk M2 ρ1 _ _ ls hR2 (by omega) (lv_sub hl [2, 3, 4, 5, 6] rfl) hP hS)
  refine lv_if_ne (tgt := 1905) hx hb dL_law_1890 rfl (fun _ => fin) (fun hk => ?_)
  refine lv_aload_n hx hb dL_law_1893 rfl (lv_at hl 3 rfl) ?_
  refine lv_iconst (v := 0) hx hb dL_law_1894 (by decide) ?_
  refine va_lald hx hb hG.1 hP 414 2 zout_get rfl (vp_in_nI (n := 0) (N := 1) (by decide) (by decide)) dL_law_1895 ?_
  refine lv_iload hx hb dL_law_1896 (lv_at hl 0 rfl) ?_
  refine lv_i2l hx hb dL_law_1898 rfl ?_
  refine W.lcmp hx hb dL_law_1899 ?_
  exact lv_if_eq (tgt := 1905) hx hb dL_law_1900 rfl (fun _ => fin) (fun q => absurd (by rw [← ho hk]; exact lg_cmp_self _) q)
theorem zkw_X6_room_l : Cond.methodLink RL 193 (zy 235) ∈ zTb := zTb_in (i := 1615) (by decide +kernel) rfl
theorem zkw_X6_room_o : 10 + zown 235 = 16 := by decide +kernel
theorem zkw_X6_room_v : (match zMW[235]? with
      | some q => !q.1
      | none => false) = true := by decide +kernel
theorem zkw_X6_room_p : (parseMethodDescriptor (zy 235).desc).map (fun d => d.parameters.length) = some 3 := by decide +kernel
theorem zkw_X6_room_n : 4 ≤ (zP 235).2 := by decide +kernel
theorem zkw_X6_room_f : zfr 235 + 1 ≤ 14 := by decide +kernel
theorem zkw_X6_room_r : 8 + ((zP 235).2 + 11) + zlo 235 ≤ 526 := by decide +kernel
theorem zkh_room_l : Cond.methodLink RL 191 yL_room ∈ zTb := zTb_in (i := 1095) (by decide +kernel) rfl
theorem zkh_room_s : Cond.static yL_room ∈ zTb := zTb_in (i := 1096) (by decide +kernel) rfl
theorem zkh_room_p : (parseMethodDescriptor yL_room.desc).map (fun d => d.parameters.length) = some (3 + 2) := by decide +kernel
theorem zkh_room_f : zfr 117 + 1 + 1 ≤ 14 := by decide +kernel
theorem zkh_room_r : 8 + (6 + 11) + (19 + (zP 117).2 + zlo 117) ≤ 526 := by decide +kernel
set_option maxHeartbeats 4000000 in
set_option maxRecDepth 100000 in
theorem zkc_26 (C : zLC D g adr p s m meth c bS L xs) (hAd : zAd adr s.heap) (hJv : zJv l D g adr s.heap) (hNw : zNw l D g adr s.heap) {t : Nat} (ht : 6 * t + 6 ≤ L) {M : zMem} {ρ : Int64 × Nat} (hR : zRel M) (hl : lv_has ls 7 (zLl adr bS (6 * t))) (hP : va_P D vwCl (zwd g adr (M, ρ)) H) (hS : va_S (zA s.heap) s.heap H locs) (hn : ρ.2 ≤ t) (kk : zKo p l e s m below meth c Q D g adr bS t) : W p l e room_1 s m #[Value.ref bS] below meth c H locs (415 + ρ.2) (38178 + 6 * ρ.2) Q (F0 m 1908 ls []) := by
  have C0 := C
  obtain ⟨hx, hb, hml, hown, hts, hG, hN, hX, hbl, hL⟩ := C0
  have hH : s.heap.size ≤ s.heap.size ∧ ∀ q : Nat, q < s.heap.size → s.heap[q]? = s.heap[q]? := ⟨Nat.le_refl _, fun _ _ => rfl⟩
  have hmz := hml.trans hl.1.symm
  obtain ⟨k, M1, ρ1, x2, M2, hh, hm, ht0, ho, hR2, hn1, hn2⟩ := zag_use (a_room hR (xs (6 * t + 1)) (xs (6 * t + 2)) (xs (6 * t + 3))) ρ
  refine lv_aload_n hx hb dL_law_1908 rfl (lv_at hl 3 rfl) ?_
  refine zl_arg C 1 (lv_at hl 4 rfl) (lv_at hl 0 rfl) (by omega) hS rfl dL_law_1909 dL_law_1910 dL_law_1912 dL_law_1913 dL_law_1914 ?_
  refine zl_arg C 2 (lv_at hl 4 rfl) (lv_at hl 0 rfl) (by omega) hS rfl dL_law_1915 dL_law_1916 dL_law_1918 dL_law_1919 dL_law_1920 ?_
  refine zl_arg C 3 (lv_at hl 4 rfl) (lv_at hl 0 rfl) (by omega) hS rfl dL_law_1921 dL_law_1922 dL_law_1924 dL_law_1925 dL_law_1926 ?_
  refine lv_aload_n hx hb dL_law_1927 rfl (lv_at hl 1 rfl) ?_
  refine zW_ret hS (zl_help (rest := []) hx hb hmz hown hts hG hN hH (zh_room hAd hJv hNw (xs (6 * t + 1)) (xs (6 * t + 2)) (xs (6 * t + 3)) hh) rfl zkh_room_l zkh_room_s zhw_room_c zkh_room_p zkh_room_f zkh_room_r hP hS (Nat.le_of_ble_eq_true rfl) dL_law_1928 (by show 415 + ρ.2 + (ρ1.2 - ρ.2) ≤ 601024; omega) (by show 38178 + 6 * ρ.2 + 6 * (ρ1.2 - ρ.2) ≤ 7293034; omega) rfl) (fun H locs hP hS => ?_)
  refine W.widen (k := 415 + ρ1.2) (n := 38178 + 6 * ρ1.2) (by show 415 + ρ.2 + (ρ1.2 - ρ.2) ≤ _; omega) (by show 38178 + 6 * ρ.2 + 6 * (ρ1.2 - ρ.2) ≤ _; omega) ?_
  refine lv_istore hx hb dL_law_1931 hl (by decide) rfl (fun ls hl => ?_)
  have hmz := hml.trans hl.1.symm
  refine lv_aload_n hx hb dL_law_1933 rfl (lv_at hl 3 rfl) ?_
  refine zl_arg C 1 (lv_at hl 5 rfl) (lv_at hl 1 rfl) (by omega) hS rfl dL_law_1934 dL_law_1935 dL_law_1937 dL_law_1938 dL_law_1939 ?_
  refine zl_arg C 2 (lv_at hl 5 rfl) (lv_at hl 1 rfl) (by omega) hS rfl dL_law_1940 dL_law_1941 dL_law_1943 dL_law_1944 dL_law_1945 ?_
  refine zl_arg C 3 (lv_at hl 5 rfl) (lv_at hl 1 rfl) (by omega) hS rfl dL_law_1946 dL_law_1947 dL_law_1949 dL_law_1950 dL_law_1951 ?_
  obtain ⟨-, -, hM⟩ := zrun_met hAd hJv hNw (j := 235) (by decide) hm (zva_ok (k := 16) (by decide) [(xs (6 * t + 1)), (xs (6 * t + 2)), (xs (6 * t + 3))]) rfl zkw_X6_room_n
  refine zW_ret hS (zl_v (a := 235) (kd := 16) (as := [zI (xs (6 * t + 1)), zI (xs (6 * t + 2)), zI (xs (6 * t + 3))]) (rest := []) hx hb hmz hown hts hG hH (by decide) zkw_X6_room_o hM (by decide) zkw_X6_room_l zkw_X6_room_v zkw_X6_room_p zkw_X6_room_f zkw_X6_room_r hP hS (Nat.le_of_ble_eq_true rfl) dL_law_1952 (by show 415 + ρ1.2 + (ρ1.2 - ρ1.2) ≤ 601024; omega) (by show 38178 + 6 * ρ1.2 + 6 * (ρ1.2 - ρ1.2) ≤ 7293034; omega) rfl) (fun H locs hP hS => ?_)
  refine W.widen (k := 415 + ρ1.2) (n := 38178 + 6 * ρ1.2) (by show 415 + ρ1.2 + (ρ1.2 - ρ1.2) ≤ _; omega) (by show 38178 + 6 * ρ1.2 + 6 * (ρ1.2 - ρ1.2) ≤ _; omega) ?_
  refine lv_istore hx hb dL_law_1955 hl (by decide) rfl (fun ls hl => ?_)
  have hmz := hml.trans hl.1.symm
  refine lv_aload_n hx hb dL_law_1957 rfl (lv_at hl 4 rfl) ?_
  clear hM
  obtain ⟨-, -, hM⟩ := zrun_met hAd hJv hNw (j := 135) (by decide) (e_X6_thrown 0 (M2, ρ1)) (zva_ok (k := 16) (by decide) []) rfl zkw_X6_thrown_n
  refine zW_ret hS (zl_v (a := 135) (kd := 16) (as := []) (rest := []) hx hb hmz hown hts hG hH (by decide) zkw_X6_thrown_o hM (by decide) zkw_X6_thrown_l zkw_X6_thrown_v zkw_X6_thrown_p zkw_X6_thrown_f zkw_X6_thrown_r hP hS (Nat.le_of_ble_eq_true rfl) dL_law_1958 (by show 415 + ρ1.2 + (ρ1.2 - ρ1.2) ≤ 601024; omega) (by show 38178 + 6 * ρ1.2 + 6 * (ρ1.2 - ρ1.2) ≤ 7293034; omega) rfl) (fun H locs hP hS => ?_)
  refine W.widen (k := 415 + ρ1.2) (n := 38178 + 6 * ρ1.2) (by show 415 + ρ1.2 + (ρ1.2 - ρ1.2) ≤ _; omega) (by show 38178 + 6 * ρ1.2 + 6 * (ρ1.2 - ρ1.2) ≤ _; omega) ?_
  refine lv_iload hx hb dL_law_1961 (lv_at hl 1 rfl) ?_
  refine lv_icmp_eq (tgt := 1968) hx hb dL_law_1963 rfl (fun _ => ?_) (fun q => absurd ht0 q)
  refine lv_iload hx hb dL_law_1968 (lv_at hl 1 rfl) ?_
  have fin : W p l e room_1 s m #[Value.ref bS] below meth c H locs (415 + ρ1.2) (38178 + 6 * ρ1.2) Q (F0 m 1985 ls []) := lv_goto (tgt := 2175) hx hb dL_law_1985 rfl (kk M2 ρ1 _ _ ls hR2 (by omega) (lv_sub hl [2, 3, 4, 5, 6] rfl) hP hS)
  refine lv_if_ne (tgt := 1985) hx hb dL_law_1970 rfl (fun _ => fin) (fun hk => ?_)
  refine lv_aload_n hx hb dL_law_1973 rfl (lv_at hl 3 rfl) ?_
  refine lv_iconst (v := 0) hx hb dL_law_1974 (by decide) ?_
  refine va_lald hx hb hG.1 hP 414 2 zout_get rfl (vp_in_nI (n := 0) (N := 1) (by decide) (by decide)) dL_law_1975 ?_
  refine lv_iload hx hb dL_law_1976 (lv_at hl 0 rfl) ?_
  refine lv_i2l hx hb dL_law_1978 rfl ?_
  refine W.lcmp hx hb dL_law_1979 ?_
  exact lv_if_eq (tgt := 1985) hx hb dL_law_1980 rfl (fun _ => fin) (fun q => absurd (by rw [← ho hk]; exact lg_cmp_self _) q)
theorem zkw_X6_agree_l : Cond.methodLink RL 196 (zy 238) ∈ zTb := zTb_in (i := 1619) (by decide +kernel) rfl
theorem zkw_X6_agree_o : 10 + zown 238 = 16 := by decide +kernel
theorem zkw_X6_agree_v : (match zMW[238]? with
      | some q => !q.1
      | none => false) = true := by decide +kernel
theorem zkw_X6_agree_p : (parseMethodDescriptor (zy 238).desc).map (fun d => d.parameters.length) = some 2 := by decide +kernel
theorem zkw_X6_agree_n : 3 ≤ (zP 238).2 := by decide +kernel
theorem zkw_X6_agree_f : zfr 238 + 1 ≤ 14 := by decide +kernel
theorem zkw_X6_agree_r : 8 + ((zP 238).2 + 11) + zlo 238 ≤ 526 := by decide +kernel
theorem zkh_agree_l : Cond.methodLink RL 194 yL_agree ∈ zTb := zTb_in (i := 1104) (by decide +kernel) rfl
theorem zkh_agree_s : Cond.static yL_agree ∈ zTb := zTb_in (i := 1105) (by decide +kernel) rfl
theorem zkh_agree_p : (parseMethodDescriptor yL_agree.desc).map (fun d => d.parameters.length) = some (2 + 2) := by decide +kernel
theorem zkh_agree_f : zfr 118 + 1 + 1 ≤ 14 := by decide +kernel
theorem zkh_agree_r : 8 + (5 + 11) + (19 + (zP 118).2 + zlo 118) ≤ 526 := by decide +kernel
set_option maxHeartbeats 4000000 in
set_option maxRecDepth 100000 in
theorem zkc_27 (C : zLC D g adr p s m meth c bS L xs) (hAd : zAd adr s.heap) (hJv : zJv l D g adr s.heap) (hNw : zNw l D g adr s.heap) {t : Nat} (ht : 6 * t + 6 ≤ L) {M : zMem} {ρ : Int64 × Nat} (hR : zRel M) (hl : lv_has ls 7 (zLl adr bS (6 * t))) (hP : va_P D vwCl (zwd g adr (M, ρ)) H) (hS : va_S (zA s.heap) s.heap H locs) (hn : ρ.2 ≤ t) (kk : zKo p l e s m below meth c Q D g adr bS t) : W p l e room_1 s m #[Value.ref bS] below meth c H locs (415 + ρ.2) (38178 + 6 * ρ.2) Q (F0 m 1988 ls []) := by
  have C0 := C
  obtain ⟨hx, hb, hml, hown, hts, hG, hN, hX, hbl, hL⟩ := C0
  have hH : s.heap.size ≤ s.heap.size ∧ ∀ q : Nat, q < s.heap.size → s.heap[q]? = s.heap[q]? := ⟨Nat.le_refl _, fun _ _ => rfl⟩
  have hmz := hml.trans hl.1.symm
  obtain ⟨k, M1, ρ1, x2, M2, hh, hm, ht0, ho, hR2, hn1, hn2⟩ := zag_use (a_agree hR (xs (6 * t + 1)) (xs (6 * t + 2))) ρ
  refine lv_aload_n hx hb dL_law_1988 rfl (lv_at hl 3 rfl) ?_
  refine zl_arg C 1 (lv_at hl 4 rfl) (lv_at hl 0 rfl) (by omega) hS rfl dL_law_1989 dL_law_1990 dL_law_1992 dL_law_1993 dL_law_1994 ?_
  refine zl_arg C 2 (lv_at hl 4 rfl) (lv_at hl 0 rfl) (by omega) hS rfl dL_law_1995 dL_law_1996 dL_law_1998 dL_law_1999 dL_law_2000 ?_
  refine lv_aload_n hx hb dL_law_2001 rfl (lv_at hl 1 rfl) ?_
  refine zW_ret hS (zl_help (rest := []) hx hb hmz hown hts hG hN hH (zh_agree hAd hJv hNw (xs (6 * t + 1)) (xs (6 * t + 2)) hh) rfl zkh_agree_l zkh_agree_s zhw_agree_c zkh_agree_p zkh_agree_f zkh_agree_r hP hS (Nat.le_of_ble_eq_true rfl) dL_law_2002 (by show 415 + ρ.2 + (ρ1.2 - ρ.2) ≤ 601024; omega) (by show 38178 + 6 * ρ.2 + 6 * (ρ1.2 - ρ.2) ≤ 7293034; omega) rfl) (fun H locs hP hS => ?_)
  refine W.widen (k := 415 + ρ1.2) (n := 38178 + 6 * ρ1.2) (by show 415 + ρ.2 + (ρ1.2 - ρ.2) ≤ _; omega) (by show 38178 + 6 * ρ.2 + 6 * (ρ1.2 - ρ.2) ≤ _; omega) ?_
  refine lv_istore hx hb dL_law_2005 hl (by decide) rfl (fun ls hl => ?_)
  have hmz := hml.trans hl.1.symm
  refine lv_aload_n hx hb dL_law_2007 rfl (lv_at hl 3 rfl) ?_
  refine zl_arg C 1 (lv_at hl 5 rfl) (lv_at hl 1 rfl) (by omega) hS rfl dL_law_2008 dL_law_2009 dL_law_2011 dL_law_2012 dL_law_2013 ?_
  refine zl_arg C 2 (lv_at hl 5 rfl) (lv_at hl 1 rfl) (by omega) hS rfl dL_law_2014 dL_law_2015 dL_law_2017 dL_law_2018 dL_law_2019 ?_
  obtain ⟨-, -, hM⟩ := zrun_met hAd hJv hNw (j := 238) (by decide) hm (zva_ok (k := 16) (by decide) [(xs (6 * t + 1)), (xs (6 * t + 2))]) rfl zkw_X6_agree_n
  refine zW_ret hS (zl_v (a := 238) (kd := 16) (as := [zI (xs (6 * t + 1)), zI (xs (6 * t + 2))]) (rest := []) hx hb hmz hown hts hG hH (by decide) zkw_X6_agree_o hM (by decide) zkw_X6_agree_l zkw_X6_agree_v zkw_X6_agree_p zkw_X6_agree_f zkw_X6_agree_r hP hS (Nat.le_of_ble_eq_true rfl) dL_law_2020 (by show 415 + ρ1.2 + (ρ1.2 - ρ1.2) ≤ 601024; omega) (by show 38178 + 6 * ρ1.2 + 6 * (ρ1.2 - ρ1.2) ≤ 7293034; omega) rfl) (fun H locs hP hS => ?_)
  refine W.widen (k := 415 + ρ1.2) (n := 38178 + 6 * ρ1.2) (by show 415 + ρ1.2 + (ρ1.2 - ρ1.2) ≤ _; omega) (by show 38178 + 6 * ρ1.2 + 6 * (ρ1.2 - ρ1.2) ≤ _; omega) ?_
  refine lv_istore hx hb dL_law_2023 hl (by decide) rfl (fun ls hl => ?_)
  have hmz := hml.trans hl.1.symm
  refine lv_aload_n hx hb dL_law_2025 rfl (lv_at hl 4 rfl) ?_
  clear hM
  obtain ⟨-, -, hM⟩ := zrun_met hAd hJv hNw (j := 135) (by decide) (e_X6_thrown 0 (M2, ρ1)) (zva_ok (k := 16) (by decide) []) rfl zkw_X6_thrown_n
  refine zW_ret hS (zl_v (a := 135) (kd := 16) (as := []) (rest := []) hx hb hmz hown hts hG hH (by decide) zkw_X6_thrown_o hM (by decide) zkw_X6_thrown_l zkw_X6_thrown_v zkw_X6_thrown_p zkw_X6_thrown_f zkw_X6_thrown_r hP hS (Nat.le_of_ble_eq_true rfl) dL_law_2026 (by show 415 + ρ1.2 + (ρ1.2 - ρ1.2) ≤ 601024; omega) (by show 38178 + 6 * ρ1.2 + 6 * (ρ1.2 - ρ1.2) ≤ 7293034; omega) rfl) (fun H locs hP hS => ?_)
  refine W.widen (k := 415 + ρ1.2) (n := 38178 + 6 * ρ1.2) (by show 415 + ρ1.2 + (ρ1.2 - ρ1.2) ≤ _; omega) (by show 38178 + 6 * ρ1.2 + 6 * (ρ1.2 - ρ1.2) ≤ _; omega) ?_
  refine lv_iload hx hb dL_law_2029 (lv_at hl 1 rfl) ?_
  refine lv_icmp_eq (tgt := 2036) hx hb dL_law_2031 rfl (fun _ => ?_) (fun q => absurd ht0 q)
  refine lv_iload hx hb dL_law_2036 (lv_at hl 1 rfl) ?_
  have fin : W p l e room_1 s m #[Value.ref bS] below meth c H locs (415 + ρ1.2) (38178 + 6 * ρ1.2) Q (F0 m 2053 ls []) := lv_goto (tgt := 2175) hx hb dL_law_2053 rfl (kk M2 ρ1 _ _ ls hR2 (by omega) (lv_sub hl [2, 3, 4, 5, 6] rfl) hP hS)
  refine lv_if_ne (tgt := 2053) hx hb dL_law_2038 rfl (fun _ => fin) (fun hk => ?_)
  refine lv_aload_n hx hb dL_law_2041 rfl (lv_at hl 3 rfl) ?_
  refine lv_iconst (v := 0) hx hb dL_law_2042 (by decide) ?_
  refine va_lald hx hb hG.1 hP 414 2 zout_get rfl (vp_in_nI (n := 0) (N := 1) (by decide) (by decide)) dL_law_2043 ?_
  refine lv_iload hx hb dL_law_2044 (lv_at hl 0 rfl) ?_
  refine lv_i2l hx hb dL_law_2046 rfl ?_
  refine W.lcmp hx hb dL_law_2047 ?_
  exact lv_if_eq (tgt := 2053) hx hb dL_law_2048 rfl (fun _ => fin) (fun q => absurd (by rw [← ho hk]; exact lg_cmp_self _) q)
theorem zkw_X6_same_l : Cond.methodLink RL 199 (zy 242) ∈ zTb := zTb_in (i := 1626) (by decide +kernel) rfl
theorem zkw_X6_same_o : 10 + zown 242 = 16 := by decide +kernel
theorem zkw_X6_same_v : (match zMW[242]? with
      | some q => !q.1
      | none => false) = true := by decide +kernel
theorem zkw_X6_same_p : (parseMethodDescriptor (zy 242).desc).map (fun d => d.parameters.length) = some 3 := by decide +kernel
theorem zkw_X6_same_n : 4 ≤ (zP 242).2 := by decide +kernel
theorem zkw_X6_same_f : zfr 242 + 1 ≤ 14 := by decide +kernel
theorem zkw_X6_same_r : 8 + ((zP 242).2 + 11) + zlo 242 ≤ 526 := by decide +kernel
theorem zkh_same_l : Cond.methodLink RL 197 yL_same ∈ zTb := zTb_in (i := 1116) (by decide +kernel) rfl
theorem zkh_same_s : Cond.static yL_same ∈ zTb := zTb_in (i := 1117) (by decide +kernel) rfl
theorem zkh_same_p : (parseMethodDescriptor yL_same.desc).map (fun d => d.parameters.length) = some (3 + 2) := by decide +kernel
theorem zkh_same_f : zfr 119 + 1 + 1 ≤ 14 := by decide +kernel
theorem zkh_same_r : 8 + (6 + 11) + (19 + (zP 119).2 + zlo 119) ≤ 526 := by decide +kernel
set_option maxHeartbeats 4000000 in
set_option maxRecDepth 100000 in
theorem zkc_28 (C : zLC D g adr p s m meth c bS L xs) (hAd : zAd adr s.heap) (hJv : zJv l D g adr s.heap) (hNw : zNw l D g adr s.heap) {t : Nat} (ht : 6 * t + 6 ≤ L) {M : zMem} {ρ : Int64 × Nat} (hR : zRel M) (hl : lv_has ls 7 (zLl adr bS (6 * t))) (hP : va_P D vwCl (zwd g adr (M, ρ)) H) (hS : va_S (zA s.heap) s.heap H locs) (hn : ρ.2 ≤ t) (kk : zKo p l e s m below meth c Q D g adr bS t) : W p l e room_1 s m #[Value.ref bS] below meth c H locs (415 + ρ.2) (38178 + 6 * ρ.2) Q (F0 m 2056 ls []) := by
  have C0 := C
  obtain ⟨hx, hb, hml, hown, hts, hG, hN, hX, hbl, hL⟩ := C0
  have hH : s.heap.size ≤ s.heap.size ∧ ∀ q : Nat, q < s.heap.size → s.heap[q]? = s.heap[q]? := ⟨Nat.le_refl _, fun _ _ => rfl⟩
  have hmz := hml.trans hl.1.symm
  obtain ⟨k, M1, ρ1, x2, M2, hh, hm, ht0, ho, hR2, hn1, hn2⟩ := zag_use (a_same hR (xs (6 * t + 1)) (xs (6 * t + 2)) (xs (6 * t + 3))) ρ
  refine lv_aload_n hx hb dL_law_2056 rfl (lv_at hl 3 rfl) ?_
  refine zl_arg C 1 (lv_at hl 4 rfl) (lv_at hl 0 rfl) (by omega) hS rfl dL_law_2057 dL_law_2058 dL_law_2060 dL_law_2061 dL_law_2062 ?_
  refine zl_arg C 2 (lv_at hl 4 rfl) (lv_at hl 0 rfl) (by omega) hS rfl dL_law_2063 dL_law_2064 dL_law_2066 dL_law_2067 dL_law_2068 ?_
  refine zl_arg C 3 (lv_at hl 4 rfl) (lv_at hl 0 rfl) (by omega) hS rfl dL_law_2069 dL_law_2070 dL_law_2072 dL_law_2073 dL_law_2074 ?_
  refine lv_aload_n hx hb dL_law_2075 rfl (lv_at hl 1 rfl) ?_
  refine zW_ret hS (zl_help (rest := []) hx hb hmz hown hts hG hN hH (zh_same hAd hJv hNw (xs (6 * t + 1)) (xs (6 * t + 2)) (xs (6 * t + 3)) hh) rfl zkh_same_l zkh_same_s zhw_same_c zkh_same_p zkh_same_f zkh_same_r hP hS (Nat.le_of_ble_eq_true rfl) dL_law_2076 (by show 415 + ρ.2 + (ρ1.2 - ρ.2) ≤ 601024; omega) (by show 38178 + 6 * ρ.2 + 6 * (ρ1.2 - ρ.2) ≤ 7293034; omega) rfl) (fun H locs hP hS => ?_)
  refine W.widen (k := 415 + ρ1.2) (n := 38178 + 6 * ρ1.2) (by show 415 + ρ.2 + (ρ1.2 - ρ.2) ≤ _; omega) (by show 38178 + 6 * ρ.2 + 6 * (ρ1.2 - ρ.2) ≤ _; omega) ?_
  refine lv_istore hx hb dL_law_2079 hl (by decide) rfl (fun ls hl => ?_)
  have hmz := hml.trans hl.1.symm
  refine lv_aload_n hx hb dL_law_2081 rfl (lv_at hl 3 rfl) ?_
  refine zl_arg C 1 (lv_at hl 5 rfl) (lv_at hl 1 rfl) (by omega) hS rfl dL_law_2082 dL_law_2083 dL_law_2085 dL_law_2086 dL_law_2087 ?_
  refine zl_arg C 2 (lv_at hl 5 rfl) (lv_at hl 1 rfl) (by omega) hS rfl dL_law_2088 dL_law_2089 dL_law_2091 dL_law_2092 dL_law_2093 ?_
  refine zl_arg C 3 (lv_at hl 5 rfl) (lv_at hl 1 rfl) (by omega) hS rfl dL_law_2094 dL_law_2095 dL_law_2097 dL_law_2098 dL_law_2099 ?_
  obtain ⟨-, -, hM⟩ := zrun_met hAd hJv hNw (j := 242) (by decide) hm (zva_ok (k := 16) (by decide) [(xs (6 * t + 1)), (xs (6 * t + 2)), (xs (6 * t + 3))]) rfl zkw_X6_same_n
  refine zW_ret hS (zl_v (a := 242) (kd := 16) (as := [zI (xs (6 * t + 1)), zI (xs (6 * t + 2)), zI (xs (6 * t + 3))]) (rest := []) hx hb hmz hown hts hG hH (by decide) zkw_X6_same_o hM (by decide) zkw_X6_same_l zkw_X6_same_v zkw_X6_same_p zkw_X6_same_f zkw_X6_same_r hP hS (Nat.le_of_ble_eq_true rfl) dL_law_2100 (by show 415 + ρ1.2 + (ρ1.2 - ρ1.2) ≤ 601024; omega) (by show 38178 + 6 * ρ1.2 + 6 * (ρ1.2 - ρ1.2) ≤ 7293034; omega) rfl) (fun H locs hP hS => ?_)
  refine W.widen (k := 415 + ρ1.2) (n := 38178 + 6 * ρ1.2) (by show 415 + ρ1.2 + (ρ1.2 - ρ1.2) ≤ _; omega) (by show 38178 + 6 * ρ1.2 + 6 * (ρ1.2 - ρ1.2) ≤ _; omega) ?_
  refine lv_istore hx hb dL_law_2103 hl (by decide) rfl (fun ls hl => ?_)
  have hmz := hml.trans hl.1.symm
  refine lv_aload_n hx hb dL_law_2105 rfl (lv_at hl 4 rfl) ?_
  clear hM
  obtain ⟨-, -, hM⟩ := zrun_met hAd hJv hNw (j := 135) (by decide) (e_X6_thrown 0 (M2, ρ1)) (zva_ok (k := 16) (by decide) []) rfl zkw_X6_thrown_n
  refine zW_ret hS (zl_v (a := 135) (kd := 16) (as := []) (rest := []) hx hb hmz hown hts hG hH (by decide) zkw_X6_thrown_o hM (by decide) zkw_X6_thrown_l zkw_X6_thrown_v zkw_X6_thrown_p zkw_X6_thrown_f zkw_X6_thrown_r hP hS (Nat.le_of_ble_eq_true rfl) dL_law_2106 (by show 415 + ρ1.2 + (ρ1.2 - ρ1.2) ≤ 601024; omega) (by show 38178 + 6 * ρ1.2 + 6 * (ρ1.2 - ρ1.2) ≤ 7293034; omega) rfl) (fun H locs hP hS => ?_)
  refine W.widen (k := 415 + ρ1.2) (n := 38178 + 6 * ρ1.2) (by show 415 + ρ1.2 + (ρ1.2 - ρ1.2) ≤ _; omega) (by show 38178 + 6 * ρ1.2 + 6 * (ρ1.2 - ρ1.2) ≤ _; omega) ?_
  refine lv_iload hx hb dL_law_2109 (lv_at hl 1 rfl) ?_
  refine lv_icmp_eq (tgt := 2116) hx hb dL_law_2111 rfl (fun _ => ?_) (fun q => absurd ht0 q)
  refine lv_iload hx hb dL_law_2116 (lv_at hl 1 rfl) ?_
  have fin : W p l e room_1 s m #[Value.ref bS] below meth c H locs (415 + ρ1.2) (38178 + 6 * ρ1.2) Q (F0 m 2133 ls []) := lv_goto (tgt := 2175) hx hb dL_law_2133 rfl (kk M2 ρ1 _ _ ls hR2 (by omega) (lv_sub hl [2, 3, 4, 5, 6] rfl) hP hS)
  refine lv_if_ne (tgt := 2133) hx hb dL_law_2118 rfl (fun _ => fin) (fun hk => ?_)
  refine lv_aload_n hx hb dL_law_2121 rfl (lv_at hl 3 rfl) ?_
  refine lv_iconst (v := 0) hx hb dL_law_2122 (by decide) ?_
  refine va_lald hx hb hG.1 hP 414 2 zout_get rfl (vp_in_nI (n := 0) (N := 1) (by decide) (by decide)) dL_law_2123 ?_
  refine lv_iload hx hb dL_law_2124 (lv_at hl 0 rfl) ?_
  refine lv_i2l hx hb dL_law_2126 rfl ?_
  refine W.lcmp hx hb dL_law_2127 ?_
  exact lv_if_eq (tgt := 2133) hx hb dL_law_2128 rfl (fun _ => fin) (fun q => absurd (by rw [← ho hk]; exact lg_cmp_self _) q)
theorem zkw_X6_print_l : Cond.methodLink RL 204 (zy 243) ∈ zTb := zTb_in (i := 1638) (by decide +kernel) rfl
theorem zkw_X6_print_o : 10 + zown 243 = 16 := by decide +kernel
theorem zkw_X6_print_v : (match zMW[243]? with
      | some q => !q.1
      | none => false) = true := by decide +kernel
theorem zkw_X6_print_p : (parseMethodDescriptor (zy 243).desc).map (fun d => d.parameters.length) = some 0 := by decide +kernel
theorem zkw_X6_print_n : 1 ≤ (zP 243).2 := by decide +kernel
theorem zkw_X6_print_f : zfr 243 + 1 ≤ 14 := by decide +kernel
theorem zkw_X6_print_r : 8 + ((zP 243).2 + 11) + zlo 243 ≤ 526 := by decide +kernel
theorem zkw_X5_print_l : Cond.methodLink RL 200 (zy 120) ∈ zTb := zTb_in (i := 349) (by decide +kernel) rfl
theorem zkw_X5_print_o : 10 + zown 120 = 15 := by decide +kernel
theorem zkw_X5_print_v : (match zMW[120]? with
      | some q => !q.1
      | none => false) = true := by decide +kernel
theorem zkw_X5_print_p : (parseMethodDescriptor (zy 120).desc).map (fun d => d.parameters.length) = some 0 := by decide +kernel
theorem zkw_X5_print_n : 1 ≤ (zP 120).2 := by decide +kernel
theorem zkw_X5_print_f : zfr 120 + 1 ≤ 14 := by decide +kernel
theorem zkw_X5_print_r : 8 + ((zP 120).2 + 11) + zlo 120 ≤ 526 := by decide +kernel
set_option maxHeartbeats 4000000 in
set_option maxRecDepth 100000 in
theorem zkc_29 (C : zLC D g adr p s m meth c bS L xs) (hAd : zAd adr s.heap) (hJv : zJv l D g adr s.heap) (hNw : zNw l D g adr s.heap) {t : Nat} (ht : 6 * t + 6 ≤ L) {M : zMem} {ρ : Int64 × Nat} (hR : zRel M) (hl : lv_has ls 7 (zLl adr bS (6 * t))) (hP : va_P D vwCl (zwd g adr (M, ρ)) H) (hS : va_S (zA s.heap) s.heap H locs) (hn : ρ.2 ≤ t) (kk : zKo p l e s m below meth c Q D g adr bS t) : W p l e room_1 s m #[Value.ref bS] below meth c H locs (415 + ρ.2) (38178 + 6 * ρ.2) Q (F0 m 2136 ls []) := by
  have C0 := C
  obtain ⟨hx, hb, hml, hown, hts, hG, hN, hX, hbl, hL⟩ := C0
  have hH : s.heap.size ≤ s.heap.size ∧ ∀ q : Nat, q < s.heap.size → s.heap[q]? = s.heap[q]? := ⟨Nat.le_refl _, fun _ _ => rfl⟩
  have hmz := hml.trans hl.1.symm
  obtain ⟨y, M1, M2, h1, h2, -, hR2⟩ := a_print hR ρ ρ
  refine lv_aload_n hx hb dL_law_2136 rfl (lv_at hl 3 rfl) ?_
  obtain ⟨-, -, hM⟩ := zrun_met hAd hJv hNw (j := 120) (by decide) h1 (zva_ok (k := 15) (by decide) []) rfl zkw_X5_print_n
  refine zW_ret hS (zl_v (a := 120) (kd := 15) (as := []) (rest := []) hx hb hmz hown hts hG hH (by decide) zkw_X5_print_o hM (by decide) zkw_X5_print_l zkw_X5_print_v zkw_X5_print_p zkw_X5_print_f zkw_X5_print_r hP hS (Nat.le_of_ble_eq_true rfl) dL_law_2137 (by show 415 + ρ.2 + (ρ.2 - ρ.2) ≤ 601024; omega) (by show 38178 + 6 * ρ.2 + 6 * (ρ.2 - ρ.2) ≤ 7293034; omega) rfl) (fun H locs hP hS => ?_)
  refine W.widen (k := 415 + ρ.2) (n := 38178 + 6 * ρ.2) (by show 415 + ρ.2 + (ρ.2 - ρ.2) ≤ _; omega) (by show 38178 + 6 * ρ.2 + 6 * (ρ.2 - ρ.2) ≤ _; omega) ?_
  refine lv_aload_n hx hb dL_law_2140 rfl (lv_at hl 2 rfl) ?_
  clear hM
  obtain ⟨-, -, hM⟩ := zrun_met hAd hJv hNw (j := 243) (by decide) h2 (zva_ok (k := 16) (by decide) []) rfl zkw_X6_print_n
  refine zW_ret hS (zl_v (a := 243) (kd := 16) (as := []) (rest := [.long y]) hx hb hmz hown hts hG hH (by decide) zkw_X6_print_o hM (by decide) zkw_X6_print_l zkw_X6_print_v zkw_X6_print_p zkw_X6_print_f zkw_X6_print_r hP hS (Nat.le_of_ble_eq_true rfl) dL_law_2141 (by show 415 + ρ.2 + (ρ.2 - ρ.2) ≤ 601024; omega) (by show 38178 + 6 * ρ.2 + 6 * (ρ.2 - ρ.2) ≤ 7293034; omega) rfl) (fun H locs hP hS => ?_)
  refine W.widen (k := 415 + ρ.2) (n := 38178 + 6 * ρ.2) (by show 415 + ρ.2 + (ρ.2 - ρ.2) ≤ _; omega) (by show 38178 + 6 * ρ.2 + 6 * (ρ.2 - ρ.2) ≤ _; omega) ?_
  refine W.lcmp hx hb dL_law_2144 ?_
  exact lv_if_eq (tgt := 2175) hx hb dL_law_2145 rfl (fun _ => kk M2 ρ _ _ ls hR2 (by omega) hl hP hS) (fun q => absurd (lg_cmp_self y) q)
theorem zkw_X6_status_l : Cond.methodLink RL 208 (zy 244) ∈ zTb := zTb_in (i := 1643) (by decide +kernel) rfl
theorem zkw_X6_status_o : 10 + zown 244 = 16 := by decide +kernel
theorem zkw_X6_status_v : (match zMW[244]? with
      | some q => !q.1
      | none => false) = true := by decide +kernel
theorem zkw_X6_status_p : (parseMethodDescriptor (zy 244).desc).map (fun d => d.parameters.length) = some 1 := by decide +kernel
theorem zkw_X6_status_n : 2 ≤ (zP 244).2 := by decide +kernel
theorem zkw_X6_status_f : zfr 244 + 1 ≤ 14 := by decide +kernel
theorem zkw_X6_status_r : 8 + ((zP 244).2 + 11) + zlo 244 ≤ 526 := by decide +kernel
theorem zkw_X5_status_l : Cond.methodLink RL 205 (zy 121) ∈ zTb := zTb_in (i := 354) (by decide +kernel) rfl
theorem zkw_X5_status_o : 10 + zown 121 = 15 := by decide +kernel
theorem zkw_X5_status_v : (match zMW[121]? with
      | some q => !q.1
      | none => false) = true := by decide +kernel
theorem zkw_X5_status_p : (parseMethodDescriptor (zy 121).desc).map (fun d => d.parameters.length) = some 1 := by decide +kernel
theorem zkw_X5_status_n : 2 ≤ (zP 121).2 := by decide +kernel
theorem zkw_X5_status_f : zfr 121 + 1 ≤ 14 := by decide +kernel
theorem zkw_X5_status_r : 8 + ((zP 121).2 + 11) + zlo 121 ≤ 526 := by decide +kernel
set_option maxHeartbeats 4000000 in
set_option maxRecDepth 100000 in
theorem zkc_30 (C : zLC D g adr p s m meth c bS L xs) (hAd : zAd adr s.heap) (hJv : zJv l D g adr s.heap) (hNw : zNw l D g adr s.heap) {t : Nat} (ht : 6 * t + 6 ≤ L) {M : zMem} {ρ : Int64 × Nat} (hR : zRel M) (hl : lv_has ls 7 (zLl adr bS (6 * t))) (hP : va_P D vwCl (zwd g adr (M, ρ)) H) (hS : va_S (zA s.heap) s.heap H locs) (hn : ρ.2 ≤ t) (kk : zKo p l e s m below meth c Q D g adr bS t) : W p l e room_1 s m #[Value.ref bS] below meth c H locs (415 + ρ.2) (38178 + 6 * ρ.2) Q (F0 m 2150 ls []) := by
  have C0 := C
  obtain ⟨hx, hb, hml, hown, hts, hG, hN, hX, hbl, hL⟩ := C0
  have hH : s.heap.size ≤ s.heap.size ∧ ∀ q : Nat, q < s.heap.size → s.heap[q]? = s.heap[q]? := ⟨Nat.le_refl _, fun _ _ => rfl⟩
  have hmz := hml.trans hl.1.symm
  obtain ⟨x, M1, M2, h1, h2, hR2⟩ := zag_none (a_status hR (xs (6 * t + 1))) ρ
  refine lv_aload_n hx hb dL_law_2150 rfl (lv_at hl 3 rfl) ?_
  refine zl_arg C 1 (lv_at hl 4 rfl) (lv_at hl 0 rfl) (by omega) hS rfl dL_law_2151 dL_law_2152 dL_law_2154 dL_law_2155 dL_law_2156 ?_
  obtain ⟨-, -, hM⟩ := zrun_met hAd hJv hNw (j := 121) (by decide) h1 (zva_ok (k := 15) (by decide) [(xs (6 * t + 1))]) rfl zkw_X5_status_n
  refine zW_ret hS (zl_v (a := 121) (kd := 15) (as := [zI (xs (6 * t + 1))]) (rest := []) hx hb hmz hown hts hG hH (by decide) zkw_X5_status_o hM (by decide) zkw_X5_status_l zkw_X5_status_v zkw_X5_status_p zkw_X5_status_f zkw_X5_status_r hP hS (Nat.le_of_ble_eq_true rfl) dL_law_2157 (by show 415 + ρ.2 + (ρ.2 - ρ.2) ≤ 601024; omega) (by show 38178 + 6 * ρ.2 + 6 * (ρ.2 - ρ.2) ≤ 7293034; omega) rfl) (fun H locs hP hS => ?_)
  refine W.widen (k := 415 + ρ.2) (n := 38178 + 6 * ρ.2) (by show 415 + ρ.2 + (ρ.2 - ρ.2) ≤ _; omega) (by show 38178 + 6 * ρ.2 + 6 * (ρ.2 - ρ.2) ≤ _; omega) ?_
  refine lv_aload_n hx hb dL_law_2160 rfl (lv_at hl 2 rfl) ?_
  refine zl_arg C 1 (lv_at hl 4 rfl) (lv_at hl 0 rfl) (by omega) hS rfl dL_law_2161 dL_law_2162 dL_law_2164 dL_law_2165 dL_law_2166 ?_
  clear hM
  obtain ⟨-, -, hM⟩ := zrun_met hAd hJv hNw (j := 244) (by decide) h2 (zva_ok (k := 16) (by decide) [(xs (6 * t + 1))]) rfl zkw_X6_status_n
  refine zW_ret hS (zl_v (a := 244) (kd := 16) (as := [zI (xs (6 * t + 1))]) (rest := [.int x]) hx hb hmz hown hts hG hH (by decide) zkw_X6_status_o hM (by decide) zkw_X6_status_l zkw_X6_status_v zkw_X6_status_p zkw_X6_status_f zkw_X6_status_r hP hS (Nat.le_of_ble_eq_true rfl) dL_law_2167 (by show 415 + ρ.2 + (ρ.2 - ρ.2) ≤ 601024; omega) (by show 38178 + 6 * ρ.2 + 6 * (ρ.2 - ρ.2) ≤ 7293034; omega) rfl) (fun H locs hP hS => ?_)
  refine W.widen (k := 415 + ρ.2) (n := 38178 + 6 * ρ.2) (by show 415 + ρ.2 + (ρ.2 - ρ.2) ≤ _; omega) (by show 38178 + 6 * ρ.2 + 6 * (ρ.2 - ρ.2) ≤ _; omega) ?_
  exact lv_icmp_eq (tgt := 2175) hx hb dL_law_2170 rfl (fun _ => kk M2 ρ _ _ ls hR2 (by omega) hl hP hS) (fun q => absurd rfl q)
end ZKC
