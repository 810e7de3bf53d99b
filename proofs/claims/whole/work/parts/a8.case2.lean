section ZKC
variable {p : Program} {l : Launch} {e : Env} {s : State} {m : MethodId} {below : List Frame} {meth : Method} {c : Code} {H : Heap} {locs : List Loc} {Q : State → Prop} {ls : Array Slot} {D : va_G} {g : zIds} {adr : Nat → Nat → Nat} {bS L : Nat} {xs : Nat → Int32}
theorem zkw_X6_tier_l : Cond.methodLink RL 162 (zy 225) ∈ zTb := zTb_in (i := 1559) (by decide +kernel) rfl
theorem zkw_X6_tier_o : 10 + zown 225 = 16 := by decide +kernel
theorem zkw_X6_tier_v : (match zMW[225]? with
      | some q => !q.1
      | none => false) = true := by decide +kernel
theorem zkw_X6_tier_p : (parseMethodDescriptor (zy 225).desc).map (fun d => d.parameters.length) = some 2 := by decide +kernel
theorem zkw_X6_tier_n : 3 ≤ (zP 225).2 := by decide +kernel
theorem zkw_X6_tier_f : zfr 225 + 1 ≤ 14 := by decide +kernel
theorem zkw_X6_tier_r : 8 + ((zP 225).2 + 11) + zlo 225 ≤ 526 := by decide +kernel
theorem zkh_tier_l : Cond.methodLink RL 160 yL_tier ∈ zTb := zTb_in (i := 996) (by decide +kernel) rfl
theorem zkh_tier_s : Cond.static yL_tier ∈ zTb := zTb_in (i := 997) (by decide +kernel) rfl
theorem zkh_tier_p : (parseMethodDescriptor yL_tier.desc).map (fun d => d.parameters.length) = some (2 + 2) := by decide +kernel
theorem zkh_tier_f : zfr 107 + 1 + 1 ≤ 14 := by decide +kernel
theorem zkh_tier_r : 8 + (5 + 11) + (19 + (zP 107).2 + zlo 107) ≤ 526 := by decide +kernel
set_option maxHeartbeats 4000000 in
set_option maxRecDepth 100000 in
theorem zkc_16 (C : zLC D g adr p s m meth c bS L xs) (hAd : zAd adr s.heap) (hJv : zJv l D g adr s.heap) (hNw : zNw l D g adr s.heap) {t : Nat} (ht : 6 * t + 6 ≤ L) {M : zMem} {ρ : Int64 × Nat} (hR : zRel M) (hl : lv_has ls 7 (zLl adr bS (6 * t))) (hP : va_P D vwCl (zwd g adr (M, ρ)) H) (hS : va_S (zA s.heap) s.heap H locs) (hn : ρ.2 ≤ t) (kk : zKo p l e s m below meth c Q D g adr bS t) : W p l e room_1 s m #[Value.ref bS] below meth c H locs (415 + ρ.2) (38178 + 6 * ρ.2) Q (F0 m 1120 ls []) := by
  have C0 := C
  obtain ⟨hx, hb, hml, hown, hts, hG, hN, hX, hbl, hL⟩ := C0
  have hH : s.heap.size ≤ s.heap.size ∧ ∀ q : Nat, q < s.heap.size → s.heap[q]? = s.heap[q]? := ⟨Nat.le_refl _, fun _ _ => rfl⟩
  have hmz := hml.trans hl.1.symm
  obtain ⟨k, M1, ρ1, x2, M2, hh, hm, ht0, ho, hR2, hn1, hn2⟩ := zag_use (a_tier hR (xs (6 * t + 1)) (xs (6 * t + 2))) ρ
  refine lv_aload_n hx hb dL_law_1120 rfl (lv_at hl 3 rfl) ?_
  refine zl_arg C 1 (lv_at hl 4 rfl) (lv_at hl 0 rfl) (by omega) hS rfl dL_law_1121 dL_law_1122 dL_law_1124 dL_law_1125 dL_law_1126 ?_
  refine zl_arg C 2 (lv_at hl 4 rfl) (lv_at hl 0 rfl) (by omega) hS rfl dL_law_1127 dL_law_1128 dL_law_1130 dL_law_1131 dL_law_1132 ?_
  refine lv_aload_n hx hb dL_law_1133 rfl (lv_at hl 1 rfl) ?_
  refine zW_ret hS (zl_help (rest := []) hx hb hmz hown hts hG hN hH (zh_tier hAd hJv hNw (xs (6 * t + 1)) (xs (6 * t + 2)) hh) rfl zkh_tier_l zkh_tier_s zhw_tier_c zkh_tier_p zkh_tier_f zkh_tier_r hP hS (Nat.le_of_ble_eq_true rfl) dL_law_1134 (by show 415 + ρ.2 + (ρ1.2 - ρ.2) ≤ 601024; omega) (by show 38178 + 6 * ρ.2 + 6 * (ρ1.2 - ρ.2) ≤ 7293034; omega) rfl) (fun H locs hP hS => ?_)
  refine W.widen (k := 415 + ρ1.2) (n := 38178 + 6 * ρ1.2) (by show 415 + ρ.2 + (ρ1.2 - ρ.2) ≤ _; omega) (by show 38178 + 6 * ρ.2 + 6 * (ρ1.2 - ρ.2) ≤ _; omega) ?_
  refine lv_istore hx hb dL_law_1137 hl (by decide) rfl (fun ls hl => ?_)
  have hmz := hml.trans hl.1.symm
  refine lv_aload_n hx hb dL_law_1139 rfl (lv_at hl 3 rfl) ?_
  refine zl_arg C 1 (lv_at hl 5 rfl) (lv_at hl 1 rfl) (by omega) hS rfl dL_law_1140 dL_law_1141 dL_law_1143 dL_law_1144 dL_law_1145 ?_
  refine zl_arg C 2 (lv_at hl 5 rfl) (lv_at hl 1 rfl) (by omega) hS rfl dL_law_1146 dL_law_1147 dL_law_1149 dL_law_1150 dL_law_1151 ?_
  obtain ⟨-, -, hM⟩ := zrun_met hAd hJv hNw (j := 225) (by decide) hm (zva_ok (k := 16) (by decide) [(xs (6 * t + 1)), (xs (6 * t + 2))]) rfl zkw_X6_tier_n
  refine zW_ret hS (zl_v (a := 225) (kd := 16) (as := [zI (xs (6 * t + 1)), zI (xs (6 * t + 2))]) (rest := []) hx hb hmz hown hts hG hH (by decide) zkw_X6_tier_o hM (by decide) zkw_X6_tier_l zkw_X6_tier_v zkw_X6_tier_p zkw_X6_tier_f zkw_X6_tier_r hP hS (Nat.le_of_ble_eq_true rfl) dL_law_1152 (by show 415 + ρ1.2 + (ρ1.2 - ρ1.2) ≤ 601024; omega) (by show 38178 + 6 * ρ1.2 + 6 * (ρ1.2 - ρ1.2) ≤ 7293034; omega) rfl) (fun H locs hP hS => ?_)
  refine W.widen (k := 415 + ρ1.2) (n := 38178 + 6 * ρ1.2) (by show 415 + ρ1.2 + (ρ1.2 - ρ1.2) ≤ _; omega) (by show 38178 + 6 * ρ1.2 + 6 * (ρ1.2 - ρ1.2) ≤ _; omega) ?_
  refine lv_istore hx hb dL_law_1155 hl (by decide) rfl (fun ls hl => ?_)
  have hmz := hml.trans hl.1.symm
  refine lv_aload_n hx hb dL_law_1157 rfl (lv_at hl 4 rfl) ?_
  clear hM
  obtain ⟨-, -, hM⟩ := zrun_met hAd hJv hNw (j := 135) (by decide) (e_X6_thrown 0 (M2, ρ1)) (zva_ok (k := 16) (by decide) []) rfl zkw_X6_thrown_n
  refine zW_ret hS (zl_v (a := 135) (kd := 16) (as := []) (rest := []) hx hb hmz hown hts hG hH (by decide) zkw_X6_thrown_o hM (by decide) zkw_X6_thrown_l zkw_X6_thrown_v zkw_X6_thrown_p zkw_X6_thrown_f zkw_X6_thrown_r hP hS (Nat.le_of_ble_eq_true rfl) dL_law_1158 (by show 415 + ρ1.2 + (ρ1.2 - ρ1.2) ≤ 601024; omega) (by show 38178 + 6 * ρ1.2 + 6 * (ρ1.2 - ρ1.2) ≤ 7293034; omega) rfl) (fun H locs hP hS => ?_)
  refine W.widen (k := 415 + ρ1.2) (n := 38178 + 6 * ρ1.2) (by show 415 + ρ1.2 + (ρ1.2 - ρ1.2) ≤ _; omega) (by show 38178 + 6 * ρ1.2 + 6 * (ρ1.2 - ρ1.2) ≤ _; omega) ?_
  refine lv_iload hx hb dL_law_1161 (lv_at hl 1 rfl) ?_
  refine lv_icmp_eq (tgt := 1168) hx hb dL_law_1163 rfl (fun _ => ?_) (fun q => absurd ht0 q)
  refine lv_iload hx hb dL_law_1168 (lv_at hl 1 rfl) ?_
  have fin : W p l e room_1 s m #[Value.ref bS] below meth c H locs (415 + ρ1.2) (38178 + 6 * ρ1.2) Q (F0 m 1185 ls []) := lv_goto (tgt := 2175) hx hb dL_law_1185 rfl (kk M2 ρ1 _ _ ls hR2 (by omega) (lv_sub hl [2, 3, 4, 5, 6] rfl) hP hS)
  refine lv_if_ne (tgt := 1185) hx hb dL_law_1170 rfl (fun _ => fin) (fun hk => ?_)
  refine lv_aload_n hx hb dL_law_1173 rfl (lv_at hl 3 rfl) ?_
  refine lv_iconst (v := 0) hx hb dL_law_1174 (by decide) ?_
  refine va_lald hx hb hG.1 hP 414 2 zout_get rfl (vp_in_nI (n := 0) (N := 1) (by decide) (by decide)) dL_law_1175 ?_
  refine lv_iload hx hb dL_law_1176 (lv_at hl 0 rfl) ?_
  refine lv_i2l hx hb dL_law_1178 rfl ?_
  refine W.lcmp hx hb dL_law_1179 ?_
  exact lv_if_eq (tgt := 1185) hx hb dL_law_1180 rfl (fun _ => fin) (fun q => absurd (by rw [← ho hk]; exact lg_cmp_self _) q)
theorem zkw_X6_mark_l : Cond.methodLink RL 165 (zy 227) ∈ zTb := zTb_in (i := 1579) (by decide +kernel) rfl
theorem zkw_X6_mark_o : 10 + zown 227 = 16 := by decide +kernel
theorem zkw_X6_mark_v : (match zMW[227]? with
      | some q => !q.1
      | none => false) = true := by decide +kernel
theorem zkw_X6_mark_p : (parseMethodDescriptor (zy 227).desc).map (fun d => d.parameters.length) = some 3 := by decide +kernel
theorem zkw_X6_mark_n : 4 ≤ (zP 227).2 := by decide +kernel
theorem zkw_X6_mark_f : zfr 227 + 1 ≤ 14 := by decide +kernel
theorem zkw_X6_mark_r : 8 + ((zP 227).2 + 11) + zlo 227 ≤ 526 := by decide +kernel
theorem zkh_mark_l : Cond.methodLink RL 163 yL_mark ∈ zTb := zTb_in (i := 1013) (by decide +kernel) rfl
theorem zkh_mark_s : Cond.static yL_mark ∈ zTb := zTb_in (i := 1014) (by decide +kernel) rfl
theorem zkh_mark_p : (parseMethodDescriptor yL_mark.desc).map (fun d => d.parameters.length) = some (3 + 2) := by decide +kernel
theorem zkh_mark_f : zfr 108 + 1 + 1 ≤ 14 := by decide +kernel
theorem zkh_mark_r : 8 + (6 + 11) + (19 + (zP 108).2 + zlo 108) ≤ 526 := by decide +kernel
set_option maxHeartbeats 4000000 in
set_option maxRecDepth 100000 in
theorem zkc_17 (C : zLC D g adr p s m meth c bS L xs) (hAd : zAd adr s.heap) (hJv : zJv l D g adr s.heap) (hNw : zNw l D g adr s.heap) {t : Nat} (ht : 6 * t + 6 ≤ L) {M : zMem} {ρ : Int64 × Nat} (hR : zRel M) (hl : lv_has ls 7 (zLl adr bS (6 * t))) (hP : va_P D vwCl (zwd g adr (M, ρ)) H) (hS : va_S (zA s.heap) s.heap H locs) (hn : ρ.2 ≤ t) (kk : zKo p l e s m below meth c Q D g adr bS t) : W p l e room_1 s m #[Value.ref bS] below meth c H locs (415 + ρ.2) (38178 + 6 * ρ.2) Q (F0 m 1188 ls []) := by
  have C0 := C
  obtain ⟨hx, hb, hml, hown, hts, hG, hN, hX, hbl, hL⟩ := C0
  have hH : s.heap.size ≤ s.heap.size ∧ ∀ q : Nat, q < s.heap.size → s.heap[q]? = s.heap[q]? := ⟨Nat.le_refl _, fun _ _ => rfl⟩
  have hmz := hml.trans hl.1.symm
  obtain ⟨k, M1, ρ1, x2, M2, hh, hm, ht0, ho, hR2, hn1, hn2⟩ := zag_use (a_mark hR (xs (6 * t + 1)) (xs (6 * t + 2)) (xs (6 * t + 3))) ρ
  refine lv_aload_n hx hb dL_law_1188 rfl (lv_at hl 3 rfl) ?_
  refine zl_arg C 1 (lv_at hl 4 rfl) (lv_at hl 0 rfl) (by omega) hS rfl dL_law_1189 dL_law_1190 dL_law_1192 dL_law_1193 dL_law_1194 ?_
  refine zl_arg C 2 (lv_at hl 4 rfl) (lv_at hl 0 rfl) (by omega) hS rfl dL_law_1195 dL_law_1196 dL_law_1198 dL_law_1199 dL_law_1200 ?_
  refine zl_arg C 3 (lv_at hl 4 rfl) (lv_at hl 0 rfl) (by omega) hS rfl dL_law_1201 dL_law_1202 dL_law_1204 dL_law_1205 dL_law_1206 ?_
  refine lv_aload_n hx hb dL_law_1207 rfl (lv_at hl 1 rfl) ?_
  refine zW_ret hS (zl_help (rest := []) hx hb hmz hown hts hG hN hH (zh_mark hAd hJv hNw (xs (6 * t + 1)) (xs (6 * t + 2)) (xs (6 * t + 3)) hh) rfl zkh_mark_l zkh_mark_s zhw_mark_c zkh_mark_p zkh_mark_f zkh_mark_r hP hS (Nat.le_of_ble_eq_true rfl) dL_law_1208 (by show 415 + ρ.2 + (ρ1.2 - ρ.2) ≤ 601024; omega) (by show 38178 + 6 * ρ.2 + 6 * (ρ1.2 - ρ.2) ≤ 7293034; omega) rfl) (fun H locs hP hS => ?_)
  refine W.widen (k := 415 + ρ1.2) (n := 38178 + 6 * ρ1.2) (by show 415 + ρ.2 + (ρ1.2 - ρ.2) ≤ _; omega) (by show 38178 + 6 * ρ.2 + 6 * (ρ1.2 - ρ.2) ≤ _; omega) ?_
  refine lv_istore hx hb dL_law_1211 hl (by decide) rfl (fun ls hl => ?_)
  have hmz := hml.trans hl.1.symm
  refine lv_aload_n hx hb dL_law_1213 rfl (lv_at hl 3 rfl) ?_
  refine zl_arg C 1 (lv_at hl 5 rfl) (lv_at hl 1 rfl) (by omega) hS rfl dL_law_1214 dL_law_1215 dL_law_1217 dL_law_1218 dL_law_1219 ?_
  refine zl_arg C 2 (lv_at hl 5 rfl) (lv_at hl 1 rfl) (by omega) hS rfl dL_law_1220 dL_law_1221 dL_law_1223 dL_law_1224 dL_law_1225 ?_
  refine zl_arg C 3 (lv_at hl 5 rfl) (lv_at hl 1 rfl) (by omega) hS rfl dL_law_1226 dL_law_1227 dL_law_1229 dL_law_1230 dL_law_1231 ?_
  obtain ⟨-, -, hM⟩ := zrun_met hAd hJv hNw (j := 227) (by decide) hm (zva_ok (k := 16) (by decide) [(xs (6 * t + 1)), (xs (6 * t + 2)), (xs (6 * t + 3))]) rfl zkw_X6_mark_n
  refine zW_ret hS (zl_v (a := 227) (kd := 16) (as := [zI (xs (6 * t + 1)), zI (xs (6 * t + 2)), zI (xs (6 * t + 3))]) (rest := []) hx hb hmz hown hts hG hH (by decide) zkw_X6_mark_o hM (by decide) zkw_X6_mark_l zkw_X6_mark_v zkw_X6_mark_p zkw_X6_mark_f zkw_X6_mark_r hP hS (Nat.le_of_ble_eq_true rfl) dL_law_1232 (by show 415 + ρ1.2 + (ρ1.2 - ρ1.2) ≤ 601024; omega) (by show 38178 + 6 * ρ1.2 + 6 * (ρ1.2 - ρ1.2) ≤ 7293034; omega) rfl) (fun H locs hP hS => ?_)
  refine W.widen (k := 415 + ρ1.2) (n := 38178 + 6 * ρ1.2) (by show 415 + ρ1.2 + (ρ1.2 - ρ1.2) ≤ _; omega) (by show 38178 + 6 * ρ1.2 + 6 * (ρ1.2 - ρ1.2) ≤ _; omega) ?_
  refine lv_istore hx hb dL_law_1235 hl (by decide) rfl (fun ls hl => ?_)
  have hmz := hml.trans hl.1.symm
  refine lv_aload_n hx hb dL_law_1237 rfl (lv_at hl 4 rfl) ?_
  clear hM
  obtain ⟨-, -, hM⟩ := zrun_met hAd hJv hNw (j := 135) (by decide) (e_X6_thrown 0 (M2, ρ1)) (zva_ok (k := 16) (by decide) []) rfl zkw_X6_thrown_n
  refine zW_ret hS (zl_v (a := 135) (kd := 16) (as := []) (rest := []) hx hb hmz hown hts hG hH (by decide) zkw_X6_thrown_o hM (by decide) zkw_X6_thrown_l zkw_X6_thrown_v zkw_X6_thrown_p zkw_X6_thrown_f zkw_X6_thrown_r hP hS (Nat.le_of_ble_eq_true rfl) dL_law_1238 (by show 415 + ρ1.2 + (ρ1.2 - ρ1.2) ≤ 601024; omega) (by show 38178 + 6 * ρ1.2 + 6 * (ρ1.2 - ρ1.2) ≤ 7293034; omega) rfl) (fun H locs hP hS => ?_)
  refine W.widen (k := 415 + ρ1.2) (n := 38178 + 6 * ρ1.2) (by show 415 + ρ1.2 + (ρ1.2 - ρ1.2) ≤ _; omega) (by show 38178 + 6 * ρ1.2 + 6 * (ρ1.2 - ρ1.2) ≤ _; omega) ?_
  refine lv_iload hx hb dL_law_1241 (lv_at hl 1 rfl) ?_
  refine lv_icmp_eq (tgt := 1248) hx hb dL_law_1243 rfl (fun _ => ?_) (fun q => absurd ht0 q)
  refine lv_iload hx hb dL_law_1248 (lv_at hl 1 rfl) ?_
  have fin : W p l e room_1 s m #[Value.ref bS] below meth c H locs (415 + ρ1.2) (38178 + 6 * ρ1.2) Q (F0 m 1265 ls []) := lv_goto (tgt := 2175) hx hb dL_law_1265 rfl (kk M2 ρ1 _ _ ls hR2 (by omega) (lv_sub hl [2, 3, 4, 5, 6] rfl) hP hS)
  refine lv_if_ne (tgt := 1265) hx hb dL_law_1250 rfl (fun _ => fin) (fun hk => ?_)
  refine lv_aload_n hx hb dL_law_1253 rfl (lv_at hl 3 rfl) ?_
  refine lv_iconst (v := 0) hx hb dL_law_1254 (by decide) ?_
  refine va_lald hx hb hG.1 hP 414 2 zout_get rfl (vp_in_nI (n := 0) (N := 1) (by decide) (by decide)) dL_law_1255 ?_
  refine lv_iload hx hb dL_law_1256 (lv_at hl 0 rfl) ?_
  refine lv_i2l hx hb dL_law_1258 rfl ?_
  refine W.lcmp hx hb dL_law_1259 ?_
  exact lv_if_eq (tgt := 1265) hx hb dL_law_1260 rfl (fun _ => fin) (fun q => absurd (by rw [← ho hk]; exact lg_cmp_self _) q)
theorem zkw_X6_at_l : Cond.methodLink RL 168 (zy 228) ∈ zTb := zTb_in (i := 1587) (by decide +kernel) rfl
theorem zkw_X6_at_o : 10 + zown 228 = 16 := by decide +kernel
theorem zkw_X6_at_v : (match zMW[228]? with
      | some q => !q.1
      | none => false) = true := by decide +kernel
theorem zkw_X6_at_p : (parseMethodDescriptor (zy 228).desc).map (fun d => d.parameters.length) = some 2 := by decide +kernel
theorem zkw_X6_at_n : 3 ≤ (zP 228).2 := by decide +kernel
theorem zkw_X6_at_f : zfr 228 + 1 ≤ 14 := by decide +kernel
theorem zkw_X6_at_r : 8 + ((zP 228).2 + 11) + zlo 228 ≤ 526 := by decide +kernel
theorem zkh_at_l : Cond.methodLink RL 166 yL_at ∈ zTb := zTb_in (i := 1025) (by decide +kernel) rfl
theorem zkh_at_s : Cond.static yL_at ∈ zTb := zTb_in (i := 1026) (by decide +kernel) rfl
theorem zkh_at_p : (parseMethodDescriptor yL_at.desc).map (fun d => d.parameters.length) = some (2 + 2) := by decide +kernel
theorem zkh_at_f : zfr 109 + 1 + 1 ≤ 14 := by decide +kernel
theorem zkh_at_r : 8 + (5 + 11) + (19 + (zP 109).2 + zlo 109) ≤ 526 := by decide +kernel
set_option maxHeartbeats 4000000 in
set_option maxRecDepth 100000 in
theorem zkc_18 (C : zLC D g adr p s m meth c bS L xs) (hAd : zAd adr s.heap) (hJv : zJv l D g adr s.heap) (hNw : zNw l D g adr s.heap) {t : Nat} (ht : 6 * t + 6 ≤ L) {M : zMem} {ρ : Int64 × Nat} (hR : zRel M) (hl : lv_has ls 7 (zLl adr bS (6 * t))) (hP : va_P D vwCl (zwd g adr (M, ρ)) H) (hS : va_S (zA s.heap) s.heap H locs) (hn : ρ.2 ≤ t) (kk : zKo p l e s m below meth c Q D g adr bS t) : W p l e room_1 s m #[Value.ref bS] below meth c H locs (415 + ρ.2) (38178 + 6 * ρ.2) Q (F0 m 1268 ls []) := by
  have C0 := C
  obtain ⟨hx, hb, hml, hown, hts, hG, hN, hX, hbl, hL⟩ := C0
  have hH : s.heap.size ≤ s.heap.size ∧ ∀ q : Nat, q < s.heap.size → s.heap[q]? = s.heap[q]? := ⟨Nat.le_refl _, fun _ _ => rfl⟩
  have hmz := hml.trans hl.1.symm
  obtain ⟨k, M1, ρ1, x2, M2, hh, hm, ht0, ho, hR2, hn1, hn2⟩ := zag_use (a_at hR (xs (6 * t + 1)) (xs (6 * t + 2))) ρ
  refine lv_aload_n hx hb dL_law_1268 rfl (lv_at hl 3 rfl) ?_
  refine zl_arg C 1 (lv_at hl 4 rfl) (lv_at hl 0 rfl) (by omega) hS rfl dL_law_1269 dL_law_1270 dL_law_1272 dL_law_1273 dL_law_1274 ?_
  refine zl_arg C 2 (lv_at hl 4 rfl) (lv_at hl 0 rfl) (by omega) hS rfl dL_law_1275 dL_law_1276 dL_law_1278 dL_law_1279 dL_law_1280 ?_
  refine lv_aload_n hx hb dL_law_1281 rfl (lv_at hl 1 rfl) ?_
  refine zW_ret hS (zl_help (rest := []) hx hb hmz hown hts hG hN hH (zh_at hAd hJv hNw (xs (6 * t + 1)) (xs (6 * t + 2)) hh) rfl zkh_at_l zkh_at_s zhw_at_c zkh_at_p zkh_at_f zkh_at_r hP hS (Nat.le_of_ble_eq_true rfl) dL_law_1282 (by show 415 + ρ.2 + (ρ1.2 - ρ.2) ≤ 601024; omega) (by show 38178 + 6 * ρ.2 + 6 * (ρ1.2 - ρ.2) ≤ 7293034; omega) rfl) (fun H locs hP hS => ?_)
  refine W.widen (k := 415 + ρ1.2) (n := 38178 + 6 * ρ1.2) (by show 415 + ρ.2 + (ρ1.2 - ρ.2) ≤ _; omega) (by show 38178 + 6 * ρ.2 + 6 * (ρ1.2 - ρ.2) ≤ _; omega) ?_
  refine lv_istore hx hb dL_law_1285 hl (by decide) rfl (fun ls hl => ?_)
  have hmz := hml.trans hl.1.symm
  refine lv_aload_n hx hb dL_law_1287 rfl (lv_at hl 3 rfl) ?_
  refine zl_arg C 1 (lv_at hl 5 rfl) (lv_at hl 1 rfl) (by omega) hS rfl dL_law_1288 dL_law_1289 dL_law_1291 dL_law_1292 dL_law_1293 ?_
  refine zl_arg C 2 (lv_at hl 5 rfl) (lv_at hl 1 rfl) (by omega) hS rfl dL_law_1294 dL_law_1295 dL_law_1297 dL_law_1298 dL_law_1299 ?_
  obtain ⟨-, -, hM⟩ := zrun_met hAd hJv hNw (j := 228) (by decide) hm (zva_ok (k := 16) (by decide) [(xs (6 * t + 1)), (xs (6 * t + 2))]) rfl zkw_X6_at_n
  refine zW_ret hS (zl_v (a := 228) (kd := 16) (as := [zI (xs (6 * t + 1)), zI (xs (6 * t + 2))]) (rest := []) hx hb hmz hown hts hG hH (by decide) zkw_X6_at_o hM (by decide) zkw_X6_at_l zkw_X6_at_v zkw_X6_at_p zkw_X6_at_f zkw_X6_at_r hP hS (Nat.le_of_ble_eq_true rfl) dL_law_1300 (by show 415 + ρ1.2 + (ρ1.2 - ρ1.2) ≤ 601024; omega) (by show 38178 + 6 * ρ1.2 + 6 * (ρ1.2 - ρ1.2) ≤ 7293034; omega) rfl) (fun H locs hP hS => ?_)
  refine W.widen (k := 415 + ρ1.2) (n := 38178 + 6 * ρ1.2) (by show 415 + ρ1.2 + (ρ1.2 - ρ1.2) ≤ _; omega) (by show 38178 + 6 * ρ1.2 + 6 * (ρ1.2 - ρ1.2) ≤ _; omega) ?_
  refine lv_istore hx hb dL_law_1303 hl (by decide) rfl (fun ls hl => ?_)
  have hmz := hml.trans hl.1.symm
  refine lv_aload_n hx hb dL_law_1305 rfl (lv_at hl 4 rfl) ?_
  clear hM
  obtain ⟨-, -, hM⟩ := zrun_met hAd hJv hNw (j := 135) (by decide) (e_X6_thrown 0 (M2, ρ1)) (zva_ok (k := 16) (by decide) []) rfl zkw_X6_thrown_n
  refine zW_ret hS (zl_v (a := 135) (kd := 16) (as := []) (rest := []) hx hb hmz hown hts hG hH (by decide) zkw_X6_thrown_o hM (by decide) zkw_X6_thrown_l zkw_X6_thrown_v zkw_X6_thrown_p zkw_X6_thrown_f zkw_X6_thrown_r hP hS (Nat.le_of_ble_eq_true rfl) dL_law_1306 (by show 415 + ρ1.2 + (ρ1.2 - ρ1.2) ≤ 601024; omega) (by show 38178 + 6 * ρ1.2 + 6 * (ρ1.2 - ρ1.2) ≤ 7293034; omega) rfl) (fun H locs hP hS => ?_)
  refine W.widen (k := 415 + ρ1.2) (n := 38178 + 6 * ρ1.2) (by show 415 + ρ1.2 + (ρ1.2 - ρ1.2) ≤ _; omega) (by show 38178 + 6 * ρ1.2 + 6 * (ρ1.2 - ρ1.2) ≤ _; omega) ?_
  refine lv_iload hx hb dL_law_1309 (lv_at hl 1 rfl) ?_
  refine lv_icmp_eq (tgt := 1316) hx hb dL_law_1311 rfl (fun _ => ?_) (fun q => absurd ht0 q)
  refine lv_iload hx hb dL_law_1316 (lv_at hl 1 rfl) ?_
  have fin : W p l e room_1 s m #[Value.ref bS] below meth c H locs (415 + ρ1.2) (38178 + 6 * ρ1.2) Q (F0 m 1333 ls []) := lv_goto (tgt := 2175) hx hb dL_law_1333 rfl (kk M2 ρ1 _ _ ls hR2 (by omega) (lv_sub hl [2, 3, 4, 5, 6] rfl) hP hS)
  refine lv_if_ne (tgt := 1333) hx hb dL_law_1318 rfl (fun _ => fin) (fun hk => ?_)
  refine lv_aload_n hx hb dL_law_1321 rfl (lv_at hl 3 rfl) ?_
  refine lv_iconst (v := 0) hx hb dL_law_1322 (by decide) ?_
  refine va_lald hx hb hG.1 hP 414 2 zout_get rfl (vp_in_nI (n := 0) (N := 1) (by decide) (by decide)) dL_law_1323 ?_
  refine lv_iload hx hb dL_law_1324 (lv_at hl 0 rfl) ?_
  refine lv_i2l hx hb dL_law_1326 rfl ?_
  refine W.lcmp hx hb dL_law_1327 ?_
  exact lv_if_eq (tgt := 1333) hx hb dL_law_1328 rfl (fun _ => fin) (fun q => absurd (by rw [← ho hk]; exact lg_cmp_self _) q)
theorem zkw_X6_over_l : Cond.methodLink RL 172 (zy 229) ∈ zTb := zTb_in (i := 1591) (by decide +kernel) rfl
theorem zkw_X6_over_o : 10 + zown 229 = 16 := by decide +kernel
theorem zkw_X6_over_v : (match zMW[229]? with
      | some q => !q.1
      | none => false) = true := by decide +kernel
theorem zkw_X6_over_p : (parseMethodDescriptor (zy 229).desc).map (fun d => d.parameters.length) = some 4 := by decide +kernel
theorem zkw_X6_over_n : 5 ≤ (zP 229).2 := by decide +kernel
theorem zkw_X6_over_f : zfr 229 + 1 ≤ 14 := by decide +kernel
theorem zkw_X6_over_r : 8 + ((zP 229).2 + 11) + zlo 229 ≤ 526 := by decide +kernel
theorem zkh_over_l : Cond.methodLink RL 169 yL_over ∈ zTb := zTb_in (i := 1033) (by decide +kernel) rfl
theorem zkh_over_s : Cond.static yL_over ∈ zTb := zTb_in (i := 1034) (by decide +kernel) rfl
theorem zkh_over_p : (parseMethodDescriptor yL_over.desc).map (fun d => d.parameters.length) = some (4 + 2) := by decide +kernel
theorem zkh_over_f : zfr 110 + 1 + 1 ≤ 14 := by decide +kernel
theorem zkh_over_r : 8 + (7 + 11) + (19 + (zP 110).2 + zlo 110) ≤ 526 := by decide +kernel
set_option maxHeartbeats 4000000 in
set_option maxRecDepth 100000 in
theorem zkc_19 (C : zLC D g adr p s m meth c bS L xs) (hAd : zAd adr s.heap) (hJv : zJv l D g adr s.heap) (hNw : zNw l D g adr s.heap) {t : Nat} (ht : 6 * t + 6 ≤ L) {M : zMem} {ρ : Int64 × Nat} (hR : zRel M) (hl : lv_has ls 7 (zLl adr bS (6 * t))) (hP : va_P D vwCl (zwd g adr (M, ρ)) H) (hS : va_S (zA s.heap) s.heap H locs) (hn : ρ.2 ≤ t) (kk : zKo p l e s m below meth c Q D g adr bS t) : W p l e room_1 s m #[Value.ref bS] below meth c H locs (415 + ρ.2) (38178 + 6 * ρ.2) Q (F0 m 1336 ls []) := by
  have C0 := C
  obtain ⟨hx, hb, hml, hown, hts, hG, hN, hX, hbl, hL⟩ := C0
  have hH : s.heap.size ≤ s.heap.size ∧ ∀ q : Nat, q < s.heap.size → s.heap[q]? = s.heap[q]? := ⟨Nat.le_refl _, fun _ _ => rfl⟩
  have hmz := hml.trans hl.1.symm
  obtain ⟨k, M1, ρ1, x2, M2, hh, hm, ht0, ho, hR2, hn1, hn2⟩ := zag_use (a_over hR (xs (6 * t + 1)) (xs (6 * t + 2)) (xs (6 * t + 3)) (xs (6 * t + 4))) ρ
  refine lv_aload_n hx hb dL_law_1336 rfl (lv_at hl 3 rfl) ?_
  refine zl_arg C 1 (lv_at hl 4 rfl) (lv_at hl 0 rfl) (by omega) hS rfl dL_law_1337 dL_law_1338 dL_law_1340 dL_law_1341 dL_law_1342 ?_
  refine zl_arg C 2 (lv_at hl 4 rfl) (lv_at hl 0 rfl) (by omega) hS rfl dL_law_1343 dL_law_1344 dL_law_1346 dL_law_1347 dL_law_1348 ?_
  refine zl_arg C 3 (lv_at hl 4 rfl) (lv_at hl 0 rfl) (by omega) hS rfl dL_law_1349 dL_law_1350 dL_law_1352 dL_law_1353 dL_law_1354 ?_
  refine zl_arg C 4 (lv_at hl 4 rfl) (lv_at hl 0 rfl) (by omega) hS rfl dL_law_1355 dL_law_1356 dL_law_1358 dL_law_1359 dL_law_1360 ?_
  refine lv_aload_n hx hb dL_law_1361 rfl (lv_at hl 1 rfl) ?_
  refine zW_ret hS (zl_help (rest := []) hx hb hmz hown hts hG hN hH (zh_over hAd hJv hNw (xs (6 * t + 1)) (xs (6 * t + 2)) (xs (6 * t + 3)) (xs (6 * t + 4)) hh) rfl zkh_over_l zkh_over_s zhw_over_c zkh_over_p zkh_over_f zkh_over_r hP hS (Nat.le_of_ble_eq_true rfl) dL_law_1362 (by show 415 + ρ.2 + (ρ1.2 - ρ.2) ≤ 601024; omega) (by show 38178 + 6 * ρ.2 + 6 * (ρ1.2 - ρ.2) ≤ 7293034; omega) rfl) (fun H locs hP hS => ?_)
  refine W.widen (k := 415 + ρ1.2) (n := 38178 + 6 * ρ1.2) (by show 415 + ρ.2 + (ρ1.2 - ρ.2) ≤ _; omega) (by show 38178 + 6 * ρ.2 + 6 * (ρ1.2 - ρ.2) ≤ _; omega) ?_
  refine lv_istore hx hb dL_law_1365 hl (by decide) rfl (fun ls hl => ?_)
  have hmz := hml.trans hl.1.symm
  refine lv_aload_n hx hb dL_law_1367 rfl (lv_at hl 3 rfl) ?_
  refine zl_arg C 1 (lv_at hl 5 rfl) (lv_at hl 1 rfl) (by omega) hS rfl dL_law_1368 dL_law_1369 dL_law_1371 dL_law_1372 dL_law_1373 ?_
  refine zl_arg C 2 (lv_at hl 5 rfl) (lv_at hl 1 rfl) (by omega) hS rfl dL_law_1374 dL_law_1375 dL_law_1377 dL_law_1378 dL_law_1379 ?_
  refine zl_arg C 3 (lv_at hl 5 rfl) (lv_at hl 1 rfl) (by omega) hS rfl dL_law_1380 dL_law_1381 dL_law_1383 dL_law_1384 dL_law_1385 ?_
  refine zl_arg C 4 (lv_at hl 5 rfl) (lv_at hl 1 rfl) (by omega) hS rfl dL_law_1386 dL_law_1387 dL_law_1389 dL_law_1390 dL_law_1391 ?_
  obtain ⟨-, -, hM⟩ := zrun_met hAd hJv hNw (j := 229) (by decide) hm (zva_ok (k := 16) (by decide) [(xs (6 * t + 1)), (xs (6 * t + 2)), (xs (6 * t + 3)), (xs (6 * t + 4))]) rfl zkw_X6_over_n
  refine zW_ret hS (zl_v (a := 229) (kd := 16) (as := [zI (xs (6 * t + 1)), zI (xs (6 * t + 2)), zI (xs (6 * t + 3)), zI (xs (6 * t + 4))]) (rest := []) hx hb hmz hown hts hG hH (by decide) zkw_X6_over_o hM (by decide) zkw_X6_over_l zkw_X6_over_v zkw_X6_over_p zkw_X6_over_f zkw_X6_over_r hP hS (Nat.le_of_ble_eq_true rfl) dL_law_1392 (by show 415 + ρ1.2 + (ρ1.2 - ρ1.2) ≤ 601024; omega) (by show 38178 + 6 * ρ1.2 + 6 * (ρ1.2 - ρ1.2) ≤ 7293034; omega) rfl) (fun H locs hP hS => ?_)
  refine W.widen (k := 415 + ρ1.2) (n := 38178 + 6 * ρ1.2) (by show 415 + ρ1.2 + (ρ1.2 - ρ1.2) ≤ _; omega) (by show 38178 + 6 * ρ1.2 + 6 * (ρ1.2 - ρ1.2) ≤ _; omega) ?_
  refine lv_istore hx hb dL_law_1395 hl (by decide) rfl (fun ls hl => ?_)
  have hmz := hml.trans hl.1.symm
  refine lv_aload_n hx hb dL_law_1397 rfl (lv_at hl 4 rfl) ?_
  clear hM
  obtain ⟨-, -, hM⟩ := zrun_met hAd hJv hNw (j := 135) (by decide) (e_X6_thrown 0 (M2, ρ1)) (zva_ok (k := 16) (by decide) []) rfl zkw_X6_thrown_n
  refine zW_ret hS (zl_v (a := 135) (kd := 16) (as := []) (rest := []) hx hb hmz hown hts hG hH (by decide) zkw_X6_thrown_o hM (by decide) zkw_X6_thrown_l zkw_X6_thrown_v zkw_X6_thrown_p zkw_X6_thrown_f zkw_X6_thrown_r hP hS (Nat.le_of_ble_eq_true rfl) dL_law_1398 (by show 415 + ρ1.2 + (ρ1.2 - ρ1.2) ≤ 601024; omega) (by show 38178 + 6 * ρ1.2 + 6 * (ρ1.2 - ρ1.2) ≤ 7293034; omega) rfl) (fun H locs hP hS => ?_)
  refine W.widen (k := 415 + ρ1.2) (n := 38178 + 6 * ρ1.2) (by show 415 + ρ1.2 + (ρ1.2 - ρ1.2) ≤ _; omega) (by show 38178 + 6 * ρ1.2 + 6 * (ρ1.2 - ρ1.2) ≤ _; omega) ?_
  refine lv_iload hx hb dL_law_1401 (lv_at hl 1 rfl) ?_
  refine lv_icmp_eq (tgt := 1408) hx hb dL_law_1403 rfl (fun _ => ?_) (fun q => absurd ht0 q)
  refine lv_iload hx hb dL_law_1408 (lv_at hl 1 rfl) ?_
  have fin : W p l e room_1 s m #[Value.ref bS] below meth c H locs (415 + ρ1.2) (38178 + 6 * ρ1.2) Q (F0 m 1425 ls []) := lv_goto (tgt := 2175) hx hb dL_law_1425 rfl (kk M2 ρ1 _ _ ls hR2 (by omega) (lv_sub hl [2, 3, 4, 5, 6] rfl) hP hS)
  refine lv_if_ne (tgt := 1425) hx hb dL_law_1410 rfl (fun _ => fin) (fun hk => ?_)
  refine lv_aload_n hx hb dL_law_1413 rfl (lv_at hl 3 rfl) ?_
  refine lv_iconst (v := 0) hx hb dL_law_1414 (by decide) ?_
  refine va_lald hx hb hG.1 hP 414 2 zout_get rfl (vp_in_nI (n := 0) (N := 1) (by decide) (by decide)) dL_law_1415 ?_
  refine lv_iload hx hb dL_law_1416 (lv_at hl 0 rfl) ?_
  refine lv_i2l hx hb dL_law_1418 rfl ?_
  refine W.lcmp hx hb dL_law_1419 ?_
  exact lv_if_eq (tgt := 1425) hx hb dL_law_1420 rfl (fun _ => fin) (fun q => absurd (by rw [← ho hk]; exact lg_cmp_self _) q)
theorem zkw_X6_within_l : Cond.methodLink RL 175 (zy 230) ∈ zTb := zTb_in (i := 1595) (by decide +kernel) rfl
theorem zkw_X6_within_o : 10 + zown 230 = 16 := by decide +kernel
theorem zkw_X6_within_v : (match zMW[230]? with
      | some q => !q.1
      | none => false) = true := by decide +kernel
theorem zkw_X6_within_p : (parseMethodDescriptor (zy 230).desc).map (fun d => d.parameters.length) = some 4 := by decide +kernel
theorem zkw_X6_within_n : 5 ≤ (zP 230).2 := by decide +kernel
theorem zkw_X6_within_f : zfr 230 + 1 ≤ 14 := by decide +kernel
theorem zkw_X6_within_r : 8 + ((zP 230).2 + 11) + zlo 230 ≤ 526 := by decide +kernel
theorem zkh_within_l : Cond.methodLink RL 173 yL_within ∈ zTb := zTb_in (i := 1047) (by decide +kernel) rfl
theorem zkh_within_s : Cond.static yL_within ∈ zTb := zTb_in (i := 1048) (by decide +kernel) rfl
theorem zkh_within_p : (parseMethodDescriptor yL_within.desc).map (fun d => d.parameters.length) = some (4 + 2) := by decide +kernel
theorem zkh_within_f : zfr 111 + 1 + 1 ≤ 14 := by decide +kernel
theorem zkh_within_r : 8 + (7 + 11) + (19 + (zP 111).2 + zlo 111) ≤ 526 := by decide +kernel
set_option maxHeartbeats 4000000 in
set_option maxRecDepth 100000 in
theorem zkc_20 (C : zLC D g adr p s m meth c bS L xs) (hAd : zAd adr s.heap) (hJv : zJv l D g adr s.heap) (hNw : zNw l D g adr s.heap) {t : Nat} (ht : 6 * t + 6 ≤ L) {M : zMem} {ρ : Int64 × Nat} (hR : zRel M) (hl : lv_has ls 7 (zLl adr bS (6 * t))) (hP : va_P D vwCl (zwd g adr (M, ρ)) H) (hS : va_S (zA s.heap) s.heap H locs) (hn : ρ.2 ≤ t) (kk : zKo p l e s m below meth c Q D g adr bS t) : W p l e room_1 s m #[Value.ref bS] below meth c H locs (415 + ρ.2) (38178 + 6 * ρ.2) Q (F0 m 1428 ls []) := by
  have C0 := C
  obtain ⟨hx, hb, hml, hown, hts, hG, hN, hX, hbl, hL⟩ := C0
  have hH : s.heap.size ≤ s.heap.size ∧ ∀ q : Nat, q < s.heap.size → s.heap[q]? = s.heap[q]? := ⟨Nat.le_refl _, fun _ _ => rfl⟩
  have hmz := hml.trans hl.1.symm
  obtain ⟨k, M1, ρ1, x2, M2, hh, hm, ht0, ho, hR2, hn1, hn2⟩ := zag_use (a_within hR (xs (6 * t + 1)) (xs (6 * t + 2)) (xs (6 * t + 3)) (xs (6 * t + 4))) ρ
  refine lv_aload_n hx hb dL_law_1428 rfl (lv_at hl 3 rfl) ?_
  refine zl_arg C 1 (lv_at hl 4 rfl) (lv_at hl 0 rfl) (by omega) hS rfl dL_law_1429 dL_law_1430 dL_law_1432 dL_law_1433 dL_law_1434 ?_
  refine zl_arg C 2 (lv_at hl 4 rfl) (lv_at hl 0 rfl) (by omega) hS rfl dL_law_1435 dL_law_1436 dL_law_1438 dL_law_1439 dL_law_1440 ?_
  refine zl_arg C 3 (lv_at hl 4 rfl) (lv_at hl 0 rfl) (by omega) hS rfl dL_law_1441 dL_law_1442 dL_law_1444 dL_law_1445 dL_law_1446 ?_
  refine zl_arg C 4 (lv_at hl 4 rfl) (lv_at hl 0 rfl) (by omega) hS rfl dL_law_1447 dL_law_1448 dL_law_1450 dL_law_1451 dL_law_1452 ?_
  refine lv_aload_n hx hb dL_law_1453 rfl (lv_at hl 1 rfl) ?_
  refine zW_ret hS (zl_help (rest := []) hx hb hmz hown hts hG hN hH (zh_within hAd hJv hNw (xs (6 * t + 1)) (xs (6 * t + 2)) (xs (6 * t + 3)) (xs (6 * t + 4)) hh) rfl zkh_within_l zkh_within_s zhw_within_c zkh_within_p zkh_within_f zkh_within_r hP hS (Nat.le_of_ble_eq_true rfl) dL_law_1454 (by show 415 + ρ.2 + (ρ1.2 - ρ.2) ≤ 601024; omega) (by show 38178 + 6 * ρ.2 + 6 * (ρ1.2 - ρ.2) ≤ 7293034; omega) rfl) (fun H locs hP hS => ?_)
  refine W.widen (k := 415 + ρ1.2) (n := 38178 + 6 * ρ1.2) (by show 415 + ρ.2 + (ρ1.2 - ρ.2) ≤ _; omega) (by show 38178 + 6 * ρ.2 + 6 * (ρ1.2 - ρ.2) ≤ _; omega) ?_
  refine lv_istore hx hb dL_law_1457 hl (by decide) rfl (fun ls hl => ?_)
  have hmz := hml.trans hl.1.symm
  refine lv_aload_n hx hb dL_law_1459 rfl (lv_at hl 3 rfl) ?_
  refine zl_arg C 1 (lv_at hl 5 rfl) (lv_at hl 1 rfl) (by omega) hS rfl dL_law_1460 dL_law_1461 dL_law_1463 dL_law_1464 dL_law_1465 ?_
  refine zl_arg C 2 (lv_at hl 5 rfl) (lv_at hl 1 rfl) (by omega) hS rfl dL_law_1466 dL_law_1467 dL_law_1469 dL_law_1470 dL_law_1471 ?_
  refine zl_arg C 3 (lv_at hl 5 rfl) (lv_at hl 1 rfl) (by omega) hS rfl dL_law_1472 dL_law_1473 dL_law_1475 dL_law_1476 dL_law_1477 ?_
  refine zl_arg C 4 (lv_at hl 5 rfl) (lv_at hl 1 rfl) (by omega) hS rfl dL_law_1478 dL_law_1479 dL_law_1481 dL_law_1482 dL_law_1483 ?_
  obtain ⟨-, -, hM⟩ := zrun_met hAd hJv hNw (j := 230) (by decide) hm (zva_ok (k := 16) (by decide) [(xs (6 * t + 1)), (xs (6 * t + 2)), (xs (6 * t + 3)), (xs (6 * t + 4))]) rfl zkw_X6_within_n
  refine zW_ret hS (zl_v (a := 230) (kd := 16) (as := [zI (xs (6 * t + 1)), zI (xs (6 * t + 2)), zI (xs (6 * t + 3)), zI (xs (6 * t + 4))]) (rest := []) hx hb hmz hown hts hG hH (by decide) zkw_X6_within_o hM (by decide) zkw_X6_within_l zkw_X6_within_v zkw_X6_within_p zkw_X6_within_f zkw_X6_within_r hP hS (Nat.le_of_ble_eq_true rfl) dL_law_1484 (by show 415 + ρ1.2 + (ρ1.2 - ρ1.2) ≤ 601024; omega) (by show 38178 + 6 * ρ1.2 + 6 * (ρ1.2 - ρ1.2) ≤ 7293034; omega) rfl) (fun H locs hP hS => ?_)
  refine W.widen (k := 415 + ρ1.2) (n := 38178 + 6 * ρ1.2) (by show 415 + ρ1.2 + (ρ1.2 - ρ1.2) ≤ _; omega) (by show 38178 + 6 * ρ1.2 + 6 * (ρ1.2 - ρ1.2) ≤ _; omega) ?_
  refine lv_istore hx hb dL_law_1487 hl (by decide) rfl (fun ls hl => ?_)
  have hmz := hml.trans hl.1.symm
  refine lv_aload_n hx hb dL_law_1489 rfl (lv_at hl 4 rfl) ?_
  clear hM
  obtain ⟨-, -, hM⟩ := zrun_met hAd hJv hNw (j := 135) (by decide) (e_X6_thrown 0 (M2, ρ1)) (zva_ok (k := 16) (by decide) []) rfl zkw_X6_thrown_n
  refine zW_ret hS (zl_v (a := 135) (kd := 16) (as := []) (rest := []) hx hb hmz hown hts hG hH (by decide) zkw_X6_thrown_o hM (by decide) zkw_X6_thrown_l zkw_X6_thrown_v zkw_X6_thrown_p zkw_X6_thrown_f zkw_X6_thrown_r hP hS (Nat.le_of_ble_eq_true rfl) dL_law_1490 (by show 415 + ρ1.2 + (ρ1.2 - ρ1.2) ≤ 601024; omega) (by show 38178 + 6 * ρ1.2 + 6 * (ρ1.2 - ρ1.2) ≤ 7293034; omega) rfl) (fun H locs hP hS => ?_)
  refine W.widen (k := 415 + ρ1.2) (n := 38178 + 6 * ρ1.2) (by show 415 + ρ1.2 + (ρ1.2 - ρ1.2) ≤ _; omega) (by show 38178 + 6 * ρ1.2 + 6 * (ρ1.2 - ρ1.2) ≤ _; omega) ?_
  refine lv_iload hx hb dL_law_1493 (lv_at hl 1 rfl) ?_
  refine lv_icmp_eq (tgt := 1500) hx hb dL_law_1495 rfl (fun _ => ?_) (fun q => absurd ht0 q)
  refine lv_iload hx hb dL_law_1500 (lv_at hl 1 rfl) ?_
  have fin : W p l e room_1 s m #[Value.ref bS] below meth c H locs (415 + ρ1.2) (38178 + 6 * ρ1.2) Q (F0 m 1517 ls []) := lv_goto (tgt := 2175) hx hb dL_law_1517 rfl (kk M2 ρ1 _ _ ls hR2 (by omega) (lv_sub hl [2, 3, 4, 5, 6] rfl) hP hS)
  refine lv_if_ne (tgt := 1517) hx hb dL_law_1502 rfl (fun _ => fin) (fun hk => ?_)
  refine lv_aload_n hx hb dL_law_1505 rfl (lv_at hl 3 rfl) ?_
  refine lv_iconst (v := 0) hx hb dL_law_1506 (by decide) ?_
  refine va_lald hx hb hG.1 hP 414 2 zout_get rfl (vp_in_nI (n := 0) (N := 1) (by decide) (by decide)) dL_law_1507 ?_
  refine lv_iload hx hb dL_law_1508 (lv_at hl 0 rfl) ?_
  refine lv_i2l hx hb dL_law_1510 rfl ?_
  refine W.lcmp hx hb dL_law_1511 ?_
  exact lv_if_eq (tgt := 1517) hx hb dL_law_1512 rfl (fun _ => fin) (fun q => absurd (by rw [← ho hk]; exact lg_cmp_self _) q)
theorem zkw_X6_find_l : Cond.methodLink RL 178 (zy 231) ∈ zTb := zTb_in (i := 1599) (by decide +kernel) rfl
theorem zkw_X6_find_o : 10 + zown 231 = 16 := by decide +kernel
theorem zkw_X6_find_v : (match zMW[231]? with
      | some q => !q.1
      | none => false) = true := by decide +kernel
theorem zkw_X6_find_p : (parseMethodDescriptor (zy 231).desc).map (fun d => d.parameters.length) = some 3 := by decide +kernel
theorem zkw_X6_find_n : 4 ≤ (zP 231).2 := by decide +kernel
theorem zkw_X6_find_f : zfr 231 + 1 ≤ 14 := by decide +kernel
theorem zkw_X6_find_r : 8 + ((zP 231).2 + 11) + zlo 231 ≤ 526 := by decide +kernel
theorem zkh_find_l : Cond.methodLink RL 176 yL_find ∈ zTb := zTb_in (i := 1056) (by decide +kernel) rfl
theorem zkh_find_s : Cond.static yL_find ∈ zTb := zTb_in (i := 1057) (by decide +kernel) rfl
theorem zkh_find_p : (parseMethodDescriptor yL_find.desc).map (fun d => d.parameters.length) = some (3 + 2) := by decide +kernel
theorem zkh_find_f : zfr 112 + 1 + 1 ≤ 14 := by decide +kernel
theorem zkh_find_r : 8 + (6 + 11) + (19 + (zP 112).2 + zlo 112) ≤ 526 := by decide +kernel
set_option maxHeartbeats 4000000 in
set_option maxRecDepth 100000 in
theorem zkc_21 (C : zLC D g adr p s m meth c bS L xs) (hAd : zAd adr s.heap) (hJv : zJv l D g adr s.heap) (hNw : zNw l D g adr s.heap) {t : Nat} (ht : 6 * t + 6 ≤ L) {M : zMem} {ρ : Int64 × Nat} (hR : zRel M) (hl : lv_has ls 7 (zLl adr bS (6 * t))) (hP : va_P D vwCl (zwd g adr (M, ρ)) H) (hS : va_S (zA s.heap) s.heap H locs) (hn : ρ.2 ≤ t) (kk : zKo p l e s m below meth c Q D g adr bS t) : W p l e room_1 s m #[Value.ref bS] below meth c H locs (415 + ρ.2) (38178 + 6 * ρ.2) Q (F0 m 1520 ls []) := by
  have C0 := C
  obtain ⟨hx, hb, hml, hown, hts, hG, hN, hX, hbl, hL⟩ := C0
  have hH : s.heap.size ≤ s.heap.size ∧ ∀ q : Nat, q < s.heap.size → s.heap[q]? = s.heap[q]? := ⟨Nat.le_refl _, fun _ _ => rfl⟩
  have hmz := hml.trans hl.1.symm
  obtain ⟨k, M1, ρ1, x2, M2, hh, hm, ht0, ho, hR2, hn1, hn2⟩ := zag_use (a_find hR (xs (6 * t + 1)) (xs (6 * t + 2)) (xs (6 * t + 3))) ρ
  refine lv_aload_n hx hb dL_law_1520 rfl (lv_at hl 3 rfl) ?_
  refine zl_arg C 1 (lv_at hl 4 rfl) (lv_at hl 0 rfl) (by omega) hS rfl dL_law_1521 dL_law_1522 dL_law_1524 dL_law_1525 dL_law_1526 ?_
  refine zl_arg C 2 (lv_at hl 4 rfl) (lv_at hl 0 rfl) (by omega) hS rfl dL_law_1527 dL_law_1528 dL_law_1530 dL_law_1531 dL_law_1532 ?_
  refine zl_arg C 3 (lv_at hl 4 rfl) (lv_at hl 0 rfl) (by omega) hS rfl dL_law_1533 dL_law_1534 dL_law_1536 dL_law_1537 dL_law_1538 ?_
  refine lv_aload_n hx hb dL_law_1539 rfl (lv_at hl 1 rfl) ?_
  refine zW_ret hS (zl_help (rest := []) hx hb hmz hown hts hG hN hH (zh_find hAd hJv hNw (xs (6 * t + 1)) (xs (6 * t + 2)) (xs (6 * t + 3)) hh) rfl zkh_find_l zkh_find_s zhw_find_c zkh_find_p zkh_find_f zkh_find_r hP hS (Nat.le_of_ble_eq_true rfl) dL_law_1540 (by show 415 + ρ.2 + (ρ1.2 - ρ.2) ≤ 601024; omega) (by show 38178 + 6 * ρ.2 + 6 * (ρ1.2 - ρ.2) ≤ 7293034; omega) rfl) (fun H locs hP hS => ?_)
  refine W.widen (k := 415 + ρ1.2) (n := 38178 + 6 * ρ1.2) (by show 415 + ρ.2 + (ρ1.2 - ρ.2) ≤ _; omega) (by show 38178 + 6 * ρ.2 + 6 * (ρ1.2 - ρ.2) ≤ _; omega) ?_
  refine lv_istore hx hb dL_law_1543 hl (by decide) rfl (fun ls hl => ?_)
  have hmz := hml.trans hl.1.symm
  refine lv_aload_n hx hb dL_law_1545 rfl (lv_at hl 3 rfl) ?_
  refine zl_arg C 1 (lv_at hl 5 rfl) (lv_at hl 1 rfl) (by omega) hS rfl dL_law_1546 dL_law_1547 dL_law_1549 dL_law_1550 dL_law_1551 ?_
  refine zl_arg C 2 (lv_at hl 5 rfl) (lv_at hl 1 rfl) (by omega) hS rfl dL_law_1552 dL_law_1553 dL_law_1555 dL_law_1556 dL_law_1557 ?_
  refine zl_arg C 3 (lv_at hl 5 rfl) (lv_at hl 1 rfl) (by omega) hS rfl dL_law_1558 dL_law_1559 dL_law_1561 dL_law_1562 dL_law_1563 ?_
  obtain ⟨-, -, hM⟩ := zrun_met hAd hJv hNw (j := 231) (by decide) hm (zva_ok (k := 16) (by decide) [(xs (6 * t + 1)), (xs (6 * t + 2)), (xs (6 * t + 3))]) rfl zkw_X6_find_n
  refine zW_ret hS (zl_v (a := 231) (kd := 16) (as := [zI (xs (6 * t + 1)), zI (xs (6 * t + 2)), zI (xs (6 * t + 3))]) (rest := []) hx hb hmz hown hts hG hH (by decide) zkw_X6_find_o hM (by decide) zkw_X6_find_l zkw_X6_find_v zkw_X6_find_p zkw_X6_find_f zkw_X6_find_r hP hS (Nat.le_of_ble_eq_true rfl) dL_law_1564 (by show 415 + ρ1.2 + (ρ1.2 - ρ1.2) ≤ 601024; omega) (by show 38178 + 6 * ρ1.2 + 6 * (ρ1.2 - ρ1.2) ≤ 7293034; omega) rfl) (fun H locs hP hS => ?_)
  refine W.widen (k := 415 + ρ1.2) (n := 38178 + 6 * ρ1.2) (by show 415 + ρ1.2 + (ρ1.2 - ρ1.2) ≤ _; omega) (by show 38178 + 6 * ρ1.2 + 6 * (ρ1.2 - ρ1.2) ≤ _; omega) ?_
  refine lv_istore hx hb dL_law_1567 hl (by decide) rfl (fun ls hl => ?_)
  have hmz := hml.trans hl.1.symm
  refine lv_aload_n hx hb dL_law_1569 rfl (lv_at hl 4 rfl) ?_
  clear hM
  obtain ⟨-, -, hM⟩ := zrun_met hAd hJv hNw (j := 135) (by decide) (e_X6_thrown 0 (M2, ρ1)) (zva_ok (k := 16) (by decide) []) rfl zkw_X6_thrown_n
  refine zW_ret hS (zl_v (a := 135) (kd := 16) (as := []) (rest := []) hx hb hmz hown hts hG hH (by decide) zkw_X6_thrown_o hM (by decide) zkw_X6_thrown_l zkw_X6_thrown_v zkw_X6_thrown_p zkw_X6_thrown_f zkw_X6_thrown_r hP hS (Nat.le_of_ble_eq_true rfl) dL_law_1570 (by show 415 + ρ1.2 + (ρ1.2 - ρ1.2) ≤ 601024; omega) (by show 38178 + 6 * ρ1.2 + 6 * (ρ1.2 - ρ1.2) ≤ 7293034; omega) rfl) (fun H locs hP hS => ?_)
  refine W.widen (k := 415 + ρ1.2) (n := 38178 + 6 * ρ1.2) (by show 415 + ρ1.2 + (ρ1.2 - ρ1.2) ≤ _; omega) (by show 38178 + 6 * ρ1.2 + 6 * (ρ1.2 - ρ1.2) ≤ _; omega) ?_
  refine lv_iload hx hb dL_law_1573 (lv_at hl 1 rfl) ?_
  refine lv_icmp_eq (tgt := 1580) hx hb dL_law_1575 rfl (fun _ => ?_) (fun q => absurd ht0 q)
  refine lv_iload hx hb dL_law_1580 (lv_at hl 1 rfl) ?_
  have fin : W p l e room_1 s m #[Value.ref bS] below meth c H locs (415 + ρ1.2) (38178 + 6 * ρ1.2) Q (F0 m 1597 ls []) := lv_goto (tgt := 2175) hx hb dL_law_1597 rfl (kk M2 ρ1 _ _ ls hR2 (by omega) (lv_sub hl [2, 3, 4, 5, 6] rfl) hP hS)
  refine lv_if_ne (tgt := 1597) hx hb dL_law_1582 rfl (fun _ => fin) (fun hk => ?_)
  refine lv_aload_n hx hb dL_law_1585 rfl (lv_at hl 3 rfl) ?_
  refine lv_iconst (v := 0) hx hb dL_law_1586 (by decide) ?_
  refine va_lald hx hb hG.1 hP 414 2 zout_get rfl (vp_in_nI (n := 0) (N := 1) (by decide) (by decide)) dL_law_1587 ?_
  refine lv_iload hx hb dL_law_1588 (lv_at hl 0 rfl) ?_
  refine lv_i2l hx hb dL_law_1590 rfl ?_
  refine W.lcmp hx hb dL_law_1591 ?_
  exact lv_if_eq (tgt := 1597) hx hb dL_law_1592 rfl (fun _ => fin) (fun q => absurd (by rw [← ho hk]; exact lg_cmp_self _) q)
theorem zkw_X6_together_l : Cond.methodLink RL 181 (zy 232) ∈ zTb := zTb_in (i := 1603) (by decide +kernel) rfl
theorem zkw_X6_together_o : 10 + zown 232 = 16 := by decide +kernel
theorem zkw_X6_together_v : (match zMW[232]? with
      | some q => !q.1
      | none => false) = true := by decide +kernel
theorem zkw_X6_together_p : (parseMethodDescriptor (zy 232).desc).map (fun d => d.parameters.length) = some 4 := by decide +kernel
theorem zkw_X6_together_n : 5 ≤ (zP 232).2 := by decide +kernel
theorem zkw_X6_together_f : zfr 232 + 1 ≤ 14 := by decide +kernel
theorem zkw_X6_together_r : 8 + ((zP 232).2 + 11) + zlo 232 ≤ 526 := by decide +kernel
theorem zkh_together_l : Cond.methodLink RL 179 yL_together ∈ zTb := zTb_in (i := 1063) (by decide +kernel) rfl
theorem zkh_together_s : Cond.static yL_together ∈ zTb := zTb_in (i := 1064) (by decide +kernel) rfl
theorem zkh_together_p : (parseMethodDescriptor yL_together.desc).map (fun d => d.parameters.length) = some (4 + 2) := by decide +kernel
theorem zkh_together_f : zfr 113 + 1 + 1 ≤ 14 := by decide +kernel
theorem zkh_together_r : 8 + (7 + 11) + (19 + (zP 113).2 + zlo 113) ≤ 526 := by decide +kernel
set_option maxHeartbeats 4000000 in
set_option maxRecDepth 100000 in
theorem zkc_22 (C : zLC D g adr p s m meth c bS L xs) (hAd : zAd adr s.heap) (hJv : zJv l D g adr s.heap) (hNw : zNw l D g adr s.heap) {t : Nat} (ht : 6 * t + 6 ≤ L) {M : zMem} {ρ : Int64 × Nat} (hR : zRel M) (hl : lv_has ls 7 (zLl adr bS (6 * t))) (hP : va_P D vwCl (zwd g adr (M, ρ)) H) (hS : va_S (zA s.heap) s.heap H locs) (hn : ρ.2 ≤ t) (kk : zKo p l e s m below meth c Q D g adr bS t) : W p l e room_1 s m #[Value.ref bS] below meth c H locs (415 + ρ.2) (38178 + 6 * ρ.2) Q (F0 m 1600 ls []) := by
  have C0 := C
  obtain ⟨hx, hb, hml, hown, hts, hG, hN, hX, hbl, hL⟩ := C0
  have hH : s.heap.size ≤ s.heap.size ∧ ∀ q : Nat, q < s.heap.size → s.heap[q]? = s.heap[q]? := ⟨Nat.le_refl _, fun _ _ => rfl⟩
  have hmz := hml.trans hl.1.symm
  obtain ⟨k, M1, ρ1, x2, M2, hh, hm, ht0, ho, hR2, hn1, hn2⟩ := zag_use (a_together hR (xs (6 * t + 1)) (xs (6 * t + 2)) (xs (6 * t + 3)) (xs (6 * t + 4))) ρ
  refine lv_aload_n hx hb dL_law_1600 rfl (lv_at hl 3 rfl) ?_
  refine zl_arg C 1 (lv_at hl 4 rfl) (lv_at hl 0 rfl) (by omega) hS rfl dL_law_1601 dL_law_1602 dL_law_1604 dL_law_1605 dL_law_1606 ?_
  refine zl_arg C 2 (lv_at hl 4 rfl) (lv_at hl 0 rfl) (by omega) hS rfl dL_law_1607 dL_law_1608 dL_law_1610 dL_law_1611 dL_law_1612 ?_
  refine zl_arg C 3 (lv_at hl 4 rfl) (lv_at hl 0 rfl) (by omega) hS rfl dL_law_1613 dL_law_1614 dL_law_1616 dL_law_1617 dL_law_1618 ?_
  refine zl_arg C 4 (lv_at hl 4 rfl) (lv_at hl 0 rfl) (by omega) hS rfl dL_law_1619 dL_law_1620 dL_law_1622 dL_law_1623 dL_law_1624 ?_
  refine lv_aload_n hx hb dL_law_1625 rfl (lv_at hl 1 rfl) ?_
  refine zW_ret hS (zl_help (rest := []) hx hb hmz hown hts hG hN hH (zh_together hAd hJv hNw (xs (6 * t + 1)) (xs (6 * t + 2)) (xs (6 * t + 3)) (xs (6 * t + 4)) hh) rfl zkh_together_l zkh_together_s zhw_together_c zkh_together_p zkh_together_f zkh_together_r hP hS (Nat.le_of_ble_eq_true rfl) dL_law_1626 (by show 415 + ρ.2 + (ρ1.2 - ρ.2) ≤ 601024; omega) (by show 38178 + 6 * ρ.2 + 6 * (ρ1.2 - ρ.2) ≤ 7293034; omega) rfl) (fun H locs hP hS => ?_)
  refine W.widen (k := 415 + ρ1.2) (n := 38178 + 6 * ρ1.2) (by show 415 + ρ.2 + (ρ1.2 - ρ.2) ≤ _; omega) (by show 38178 + 6 * ρ.2 + 6 * (ρ1.2 - ρ.2) ≤ _; omega) ?_
  refine lv_istore hx hb dL_law_1629 hl (by decide) rfl (fun ls hl => ?_)
  have hmz := hml.trans hl.1.symm
  refine lv_aload_n hx hb dL_law_1631 rfl (lv_at hl 3 rfl) ?_
  refine zl_arg C 1 (lv_at hl 5 rfl) (lv_at hl 1 rfl) (by omega) hS rfl dL_law_1632 dL_law_1633 dL_law_1635 dL_law_1636 dL_law_1637 ?_
  refine zl_arg C 2 (lv_at hl 5 rfl) (lv_at hl 1 rfl) (by omega) hS rfl dL_law_1638 dL_law_1639 dL_law_1641 dL_law_1642 dL_law_1643 ?_
  refine zl_arg C 3 (lv_at hl 5 rfl) (lv_at hl 1 rfl) (by omega) hS rfl dL_law_1644 dL_law_1645 dL_law_1647 dL_law_1648 dL_law_1649 ?_
  refine zl_arg C 4 (lv_at hl 5 rfl) (lv_at hl 1 rfl) (by omega) hS rfl dL_law_1650 dL_law_1651 dL_law_1653 dL_law_1654 dL_law_1655 ?_
  obtain ⟨-, -, hM⟩ := zrun_met hAd hJv hNw (j := 232) (by decide) hm (zva_ok (k := 16) (by decide) [(xs (6 * t + 1)), (xs (6 * t + 2)), (xs (6 * t + 3)), (xs (6 * t + 4))]) rfl zkw_X6_together_n
  refine zW_ret hS (zl_v (a := 232) (kd := 16) (as := [zI (xs (6 * t + 1)), zI (xs (6 * t + 2)), zI (xs (6 * t + 3)), zI (xs (6 * t + 4))]) (rest := []) hx hb hmz hown hts hG hH (by decide) zkw_X6_together_o hM (by decide) zkw_X6_together_l zkw_X6_together_v zkw_X6_together_p zkw_X6_together_f zkw_X6_together_r hP hS (Nat.le_of_ble_eq_true rfl) dL_law_1656 (by show 415 + ρ1.2 + (ρ1.2 - ρ1.2) ≤ 601024; omega) (by show 38178 + 6 * ρ1.2 + 6 * (ρ1.2 - ρ1.2) ≤ 7293034; omega) rfl) (fun H locs hP hS => ?_)
  refine W.widen (k := 415 + ρ1.2) (n := 38178 + 6 * ρ1.2) (by show 415 + ρ1.2 + (ρ1.2 - ρ1.2) ≤ _; omega) (by show 38178 + 6 * ρ1.2 + 6 * (ρ1.2 - ρ1.2) ≤ _; omega) ?_
  refine lv_istore hx hb dL_law_1659 hl (by decide) rfl (fun ls hl => ?_)
  have hmz := hml.trans hl.1.symm
  refine lv_aload_n hx hb dL_law_1661 rfl (lv_at hl 4 rfl) ?_
  clear hM
  obtain ⟨-, -, hM⟩ := zrun_met hAd hJv hNw (j := 135) (by decide) (e_X6_thrown 0 (M2, ρ1)) (zva_ok (k := 16) (by decide) []) rfl zkw_X6_thrown_n
  refine zW_ret hS (zl_v (a := 135) (kd := 16) (as := []) (rest := []) hx hb hmz hown hts hG hH (by decide) zkw_X6_thrown_o hM (by decide) zkw_X6_thrown_l zkw_X6_thrown_v zkw_X6_thrown_p zkw_X6_thrown_f zkw_X6_thrown_r hP hS (Nat.le_of_ble_eq_true rfl) dL_law_1662 (by show 415 + ρ1.2 + (ρ1.2 - ρ1.2) ≤ 601024; omega) (by show 38178 + 6 * ρ1.2 + 6 * (ρ1.2 - ρ1.2) ≤ 7293034; omega) rfl) (fun H locs hP hS => ?_)
  refine W.widen (k := 415 + ρ1.2) (n := 38178 + 6 * ρ1.2) (by show 415 + ρ1.2 + (ρ1.2 - ρ1.2) ≤ _; omega) (by show 38178 + 6 * ρ1.2 + 6 * (ρ1.2 - ρ1.2) ≤ _; omega) ?_
  refine lv_iload hx hb dL_law_1665 (lv_at hl 1 rfl) ?_
  refine lv_icmp_eq (tgt := 1672) hx hb dL_law_1667 rfl (fun _ => ?_) (fun q => absurd ht0 q)
  refine lv_iload hx hb dL_law_1672 (lv_at hl 1 rfl) ?_
  have fin : W p l e room_1 s m #[Value.ref bS] below meth c H locs (415 + ρ1.2) (38178 + 6 * ρ1.2) Q (F0 m 1689 ls []) := lv_goto (tgt := 2175) hx hb dL_law_1689 rfl (kk M2 ρ1 _ _ ls hR2 (by omega) (lv_sub hl [2, 3, 4, 5, 6] rfl) hP hS)
  refine lv_if_ne (tgt := 1689) hx hb dL_law_1674 rfl (fun _ => fin) (fun hk => ?_)
  refine lv_aload_n hx hb dL_law_1677 rfl (lv_at hl 3 rfl) ?_
  refine lv_iconst (v := 0) hx hb dL_law_1678 (by decide) ?_
  refine va_lald hx hb hG.1 hP 414 2 zout_get rfl (vp_in_nI (n := 0) (N := 1) (by decide) (by decide)) dL_law_1679 ?_
  refine lv_iload hx hb dL_law_1680 (lv_at hl 0 rfl) ?_
  refine lv_i2l hx hb dL_law_1682 rfl ?_
  refine W.lcmp hx hb dL_law_1683 ?_
  exact lv_if_eq (tgt := 1689) hx hb dL_law_1684 rfl (fun _ => fin) (fun q => absurd (by rw [← ho hk]; exact lg_cmp_self _) q)
theorem zkw_X6_longest_l : Cond.methodLink RL 184 (zy 233) ∈ zTb := zTb_in (i := 1607) (by decide +kernel) rfl
theorem zkw_X6_longest_o : 10 + zown 233 = 16 := by decide +kernel
theorem zkw_X6_longest_v : (match zMW[233]? with
      | some q => !q.1
      | none => false) = true := by decide +kernel
theorem zkw_X6_longest_p : (parseMethodDescriptor (zy 233).desc).map (fun d => d.parameters.length) = some 3 := by decide +kernel
theorem zkw_X6_longest_n : 4 ≤ (zP 233).2 := by decide +kernel
theorem zkw_X6_longest_f : zfr 233 + 1 ≤ 14 := by decide +kernel
theorem zkw_X6_longest_r : 8 + ((zP 233).2 + 11) + zlo 233 ≤ 526 := by decide +kernel
theorem zkh_longest_l : Cond.methodLink RL 182 yL_longest ∈ zTb := zTb_in (i := 1070) (by decide +kernel) rfl
theorem zkh_longest_s : Cond.static yL_longest ∈ zTb := zTb_in (i := 1071) (by decide +kernel) rfl
theorem zkh_longest_p : (parseMethodDescriptor yL_longest.desc).map (fun d => d.parameters.length) = some (3 + 2) := by decide +kernel
theorem zkh_longest_f : zfr 114 + 1 + 1 ≤ 14 := by decide +kernel
theorem zkh_longest_r : 8 + (6 + 11) + (19 + (zP 114).2 + zlo 114) ≤ 526 := by decide +kernel
set_option maxHeartbeats 4000000 in
set_option maxRecDepth 100000 in
theorem zkc_23 (C : zLC D g adr p s m meth c bS L xs) (hAd : zAd adr s.heap) (hJv : zJv l D g adr s.heap) (hNw : zNw l D g adr s.heap) {t : Nat} (ht : 6 * t + 6 ≤ L) {M : zMem} {ρ : Int64 × Nat} (hR : zRel M) (hl : lv_has ls 7 (zLl adr bS (6 * t))) (hP : va_P D vwCl (zwd g adr (M, ρ)) H) (hS : va_S (zA s.heap) s.heap H locs) (hn : ρ.2 ≤ t) (kk : zKo p l e s m below meth c Q D g adr bS t) : W p l e room_1 s m #[Value.ref bS] below meth c H locs (415 + ρ.2) (38178 + 6 * ρ.2) Q (F0 m 1692 ls []) := by
  have C0 := C
  obtain ⟨hx, hb, hml, hown, hts, hG, hN, hX, hbl, hL⟩ := C0
  have hH : s.heap.size ≤ s.heap.size ∧ ∀ q : Nat, q < s.heap.size → s.heap[q]? = s.heap[q]? := ⟨Nat.le_refl _, fun _ _ => rfl⟩
  have hmz := hml.trans hl.1.symm
  obtain ⟨k, M1, ρ1, x2, M2, hh, hm, ht0, ho, hR2, hn1, hn2⟩ := zag_use (a_longest hR (xs (6 * t + 1)) (xs (6 * t + 2)) (xs (6 * t + 3))) ρ
  refine lv_aload_n hx hb dL_law_1692 rfl (lv_at hl 3 rfl) ?_
  refine zl_arg C 1 (lv_at hl 4 rfl) (lv_at hl 0 rfl) (by omega) hS rfl dL_law_1693 dL_law_1694 dL_law_1696 dL_law_1697 dL_law_1698 ?_
  refine zl_arg C 2 (lv_at hl 4 rfl) (lv_at hl 0 rfl) (by omega) hS rfl dL_law_1699 dL_law_1700 dL_law_1702 dL_law_1703 dL_law_1704 ?_
  refine zl_arg C 3 (lv_at hl 4 rfl) (lv_at hl 0 rfl) (by omega) hS rfl dL_law_1705 dL_law_1706 dL_law_1708 dL_law_1709 dL_law_1710 ?_
  refine lv_aload_n hx hb dL_law_1711 rfl (lv_at hl 1 rfl) ?_
  refine zW_ret hS (zl_help (rest := []) hx hb hmz hown hts hG hN hH (zh_longest hAd hJv hNw (xs (6 * t + 1)) (xs (6 * t + 2)) (xs (6 * t + 3)) hh) rfl zkh_longest_l zkh_longest_s zhw_longest_c zkh_longest_p zkh_longest_f zkh_longest_r hP hS (Nat.le_of_ble_eq_true rfl) dL_law_1712 (by show 415 + ρ.2 + (ρ1.2 - ρ.2) ≤ 601024; omega) (by show 38178 + 6 * ρ.2 + 6 * (ρ1.2 - ρ.2) ≤ 7293034; omega) rfl) (fun H locs hP hS => ?_)
  refine W.widen (k := 415 + ρ1.2) (n := 38178 + 6 * ρ1.2) (by show 415 + ρ.2 + (ρ1.2 - ρ.2) ≤ _; omega) (by show 38178 + 6 * ρ.2 + 6 * (ρ1.2 - ρ.2) ≤ _; omega) ?_
  refine lv_istore hx hb dL_law_1715 hl (by decide) rfl (fun ls hl => ?_)
  have hmz := hml.trans hl.1.symm
  refine lv_aload_n hx hb dL_law_1717 rfl (lv_at hl 3 rfl) ?_
  refine zl_arg C 1 (lv_at hl 5 rfl) (lv_at hl 1 rfl) (by omega) hS rfl dL_law_1718 dL_law_1719 dL_law_1721 dL_law_1722 dL_law_1723 ?_
  refine zl_arg C 2 (lv_at hl 5 rfl) (lv_at hl 1 rfl) (by omega) hS rfl dL_law_1724 dL_law_1725 dL_law_1727 dL_law_1728 dL_law_1729 ?_
  refine zl_arg C 3 (lv_at hl 5 rfl) (lv_at hl 1 rfl) (by omega) hS rfl dL_law_1730 dL_law_1731 dL_law_1733 dL_law_1734 dL_law_1735 ?_
  obtain ⟨-, -, hM⟩ := zrun_met hAd hJv hNw (j := 233) (by decide) hm (zva_ok (k := 16) (by decide) [(xs (6 * t + 1)), (xs (6 * t + 2)), (xs (6 * t + 3))]) rfl zkw_X6_longest_n
  refine zW_ret hS (zl_v (a := 233) (kd := 16) (as := [zI (xs (6 * t + 1)), zI (xs (6 * t + 2)), zI (xs (6 * t + 3))]) (rest := []) hx hb hmz hown hts hG hH (by decide) zkw_X6_longest_o hM (by decide) zkw_X6_longest_l zkw_X6_longest_v zkw_X6_longest_p zkw_X6_longest_f zkw_X6_longest_r hP hS (Nat.le_of_ble_eq_true rfl) dL_law_1736 (by show 415 + ρ1.2 + (ρ1.2 - ρ1.2) ≤ 601024; omega) (by show 38178 + 6 * ρ1.2 + 6 * (ρ1.2 - ρ1.2) ≤ 7293034; omega) rfl) (fun H locs hP hS => ?_)
  refine W.widen (k := 415 + ρ1.2) (n := 38178 + 6 * ρ1.2) (by show 415 + ρ1.2 + (ρ1.2 - ρ1.2) ≤ _; omega) (by show 38178 + 6 * ρ1.2 + 6 * (ρ1.2 - ρ1.2) ≤ _; omega) ?_
  refine lv_istore hx hb dL_law_1739 hl (by decide) rfl (fun ls hl => ?_)
  have hmz := hml.trans hl.1.symm
  refine lv_aload_n hx hb dL_law_1741 rfl (lv_at hl 4 rfl) ?_
  clear hM
  obtain ⟨-, -, hM⟩ := zrun_met hAd hJv hNw (j := 135) (by decide) (e_X6_thrown 0 (M2, ρ1)) (zva_ok (k := 16) (by decide) []) rfl zkw_X6_thrown_n
  refine zW_ret hS (zl_v (a := 135) (kd := 16) (as := []) (rest := []) hx hb hmz hown hts hG hH (by decide) zkw_X6_thrown_o hM (by decide) zkw_X6_thrown_l zkw_X6_thrown_v zkw_X6_thrown_p zkw_X6_thrown_f zkw_X6_thrown_r hP hS (Nat.le_of_ble_eq_true rfl) dL_law_1742 (by show 415 + ρ1.2 + (ρ1.2 - ρ1.2) ≤ 601024; omega) (by show 38178 + 6 * ρ1.2 + 6 * (ρ1.2 - ρ1.2) ≤ 7293034; omega) rfl) (fun H locs hP hS => ?_)
  refine W.widen (k := 415 + ρ1.2) (n := 38178 + 6 * ρ1.2) (by show 415 + ρ1.2 + (ρ1.2 - ρ1.2) ≤ _; omega) (by show 38178 + 6 * ρ1.2 + 6 * (ρ1.2 - ρ1.2) ≤ _; omega) ?_
  refine lv_iload hx hb dL_law_1745 (lv_at hl 1 rfl) ?_
  refine lv_icmp_eq (tgt := 1752) hx hb dL_law_1747 rfl (fun _ => ?_) (fun q => absurd ht0 q)
  refine lv_iload hx hb dL_law_1752 (lv_at hl 1 rfl) ?_
  have fin : W p l e room_1 s m #[Value.ref bS] below meth c H locs (415 + ρ1.2) (38178 + 6 * ρ1.2) Q (F0 m 1769 ls []) := lv_goto (tgt := 2175) hx hb dL_law_1769 rfl (kk M2 ρ1 _ _ ls hR2 (by omega) (lv_sub hl [2, 3, 4, 5, 6] rfl) hP hS)
  refine lv_if_ne (tgt := 1769) hx hb dL_law_1754 rfl (fun _ => fin) (fun hk => ?_)
  refine lv_aload_n hx hb dL_law_1757 rfl (lv_at hl 3 rfl) ?_
  refine lv_iconst (v := 0) hx hb dL_law_1758 (by decide) ?_
  refine va_lald hx hb hG.1 hP 414 2 zout_get rfl (vp_in_nI (n := 0) (N := 1) (by decide) (by decide)) dL_law_1759 ?_
  refine lv_iload hx hb dL_law_1760 (lv_at hl 0 rfl) ?_
  refine lv_i2l hx hb dL_law_1762 rfl ?_
  refine W.lcmp hx hb dL_law_1763 ?_
  exact lv_if_eq (tgt := 1769) hx hb dL_law_1764 rfl (fun _ => fin) (fun q => absurd (by rw [← ho hk]; exact lg_cmp_self _) q)
end ZKC
