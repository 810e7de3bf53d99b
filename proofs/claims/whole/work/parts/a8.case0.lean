/-- the law goes on behind a case -/
def zKo (p : Program) (l : Launch) (e : Env) (s : State) (m : MethodId) (below : List Frame) (meth : Method) (c : Code) (Q : State → Prop) (D : va_G) (g : zIds) (adr : Nat → Nat → Nat) (bS t : Nat) : Prop :=
  ∀ (M' : zMem) (ρ' : Int64 × Nat) (H' : Heap) (locs' : List Loc) (ls' : Array Slot), zRel M' → ρ'.2 ≤ t + 1 → lv_has ls' 7 (zLl adr bS (6 * t)) → va_P D vwCl (zwd g adr (M', ρ')) H' → va_S (zA s.heap) s.heap H' locs' → W p l e room_1 s m #[Value.ref bS] below meth c H' locs' (415 + ρ'.2) (38178 + 6 * ρ'.2) Q (F0 m 2175 ls' [])
theorem lg_cmp_self (y : Int64) : lg_cmp y y = 0 := by simp [lg_cmp]
theorem zkw_X6_thrown_l : Cond.methodLink RL 109 (zy 135) ∈ zTb := zTb_in (i := 1129) (by decide +kernel) rfl
theorem zkw_X6_thrown_o : 10 + zown 135 = 16 := by decide +kernel
theorem zkw_X6_thrown_v : (match zMW[135]? with
      | some q => !q.1
      | none => false) = true := by decide +kernel
theorem zkw_X6_thrown_p : (parseMethodDescriptor (zy 135).desc).map (fun d => d.parameters.length) = some 0 := by decide +kernel
theorem zkw_X6_thrown_n : 1 ≤ (zP 135).2 := by decide +kernel
theorem zkw_X6_thrown_f : zfr 135 + 1 ≤ 14 := by decide +kernel
theorem zkw_X6_thrown_r : 8 + ((zP 135).2 + 11) + zlo 135 ≤ 526 := by decide +kernel
section ZKC
variable {p : Program} {l : Launch} {e : Env} {s : State} {m : MethodId} {below : List Frame} {meth : Method} {c : Code} {H : Heap} {locs : List Loc} {Q : State → Prop} {ls : Array Slot} {D : va_G} {g : zIds} {adr : Nat → Nat → Nat} {bS L : Nat} {xs : Nat → Int32}
theorem zkw_X6_feed_l : Cond.methodLink RL 102 (zy 166) ∈ zTb := zTb_in (i := 1203) (by decide +kernel) rfl
theorem zkw_X6_feed_o : 10 + zown 166 = 16 := by decide +kernel
theorem zkw_X6_feed_v : (match zMW[166]? with
      | some q => !q.1
      | none => false) = true := by decide +kernel
theorem zkw_X6_feed_p : (parseMethodDescriptor (zy 166).desc).map (fun d => d.parameters.length) = some 5 := by decide +kernel
theorem zkw_X6_feed_n : 6 ≤ (zP 166).2 := by decide +kernel
theorem zkw_X6_feed_f : zfr 166 + 1 ≤ 14 := by decide +kernel
theorem zkw_X6_feed_r : 8 + ((zP 166).2 + 11) + zlo 166 ≤ 526 := by decide +kernel
theorem zkw_X5_feed_l : Cond.methodLink RL 98 (zy 91) ∈ zTb := zTb_in (i := 309) (by decide +kernel) rfl
theorem zkw_X5_feed_o : 10 + zown 91 = 15 := by decide +kernel
theorem zkw_X5_feed_v : (match zMW[91]? with
      | some q => !q.1
      | none => false) = true := by decide +kernel
theorem zkw_X5_feed_p : (parseMethodDescriptor (zy 91).desc).map (fun d => d.parameters.length) = some 5 := by decide +kernel
theorem zkw_X5_feed_n : 6 ≤ (zP 91).2 := by decide +kernel
theorem zkw_X5_feed_f : zfr 91 + 1 ≤ 14 := by decide +kernel
theorem zkw_X5_feed_r : 8 + ((zP 91).2 + 11) + zlo 91 ≤ 526 := by decide +kernel
set_option maxHeartbeats 4000000 in
set_option maxRecDepth 100000 in
theorem zkc_0 (C : zLC D g adr p s m meth c bS L xs) (hAd : zAd adr s.heap) (hJv : zJv l D g adr s.heap) (hNw : zNw l D g adr s.heap) {t : Nat} (ht : 6 * t + 6 ≤ L) {M : zMem} {ρ : Int64 × Nat} (hR : zRel M) (hl : lv_has ls 7 (zLl adr bS (6 * t))) (hP : va_P D vwCl (zwd g adr (M, ρ)) H) (hS : va_S (zA s.heap) s.heap H locs) (hn : ρ.2 ≤ t) (kk : zKo p l e s m below meth c Q D g adr bS t) : W p l e room_1 s m #[Value.ref bS] below meth c H locs (415 + ρ.2) (38178 + 6 * ρ.2) Q (F0 m 180 ls []) := by
  have C0 := C
  obtain ⟨hx, hb, hml, hown, hts, hG, hN, hX, hbl, hL⟩ := C0
  have hH : s.heap.size ≤ s.heap.size ∧ ∀ q : Nat, q < s.heap.size → s.heap[q]? = s.heap[q]? := ⟨Nat.le_refl _, fun _ _ => rfl⟩
  have hmz := hml.trans hl.1.symm
  obtain ⟨x, M1, M2, h1, h2, hR2⟩ := zag_none (a_feed hR (xs (6 * t + 1)) (xs (6 * t + 2)) (xs (6 * t + 3)) (xs (6 * t + 4)) (xs (6 * t + 5))) ρ
  refine lv_aload_n hx hb dL_law_180 rfl (lv_at hl 3 rfl) ?_
  refine zl_arg C 1 (lv_at hl 4 rfl) (lv_at hl 0 rfl) (by omega) hS rfl dL_law_181 dL_law_182 dL_law_184 dL_law_185 dL_law_186 ?_
  refine zl_arg C 2 (lv_at hl 4 rfl) (lv_at hl 0 rfl) (by omega) hS rfl dL_law_187 dL_law_188 dL_law_190 dL_law_191 dL_law_192 ?_
  refine zl_arg C 3 (lv_at hl 4 rfl) (lv_at hl 0 rfl) (by omega) hS rfl dL_law_193 dL_law_194 dL_law_196 dL_law_197 dL_law_198 ?_
  refine zl_arg C 4 (lv_at hl 4 rfl) (lv_at hl 0 rfl) (by omega) hS rfl dL_law_199 dL_law_200 dL_law_202 dL_law_203 dL_law_204 ?_
  refine zl_arg C 5 (lv_at hl 4 rfl) (lv_at hl 0 rfl) (by omega) hS rfl dL_law_205 dL_law_206 dL_law_208 dL_law_209 dL_law_210 ?_
  obtain ⟨-, -, hM⟩ := zrun_met hAd hJv hNw (j := 91) (by decide) h1 (zva_ok (k := 15) (by decide) [(xs (6 * t + 1)), (xs (6 * t + 2)), (xs (6 * t + 3)), (xs (6 * t + 4)), (xs (6 * t + 5))]) rfl zkw_X5_feed_n
  refine zW_ret hS (zl_v (a := 91) (kd := 15) (as := [zI (xs (6 * t + 1)), zI (xs (6 * t + 2)), zI (xs (6 * t + 3)), zI (xs (6 * t + 4)), zI (xs (6 * t + 5))]) (rest := []) hx hb hmz hown hts hG hH (by decide) zkw_X5_feed_o hM (by decide) zkw_X5_feed_l zkw_X5_feed_v zkw_X5_feed_p zkw_X5_feed_f zkw_X5_feed_r hP hS (Nat.le_of_ble_eq_true rfl) dL_law_211 (by show 415 + ρ.2 + (ρ.2 - ρ.2) ≤ 601024; omega) (by show 38178 + 6 * ρ.2 + 6 * (ρ.2 - ρ.2) ≤ 7293034; omega) rfl) (fun H locs hP hS => ?_)
  refine W.widen (k := 415 + ρ.2) (n := 38178 + 6 * ρ.2) (by show 415 + ρ.2 + (ρ.2 - ρ.2) ≤ _; omega) (by show 38178 + 6 * ρ.2 + 6 * (ρ.2 - ρ.2) ≤ _; omega) ?_
  refine lv_aload_n hx hb dL_law_214 rfl (lv_at hl 2 rfl) ?_
  refine zl_arg C 1 (lv_at hl 4 rfl) (lv_at hl 0 rfl) (by omega) hS rfl dL_law_215 dL_law_216 dL_law_218 dL_law_219 dL_law_220 ?_
  refine zl_arg C 2 (lv_at hl 4 rfl) (lv_at hl 0 rfl) (by omega) hS rfl dL_law_221 dL_law_222 dL_law_224 dL_law_225 dL_law_226 ?_
  refine zl_arg C 3 (lv_at hl 4 rfl) (lv_at hl 0 rfl) (by omega) hS rfl dL_law_227 dL_law_228 dL_law_230 dL_law_231 dL_law_232 ?_
  refine zl_arg C 4 (lv_at hl 4 rfl) (lv_at hl 0 rfl) (by omega) hS rfl dL_law_233 dL_law_234 dL_law_236 dL_law_237 dL_law_238 ?_
  refine zl_arg C 5 (lv_at hl 4 rfl) (lv_at hl 0 rfl) (by omega) hS rfl dL_law_239 dL_law_240 dL_law_242 dL_law_243 dL_law_244 ?_
  clear hM
  obtain ⟨-, -, hM⟩ := zrun_met hAd hJv hNw (j := 166) (by decide) h2 (zva_ok (k := 16) (by decide) [(xs (6 * t + 1)), (xs (6 * t + 2)), (xs (6 * t + 3)), (xs (6 * t + 4)), (xs (6 * t + 5))]) rfl zkw_X6_feed_n
  refine zW_ret hS (zl_v (a := 166) (kd := 16) (as := [zI (xs (6 * t + 1)), zI (xs (6 * t + 2)), zI (xs (6 * t + 3)), zI (xs (6 * t + 4)), zI (xs (6 * t + 5))]) (rest := [.int x]) hx hb hmz hown hts hG hH (by decide) zkw_X6_feed_o hM (by decide) zkw_X6_feed_l zkw_X6_feed_v zkw_X6_feed_p zkw_X6_feed_f zkw_X6_feed_r hP hS (Nat.le_of_ble_eq_true rfl) dL_law_245 (by show 415 + ρ.2 + (ρ.2 - ρ.2) ≤ 601024; omega) (by show 38178 + 6 * ρ.2 + 6 * (ρ.2 - ρ.2) ≤ 7293034; omega) rfl) (fun H locs hP hS => ?_)
  refine W.widen (k := 415 + ρ.2) (n := 38178 + 6 * ρ.2) (by show 415 + ρ.2 + (ρ.2 - ρ.2) ≤ _; omega) (by show 38178 + 6 * ρ.2 + 6 * (ρ.2 - ρ.2) ≤ _; omega) ?_
  exact lv_icmp_eq (tgt := 2175) hx hb dL_law_248 rfl (fun _ => kk M2 ρ _ _ ls hR2 (by omega) hl hP hS) (fun q => absurd rfl q)
theorem zkw_X6_text_l : Cond.methodLink RL 108 (zy 186) ∈ zTb := zTb_in (i := 1211) (by decide +kernel) rfl
theorem zkw_X6_text_o : 10 + zown 186 = 16 := by decide +kernel
theorem zkw_X6_text_v : (match zMW[186]? with
      | some q => !q.1
      | none => false) = true := by decide +kernel
theorem zkw_X6_text_p : (parseMethodDescriptor (zy 186).desc).map (fun d => d.parameters.length) = some 1 := by decide +kernel
theorem zkw_X6_text_n : 2 ≤ (zP 186).2 := by decide +kernel
theorem zkw_X6_text_f : zfr 186 + 1 ≤ 14 := by decide +kernel
theorem zkw_X6_text_r : 8 + ((zP 186).2 + 11) + zlo 186 ≤ 526 := by decide +kernel
theorem zkh_text_l : Cond.methodLink RL 103 yL_text ∈ zTb := zTb_in (i := 358) (by decide +kernel) rfl
theorem zkh_text_s : Cond.static yL_text ∈ zTb := zTb_in (i := 359) (by decide +kernel) rfl
theorem zkh_text_p : (parseMethodDescriptor yL_text.desc).map (fun d => d.parameters.length) = some (1 + 2) := by decide +kernel
theorem zkh_text_f : zfr 92 + 1 + 1 ≤ 14 := by decide +kernel
theorem zkh_text_r : 8 + (4 + 11) + (19 + (zP 92).2 + zlo 92) ≤ 526 := by decide +kernel
set_option maxHeartbeats 4000000 in
set_option maxRecDepth 100000 in
theorem zkc_1 (C : zLC D g adr p s m meth c bS L xs) (hAd : zAd adr s.heap) (hJv : zJv l D g adr s.heap) (hNw : zNw l D g adr s.heap) {t : Nat} (ht : 6 * t + 6 ≤ L) {M : zMem} {ρ : Int64 × Nat} (hR : zRel M) (hl : lv_has ls 7 (zLl adr bS (6 * t))) (hP : va_P D vwCl (zwd g adr (M, ρ)) H) (hS : va_S (zA s.heap) s.heap H locs) (hn : ρ.2 ≤ t) (kk : zKo p l e s m below meth c Q D g adr bS t) : W p l e room_1 s m #[Value.ref bS] below meth c H locs (415 + ρ.2) (38178 + 6 * ρ.2) Q (F0 m 253 ls []) := by
  have C0 := C
  obtain ⟨hx, hb, hml, hown, hts, hG, hN, hX, hbl, hL⟩ := C0
  have hH : s.heap.size ≤ s.heap.size ∧ ∀ q : Nat, q < s.heap.size → s.heap[q]? = s.heap[q]? := ⟨Nat.le_refl _, fun _ _ => rfl⟩
  have hmz := hml.trans hl.1.symm
  obtain ⟨k, M1, ρ1, x2, M2, hh, hm, ht0, ho, hR2, hn1, hn2⟩ := zag_use (a_text hR (xs (6 * t + 1))) ρ
  refine lv_aload_n hx hb dL_law_253 rfl (lv_at hl 3 rfl) ?_
  refine zl_arg C 1 (lv_at hl 4 rfl) (lv_at hl 0 rfl) (by omega) hS rfl dL_law_254 dL_law_255 dL_law_257 dL_law_258 dL_law_259 ?_
  refine lv_aload_n hx hb dL_law_260 rfl (lv_at hl 1 rfl) ?_
  refine zW_ret hS (zl_help (rest := []) hx hb hmz hown hts hG hN hH (zh_text hAd hJv hNw (xs (6 * t + 1)) hh) rfl zkh_text_l zkh_text_s zhw_text_c zkh_text_p zkh_text_f zkh_text_r hP hS (Nat.le_of_ble_eq_true rfl) dL_law_261 (by show 415 + ρ.2 + (ρ1.2 - ρ.2) ≤ 601024; omega) (by show 38178 + 6 * ρ.2 + 6 * (ρ1.2 - ρ.2) ≤ 7293034; omega) rfl) (fun H locs hP hS => ?_)
  refine W.widen (k := 415 + ρ1.2) (n := 38178 + 6 * ρ1.2) (by show 415 + ρ.2 + (ρ1.2 - ρ.2) ≤ _; omega) (by show 38178 + 6 * ρ.2 + 6 * (ρ1.2 - ρ.2) ≤ _; omega) ?_
  refine lv_istore hx hb dL_law_264 hl (by decide) rfl (fun ls hl => ?_)
  have hmz := hml.trans hl.1.symm
  refine lv_aload_n hx hb dL_law_266 rfl (lv_at hl 3 rfl) ?_
  refine zl_arg C 1 (lv_at hl 5 rfl) (lv_at hl 1 rfl) (by omega) hS rfl dL_law_267 dL_law_268 dL_law_270 dL_law_271 dL_law_272 ?_
  obtain ⟨-, -, hM⟩ := zrun_met hAd hJv hNw (j := 186) (by decide) hm (zva_ok (k := 16) (by decide) [(xs (6 * t + 1))]) rfl zkw_X6_text_n
  refine zW_ret hS (zl_v (a := 186) (kd := 16) (as := [zI (xs (6 * t + 1))]) (rest := []) hx hb hmz hown hts hG hH (by decide) zkw_X6_text_o hM (by decide) zkw_X6_text_l zkw_X6_text_v zkw_X6_text_p zkw_X6_text_f zkw_X6_text_r hP hS (Nat.le_of_ble_eq_true rfl) dL_law_273 (by show 415 + ρ1.2 + (ρ1.2 - ρ1.2) ≤ 601024; omega) (by show 38178 + 6 * ρ1.2 + 6 * (ρ1.2 - ρ1.2) ≤ 7293034; omega) rfl) (fun H locs hP hS => ?_)
  refine W.widen (k := 415 + ρ1.2) (n := 38178 + 6 * ρ1.2) (by show 415 + ρ1.2 + (ρ1.2 - ρ1.2) ≤ _; omega) (by show 38178 + 6 * ρ1.2 + 6 * (ρ1.2 - ρ1.2) ≤ _; omega) ?_
  refine lv_istore hx hb dL_law_276 hl (by decide) rfl (fun ls hl => ?_)
  have hmz := hml.trans hl.1.symm
  refine lv_aload_n hx hb dL_law_278 rfl (lv_at hl 4 rfl) ?_
  clear hM
  obtain ⟨-, -, hM⟩ := zrun_met hAd hJv hNw (j := 135) (by decide) (e_X6_thrown 0 (M2, ρ1)) (zva_ok (k := 16) (by decide) []) rfl zkw_X6_thrown_n
  refine zW_ret hS (zl_v (a := 135) (kd := 16) (as := []) (rest := []) hx hb hmz hown hts hG hH (by decide) zkw_X6_thrown_o hM (by decide) zkw_X6_thrown_l zkw_X6_thrown_v zkw_X6_thrown_p zkw_X6_thrown_f zkw_X6_thrown_r hP hS (Nat.le_of_ble_eq_true rfl) dL_law_279 (by show 415 + ρ1.2 + (ρ1.2 - ρ1.2) ≤ 601024; omega) (by show 38178 + 6 * ρ1.2 + 6 * (ρ1.2 - ρ1.2) ≤ 7293034; omega) rfl) (fun H locs hP hS => ?_)
  refine W.widen (k := 415 + ρ1.2) (n := 38178 + 6 * ρ1.2) (by show 415 + ρ1.2 + (ρ1.2 - ρ1.2) ≤ _; omega) (by show 38178 + 6 * ρ1.2 + 6 * (ρ1.2 - ρ1.2) ≤ _; omega) ?_
  refine lv_iload hx hb dL_law_282 (lv_at hl 1 rfl) ?_
  refine lv_icmp_eq (tgt := 289) hx hb dL_law_284 rfl (fun _ => ?_) (fun q => absurd ht0 q)
  refine lv_iload hx hb dL_law_289 (lv_at hl 1 rfl) ?_
  have fin : W p l e room_1 s m #[Value.ref bS] below meth c H locs (415 + ρ1.2) (38178 + 6 * ρ1.2) Q (F0 m 306 ls []) := lv_goto (tgt := 2175) hx hb dL_law_306 rfl (kk M2 ρ1 _ _ ls hR2 (by omega) (lv_sub hl [2, 3, 4, 5, 6] rfl) hP hS)
  refine lv_if_ne (tgt := 306) hx hb dL_law_291 rfl (fun _ => fin) (fun hk => ?_)
  refine lv_aload_n hx hb dL_law_294 rfl (lv_at hl 3 rfl) ?_
  refine lv_iconst (v := 0) hx hb dL_law_295 (by decide) ?_
  refine va_lald hx hb hG.1 hP 414 2 zout_get rfl (vp_in_nI (n := 0) (N := 1) (by decide) (by decide)) dL_law_296 ?_
  refine lv_iload hx hb dL_law_297 (lv_at hl 0 rfl) ?_
  refine lv_i2l hx hb dL_law_299 rfl ?_
  refine W.lcmp hx hb dL_law_300 ?_
  exact lv_if_eq (tgt := 306) hx hb dL_law_301 rfl (fun _ => fin) (fun q => absurd (by rw [← ho hk]; exact lg_cmp_self _) q)
theorem zkw_X6_fault_l : Cond.methodLink RL 116 (zy 187) ∈ zTb := zTb_in (i := 1400) (by decide +kernel) rfl
theorem zkw_X6_fault_o : 10 + zown 187 = 16 := by decide +kernel
theorem zkw_X6_fault_v : (match zMW[187]? with
      | some q => !q.1
      | none => false) = true := by decide +kernel
theorem zkw_X6_fault_p : (parseMethodDescriptor (zy 187).desc).map (fun d => d.parameters.length) = some 0 := by decide +kernel
theorem zkw_X6_fault_n : 1 ≤ (zP 187).2 := by decide +kernel
theorem zkw_X6_fault_f : zfr 187 + 1 ≤ 14 := by decide +kernel
theorem zkw_X6_fault_r : 8 + ((zP 187).2 + 11) + zlo 187 ≤ 526 := by decide +kernel
theorem zkw_X5_fault_l : Cond.methodLink RL 113 (zy 93) ∈ zTb := zTb_in (i := 317) (by decide +kernel) rfl
theorem zkw_X5_fault_o : 10 + zown 93 = 15 := by decide +kernel
theorem zkw_X5_fault_v : (match zMW[93]? with
      | some q => !q.1
      | none => false) = true := by decide +kernel
theorem zkw_X5_fault_p : (parseMethodDescriptor (zy 93).desc).map (fun d => d.parameters.length) = some 0 := by decide +kernel
theorem zkw_X5_fault_n : 1 ≤ (zP 93).2 := by decide +kernel
theorem zkw_X5_fault_f : zfr 93 + 1 ≤ 14 := by decide +kernel
theorem zkw_X5_fault_r : 8 + ((zP 93).2 + 11) + zlo 93 ≤ 526 := by decide +kernel
set_option maxHeartbeats 4000000 in
set_option maxRecDepth 100000 in
theorem zkc_2 (C : zLC D g adr p s m meth c bS L xs) (hAd : zAd adr s.heap) (hJv : zJv l D g adr s.heap) (hNw : zNw l D g adr s.heap) {t : Nat} (ht : 6 * t + 6 ≤ L) {M : zMem} {ρ : Int64 × Nat} (hR : zRel M) (hl : lv_has ls 7 (zLl adr bS (6 * t))) (hP : va_P D vwCl (zwd g adr (M, ρ)) H) (hS : va_S (zA s.heap) s.heap H locs) (hn : ρ.2 ≤ t) (kk : zKo p l e s m below meth c Q D g adr bS t) : W p l e room_1 s m #[Value.ref bS] below meth c H locs (415 + ρ.2) (38178 + 6 * ρ.2) Q (F0 m 309 ls []) := by
  have C0 := C
  obtain ⟨hx, hb, hml, hown, hts, hG, hN, hX, hbl, hL⟩ := C0
  have hH : s.heap.size ≤ s.heap.size ∧ ∀ q : Nat, q < s.heap.size → s.heap[q]? = s.heap[q]? := ⟨Nat.le_refl _, fun _ _ => rfl⟩
  have hmz := hml.trans hl.1.symm
  obtain ⟨x, M1, M2, h1, h2, hR2⟩ := zag_none (a_fault hR ) ρ
  refine lv_aload_n hx hb dL_law_309 rfl (lv_at hl 3 rfl) ?_
  obtain ⟨-, -, hM⟩ := zrun_met hAd hJv hNw (j := 93) (by decide) h1 (zva_ok (k := 15) (by decide) []) rfl zkw_X5_fault_n
  refine zW_ret hS (zl_v (a := 93) (kd := 15) (as := []) (rest := []) hx hb hmz hown hts hG hH (by decide) zkw_X5_fault_o hM (by decide) zkw_X5_fault_l zkw_X5_fault_v zkw_X5_fault_p zkw_X5_fault_f zkw_X5_fault_r hP hS (Nat.le_of_ble_eq_true rfl) dL_law_310 (by show 415 + ρ.2 + (ρ.2 - ρ.2) ≤ 601024; omega) (by show 38178 + 6 * ρ.2 + 6 * (ρ.2 - ρ.2) ≤ 7293034; omega) rfl) (fun H locs hP hS => ?_)
  refine W.widen (k := 415 + ρ.2) (n := 38178 + 6 * ρ.2) (by show 415 + ρ.2 + (ρ.2 - ρ.2) ≤ _; omega) (by show 38178 + 6 * ρ.2 + 6 * (ρ.2 - ρ.2) ≤ _; omega) ?_
  refine lv_aload_n hx hb dL_law_313 rfl (lv_at hl 2 rfl) ?_
  clear hM
  obtain ⟨-, -, hM⟩ := zrun_met hAd hJv hNw (j := 187) (by decide) h2 (zva_ok (k := 16) (by decide) []) rfl zkw_X6_fault_n
  refine zW_ret hS (zl_v (a := 187) (kd := 16) (as := []) (rest := [.int x]) hx hb hmz hown hts hG hH (by decide) zkw_X6_fault_o hM (by decide) zkw_X6_fault_l zkw_X6_fault_v zkw_X6_fault_p zkw_X6_fault_f zkw_X6_fault_r hP hS (Nat.le_of_ble_eq_true rfl) dL_law_314 (by show 415 + ρ.2 + (ρ.2 - ρ.2) ≤ 601024; omega) (by show 38178 + 6 * ρ.2 + 6 * (ρ.2 - ρ.2) ≤ 7293034; omega) rfl) (fun H locs hP hS => ?_)
  refine W.widen (k := 415 + ρ.2) (n := 38178 + 6 * ρ.2) (by show 415 + ρ.2 + (ρ.2 - ρ.2) ≤ _; omega) (by show 38178 + 6 * ρ.2 + 6 * (ρ.2 - ρ.2) ≤ _; omega) ?_
  exact lv_icmp_eq (tgt := 2175) hx hb dL_law_317 rfl (fun _ => kk M2 ρ _ _ ls hR2 (by omega) hl hP hS) (fun q => absurd rfl q)
theorem zkw_X6_put_l : Cond.methodLink RL 120 (zy 191) ∈ zTb := zTb_in (i := 1404) (by decide +kernel) rfl
theorem zkw_X6_put_o : 10 + zown 191 = 16 := by decide +kernel
theorem zkw_X6_put_v : (match zMW[191]? with
      | some q => !q.1
      | none => false) = true := by decide +kernel
theorem zkw_X6_put_p : (parseMethodDescriptor (zy 191).desc).map (fun d => d.parameters.length) = some 3 := by decide +kernel
theorem zkw_X6_put_n : 4 ≤ (zP 191).2 := by decide +kernel
theorem zkw_X6_put_f : zfr 191 + 1 ≤ 14 := by decide +kernel
theorem zkw_X6_put_r : 8 + ((zP 191).2 + 11) + zlo 191 ≤ 526 := by decide +kernel
theorem zkh_put_l : Cond.methodLink RL 117 yL_put ∈ zTb := zTb_in (i := 686) (by decide +kernel) rfl
theorem zkh_put_s : Cond.static yL_put ∈ zTb := zTb_in (i := 687) (by decide +kernel) rfl
theorem zkh_put_p : (parseMethodDescriptor yL_put.desc).map (fun d => d.parameters.length) = some (3 + 2) := by decide +kernel
theorem zkh_put_f : zfr 94 + 1 + 1 ≤ 14 := by decide +kernel
theorem zkh_put_r : 8 + (6 + 11) + (19 + (zP 94).2 + zlo 94) ≤ 526 := by decide +kernel
set_option maxHeartbeats 4000000 in
set_option maxRecDepth 100000 in
theorem zkc_3 (C : zLC D g adr p s m meth c bS L xs) (hAd : zAd adr s.heap) (hJv : zJv l D g adr s.heap) (hNw : zNw l D g adr s.heap) {t : Nat} (ht : 6 * t + 6 ≤ L) {M : zMem} {ρ : Int64 × Nat} (hR : zRel M) (hl : lv_has ls 7 (zLl adr bS (6 * t))) (hP : va_P D vwCl (zwd g adr (M, ρ)) H) (hS : va_S (zA s.heap) s.heap H locs) (hn : ρ.2 ≤ t) (kk : zKo p l e s m below meth c Q D g adr bS t) : W p l e room_1 s m #[Value.ref bS] below meth c H locs (415 + ρ.2) (38178 + 6 * ρ.2) Q (F0 m 322 ls []) := by
  have C0 := C
  obtain ⟨hx, hb, hml, hown, hts, hG, hN, hX, hbl, hL⟩ := C0
  have hH : s.heap.size ≤ s.heap.size ∧ ∀ q : Nat, q < s.heap.size → s.heap[q]? = s.heap[q]? := ⟨Nat.le_refl _, fun _ _ => rfl⟩
  have hmz := hml.trans hl.1.symm
  obtain ⟨k, M1, ρ1, x2, M2, hh, hm, ht0, ho, hR2, hn1, hn2⟩ := zag_use (a_put hR (xs (6 * t + 1)) (xs (6 * t + 2)) (xs (6 * t + 3))) ρ
  refine lv_aload_n hx hb dL_law_322 rfl (lv_at hl 3 rfl) ?_
  refine zl_arg C 1 (lv_at hl 4 rfl) (lv_at hl 0 rfl) (by omega) hS rfl dL_law_323 dL_law_324 dL_law_326 dL_law_327 dL_law_328 ?_
  refine zl_arg C 2 (lv_at hl 4 rfl) (lv_at hl 0 rfl) (by omega) hS rfl dL_law_329 dL_law_330 dL_law_332 dL_law_333 dL_law_334 ?_
  refine zl_arg C 3 (lv_at hl 4 rfl) (lv_at hl 0 rfl) (by omega) hS rfl dL_law_335 dL_law_336 dL_law_338 dL_law_339 dL_law_340 ?_
  refine lv_aload_n hx hb dL_law_341 rfl (lv_at hl 1 rfl) ?_
  refine zW_ret hS (zl_help (rest := []) hx hb hmz hown hts hG hN hH (zh_put hAd hJv hNw (xs (6 * t + 1)) (xs (6 * t + 2)) (xs (6 * t + 3)) hh) rfl zkh_put_l zkh_put_s zhw_put_c zkh_put_p zkh_put_f zkh_put_r hP hS (Nat.le_of_ble_eq_true rfl) dL_law_342 (by show 415 + ρ.2 + (ρ1.2 - ρ.2) ≤ 601024; omega) (by show 38178 + 6 * ρ.2 + 6 * (ρ1.2 - ρ.2) ≤ 7293034; omega) rfl) (fun H locs hP hS => ?_)
  refine W.widen (k := 415 + ρ1.2) (n := 38178 + 6 * ρ1.2) (by show 415 + ρ.2 + (ρ1.2 - ρ.2) ≤ _; omega) (by show 38178 + 6 * ρ.2 + 6 * (ρ1.2 - ρ.2) ≤ _; omega) ?_
  refine lv_istore hx hb dL_law_345 hl (by decide) rfl (fun ls hl => ?_)
  have hmz := hml.trans hl.1.symm
  refine lv_aload_n hx hb dL_law_347 rfl (lv_at hl 3 rfl) ?_
  refine zl_arg C 1 (lv_at hl 5 rfl) (lv_at hl 1 rfl) (by omega) hS rfl dL_law_348 dL_law_349 dL_law_351 dL_law_352 dL_law_353 ?_
  refine zl_arg C 2 (lv_at hl 5 rfl) (lv_at hl 1 rfl) (by omega) hS rfl dL_law_354 dL_law_355 dL_law_357 dL_law_358 dL_law_359 ?_
  refine zl_arg C 3 (lv_at hl 5 rfl) (lv_at hl 1 rfl) (by omega) hS rfl dL_law_360 dL_law_361 dL_law_363 dL_law_364 dL_law_365 ?_
  obtain ⟨-, -, hM⟩ := zrun_met hAd hJv hNw (j := 191) (by decide) hm (zva_ok (k := 16) (by decide) [(xs (6 * t + 1)), (xs (6 * t + 2)), (xs (6 * t + 3))]) rfl zkw_X6_put_n
  refine zW_ret hS (zl_v (a := 191) (kd := 16) (as := [zI (xs (6 * t + 1)), zI (xs (6 * t + 2)), zI (xs (6 * t + 3))]) (rest := []) hx hb hmz hown hts hG hH (by decide) zkw_X6_put_o hM (by decide) zkw_X6_put_l zkw_X6_put_v zkw_X6_put_p zkw_X6_put_f zkw_X6_put_r hP hS (Nat.le_of_ble_eq_true rfl) dL_law_366 (by show 415 + ρ1.2 + (ρ1.2 - ρ1.2) ≤ 601024; omega) (by show 38178 + 6 * ρ1.2 + 6 * (ρ1.2 - ρ1.2) ≤ 7293034; omega) rfl) (fun H locs hP hS => ?_)
  refine W.widen (k := 415 + ρ1.2) (n := 38178 + 6 * ρ1.2) (by show 415 + ρ1.2 + (ρ1.2 - ρ1.2) ≤ _; omega) (by show 38178 + 6 * ρ1.2 + 6 * (ρ1.2 - ρ1.2) ≤ _; omega) ?_
  refine lv_istore hx hb dL_law_369 hl (by decide) rfl (fun ls hl => ?_)
  have hmz := hml.trans hl.1.symm
  refine lv_aload_n hx hb dL_law_371 rfl (lv_at hl 4 rfl) ?_
  clear hM
  obtain ⟨-, -, hM⟩ := zrun_met hAd hJv hNw (j := 135) (by decide) (e_X6_thrown 0 (M2, ρ1)) (zva_ok (k := 16) (by decide) []) rfl zkw_X6_thrown_n
  refine zW_ret hS (zl_v (a := 135) (kd := 16) (as := []) (rest := []) hx hb hmz hown hts hG hH (by decide) zkw_X6_thrown_o hM (by decide) zkw_X6_thrown_l zkw_X6_thrown_v zkw_X6_thrown_p zkw_X6_thrown_f zkw_X6_thrown_r hP hS (Nat.le_of_ble_eq_true rfl) dL_law_372 (by show 415 + ρ1.2 + (ρ1.2 - ρ1.2) ≤ 601024; omega) (by show 38178 + 6 * ρ1.2 + 6 * (ρ1.2 - ρ1.2) ≤ 7293034; omega) rfl) (fun H locs hP hS => ?_)
  refine W.widen (k := 415 + ρ1.2) (n := 38178 + 6 * ρ1.2) (by show 415 + ρ1.2 + (ρ1.2 - ρ1.2) ≤ _; omega) (by show 38178 + 6 * ρ1.2 + 6 * (ρ1.2 - ρ1.2) ≤ _; omega) ?_
  refine lv_iload hx hb dL_law_375 (lv_at hl 1 rfl) ?_
  refine lv_icmp_eq (tgt := 382) hx hb dL_law_377 rfl (fun _ => ?_) (fun q => absurd ht0 q)
  refine lv_iload hx hb dL_law_382 (lv_at hl 1 rfl) ?_
  have fin : W p l e room_1 s m #[Value.ref bS] below meth c H locs (415 + ρ1.2) (38178 + 6 * ρ1.2) Q (F0 m 399 ls []) := lv_goto (tgt := 2175) hx hb dL_law_399 rfl (kk M2 ρ1 _ _ ls hR2 (by omega) (lv_sub hl [2, 3, 4, 5, 6] rfl) hP hS)
  refine lv_if_ne (tgt := 399) hx hb dL_law_384 rfl (fun _ => fin) (fun hk => ?_)
  refine lv_aload_n hx hb dL_law_387 rfl (lv_at hl 3 rfl) ?_
  refine lv_iconst (v := 0) hx hb dL_law_388 (by decide) ?_
  refine va_lald hx hb hG.1 hP 414 2 zout_get rfl (vp_in_nI (n := 0) (N := 1) (by decide) (by decide)) dL_law_389 ?_
  refine lv_iload hx hb dL_law_390 (lv_at hl 0 rfl) ?_
  refine lv_i2l hx hb dL_law_392 rfl ?_
  refine W.lcmp hx hb dL_law_393 ?_
  exact lv_if_eq (tgt := 399) hx hb dL_law_394 rfl (fun _ => fin) (fun q => absurd (by rw [← ho hk]; exact lg_cmp_self _) q)
theorem zkw_X6_point_l : Cond.methodLink RL 124 (zy 192) ∈ zTb := zTb_in (i := 1416) (by decide +kernel) rfl
theorem zkw_X6_point_o : 10 + zown 192 = 16 := by decide +kernel
theorem zkw_X6_point_v : (match zMW[192]? with
      | some q => !q.1
      | none => false) = true := by decide +kernel
theorem zkw_X6_point_p : (parseMethodDescriptor (zy 192).desc).map (fun d => d.parameters.length) = some 2 := by decide +kernel
theorem zkw_X6_point_n : 3 ≤ (zP 192).2 := by decide +kernel
theorem zkw_X6_point_f : zfr 192 + 1 ≤ 14 := by decide +kernel
theorem zkw_X6_point_r : 8 + ((zP 192).2 + 11) + zlo 192 ≤ 526 := by decide +kernel
theorem zkh_point_l : Cond.methodLink RL 121 yL_point ∈ zTb := zTb_in (i := 754) (by decide +kernel) rfl
theorem zkh_point_s : Cond.static yL_point ∈ zTb := zTb_in (i := 755) (by decide +kernel) rfl
theorem zkh_point_p : (parseMethodDescriptor yL_point.desc).map (fun d => d.parameters.length) = some (2 + 2) := by decide +kernel
theorem zkh_point_f : zfr 95 + 1 + 1 ≤ 14 := by decide +kernel
theorem zkh_point_r : 8 + (5 + 11) + (19 + (zP 95).2 + zlo 95) ≤ 526 := by decide +kernel
set_option maxHeartbeats 4000000 in
set_option maxRecDepth 100000 in
theorem zkc_4 (C : zLC D g adr p s m meth c bS L xs) (hAd : zAd adr s.heap) (hJv : zJv l D g adr s.heap) (hNw : zNw l D g adr s.heap) {t : Nat} (ht : 6 * t + 6 ≤ L) {M : zMem} {ρ : Int64 × Nat} (hR : zRel M) (hl : lv_has ls 7 (zLl adr bS (6 * t))) (hP : va_P D vwCl (zwd g adr (M, ρ)) H) (hS : va_S (zA s.heap) s.heap H locs) (hn : ρ.2 ≤ t) (kk : zKo p l e s m below meth c Q D g adr bS t) : W p l e room_1 s m #[Value.ref bS] below meth c H locs (415 + ρ.2) (38178 + 6 * ρ.2) Q (F0 m 402 ls []) := by
  have C0 := C
  obtain ⟨hx, hb, hml, hown, hts, hG, hN, hX, hbl, hL⟩ := C0
  have hH : s.heap.size ≤ s.heap.size ∧ ∀ q : Nat, q < s.heap.size → s.heap[q]? = s.heap[q]? := ⟨Nat.le_refl _, fun _ _ => rfl⟩
  have hmz := hml.trans hl.1.symm
  obtain ⟨k, M1, ρ1, x2, M2, hh, hm, ht0, ho, hR2, hn1, hn2⟩ := zag_use (a_point hR (xs (6 * t + 1)) (xs (6 * t + 2))) ρ
  refine lv_aload_n hx hb dL_law_402 rfl (lv_at hl 3 rfl) ?_
  refine zl_arg C 1 (lv_at hl 4 rfl) (lv_at hl 0 rfl) (by omega) hS rfl dL_law_403 dL_law_404 dL_law_406 dL_law_407 dL_law_408 ?_
  refine zl_arg C 2 (lv_at hl 4 rfl) (lv_at hl 0 rfl) (by omega) hS rfl dL_law_409 dL_law_410 dL_law_412 dL_law_413 dL_law_414 ?_
  refine lv_aload_n hx hb dL_law_415 rfl (lv_at hl 1 rfl) ?_
  refine zW_ret hS (zl_help (rest := []) hx hb hmz hown hts hG hN hH (zh_point hAd hJv hNw (xs (6 * t + 1)) (xs (6 * t + 2)) hh) rfl zkh_point_l zkh_point_s zhw_point_c zkh_point_p zkh_point_f zkh_point_r hP hS (Nat.le_of_ble_eq_true rfl) dL_law_416 (by show 415 + ρ.2 + (ρ1.2 - ρ.2) ≤ 601024; omega) (by show 38178 + 6 * ρ.2 + 6 * (ρ1.2 - ρ.2) ≤ 7293034; omega) rfl) (fun H locs hP hS => ?_)
  refine W.widen (k := 415 + ρ1.2) (n := 38178 + 6 * ρ1.2) (by show 415 + ρ.2 + (ρ1.2 - ρ.2) ≤ _; omega) (by show 38178 + 6 * ρ.2 + 6 * (ρ1.2 - ρ.2) ≤ _; omega) ?_
  refine lv_istore hx hb dL_law_419 hl (by decide) rfl (fun ls hl => ?_)
  have hmz := hml.trans hl.1.symm
  refine lv_aload_n hx hb dL_law_421 rfl (lv_at hl 3 rfl) ?_
  refine zl_arg C 1 (lv_at hl 5 rfl) (lv_at hl 1 rfl) (by omega) hS rfl dL_law_422 dL_law_423 dL_law_425 dL_law_426 dL_law_427 ?_
  refine zl_arg C 2 (lv_at hl 5 rfl) (lv_at hl 1 rfl) (by omega) hS rfl dL_law_428 dL_law_429 dL_law_431 dL_law_432 dL_law_433 ?_
  obtain ⟨-, -, hM⟩ := zrun_met hAd hJv hNw (j := 192) (by decide) hm (zva_ok (k := 16) (by decide) [(xs (6 * t + 1)), (xs (6 * t + 2))]) rfl zkw_X6_point_n
  refine zW_ret hS (zl_v (a := 192) (kd := 16) (as := [zI (xs (6 * t + 1)), zI (xs (6 * t + 2))]) (rest := []) hx hb hmz hown hts hG hH (by decide) zkw_X6_point_o hM (by decide) zkw_X6_point_l zkw_X6_point_v zkw_X6_point_p zkw_X6_point_f zkw_X6_point_r hP hS (Nat.le_of_ble_eq_true rfl) dL_law_434 (by show 415 + ρ1.2 + (ρ1.2 - ρ1.2) ≤ 601024; omega) (by show 38178 + 6 * ρ1.2 + 6 * (ρ1.2 - ρ1.2) ≤ 7293034; omega) rfl) (fun H locs hP hS => ?_)
  refine W.widen (k := 415 + ρ1.2) (n := 38178 + 6 * ρ1.2) (by show 415 + ρ1.2 + (ρ1.2 - ρ1.2) ≤ _; omega) (by show 38178 + 6 * ρ1.2 + 6 * (ρ1.2 - ρ1.2) ≤ _; omega) ?_
  refine lv_istore hx hb dL_law_437 hl (by decide) rfl (fun ls hl => ?_)
  have hmz := hml.trans hl.1.symm
  refine lv_aload_n hx hb dL_law_439 rfl (lv_at hl 4 rfl) ?_
  clear hM
  obtain ⟨-, -, hM⟩ := zrun_met hAd hJv hNw (j := 135) (by decide) (e_X6_thrown 0 (M2, ρ1)) (zva_ok (k := 16) (by decide) []) rfl zkw_X6_thrown_n
  refine zW_ret hS (zl_v (a := 135) (kd := 16) (as := []) (rest := []) hx hb hmz hown hts hG hH (by decide) zkw_X6_thrown_o hM (by decide) zkw_X6_thrown_l zkw_X6_thrown_v zkw_X6_thrown_p zkw_X6_thrown_f zkw_X6_thrown_r hP hS (Nat.le_of_ble_eq_true rfl) dL_law_440 (by show 415 + ρ1.2 + (ρ1.2 - ρ1.2) ≤ 601024; omega) (by show 38178 + 6 * ρ1.2 + 6 * (ρ1.2 - ρ1.2) ≤ 7293034; omega) rfl) (fun H locs hP hS => ?_)
  refine W.widen (k := 415 + ρ1.2) (n := 38178 + 6 * ρ1.2) (by show 415 + ρ1.2 + (ρ1.2 - ρ1.2) ≤ _; omega) (by show 38178 + 6 * ρ1.2 + 6 * (ρ1.2 - ρ1.2) ≤ _; omega) ?_
  refine lv_iload hx hb dL_law_443 (lv_at hl 1 rfl) ?_
  refine lv_icmp_eq (tgt := 450) hx hb dL_law_445 rfl (fun _ => ?_) (fun q => absurd ht0 q)
  refine lv_iload hx hb dL_law_450 (lv_at hl 1 rfl) ?_
  have fin : W p l e room_1 s m #[Value.ref bS] below meth c H locs (415 + ρ1.2) (38178 + 6 * ρ1.2) Q (F0 m 467 ls []) := lv_goto (tgt := 2175) hx hb dL_law_467 rfl (kk M2 ρ1 _ _ ls hR2 (by omega) (lv_sub hl [2, 3, 4, 5, 6] rfl) hP hS)
  refine lv_if_ne (tgt := 467) hx hb dL_law_452 rfl (fun _ => fin) (fun hk => ?_)
  refine lv_aload_n hx hb dL_law_455 rfl (lv_at hl 3 rfl) ?_
  refine lv_iconst (v := 0) hx hb dL_law_456 (by decide) ?_
  refine va_lald hx hb hG.1 hP 414 2 zout_get rfl (vp_in_nI (n := 0) (N := 1) (by decide) (by decide)) dL_law_457 ?_
  refine lv_iload hx hb dL_law_458 (lv_at hl 0 rfl) ?_
  refine lv_i2l hx hb dL_law_460 rfl ?_
  refine W.lcmp hx hb dL_law_461 ?_
  exact lv_if_eq (tgt := 467) hx hb dL_law_462 rfl (fun _ => fin) (fun q => absurd (by rw [← ho hk]; exact lg_cmp_self _) q)
theorem zkw_X6_take_l : Cond.methodLink RL 127 (zy 198) ∈ zTb := zTb_in (i := 1420) (by decide +kernel) rfl
theorem zkw_X6_take_o : 10 + zown 198 = 16 := by decide +kernel
theorem zkw_X6_take_v : (match zMW[198]? with
      | some q => !q.1
      | none => false) = true := by decide +kernel
theorem zkw_X6_take_p : (parseMethodDescriptor (zy 198).desc).map (fun d => d.parameters.length) = some 2 := by decide +kernel
theorem zkw_X6_take_n : 3 ≤ (zP 198).2 := by decide +kernel
theorem zkw_X6_take_f : zfr 198 + 1 ≤ 14 := by decide +kernel
theorem zkw_X6_take_r : 8 + ((zP 198).2 + 11) + zlo 198 ≤ 526 := by decide +kernel
theorem zkh_take_l : Cond.methodLink RL 125 yL_take ∈ zTb := zTb_in (i := 764) (by decide +kernel) rfl
theorem zkh_take_s : Cond.static yL_take ∈ zTb := zTb_in (i := 765) (by decide +kernel) rfl
theorem zkh_take_p : (parseMethodDescriptor yL_take.desc).map (fun d => d.parameters.length) = some (2 + 2) := by decide +kernel
theorem zkh_take_f : zfr 96 + 1 + 1 ≤ 14 := by decide +kernel
theorem zkh_take_r : 8 + (5 + 11) + (19 + (zP 96).2 + zlo 96) ≤ 526 := by decide +kernel
set_option maxHeartbeats 4000000 in
set_option maxRecDepth 100000 in
theorem zkc_5 (C : zLC D g adr p s m meth c bS L xs) (hAd : zAd adr s.heap) (hJv : zJv l D g adr s.heap) (hNw : zNw l D g adr s.heap) {t : Nat} (ht : 6 * t + 6 ≤ L) {M : zMem} {ρ : Int64 × Nat} (hR : zRel M) (hl : lv_has ls 7 (zLl adr bS (6 * t))) (hP : va_P D vwCl (zwd g adr (M, ρ)) H) (hS : va_S (zA s.heap) s.heap H locs) (hn : ρ.2 ≤ t) (kk : zKo p l e s m below meth c Q D g adr bS t) : W p l e room_1 s m #[Value.ref bS] below meth c H locs (415 + ρ.2) (38178 + 6 * ρ.2) Q (F0 m 470 ls []) := by
  have C0 := C
  obtain ⟨hx, hb, hml, hown, hts, hG, hN, hX, hbl, hL⟩ := C0
  have hH : s.heap.size ≤ s.heap.size ∧ ∀ q : Nat, q < s.heap.size → s.heap[q]? = s.heap[q]? := ⟨Nat.le_refl _, fun _ _ => rfl⟩
  have hmz := hml.trans hl.1.symm
  obtain ⟨k, M1, ρ1, x2, M2, hh, hm, ht0, ho, hR2, hn1, hn2⟩ := zag_use (a_take hR (xs (6 * t + 1)) (xs (6 * t + 2))) ρ
  refine lv_aload_n hx hb dL_law_470 rfl (lv_at hl 3 rfl) ?_
  refine zl_arg C 1 (lv_at hl 4 rfl) (lv_at hl 0 rfl) (by omega) hS rfl dL_law_471 dL_law_472 dL_law_474 dL_law_475 dL_law_476 ?_
  refine zl_arg C 2 (lv_at hl 4 rfl) (lv_at hl 0 rfl) (by omega) hS rfl dL_law_477 dL_law_478 dL_law_480 dL_law_481 dL_law_482 ?_
  refine lv_aload_n hx hb dL_law_483 rfl (lv_at hl 1 rfl) ?_
  refine zW_ret hS (zl_help (rest := []) hx hb hmz hown hts hG hN hH (zh_take hAd hJv hNw (xs (6 * t + 1)) (xs (6 * t + 2)) hh) rfl zkh_take_l zkh_take_s zhw_take_c zkh_take_p zkh_take_f zkh_take_r hP hS (Nat.le_of_ble_eq_true rfl) dL_law_484 (by show 415 + ρ.2 + (ρ1.2 - ρ.2) ≤ 601024; omega) (by show 38178 + 6 * ρ.2 + 6 * (ρ1.2 - ρ.2) ≤ 7293034; omega) rfl) (fun H locs hP hS => ?_)
  refine W.widen (k := 415 + ρ1.2) (n := 38178 + 6 * ρ1.2) (by show 415 + ρ.2 + (ρ1.2 - ρ.2) ≤ _; omega) (by show 38178 + 6 * ρ.2 + 6 * (ρ1.2 - ρ.2) ≤ _; omega) ?_
  refine lv_istore hx hb dL_law_487 hl (by decide) rfl (fun ls hl => ?_)
  have hmz := hml.trans hl.1.symm
  refine lv_aload_n hx hb dL_law_489 rfl (lv_at hl 3 rfl) ?_
  refine zl_arg C 1 (lv_at hl 5 rfl) (lv_at hl 1 rfl) (by omega) hS rfl dL_law_490 dL_law_491 dL_law_493 dL_law_494 dL_law_495 ?_
  refine zl_arg C 2 (lv_at hl 5 rfl) (lv_at hl 1 rfl) (by omega) hS rfl dL_law_496 dL_law_497 dL_law_499 dL_law_500 dL_law_501 ?_
  obtain ⟨-, -, hM⟩ := zrun_met hAd hJv hNw (j := 198) (by decide) hm (zva_ok (k := 16) (by decide) [(xs (6 * t + 1)), (xs (6 * t + 2))]) rfl zkw_X6_take_n
  refine zW_ret hS (zl_v (a := 198) (kd := 16) (as := [zI (xs (6 * t + 1)), zI (xs (6 * t + 2))]) (rest := []) hx hb hmz hown hts hG hH (by decide) zkw_X6_take_o hM (by decide) zkw_X6_take_l zkw_X6_take_v zkw_X6_take_p zkw_X6_take_f zkw_X6_take_r hP hS (Nat.le_of_ble_eq_true rfl) dL_law_502 (by show 415 + ρ1.2 + (ρ1.2 - ρ1.2) ≤ 601024; omega) (by show 38178 + 6 * ρ1.2 + 6 * (ρ1.2 - ρ1.2) ≤ 7293034; omega) rfl) (fun H locs hP hS => ?_)
  refine W.widen (k := 415 + ρ1.2) (n := 38178 + 6 * ρ1.2) (by show 415 + ρ1.2 + (ρ1.2 - ρ1.2) ≤ _; omega) (by show 38178 + 6 * ρ1.2 + 6 * (ρ1.2 - ρ1.2) ≤ _; omega) ?_
  refine lv_istore hx hb dL_law_505 hl (by decide) rfl (fun ls hl => ?_)
  have hmz := hml.trans hl.1.symm
  refine lv_aload_n hx hb dL_law_507 rfl (lv_at hl 4 rfl) ?_
  clear hM
  obtain ⟨-, -, hM⟩ := zrun_met hAd hJv hNw (j := 135) (by decide) (e_X6_thrown 0 (M2, ρ1)) (zva_ok (k := 16) (by decide) []) rfl zkw_X6_thrown_n
  refine zW_ret hS (zl_v (a := 135) (kd := 16) (as := []) (rest := []) hx hb hmz hown hts hG hH (by decide) zkw_X6_thrown_o hM (by decide) zkw_X6_thrown_l zkw_X6_thrown_v zkw_X6_thrown_p zkw_X6_thrown_f zkw_X6_thrown_r hP hS (Nat.le_of_ble_eq_true rfl) dL_law_508 (by show 415 + ρ1.2 + (ρ1.2 - ρ1.2) ≤ 601024; omega) (by show 38178 + 6 * ρ1.2 + 6 * (ρ1.2 - ρ1.2) ≤ 7293034; omega) rfl) (fun H locs hP hS => ?_)
  refine W.widen (k := 415 + ρ1.2) (n := 38178 + 6 * ρ1.2) (by show 415 + ρ1.2 + (ρ1.2 - ρ1.2) ≤ _; omega) (by show 38178 + 6 * ρ1.2 + 6 * (ρ1.2 - ρ1.2) ≤ _; omega) ?_
  refine lv_iload hx hb dL_law_511 (lv_at hl 1 rfl) ?_
  refine lv_icmp_eq (tgt := 518) hx hb dL_law_513 rfl (fun _ => ?_) (fun q => absurd ht0 q)
  refine lv_iload hx hb dL_law_518 (lv_at hl 1 rfl) ?_
  have fin : W p l e room_1 s m #[Value.ref bS] below meth c H locs (415 + ρ1.2) (38178 + 6 * ρ1.2) Q (F0 m 535 ls []) := lv_goto (tgt := 2175) hx hb dL_law_535 rfl (kk M2 ρ1 _ _ ls hR2 (by omega) (lv_sub hl [2, 3, 4, 5, 6] rfl) hP hS)
  refine lv_if_ne (tgt := 535) hx hb dL_law_520 rfl (fun _ => fin) (fun hk => ?_)
  refine lv_aload_n hx hb dL_law_523 rfl (lv_at hl 3 rfl) ?_
  refine lv_iconst (v := 0) hx hb dL_law_524 (by decide) ?_
  refine va_lald hx hb hG.1 hP 414 2 zout_get rfl (vp_in_nI (n := 0) (N := 1) (by decide) (by decide)) dL_law_525 ?_
  refine lv_iload hx hb dL_law_526 (lv_at hl 0 rfl) ?_
  refine lv_i2l hx hb dL_law_528 rfl ?_
  refine W.lcmp hx hb dL_law_529 ?_
  exact lv_if_eq (tgt := 535) hx hb dL_law_530 rfl (fun _ => fin) (fun q => absurd (by rw [← ho hk]; exact lg_cmp_self _) q)
theorem zkw_X6_split_l : Cond.methodLink RL 130 (zy 199) ∈ zTb := zTb_in (i := 1452) (by decide +kernel) rfl
theorem zkw_X6_split_o : 10 + zown 199 = 16 := by decide +kernel
theorem zkw_X6_split_v : (match zMW[199]? with
      | some q => !q.1
      | none => false) = true := by decide +kernel
theorem zkw_X6_split_p : (parseMethodDescriptor (zy 199).desc).map (fun d => d.parameters.length) = some 3 := by decide +kernel
theorem zkw_X6_split_n : 4 ≤ (zP 199).2 := by decide +kernel
theorem zkw_X6_split_f : zfr 199 + 1 ≤ 14 := by decide +kernel
theorem zkw_X6_split_r : 8 + ((zP 199).2 + 11) + zlo 199 ≤ 526 := by decide +kernel
theorem zkh_split_l : Cond.methodLink RL 128 yL_split ∈ zTb := zTb_in (i := 815) (by decide +kernel) rfl
theorem zkh_split_s : Cond.static yL_split ∈ zTb := zTb_in (i := 816) (by decide +kernel) rfl
theorem zkh_split_p : (parseMethodDescriptor yL_split.desc).map (fun d => d.parameters.length) = some (3 + 2) := by decide +kernel
theorem zkh_split_f : zfr 97 + 1 + 1 ≤ 14 := by decide +kernel
theorem zkh_split_r : 8 + (6 + 11) + (19 + (zP 97).2 + zlo 97) ≤ 526 := by decide +kernel
set_option maxHeartbeats 4000000 in
set_option maxRecDepth 100000 in
theorem zkc_6 (C : zLC D g adr p s m meth c bS L xs) (hAd : zAd adr s.heap) (hJv : zJv l D g adr s.heap) (hNw : zNw l D g adr s.heap) {t : Nat} (ht : 6 * t + 6 ≤ L) {M : zMem} {ρ : Int64 × Nat} (hR : zRel M) (hl : lv_has ls 7 (zLl adr bS (6 * t))) (hP : va_P D vwCl (zwd g adr (M, ρ)) H) (hS : va_S (zA s.heap) s.heap H locs) (hn : ρ.2 ≤ t) (kk : zKo p l e s m below meth c Q D g adr bS t) : W p l e room_1 s m #[Value.ref bS] below meth c H locs (415 + ρ.2) (38178 + 6 * ρ.2) Q (F0 m 538 ls []) := by
  have C0 := C
  obtain ⟨hx, hb, hml, hown, hts, hG, hN, hX, hbl, hL⟩ := C0
  have hH : s.heap.size ≤ s.heap.size ∧ ∀ q : Nat, q < s.heap.size → s.heap[q]? = s.heap[q]? := ⟨Nat.le_refl _, fun _ _ => rfl⟩
  have hmz := hml.trans hl.1.symm
  obtain ⟨k, M1, ρ1, x2, M2, hh, hm, ht0, ho, hR2, hn1, hn2⟩ := zag_use (a_split hR (xs (6 * t + 1)) (xs (6 * t + 2)) (xs (6 * t + 3))) ρ
  refine lv_aload_n hx hb dL_law_538 rfl (lv_at hl 3 rfl) ?_
  refine zl_arg C 1 (lv_at hl 4 rfl) (lv_at hl 0 rfl) (by omega) hS rfl dL_law_539 dL_law_540 dL_law_542 dL_law_543 dL_law_544 ?_
  refine zl_arg C 2 (lv_at hl 4 rfl) (lv_at hl 0 rfl) (by omega) hS rfl dL_law_545 dL_law_546 dL_law_548 dL_law_549 dL_law_550 ?_
  refine zl_arg C 3 (lv_at hl 4 rfl) (lv_at hl 0 rfl) (by omega) hS rfl dL_law_551 dL_law_552 dL_law_554 dL_law_555 dL_law_556 ?_
  refine lv_aload_n hx hb dL_law_557 rfl (lv_at hl 1 rfl) ?_
  refine zW_ret hS (zl_help (rest := []) hx hb hmz hown hts hG hN hH (zh_split hAd hJv hNw (xs (6 * t + 1)) (xs (6 * t + 2)) (xs (6 * t + 3)) hh) rfl zkh_split_l zkh_split_s zhw_split_c zkh_split_p zkh_split_f zkh_split_r hP hS (Nat.le_of_ble_eq_true rfl) dL_law_558 (by show 415 + ρ.2 + (ρ1.2 - ρ.2) ≤ 601024; omega) (by show 38178 + 6 * ρ.2 + 6 * (ρ1.2 - ρ.2) ≤ 7293034; omega) rfl) (fun H locs hP hS => ?_)
  refine W.widen (k := 415 + ρ1.2) (n := 38178 + 6 * ρ1.2) (by show 415 + ρ.2 + (ρ1.2 - ρ.2) ≤ _; omega) (by show 38178 + 6 * ρ.2 + 6 * (ρ1.2 - ρ.2) ≤ _; omega) ?_
  refine lv_istore hx hb dL_law_561 hl (by decide) rfl (fun ls hl => ?_)
  have hmz := hml.trans hl.1.symm
  refine lv_aload_n hx hb dL_law_563 rfl (lv_at hl 3 rfl) ?_
  refine zl_arg C 1 (lv_at hl 5 rfl) (lv_at hl 1 rfl) (by omega) hS rfl dL_law_564 dL_law_565 dL_law_567 dL_law_568 dL_law_569 ?_
  refine zl_arg C 2 (lv_at hl 5 rfl) (lv_at hl 1 rfl) (by omega) hS rfl dL_law_570 dL_law_571 dL_law_573 dL_law_574 dL_law_575 ?_
  refine zl_arg C 3 (lv_at hl 5 rfl) (lv_at hl 1 rfl) (by omega) hS rfl dL_law_576 dL_law_577 dL_law_579 dL_law_580 dL_law_581 ?_
  obtain ⟨-, -, hM⟩ := zrun_met hAd hJv hNw (j := 199) (by decide) hm (zva_ok (k := 16) (by decide) [(xs (6 * t + 1)), (xs (6 * t + 2)), (xs (6 * t + 3))]) rfl zkw_X6_split_n
  refine zW_ret hS (zl_v (a := 199) (kd := 16) (as := [zI (xs (6 * t + 1)), zI (xs (6 * t + 2)), zI (xs (6 * t + 3))]) (rest := []) hx hb hmz hown hts hG hH (by decide) zkw_X6_split_o hM (by decide) zkw_X6_split_l zkw_X6_split_v zkw_X6_split_p zkw_X6_split_f zkw_X6_split_r hP hS (Nat.le_of_ble_eq_true rfl) dL_law_582 (by show 415 + ρ1.2 + (ρ1.2 - ρ1.2) ≤ 601024; omega) (by show 38178 + 6 * ρ1.2 + 6 * (ρ1.2 - ρ1.2) ≤ 7293034; omega) rfl) (fun H locs hP hS => ?_)
  refine W.widen (k := 415 + ρ1.2) (n := 38178 + 6 * ρ1.2) (by show 415 + ρ1.2 + (ρ1.2 - ρ1.2) ≤ _; omega) (by show 38178 + 6 * ρ1.2 + 6 * (ρ1.2 - ρ1.2) ≤ _; omega) ?_
  refine lv_istore hx hb dL_law_585 hl (by decide) rfl (fun ls hl => ?_)
  have hmz := hml.trans hl.1.symm
  refine lv_aload_n hx hb dL_law_587 rfl (lv_at hl 4 rfl) ?_
  clear hM
  obtain ⟨-, -, hM⟩ := zrun_met hAd hJv hNw (j := 135) (by decide) (e_X6_thrown 0 (M2, ρ1)) (zva_ok (k := 16) (by decide) []) rfl zkw_X6_thrown_n
  refine zW_ret hS (zl_v (a := 135) (kd := 16) (as := []) (rest := []) hx hb hmz hown hts hG hH (by decide) zkw_X6_thrown_o hM (by decide) zkw_X6_thrown_l zkw_X6_thrown_v zkw_X6_thrown_p zkw_X6_thrown_f zkw_X6_thrown_r hP hS (Nat.le_of_ble_eq_true rfl) dL_law_588 (by show 415 + ρ1.2 + (ρ1.2 - ρ1.2) ≤ 601024; omega) (by show 38178 + 6 * ρ1.2 + 6 * (ρ1.2 - ρ1.2) ≤ 7293034; omega) rfl) (fun H locs hP hS => ?_)
  refine W.widen (k := 415 + ρ1.2) (n := 38178 + 6 * ρ1.2) (by show 415 + ρ1.2 + (ρ1.2 - ρ1.2) ≤ _; omega) (by show 38178 + 6 * ρ1.2 + 6 * (ρ1.2 - ρ1.2) ≤ _; omega) ?_
  refine lv_iload hx hb dL_law_591 (lv_at hl 1 rfl) ?_
  refine lv_icmp_eq (tgt := 598) hx hb dL_law_593 rfl (fun _ => ?_) (fun q => absurd ht0 q)
  refine lv_iload hx hb dL_law_598 (lv_at hl 1 rfl) ?_
  have fin : W p l e room_1 s m #[Value.ref bS] below meth c H locs (415 + ρ1.2) (38178 + 6 * ρ1.2) Q (F0 m 615 ls []) := lv_goto (tgt := 2175) hx hb dL_law_615 rfl (kk M2 ρ1 _ _ ls hR2 (by omega) (lv_sub hl [2, 3, 4, 5, 6] rfl) hP hS)
  refine lv_if_ne (tgt := 615) hx hb dL_law_600 rfl (fun _ => fin) (fun hk => ?_)
  refine lv_aload_n hx hb dL_law_603 rfl (lv_at hl 3 rfl) ?_
  refine lv_iconst (v := 0) hx hb dL_law_604 (by decide) ?_
  refine va_lald hx hb hG.1 hP 414 2 zout_get rfl (vp_in_nI (n := 0) (N := 1) (by decide) (by decide)) dL_law_605 ?_
  refine lv_iload hx hb dL_law_606 (lv_at hl 0 rfl) ?_
  refine lv_i2l hx hb dL_law_608 rfl ?_
  refine W.lcmp hx hb dL_law_609 ?_
  exact lv_if_eq (tgt := 615) hx hb dL_law_610 rfl (fun _ => fin) (fun q => absurd (by rw [← ho hk]; exact lg_cmp_self _) q)
theorem zkw_X6_join_l : Cond.methodLink RL 133 (zy 200) ∈ zTb := zTb_in (i := 1456) (by decide +kernel) rfl
theorem zkw_X6_join_o : 10 + zown 200 = 16 := by decide +kernel
theorem zkw_X6_join_v : (match zMW[200]? with
      | some q => !q.1
      | none => false) = true := by decide +kernel
theorem zkw_X6_join_p : (parseMethodDescriptor (zy 200).desc).map (fun d => d.parameters.length) = some 2 := by decide +kernel
theorem zkw_X6_join_n : 3 ≤ (zP 200).2 := by decide +kernel
theorem zkw_X6_join_f : zfr 200 + 1 ≤ 14 := by decide +kernel
theorem zkw_X6_join_r : 8 + ((zP 200).2 + 11) + zlo 200 ≤ 526 := by decide +kernel
theorem zkh_join_l : Cond.methodLink RL 131 yL_join ∈ zTb := zTb_in (i := 825) (by decide +kernel) rfl
theorem zkh_join_s : Cond.static yL_join ∈ zTb := zTb_in (i := 826) (by decide +kernel) rfl
theorem zkh_join_p : (parseMethodDescriptor yL_join.desc).map (fun d => d.parameters.length) = some (2 + 2) := by decide +kernel
theorem zkh_join_f : zfr 98 + 1 + 1 ≤ 14 := by decide +kernel
theorem zkh_join_r : 8 + (5 + 11) + (19 + (zP 98).2 + zlo 98) ≤ 526 := by decide +kernel
set_option maxHeartbeats 4000000 in
set_option maxRecDepth 100000 in
theorem zkc_7 (C : zLC D g adr p s m meth c bS L xs) (hAd : zAd adr s.heap) (hJv : zJv l D g adr s.heap) (hNw : zNw l D g adr s.heap) {t : Nat} (ht : 6 * t + 6 ≤ L) {M : zMem} {ρ : Int64 × Nat} (hR : zRel M) (hl : lv_has ls 7 (zLl adr bS (6 * t))) (hP : va_P D vwCl (zwd g adr (M, ρ)) H) (hS : va_S (zA s.heap) s.heap H locs) (hn : ρ.2 ≤ t) (kk : zKo p l e s m below meth c Q D g adr bS t) : W p l e room_1 s m #[Value.ref bS] below meth c H locs (415 + ρ.2) (38178 + 6 * ρ.2) Q (F0 m 618 ls []) := by
  have C0 := C
  obtain ⟨hx, hb, hml, hown, hts, hG, hN, hX, hbl, hL⟩ := C0
  have hH : s.heap.size ≤ s.heap.size ∧ ∀ q : Nat, q < s.heap.size → s.heap[q]? = s.heap[q]? := ⟨Nat.le_refl _, fun _ _ => rfl⟩
  have hmz := hml.trans hl.1.symm
  obtain ⟨k, M1, ρ1, x2, M2, hh, hm, ht0, ho, hR2, hn1, hn2⟩ := zag_use (a_join hR (xs (6 * t + 1)) (xs (6 * t + 2))) ρ
  refine lv_aload_n hx hb dL_law_618 rfl (lv_at hl 3 rfl) ?_
  refine zl_arg C 1 (lv_at hl 4 rfl) (lv_at hl 0 rfl) (by omega) hS rfl dL_law_619 dL_law_620 dL_law_622 dL_law_623 dL_law_624 ?_
  refine zl_arg C 2 (lv_at hl 4 rfl) (lv_at hl 0 rfl) (by omega) hS rfl dL_law_625 dL_law_626 dL_law_628 dL_law_629 dL_law_630 ?_
  refine lv_aload_n hx hb dL_law_631 rfl (lv_at hl 1 rfl) ?_
  refine zW_ret hS (zl_help (rest := []) hx hb hmz hown hts hG hN hH (zh_join hAd hJv hNw (xs (6 * t + 1)) (xs (6 * t + 2)) hh) rfl zkh_join_l zkh_join_s zhw_join_c zkh_join_p zkh_join_f zkh_join_r hP hS (Nat.le_of_ble_eq_true rfl) dL_law_632 (by show 415 + ρ.2 + (ρ1.2 - ρ.2) ≤ 601024; omega) (by show 38178 + 6 * ρ.2 + 6 * (ρ1.2 - ρ.2) ≤ 7293034; omega) rfl) (fun H locs hP hS => ?_)
  refine W.widen (k := 415 + ρ1.2) (n := 38178 + 6 * ρ1.2) (by show 415 + ρ.2 + (ρ1.2 - ρ.2) ≤ _; omega) (by show 38178 + 6 * ρ.2 + 6 * (ρ1.2 - ρ.2) ≤ _; omega) ?_
  refine lv_istore hx hb dL_law_635 hl (by decide) rfl (fun ls hl => ?_)
  have hmz := hml.trans hl.1.symm
  refine lv_aload_n hx hb dL_law_637 rfl (lv_at hl 3 rfl) ?_
  refine zl_arg C 1 (lv_at hl 5 rfl) (lv_at hl 1 rfl) (by omega) hS rfl dL_law_638 dL_law_639 dL_law_641 dL_law_642 dL_law_643 ?_
  refine zl_arg C 2 (lv_at hl 5 rfl) (lv_at hl 1 rfl) (by omega) hS rfl dL_law_644 dL_law_645 dL_law_647 dL_law_648 dL_law_649 ?_
  obtain ⟨-, -, hM⟩ := zrun_met hAd hJv hNw (j := 200) (by decide) hm (zva_ok (k := 16) (by decide) [(xs (6 * t + 1)), (xs (6 * t + 2))]) rfl zkw_X6_join_n
  refine zW_ret hS (zl_v (a := 200) (kd := 16) (as := [zI (xs (6 * t + 1)), zI (xs (6 * t + 2))]) (rest := []) hx hb hmz hown hts hG hH (by decide) zkw_X6_join_o hM (by decide) zkw_X6_join_l zkw_X6_join_v zkw_X6_join_p zkw_X6_join_f zkw_X6_join_r hP hS (Nat.le_of_ble_eq_true rfl) dL_law_650 (by show 415 + ρ1.2 + (ρ1.2 - ρ1.2) ≤ 601024; omega) (by show 38178 + 6 * ρ1.2 + 6 * (ρ1.2 - ρ1.2) ≤ 7293034; omega) rfl) (fun H locs hP hS => ?_)
  refine W.widen (k := 415 + ρ1.2) (n := 38178 + 6 * ρ1.2) (by show 415 + ρ1.2 + (ρ1.2 - ρ1.2) ≤ _; omega) (by show 38178 + 6 * ρ1.2 + 6 * (ρ1.2 - ρ1.2) ≤ _; omega) ?_
  refine lv_istore hx hb dL_law_653 hl (by decide) rfl (fun ls hl => ?_)
  have hmz := hml.trans hl.1.symm
  refine lv_aload_n hx hb dL_law_655 rfl (lv_at hl 4 rfl) ?_
  clear hM
  obtain ⟨-, -, hM⟩ := zrun_met hAd hJv hNw (j := 135) (by decide) (e_X6_thrown 0 (M2, ρ1)) (zva_ok (k := 16) (by decide) []) rfl zkw_X6_thrown_n
  refine zW_ret hS (zl_v (a := 135) (kd := 16) (as := []) (rest := []) hx hb hmz hown hts hG hH (by decide) zkw_X6_thrown_o hM (by decide) zkw_X6_thrown_l zkw_X6_thrown_v zkw_X6_thrown_p zkw_X6_thrown_f zkw_X6_thrown_r hP hS (Nat.le_of_ble_eq_true rfl) dL_law_656 (by show 415 + ρ1.2 + (ρ1.2 - ρ1.2) ≤ 601024; omega) (by show 38178 + 6 * ρ1.2 + 6 * (ρ1.2 - ρ1.2) ≤ 7293034; omega) rfl) (fun H locs hP hS => ?_)
  refine W.widen (k := 415 + ρ1.2) (n := 38178 + 6 * ρ1.2) (by show 415 + ρ1.2 + (ρ1.2 - ρ1.2) ≤ _; omega) (by show 38178 + 6 * ρ1.2 + 6 * (ρ1.2 - ρ1.2) ≤ _; omega) ?_
  refine lv_iload hx hb dL_law_659 (lv_at hl 1 rfl) ?_
  refine lv_icmp_eq (tgt := 666) hx hb dL_law_661 rfl (fun _ => ?_) (fun q => absurd ht0 q)
  refine lv_iload hx hb dL_law_666 (lv_at hl 1 rfl) ?_
  have fin : W p l e room_1 s m #[Value.ref bS] below meth c H locs (415 + ρ1.2) (38178 + 6 * ρ1.2) Q (F0 m 683 ls []) := lv_goto (tgt := 2175) hx hb dL_law_683 rfl (kk M2 ρ1 _ _ ls hR2 (by omega) (lv_sub hl [2, 3, 4, 5, 6] rfl) hP hS)
  refine lv_if_ne (tgt := 683) hx hb dL_law_668 rfl (fun _ => fin) (fun hk => ?_)
  refine lv_aload_n hx hb dL_law_671 rfl (lv_at hl 3 rfl) ?_
  refine lv_iconst (v := 0) hx hb dL_law_672 (by decide) ?_
  refine va_lald hx hb hG.1 hP 414 2 zout_get rfl (vp_in_nI (n := 0) (N := 1) (by decide) (by decide)) dL_law_673 ?_
  refine lv_iload hx hb dL_law_674 (lv_at hl 0 rfl) ?_
  refine lv_i2l hx hb dL_law_676 rfl ?_
  refine W.lcmp hx hb dL_law_677 ?_
  exact lv_if_eq (tgt := 683) hx hb dL_law_678 rfl (fun _ => fin) (fun q => absurd (by rw [← ho hk]; exact lg_cmp_self _) q)
end ZKC
