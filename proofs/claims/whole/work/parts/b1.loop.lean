/-! the law's loop -/
section ZLP
variable {p : Program} {l : Launch} {e : Env} {s : State} {m : MethodId} {below : List Frame} {meth : Method} {c : Code} {Q : State → Prop} {D : va_G} {g : zIds} {adr : Nat → Nat → Nat} {bS L : Nat} {xs : Nat → Int32}
/-- the switch: each of its ways -/
theorem zl_sw (C : zLC D g adr p s m meth c bS L xs) (hAd : zAd adr s.heap) (hJv : zJv l D g adr s.heap) (hNw : zNw l D g adr s.heap) {t v : Nat} (hv : v < 32) (ht : 6 * t + 6 ≤ L) {M : zMem} {ρ : Int64 × Nat} {H : Heap} {locs : List Loc} {ls : Array Slot} (hR : zRel M) (hl : lv_has ls 7 (zLl adr bS (6 * t))) (hP : va_P D vwCl (zwd g adr (M, ρ)) H) (hS : va_S (zA s.heap) s.heap H locs) (hn : ρ.2 ≤ t) (kk : zKo p l e s m below meth c Q D g adr bS t) : W p l e room_1 s m #[Value.ref bS] below meth c H locs (415 + ρ.2) (38178 + 6 * ρ.2) Q (F0 m 40 ls [.int (nI v)]) := by
  have hx := C.1
  have hb := C.2.1
  match v, hv with
  | 0, _ => exact lv_tableIn (off := 140) (tgt := 180) hx hb dL_law_40 (by decide) (by decide) (by decide) (by decide) (zkc_0 C hAd hJv hNw ht hR hl hP hS hn kk)
  | 1, _ => exact lv_tableIn (off := 213) (tgt := 253) hx hb dL_law_40 (by decide) (by decide) (by decide) (by decide) (zkc_1 C hAd hJv hNw ht hR hl hP hS hn kk)
  | 2, _ => exact lv_tableIn (off := 269) (tgt := 309) hx hb dL_law_40 (by decide) (by decide) (by decide) (by decide) (zkc_2 C hAd hJv hNw ht hR hl hP hS hn kk)
  | 3, _ => exact lv_tableIn (off := 282) (tgt := 322) hx hb dL_law_40 (by decide) (by decide) (by decide) (by decide) (zkc_3 C hAd hJv hNw ht hR hl hP hS hn kk)
  | 4, _ => exact lv_tableIn (off := 362) (tgt := 402) hx hb dL_law_40 (by decide) (by decide) (by decide) (by decide) (zkc_4 C hAd hJv hNw ht hR hl hP hS hn kk)
  | 5, _ => exact lv_tableIn (off := 430) (tgt := 470) hx hb dL_law_40 (by decide) (by decide) (by decide) (by decide) (zkc_5 C hAd hJv hNw ht hR hl hP hS hn kk)
  | 6, _ => exact lv_tableIn (off := 498) (tgt := 538) hx hb dL_law_40 (by decide) (by decide) (by decide) (by decide) (zkc_6 C hAd hJv hNw ht hR hl hP hS hn kk)
  | 7, _ => exact lv_tableIn (off := 578) (tgt := 618) hx hb dL_law_40 (by decide) (by decide) (by decide) (by decide) (zkc_7 C hAd hJv hNw ht hR hl hP hS hn kk)
  | 8, _ => exact lv_tableIn (off := 646) (tgt := 686) hx hb dL_law_40 (by decide) (by decide) (by decide) (by decide) (zkc_8 C hAd hJv hNw ht hR hl hP hS hn kk)
  | 9, _ => exact lv_tableIn (off := 726) (tgt := 766) hx hb dL_law_40 (by decide) (by decide) (by decide) (by decide) (zkc_9 C hAd hJv hNw ht hR hl hP hS hn kk)
  | 10, _ => exact lv_tableIn (off := 794) (tgt := 834) hx hb dL_law_40 (by decide) (by decide) (by decide) (by decide) (zkc_10 C hAd hJv hNw ht hR hl hP hS hn kk)
  | 11, _ => exact lv_tableIn (off := 874) (tgt := 914) hx hb dL_law_40 (by decide) (by decide) (by decide) (by decide) (zkc_11 C hAd hJv hNw ht hR hl hP hS hn kk)
  | 12, _ => exact lv_tableIn (off := 930) (tgt := 970) hx hb dL_law_40 (by decide) (by decide) (by decide) (by decide) (zkc_12 C hAd hJv hNw ht hR hl hP hS hn kk)
  | 13, _ => exact lv_tableIn (off := 998) (tgt := 1038) hx hb dL_law_40 (by decide) (by decide) (by decide) (by decide) (zkc_13 C hAd hJv hNw ht hR hl hP hS hn kk)
  | 14, _ => exact lv_tableIn (off := 1011) (tgt := 1051) hx hb dL_law_40 (by decide) (by decide) (by decide) (by decide) (zkc_14 C hAd hJv hNw ht hR hl hP hS hn kk)
  | 15, _ => exact lv_tableIn (off := 1024) (tgt := 1064) hx hb dL_law_40 (by decide) (by decide) (by decide) (by decide) (zkc_15 C hAd hJv hNw ht hR hl hP hS hn kk)
  | 16, _ => exact lv_tableIn (off := 1080) (tgt := 1120) hx hb dL_law_40 (by decide) (by decide) (by decide) (by decide) (zkc_16 C hAd hJv hNw ht hR hl hP hS hn kk)
  | 17, _ => exact lv_tableIn (off := 1148) (tgt := 1188) hx hb dL_law_40 (by decide) (by decide) (by decide) (by decide) (zkc_17 C hAd hJv hNw ht hR hl hP hS hn kk)
  | 18, _ => exact lv_tableIn (off := 1228) (tgt := 1268) hx hb dL_law_40 (by decide) (by decide) (by decide) (by decide) (zkc_18 C hAd hJv hNw ht hR hl hP hS hn kk)
  | 19, _ => exact lv_tableIn (off := 1296) (tgt := 1336) hx hb dL_law_40 (by decide) (by decide) (by decide) (by decide) (zkc_19 C hAd hJv hNw ht hR hl hP hS hn kk)
  | 20, _ => exact lv_tableIn (off := 1388) (tgt := 1428) hx hb dL_law_40 (by decide) (by decide) (by decide) (by decide) (zkc_20 C hAd hJv hNw ht hR hl hP hS hn kk)
  | 21, _ => exact lv_tableIn (off := 1480) (tgt := 1520) hx hb dL_law_40 (by decide) (by decide) (by decide) (by decide) (zkc_21 C hAd hJv hNw ht hR hl hP hS hn kk)
  | 22, _ => exact lv_tableIn (off := 1560) (tgt := 1600) hx hb dL_law_40 (by decide) (by decide) (by decide) (by decide) (zkc_22 C hAd hJv hNw ht hR hl hP hS hn kk)
  | 23, _ => exact lv_tableIn (off := 1652) (tgt := 1692) hx hb dL_law_40 (by decide) (by decide) (by decide) (by decide) (zkc_23 C hAd hJv hNw ht hR hl hP hS hn kk)
  | 24, _ => exact lv_tableIn (off := 1732) (tgt := 1772) hx hb dL_law_40 (by decide) (by decide) (by decide) (by decide) (zkc_24 C hAd hJv hNw ht hR hl hP hS hn kk)
  | 25, _ => exact lv_tableIn (off := 1800) (tgt := 1840) hx hb dL_law_40 (by decide) (by decide) (by decide) (by decide) (zkc_25 C hAd hJv hNw ht hR hl hP hS hn kk)
  | 26, _ => exact lv_tableIn (off := 1868) (tgt := 1908) hx hb dL_law_40 (by decide) (by decide) (by decide) (by decide) (zkc_26 C hAd hJv hNw ht hR hl hP hS hn kk)
  | 27, _ => exact lv_tableIn (off := 1948) (tgt := 1988) hx hb dL_law_40 (by decide) (by decide) (by decide) (by decide) (zkc_27 C hAd hJv hNw ht hR hl hP hS hn kk)
  | 28, _ => exact lv_tableIn (off := 2016) (tgt := 2056) hx hb dL_law_40 (by decide) (by decide) (by decide) (by decide) (zkc_28 C hAd hJv hNw ht hR hl hP hS hn kk)
  | 29, _ => exact lv_tableIn (off := 2096) (tgt := 2136) hx hb dL_law_40 (by decide) (by decide) (by decide) (by decide) (zkc_29 C hAd hJv hNw ht hR hl hP hS hn kk)
  | 30, _ => exact lv_tableIn (off := 2110) (tgt := 2150) hx hb dL_law_40 (by decide) (by decide) (by decide) (by decide) (zkc_30 C hAd hJv hNw ht hR hl hP hS hn kk)
  | 31, _ => exact lv_tableOut (tgt := 2175) hx hb dL_law_40 (Or.inr (by decide)) (by decide) (kk M ρ _ _ ls hR (by omega) hl hP hS)
  | v + 32, hv => exact absurd hv (by omega)
theorem zl_inc (t : Nat) : nI (6 * t) + Int32.ofInt 6 = nI (6 * (t + 1)) := by
  show nI (6 * t) + nI 6 = nI (6 * (t + 1))
  rw [nI_add, show 6 * (t + 1) = 6 * t + 6 by omega]
/-- the loop -/
theorem zl_loop (C : zLC D g adr p s m meth c bS L xs) (hAd : zAd adr s.heap) (hJv : zJv l D g adr s.heap) (hNw : zNw l D g adr s.heap)
    (fin : ∀ (n : Nat) (H : Heap) (locs : List Loc) (ls : Array Slot), n ≤ 512 → va_S (zA s.heap) s.heap H locs → W p l e room_1 s m #[Value.ref bS] below meth c H locs (415 + n) (38178 + 6 * n) Q (F0 m 2181 ls [])) :
    ∀ (d t : Nat), L ≤ 6 * (t + d) → ∀ {M : zMem} {ρ : Int64 × Nat} {H : Heap} {locs : List Loc} {ls : Array Slot}, 6 * t ≤ L → zRel M → lv_has ls 7 (zLl adr bS (6 * t)) → va_P D vwCl (zwd g adr (M, ρ)) H → va_S (zA s.heap) s.heap H locs → ρ.2 ≤ t →
      W p l e room_1 s m #[Value.ref bS] below meth c H locs (415 + ρ.2) (38178 + 6 * ρ.2) Q (F0 m 23 ls []) := by
  have C0 := C
  obtain ⟨hx, hb, hml, hown, hts, hG, hN, hX, hbl, hL⟩ := C0
  intro d
  induction d with
  | zero =>
    intro t hd M ρ H locs ls htL hR hl hP hS hn
    refine lv_iload hx hb dL_law_23 (lv_at hl 0 rfl) ?_
    refine lv_aload_n hx hb dL_law_25 rfl (lv_at hl 4 rfl) ?_
    refine va_slen hx hb hX hbl (zbA hbl) hS dL_law_26 ?_
    refine lv_bipush (v := 6) hx hb dL_law_27 (by decide) ?_
    refine lv_isub hx hb dL_law_29 ?_
    refine lv_icmp_gt (tgt := 2181) hx hb dL_law_30 (by decide) (fun _ => fin ρ.2 H locs ls (by omega) hS) (fun hq => absurd ?_ hq)
    rw [iI_lt]
    have h1 : (nI L).toInt = L := iI_n (by omega)
    have h2 : (nI (6 * t)).toInt = (6 * t : Nat) := iI_n (by omega)
    have h6 : (6 : Int32).toInt = 6 := by decide
    show (nI L - 6).toInt < (nI (6 * t)).toInt
    rw [iI_sub (by omega) (by omega)]
    omega
  | succ d ih =>
    intro t hd M ρ H locs ls htL hR hl hP hS hn
    refine lv_iload hx hb dL_law_23 (lv_at hl 0 rfl) ?_
    refine lv_aload_n hx hb dL_law_25 rfl (lv_at hl 4 rfl) ?_
    refine va_slen hx hb hX hbl (zbA hbl) hS dL_law_26 ?_
    refine lv_bipush (v := 6) hx hb dL_law_27 (by decide) ?_
    refine lv_isub hx hb dL_law_29 ?_
    refine lv_icmp_gt (tgt := 2181) hx hb dL_law_30 (by decide) (fun _ => fin ρ.2 H locs ls (by omega) hS) (fun hq => ?_)
    have ht : 6 * t + 6 ≤ L := by
      rw [iI_lt] at hq
      have h1 : (nI L).toInt = L := iI_n (by omega)
      have h2 : (nI (6 * t)).toInt = (6 * t : Nat) := iI_n (by omega)
      have h6 : (6 : Int32).toInt = 6 := by decide
      have hq : ¬ (nI L - 6).toInt < (nI (6 * t)).toInt := hq
      rw [iI_sub (by omega) (by omega)] at hq
      omega
    refine lv_aload_n hx hb dL_law_33 rfl (lv_at hl 4 rfl) ?_
    refine lv_iload hx hb dL_law_34 (lv_at hl 0 rfl) ?_
    refine va_sld hx hb hX hbl (zbA hbl) hS (vp_in_nI (show 6 * t < L by omega) (by omega)) dL_law_36 ?_
    refine lv_bipush (v := 31) hx hb dL_law_37 (by decide) ?_
    refine lv_iand hx hb dL_law_39 ?_
    obtain ⟨v, hv, e⟩ := zand31 (xs (nI (6 * t)).toNatClampNeg)
    rw [e]
    refine zl_sw C hAd hJv hNw hv ht hR hl hP hS hn ?_
    intro M' ρ' H' locs' ls' hR' hn' hl' hP' hS'
    refine lv_iinc (k := 0) hx hb dL_law_2175 hl' rfl (zl_inc t) (by decide) rfl (fun ls2 hl2 => ?_)
    refine lv_goto (tgt := 23) hx hb dL_law_2178 (by decide) ?_
    exact ih (t + 1) (by omega) (by omega) hR' hl2 hP' hS' hn'
end ZLP
