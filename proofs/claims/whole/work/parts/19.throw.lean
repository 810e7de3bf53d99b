/-! 'throw new E()' -/
def zNm : List String := ["java/lang/RuntimeException", "java/lang/Exception"]
set_option maxRecDepth 100000 in
theorem zat_ok : zXL.all (fun q => (vx_at0 (zcn q.2.1) q.2.2.2.2 (zxn q.2.2.2.1) zNm).all (fun w => lw_tbl.any (fun z => decide (z = w)) && goodWord w || zXW.any (fun z => decide (z = w)) && w.onTables)) = true := by decide +kernel
theorem zxi_ok : (List.range 3).all (fun a => lw_tbl.any (fun z => decide (z = Cond.initialized (zxn a)))) = true := by decide +kernel
theorem zany_in {w : Cond} (h : lw_tbl.any (fun z => decide (z = w)) = true) (hg : goodWord w = true) : w ∈ zTb := by
  obtain ⟨z, hz, h1⟩ := List.any_eq_true.mp h
  have h2 := of_decide_eq_true h1
  rw [h2] at hz
  exact List.mem_filter.mpr ⟨hz, hg⟩
theorem zfit_ok : ∀ a, a < 3 → Bundle.fit (zxn a) = true := by decide +kernel
theorem zfitn_ok : ∀ n ∈ zNm, Bundle.fit n = true := by decide +kernel
section ZTH
variable {l : Launch} {D : va_G} {g : zIds} {adr : Nat → Nat → Nat} {H0 : Heap}
theorem zNw_ok (hl : l.stackTraces = false) : zNw l D g adr H0 := by
  intro j pc nx a b idx c ts L σ hk hd hf
  simp only [zck, Bool.and_eq_true, decide_eq_true_eq] at hk
  obtain ⟨⟨⟨⟨⟨⟨⟨d3, d7⟩, hxl⟩, ha⟩, hown⟩, hfr⟩, hlo⟩, hnx⟩ := hk
  obtain ⟨e1, e3⟩ := zthree hnx
  rw [e3] at hd
  have ha := Nat.le_of_ble_eq_true ha
  have hfr := Nat.le_of_ble_eq_true hfr
  have hlo := Nat.le_of_ble_eq_true hlo
  obtain ⟨q, hq, h1⟩ := List.any_eq_true.mp hxl
  simp only [Bool.and_eq_true, decide_eq_true_eq] at h1
  obtain ⟨⟨⟨y1, y2⟩, y3⟩, d4⟩ := h1
  have y1 := Nat.eq_of_beq_eq_true y1
  have y2 := Nat.eq_of_beq_eq_true y2
  have y3 := Nat.eq_of_beq_eq_true y3
  have hcl : Cond.classLink (zcn (zown j)) idx (zxn a) ∈ zTb := by
    have h2 := of_decide_eq_true (List.all_eq_true.mp zXL_ok q hq)
    rw [y1, y2, y3] at h2
    exact zTb_in h2 rfl
  have hini : Cond.initialized (zxn a) ∈ zTb := zany_in (List.all_eq_true.mp zxi_ok a (List.mem_range.mpr (by omega))) rfl
  have hat : ∀ w ∈ vx_at0 (zcn (zown j)) q.2.2.2.2 (zxn a) zNm, w ∈ zTb ∨ (w ∈ zXW ∧ w.onTables = true) := by
    intro w hw
    have h2 := List.all_eq_true.mp zat_ok q hq
    rw [y1, y3] at h2
    have h3 := List.all_eq_true.mp h2 w hw
    simp only [Bool.or_eq_true, Bool.and_eq_true] at h3
    rcases h3 with h3 | h3
    · exact Or.inl (zany_in h3.1 h3.2)
    · obtain ⟨z, hz, h4⟩ := List.any_eq_true.mp h3.1
      rw [of_decide_eq_true h4] at hz
      exact Or.inr ⟨hz, h3.2⟩
  intro p e s m args below meth cc H locs ls n0 hn0 hC hlv hP hS
  have hts := hC.2.2.2.2.2.1
  have hkept : ∀ a : Nat, a < H0.size → ¬ zA H0 a → s.heap[a]? = H0[a]? := fun a ha _ => hC.2.2.2.2.2.2.2.2.2.2 a ha
  have hR : 6 ≤ (zrm j (σ.2.2 + 1 - n0)).frames := hfr
  have hRl : 89 ≤ (zrm j (σ.2.2 + 1 - n0)).locals := hlo
  have hRc : (zrm j (σ.2.2 + 1 - n0)).cells = σ.2.2 + 1 - n0 := rfl
  have hRs : (zrm j (σ.2.2 + 1 - n0)).slots = 6 * (σ.2.2 + 1 - n0) := rfl
  refine vx_throw0 (own := zcn (zown j)) (cls := zxn a) (names := zNm) (ik := idx) (ic := q.2.2.2.2) (A := zA H0) hC.1 hC.2.1 hl hC.2.2.2.2.1 (zfit_ok a (by omega)) zfitn_ok (hts _ hcl) (hts _ hini) (fun w hw => (hat w hw).elim (hts w) (fun q => va_Nw.use q.2 (hC.2.2.2.2.2.2.2.2.1.2.2.2.2.2 w q.1))) (fun w hw => ?_) (hC.2.2.2.2.2.2.2.2.1.2.2.2.1.kept hkept) (hC.2.2.2.2.2.2.2.2.1.2.2.2.2.1.kept hkept) hS (hlv.1.trans hC.2.2.2.1.symm) hd d3 d4 d7 (fun x hx => (hC.2.2.2.2.2.2.2.1 x hx).elim) (show 2 + 3 < zfr j by omega) (show 0 + (13 * (2 + 1) + 42) ≤ zlo j by omega) (by rw [hRc]; omega) (by rw [hRs]; omega) hC.2.2.2.2.2.2.1 (fun t ht hsz hk => ?_) hS.2.2 (by show σ.2.2 - n0 + 1 ≤ σ.2.2 + 1 - n0; omega) (by show 6 * (σ.2.2 - n0) + 6 ≤ 6 * (σ.2.2 + 1 - n0); omega)
  · unfold vx_ot
    rcases List.mem_cons.mp hw with rfl | hw
    · rfl
    · rcases List.mem_cons.mp hw with rfl | hw
      · rfl
      · rcases hat w hw with h5 | h5
        · rw [zTb_good w h5, Bool.or_true]
        · rw [h5.2, Bool.true_or]
  · have h0 := zwd_here hC hP hS
    refine ⟨rfl, ?_, Nat.le_trans h0.2.1 hsz, fun q hq => (hk q (Nat.lt_of_lt_of_le hq h0.2.1)).trans (h0.2.2 q hq)⟩
    exact va_P.kept hP (fun k q hkq => hk _ (hP k q hkq).lt)
end ZTH
