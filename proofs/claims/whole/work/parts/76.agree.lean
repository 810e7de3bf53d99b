/-! the edits answer alike -/
def cd3 (e : Nat) : Int32 := nI (e + 1)
/-- what the reference says of an exception; 0: such a one doesn't come -/
def cdT (e : Nat) : Int32 := match e with
  | 0 => 1
  | 2 => 2
  | _ => 0
def cdL (e : Nat) : Int32 := match e with
  | 0 => 1
  | 1 => 2
  | _ => 0
def cdF (e : Nat) : Int32 := match e with
  | 0 => 1
  | _ => 0
def cdI (e : Nat) : Int32 := match e with
  | 1 => 1
  | _ => 0
def cdN (_ : Nat) : Int32 := 0
def cdS (e : Nat) : Int32 := nI e
section ZAG
variable {T : zSheet} {n : Nat} {H : Nat → zSheet} {M : zMem}
theorem Rs_40 (hR : Rs M T n H) : ∀ u, u < T.1 → rct (T.2 u) ≤ 40 := fun u hu => (hR.1.1.2.2 u hu).1.2.2.2.2.1
theorem pTm_n {x : Int32} (h : pTm x) : ∃ n, n ≤ 999 ∧ x = nI n := by
  have i0 := iI_0
  have i9 := iI_999
  obtain ⟨z1, z2⟩ := h
  rw [iI_lt] at z1 z2
  exact ⟨x.toInt.toNat, by omega, by rw [iI_eq, iI_n (by omega)]; omega⟩
theorem l0_ok : ∃ v, v < 2 ^ 31 ∧ (0 : Int32) = nI v := ⟨0, by omega, rfl⟩
theorem a_put (h : zRel M) (x a b : Int32) : zAg 94 191 [zI x, zI a, zI b] cd3 M := by
  obtain ⟨T, n, H, hR⟩ := h
  have h6 := hR.1.1.2.1
  have ok := hR.1.2.2
  by_cases c : pTr T x
  · by_cases c2 : pSp a b
    · obtain ⟨t, ht, rfl⟩ := pTr_n h6 c
      by_cases c3 : pPuts T t a b
      · exact ag_edit hR (ok_put ok h6 (Rs_40 hR) ht c3.1 c2.2.2 (pTm_n c2.1) (pTm_n c2.2.1) l0_ok) (fun ρ => cEd_x (c_put_4 hR.1.1 ok.1 hR.2.1.1 ht c2 c3)) (fun M1 ρ' s1 s2 => m_put_4 s1 ok.1 ok.2.1 s2 ht c2 c3)
      · exact ag_ref hR (e := 2) (by omega) (fun ρ => c_put_3 hR.1.1 ok.1 ht c2 c3) (fun ρ' => m_put_3 (rfM_m hR.1.2.1) ok.1 ok.2.1 ht c2 c3)
    · exact ag_ref hR (e := 1) (by omega) (fun ρ => c_put_2 hR.1.1 c c2) (fun ρ' => m_put_2 (rfM_m hR.1.2.1) c c2)
  · exact ag_ref hR (e := 0) (by omega) (fun ρ => c_put_1 hR.1.1 c) (fun ρ' => m_put_1 (rfM_m hR.1.2.1) c)
theorem a_point (h : zRel M) (x a : Int32) : zAg 95 192 [zI x, zI a] cd3 M := by
  obtain ⟨T, n, H, hR⟩ := h
  have h6 := hR.1.1.2.1
  have ok := hR.1.2.2
  by_cases c : pTr T x
  · by_cases c2 : pTm a
    · obtain ⟨t, ht, rfl⟩ := pTr_n h6 c
      by_cases c3 : pPoints T t a
      · exact ag_edit hR (ok_point ok h6 (Rs_40 hR) ht c3.1 (pTm_n c2) l0_ok) (fun ρ => cEd_x (c_point_4 hR.1.1 ok.1 hR.2.1.1 ht c2 c3)) (fun M1 ρ' s1 s2 => m_point_4 s1 ok.1 (zOk_po ok) s2 ht c2 c3)
      · exact ag_ref hR (e := 2) (by omega) (fun ρ => c_point_3 hR.1.1 ok.1 ht c2 c3) (fun ρ' => m_point_3 (rfM_m hR.1.2.1) ok.1 (zOk_po ok) ht c2 c3)
    · exact ag_ref hR (e := 1) (by omega) (fun ρ => c_point_2 hR.1.1 c c2) (fun ρ' => m_point_2 (rfM_m hR.1.2.1) c c2)
  · exact ag_ref hR (e := 0) (by omega) (fun ρ => c_point_1 hR.1.1 c) (fun ρ' => m_point_1 (rfM_m hR.1.2.1) c)
theorem a_take (h : zRel M) (x y : Int32) : zAg 96 198 [zI x, zI y] cdT M := by
  obtain ⟨T, n, H, hR⟩ := h
  have h6 := hR.1.1.2.1
  have ok := hR.1.2.2
  by_cases c : pMk T x y
  · obtain ⟨t, k, ht, hk, rfl, rfl⟩ := c
    by_cases c1 : rkd (T.2 t) = 1
    · by_cases c2 : pHb T t k ∨ pHa T t k
      · exact ag_edit hR (ok_piece ok h6 (Rs_40 hR) ht c1 hk c2) (fun ρ => cEd_x (c_take_3 hR.1.1 ok.1 hR.2.1.1 ht hk c1 c2)) (fun M1 ρ' s1 s2 => m_take_3 s1 ok.1 s2 ht hk c1 c2)
      · exact ag_ref hR (e := 2) (by omega) (fun ρ => c_take_2 hR.1.1 ok.1 ht hk c1 c2) (fun ρ' => m_take_2 (rfM_m hR.1.2.1) ok.1 ht hk c1 c2)
    · by_cases c3 : rkd (T.2 t) = 3
      · exact ag_edit hR (ok_rem3 ok h6 ht c3) (fun ρ => cEd_x (c_take_4 hR.1.1 hR.2.1.1 ht hk c3)) (fun M1 ρ' s1 s2 => m_take_4 s1 s2 ht hk c3)
      · exact ag_edit hR (ok_take ok h6 (Rs_40 hR) ht _ _) (fun ρ => cEd_x (c_take_5 hR.1.1 ok.1 ok.2.2.1 hR.2.1.1 ht hk c1 c3)) (fun M1 ρ' s1 s2 => m_take_5 s1 ok.1 ok.2.2.1 (zOk_po ok) s2 ht hk c1 c3 (kF_one (ok.2.2.2.1 t ht).1 c3 hk))
  · exact ag_ref hR (e := 0) (by omega) (fun ρ => c_take_1 hR.1.1 c) (fun ρ' => m_take_1 (rfM_m hR.1.2.1) c)
theorem a_split (h : zRel M) (x y z : Int32) : zAg 97 199 [zI x, zI y, zI z] cd3 M := by
  obtain ⟨T, n, H, hR⟩ := h
  have h6 := hR.1.1.2.1
  have ok := hR.1.2.2
  by_cases c : pMk T x y
  · obtain ⟨t, k, ht, hk, rfl, rfl⟩ := c
    by_cases c1 : rkd (T.2 t) = 3
    · exact ag_ref hR (e := 2) (by omega) (fun ρ => c_split_2 hR.1.1 ht hk c1) (fun ρ' => m_split_2 (rfM_m hR.1.2.1) ht hk c1)
    · by_cases c2 : pSpan T t k z
      · by_cases c3 : pMaySplit T t z
        · exact ag_edit hR (ok_cut ok h6 (Rs_40 hR) ht c1 c3.1.2.2) (fun ρ => cEd_x (c_split_5 hR.1.1 ok.1 hR.2.1.1 ht hk c1 c2 c3)) (fun M1 ρ' s1 s2 => m_split_5 s1 ok.1 (zOk_wt ok) s2 ht hk c1 c2 c3)
        · exact ag_ref hR (e := 2) (by omega) (fun ρ => c_split_4 hR.1.1 ok.1 ht hk c1 c2 c3) (fun ρ' => m_split_4 (rfM_m hR.1.2.1) ok.1 (zOk_wt ok) ht hk c1 c2 c3)
      · exact ag_ref hR (e := 1) (by omega) (fun ρ => c_split_3 hR.1.1 ht hk c1 c2) (fun ρ' => m_split_3 (rfM_m hR.1.2.1) (zOk_wt ok) ht hk c1 c2)
  · exact ag_ref hR (e := 0) (by omega) (fun ρ => c_split_1 hR.1.1 c) (fun ρ' => m_split_1 (rfM_m hR.1.2.1) c)
theorem a_join (h : zRel M) (x y : Int32) : zAg 98 200 [zI x, zI y] cdT M := by
  obtain ⟨T, n, H, hR⟩ := h
  have h6 := hR.1.1.2.1
  have ok := hR.1.2.2
  by_cases c : pMk T x y
  · obtain ⟨t, k, ht, hk, rfl, rfl⟩ := c
    by_cases c2 : pMayJoin T t k
    · exact ag_edit hR (ok_joins ok h6 (Rs_40 hR) ht c2) (fun ρ => cEd_x (c_join_3 hR.1.1 ok.1 hR.2.1.1 ht hk c2)) (fun M1 ρ' s1 s2 => m_join_3 s1 ok.1 s2 ht hk c2)
    · exact ag_ref hR (e := 2) (by omega) (fun ρ => c_join_2 hR.1.1 ok.1 ht hk c2) (fun ρ' => m_join_2 (rfM_m hR.1.2.1) ok.1 ht hk c2)
  · exact ag_ref hR (e := 0) (by omega) (fun ρ => c_join_1 hR.1.1 c) (fun ρ' => m_join_1 (rfM_m hR.1.2.1) c)
theorem pLabel_ok {l : Int32} (h : pLabel l) : ∃ v, v < 2 ^ 31 ∧ l = nI v := by
  obtain ⟨v, v1, v2, -⟩ := h
  exact ⟨v, by omega, v2⟩
theorem a_label (h : zRel M) (x y l : Int32) : zAg 101 210 [zI x, zI y, zI l] cdL M := by
  obtain ⟨T, n, H, hR⟩ := h
  have h6 := hR.1.1.2.1
  have ok := hR.1.2.2
  by_cases c : pMk T x y
  · by_cases c2 : pLabel l
    · obtain ⟨t, k, ht, hk, rfl, rfl⟩ := c
      exact ag_edit hR (ok_lab ok h6 (pLabel_ok c2)) (fun ρ => cEd_x (c_label_3 hR.1.1 hR.2.1.1 ht hk c2)) (fun M1 ρ' s1 s2 => m_label_3 s1 s2 ht hk c2)
    · exact ag_ref hR (e := 1) (by omega) (fun ρ => c_label_2 hR.1.1 c c2) (fun ρ' => m_label_2 (rfM_m hR.1.2.1) c c2)
  · exact ag_ref hR (e := 0) (by omega) (fun ρ => c_label_1 hR.1.1 c) (fun ρ' => m_label_1 (rfM_m hR.1.2.1) c)
theorem a_move (h : zRel M) (x y z : Int32) : zAg 99 205 [zI x, zI y, zI z] cd3 M := by
  obtain ⟨T, n, H, hR⟩ := h
  have h6 := hR.1.1.2.1
  have ok := hR.1.2.2
  by_cases c : pStopOf T x y
  · by_cases c2 : pTm z
    · obtain ⟨t, ht, rfl, hst⟩ := c
      obtain ⟨s, hs, rfl⟩ := pStopX_n (zOk_wt ok) hst
      by_cases c3 : pMayMove T (pRoot T t) s z
      · exact ag_edit hR (ok_move ok h6 hs c2 c3) (fun ρ => cEd_x (c_move_4 hR.1.1 ok.1 (zOk_po ok) (zOk_wt ok) hR.2.1.1 ht hs hst c2 c3)) (fun M1 ρ' s1 s2 => m_move_4 s1 ok.1 s2 ht hs hst c2 c3)
      · exact ag_ref hR (e := 2) (by omega) (fun ρ => c_move_3 hR.1.1 ok.1 (zOk_po ok) (zOk_wt ok) ht hs hst c2 c3) (fun ρ' => m_move_3 (rfM_m hR.1.2.1) ok.1 ht hs hst c2 c3)
    · exact ag_ref hR (e := 1) (by omega) (fun ρ => c_move_2 hR.1.1 ok.1 (zOk_po ok) c c2) (fun ρ' => m_move_2 (rfM_m hR.1.2.1) ok.1 c c2)
  · exact ag_ref hR (e := 0) (by omega) (fun ρ => c_move_1 hR.1.1 ok.1 (zOk_po ok) c) (fun ρ' => m_move_1 (rfM_m hR.1.2.1) ok.1 c)
theorem a_silence (h : zRel M) (x l : Int32) : zAg 100 208 [zI x, zI l] cdS M := by
  obtain ⟨T, n, H, hR⟩ := h
  have h6 := hR.1.1.2.1
  have ok := hR.1.2.2
  by_cases c : pTm x ∧ pLn l
  · obtain ⟨s, hs, rfl⟩ := pTm_n c.1
    by_cases c2 : pSil T (nI s) l
    · exact ag_edit hR (ok_sil ok h6 hs c.2 c2) (fun ρ => by
        obtain ⟨M1, e1, e2, e3, M0, e4, e5⟩ := c_sil_3 (i := 0) (ρ := ρ) hR.1.1 (zOk_la ok) ok.1 (zOk_wt ok) hR.2.1.1 hs c.2 c2
        exact ⟨M1, e1, e2, e3, cxFr_tr (edFr_cx e4) (tFr_cx e5)⟩) (fun M1 ρ' s1 s2 => m_sil_3 s1 ok.1 (zOk_wt ok) s2 hs c.2 c2)
    · exact ag_ref hR (e := 2) (by omega) (fun ρ => c_sil_2 hR.1.1 (zOk_la ok) (zOk_wt ok) c.1 c.2 c2) (fun ρ' => m_sil_2 (rfM_m hR.1.2.1) (zOk_wt ok) c.1 c.2 c2)
  · exact ag_ref hR (e := 1) (by omega) (fun ρ => c_sil_1 c) (fun ρ' => m_sil_1 c)
theorem a_undo (h : zRel M) : zAg 104 218 [] cdN M := by
  obtain ⟨T, n, H, hR⟩ := h
  cases n with
  | zero => exact ag_read hR (x := -1) (fun ρ => ⟨M, c_undo_0 hR.2.1.1, scFr_rf⟩) (fun M1 ρ' hR1 => ⟨zms M1 16 0 0 0, m_undo0 hR1.2.1.2.1, scFr_z, zms_eq⟩)
  | succ n =>
    intro ρ ρ'
    obtain ⟨⟨a1, a2, a3⟩, ⟨b1, b2, b3⟩, k1, k2, k3⟩ := hR
    obtain ⟨M1, e1, e2, e3, e4⟩ := c_undo_s (i := 0) (ρ := ρ) b1
    have hmH : mHist M1 0 (n + 1) H := mHist_congr (e4 _ _ _ (by omega) (by omega) (by omega)) (fun q => e4 _ _ _ (by omega) (by omega) (by omega)) b2
    obtain ⟨M2, f1, f2, f3, f4, f5⟩ := m_undo (i := 0) (ρ := ρ') hmH
    have hf : reFr M M2 := fun k j q e => (f5 k j q (by omega) (by omega)).trans (e4 k j q (by omega) (by omega) (by omega))
    exact Or.inl ⟨nI n, M1, M2, e1, f1, f4, H 0, n, fun j => H (j + 1), ⟨cSheet_congr (fun k j q e => f5 k j q (by omega) (by omega)) e2, f2, b3 0 (by omega)⟩, ⟨cHist_congr (fun k j q e => f5 k j q (by omega) (by omega)) e3, f3, fun j hj => b3 (j + 1) (by omega)⟩, reKept hf k1, reTape hf k2, reRefu hf k3⟩
end ZAG
