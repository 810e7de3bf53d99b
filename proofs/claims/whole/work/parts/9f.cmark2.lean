/-! a line of a mark, the class's side, whole -/
section ZCN2
variable {tx : Nat → Int32} {n p : Nat} {T : zSheet} {M M0 : zMem} {ρ : Int64 × Nat}
theorem vbW_v : vbW tx n p = 1 ∨ vbW tx n p = 2 ∨ vbW tx n p = 3 ∨ vbW tx n p = 4 ∨ vbW tx n p = -1 := by
  unfold vbW
  by_cases c1 : wordIs tx n p (zstr 5)
  · rw [zif_t c1]; exact Or.inl rfl
  · rw [zif_f c1]
    by_cases c2 : wordIs tx n p (zstr 6)
    · rw [zif_t c2]; exact Or.inr (Or.inl rfl)
    · rw [zif_f c2]
      by_cases c3 : wordIs tx n p (zstr 7)
      · rw [zif_t c3]; exact Or.inr (Or.inr (Or.inl rfl))
      · rw [zif_f c3]
        by_cases c4 : wordIs tx n p (zstr 8)
        · rw [zif_t c4]; exact Or.inr (Or.inr (Or.inr (Or.inl rfl)))
        · rw [zif_f c4]; exact Or.inr (Or.inr (Or.inr (Or.inr rfl)))
theorem sPut_n {t : Nat} {a b l : Int32} : (sPut T t a b l).1 = T.1 ∧ (sPut T t a b l).2 t = tIns (T.2 t) a b l := ⟨rfl, sUp_eq⟩
theorem sPut_lab {t : Nat} {a b l : Int32} : sUp (sPut T t a b 0) t (tLab ((sPut T t a b 0).2 t) (pPl (rfr (T.2 t)) a (rct (T.2 t))) l) = sPut T t a b l := by
  rw [sPut_n.2, tIns_lab]
  exact sUp_sUp
/-- laws, then what the line does, then its label; at the token s -/
noncomputable def cTail (v : Int32) (t a b q : Nat) (M : zMem) (ρ : Int64 × Nat) : zRes := zcI (zrun zP 22 [zR 11 0, zI v, zI (nI t), zI (nI a), zI (nI b)] (M, ρ)) (fun r10 s10 => if r10 = 0 then (zcI (zrun zP 23 [zR 11 0, zI v, zI (nI t), zI (nI a), zI (nI b)] s10) (fun r11 s11 => zcI (zrun zP 24 [zR 11 0, zI v, zI (nI t), zI r11] s11) (fun r12 s12 => if r12 = 0 ∨ r12 = 1 then zok r12 s12 else none))) else (zcI (zrun zP 5 [zR 11 0, zI r10, zI (nI q)] s10) (fun r13 s13 => if r13 = 0 ∨ r13 = 1 then zok r13 s13 else none)))
theorem cTail_f {k : Int32} {v : Int32} {t a b q : Nat} (h : zrun zP 22 [zR 11 0, zI v, zI (nI t), zI (nI a), zI (nI b)] (M, ρ) = zok k (M, ρ)) (hk : ¬ k = 0) (hF : rdF M0 M) : cOut tx n M0 ρ (.inl (k, q)) (cTail v t a b q M ρ) := by
  unfold cTail
  rw [h, zcI_ok, if_neg hk, e_X1_fail, zcI_ok, if_pos (Or.inl rfl)]
  exact fl_out hF
theorem c_tail1 (ok : zOk T) (hx : cTx M tx n) (ht : cTok M tx n p) (hS : cSheet M 14 T) {t : Nat} (htT : t < T.1) (a b q : Nat) (hF : rdF M0 M) : cOut tx n M0 ρ (zif (¬ pMayPut T t (nI a) (nI b)) (.inl (6, q)) (zif (¬ pRoomM T t) (.inl (3, q)) (lnLab tx n p (sPut T t (nI a) (nI b) 0) (fun l => sPut T t (nI a) (nI b) l)))) (cTail 1 t a b q M ρ) := by
  have rm : zrun zP 64 [zR 13 14, zI (nI t)] (M, ρ) = zok (zb (pRoomM T t)) (M, ρ) := by
    rw [s_hasRoomForMark (σ := (M, ρ)) hS ok.1 htT, zb_congr (pRoom_iff ok.1 hS.2.1 (fun u hu => (hS.2.2 u hu).1.2.2.2.2.1) htT)]
  have fo : zrun zP 22 [zR 11 0, zI 1, zI (nI t), zI (nI a), zI (nI b)] (M, ρ) = (if zb (pMayPut T t (nI a) (nI b)) = 0 then zok 6 (M, ρ) else if zb (pRoomM T t) = 0 then zok 3 (M, ρ) else zok 0 (M, ρ)) := by
    rw [e_X1_faultOf, if_pos rfl, s_allowsMark (σ := (M, ρ)) hS ok.1 htT, zcI_ok, rm, zcI_ok]
  by_cases c1 : pMayPut T t (nI a) (nI b)
  · by_cases c2 : pRoomM T t
    · rw [zif_f (fun e => e c1), zif_f (fun e => e c2)]
      rw [zb_t c1, if_neg (by decide), zb_t c2, if_neg (by decide)] at fo
      obtain ⟨M1, g1, g2, g3⟩ := s_addMark (ρ := ρ) hS ok.1 htT c2 (nI a) (nI b)
      have wf := sFr_ws g3
      obtain ⟨x1, k1⟩ := wsF_tok wf hx ht
      unfold cTail
      rw [fo, zcI_ok, if_pos rfl, e_X1_carryOut, if_pos rfl, g1, zcI_ok, zcI_ok]
      exact c_label2 x1 k1 g2 (show t < (sPut T t (nI a) (nI b) 0).1 from htT) (by rw [sPut_n.2]; show pPl _ _ _ < rct (T.2 t) + 1; have := pPl_le (rfr (T.2 t)) (nI a) (rct (T.2 t)); omega) (by decide) _ (fun l => sPut_lab.symm) (rdF_tr hF (wsF_rd wf))
    · rw [zif_f (fun e => e c1), zif_t c2]
      rw [zb_t c1, if_neg (by decide), zb_f c2, if_pos rfl] at fo
      exact cTail_f fo (by decide) hF
  · rw [zif_t c1]
    rw [zb_f c1, if_pos rfl] at fo
    exact cTail_f fo (by decide) hF
theorem c_tail2 (ok : zOk T) (hx : cTx M tx n) (ht : cTok M tx n p) (hS : cSheet M 14 T) {t : Nat} (htT : t < T.1) (a q : Nat) (hF : rdF M0 M) : cOut tx n M0 ρ (lnPoi tx n T t a q p) (cTail 2 t a a q M ρ) := by
  have h6 := hS.2.1
  have hr := (hS.2.2 t htT).1
  have h40 := hr.2.2.2.2.1
  have a1 := nIk (k := t) (N := 6) (by omega) (by omega)
  have a2 := nI_clamp (n := t) (by omega)
  have fo : zrun zP 22 [zR 11 0, zI 2, zI (nI t), zI (nI a), zI (nI a)] (M, ρ) = (if zb (¬ nI (rct (T.2 t)) < 40) = 0 then (if zb (pMayPoint T t (nI a)) = 0 then zok 6 (M, ρ) else zok 0 (M, ρ)) else (if zb (pMayPoint T t (nI a)) = 0 then zok 6 (M, ρ) else zok 3 (M, ρ))) := by
    rw [e_X1_faultOf, if_neg (by decide), if_pos rfl, s_allowsPoint (σ := (M, ρ)) hS ok.1 htT, zcI_ok]
    simp only [a1, a2, if_false]
    rw [r_isFull (σ := (M, ρ)) hr, zcI_ok]
    simp only [show ((1 : Int32) = 0) = False from eq_false (by decide), if_false, if_true]
  unfold lnPoi
  by_cases c1 : pMayPoint T t (nI a)
  · rw [zif_f (fun e => e c1)]
    by_cases c2 : rct (T.2 t) < 40
    · rw [zif_f (fun e => e c2)]
      rw [zb_f (fun e => e ((nI_40 h40).mpr c2)), if_pos rfl, zb_t c1, if_neg (by decide)] at fo
      obtain ⟨M1, g1, g2, g3⟩ := r_insert (ρ := ρ) hr c2 (nI a) (nI a) 0
      have up := cSheet_up hS htT g2 g3 rfl
      have wf : wsFr M M1 14 := sFr_ws (rowFr_s (by omega) g3)
      obtain ⟨x1, k1⟩ := wsF_tok wf hx ht
      unfold cTail
      rw [fo, zcI_ok, if_pos rfl, e_X1_carryOut, if_neg (by decide), if_pos rfl]
      simp only [a1, a2, if_false]
      rw [g1, zcI_ok, zcI_ok]
      exact c_label2 x1 k1 up (show t < T.1 from htT) (by rw [sUp_eq]; show pPl _ _ _ < rct (T.2 t) + 1; have := pPl_le (rfr (T.2 t)) (nI a) (rct (T.2 t)); omega) (by decide) _ (fun l => by rw [sUp_eq, tIns_lab]; exact sUp_sUp.symm) (rdF_tr hF (wsF_rd wf))
    · rw [zif_t c2]
      rw [zb_t (fun e => c2 ((nI_40 h40).mp e)), if_neg (by decide), zb_t c1, if_neg (by decide)] at fo
      exact cTail_f fo (by decide) hF
  · rw [zif_t c1]
    rw [zb_f c1, if_pos rfl, if_pos rfl] at fo
    have fo' : zrun zP 22 [zR 11 0, zI 2, zI (nI t), zI (nI a), zI (nI a)] (M, ρ) = zok 6 (M, ρ) := by
      rw [fo]; split <;> rfl
    exact cTail_f fo' (by decide) hF
theorem c_tail3 (ok : zOk T) (hx : cTx M tx n) (ht : cTok M tx n p) (hS : cSheet M 14 T) {t : Nat} (htT : t < T.1) (a q : Nat) (hF : rdF M0 M) : cOut tx n M0 ρ (lnSpl tx n T t a q p) (cTail 3 t a a q M ρ) := by
  have h6 := hS.2.1
  have hr := (hS.2.2 t htT).1
  have h40 := hr.2.2.2.2.1
  have a1 := nIk (k := t) (N := 6) (by omega) (by omega)
  have a2 := nI_clamp (n := t) (by omega)
  have al : zrun zP 72 [zR 13 14, zI (nI t), zI (nI a)] (M, ρ) = zok (zb (pSplT T t (nI a))) (M, ρ) := s_allowsCut (σ := (M, ρ)) hS ok.1 htT _
  have fo : zrun zP 22 [zR 11 0, zI 3, zI (nI t), zI (nI a), zI (nI a)] (M, ρ) = (if zb (pSplT T t (nI a)) = 0 then zok 6 (M, ρ) else if zb (pRoomC T t (nI a)) = 0 then zok 3 (M, ρ) else zok 0 (M, ρ)) := by
    rw [e_X1_faultOf, if_neg (by decide), if_neg (by decide), if_pos rfl, al, zcI_ok, s_hasRoomForCut (σ := (M, ρ)) hS ok.1 htT, zcI_ok]
  unfold lnSpl
  by_cases c1 : pSplT T t (nI a)
  · rw [zif_f (fun e => e c1)]
    by_cases c2 : pRoomC T t (nI a)
    · rw [zif_f (fun e => e c2)]
      rw [zb_t c1, if_neg (by decide), zb_t c2, if_neg (by decide)] at fo
      obtain ⟨M1, g1, g2, g3⟩ := s_cutAt (ρ := ρ) hS ok.1 htT (nI a) c2
      have wf := sFr_ws g3
      obtain ⟨x1, k1⟩ := wsF_tok wf hx ht
      have e2 : (sCut T t (nI a)).2 t = tCutAt (T.2 t) (nI a) := sMapK_t ⟨htT, htT, Or.inl rfl⟩
      obtain ⟨k, kk, ki, kc, ka⟩ := cut_at (ok.2.2.2.1 t htT).1 c1.1 (c2 t htT ⟨Or.inl rfl, c1.2.1⟩) c1.2.1
      have hr1 : cRow M1 (6 * 14 + t) (tCutAt (T.2 t) (nI a)) := by have := (g2.2.2 t (show t < (sCut T t (nI a)).1 from htT)).1; rwa [e2] at this
      unfold cTail
      rw [fo, zcI_ok, if_pos rfl, e_X1_carryOut, if_neg (by decide), if_neg (by decide), if_pos rfl, g1, zcI_ok]
      simp only [a1, a2, if_false]
      rw [r_markAt (σ := (M1, ρ)) hr1, zcI_ok, ka, zcI_ok]
      exact c_label2 x1 k1 g2 (show t < (sCut T t (nI a)).1 from htT) (by rw [e2, kc]; omega) (by decide) _ (fun l => by unfold sCutL; rw [ki, nI_clamp (by omega)]) (rdF_tr hF (wsF_rd wf))
    · rw [zif_t c2]
      rw [zb_t c1, if_neg (by decide), zb_f c2, if_pos rfl] at fo
      exact cTail_f fo (by decide) hF
  · rw [zif_t c1]
    rw [zb_f c1, if_pos rfl] at fo
    exact cTail_f fo (by decide) hF
theorem c_tail4 (hx : cTx M tx n) (ht : cTok M tx n p) (hS : cSheet M 14 T) {t : Nat} (htT : t < T.1) (a q : Nat) (hF : rdF M0 M) : cOut tx n M0 ρ (lnLbl tx n T t a q p) (cTail 4 t a a q M ρ) := by
  have h6 := hS.2.1
  have hr := (hS.2.2 t htT).1
  have h40 := hr.2.2.2.2.1
  have a1 := nIk (k := t) (N := 6) (by omega) (by omega)
  have a2 := nI_clamp (n := t) (by omega)
  have ma : zrun zP 40 [zR 12 (6 * 14 + t), zI (nI a)] (M, ρ) = zok (atI T t (nI a)) (M, ρ) := r_markAt (σ := (M, ρ)) hr _
  have fo : zrun zP 22 [zR 11 0, zI 4, zI (nI t), zI (nI a), zI (nI a)] (M, ρ) = (if atI T t (nI a) = -1 then zok 6 (M, ρ) else zok 0 (M, ρ)) := by
    rw [e_X1_faultOf, if_neg (by decide), if_neg (by decide), if_neg (by decide)]
    simp only [a1, a2, if_false]
    rw [ma, zcI_ok]
    simp only [show ((1 : Int32) = 0) = False from eq_false (by decide), if_false, if_true]
  unfold lnLbl
  by_cases c1 : atI T t (nI a) = -1
  · rw [zif_t c1]
    rw [if_pos c1] at fo
    exact cTail_f fo (by decide) hF
  · rw [zif_f c1]
    rw [if_neg c1] at fo
    obtain ⟨k, k1, k2⟩ : ∃ k, k < rct (T.2 t) ∧ atI T t (nI a) = nI k := by
      unfold atI zfI at c1 ⊢
      cases hz : zfst (pAt (T.2 t) (nI a)) 0 (rct (T.2 t)) with
      | none => rw [hz] at c1; exact absurd rfl c1
      | some k =>
        obtain ⟨z1, z2, -⟩ := (zfst_spec _ _ _).mp hz
        exact ⟨k, by omega, rfl⟩
    have sw : zrun zP 13 [zR 11 0, zI 4] (M, ρ) = zok (zb (shW tx n p 4)) (M, ρ) := c_isShort hx ht 4 (by omega)
    have a3 := nIk (k := k) (N := 40) (by omega) (by omega)
    have a4 := nI_clamp (n := k) (by omega)
    unfold cTail
    rw [fo, zcI_ok, if_pos rfl, e_X1_carryOut, if_neg (by decide), if_neg (by decide), if_neg (by decide)]
    simp only [a1, a2, if_false]
    rw [ma, zcI_ok, zcI_ok, k2]
    by_cases c2 : shW tx n p 4
    · have q := c_label2 (ρ := ρ) (M0 := M0) hx ht hS htT k1 (v := 1) (by decide) (fun l => sUp T t (tLab (T.2 t) k l)) (fun l => rfl) hF
      unfold lnLab at q
      rw [zif_t ⟨c2.1, c2.2.1⟩, zif_f (fun e => e c2)] at q
      rw [zif_f (fun e => e c2), nI_clamp (show k < 2 ^ 31 by omega)]
      rw [e_X1_readLabel, show (M, ρ).1 11 0 7 = 1 from (tok_w ht).1 ⟨c2.1, c2.2.1⟩, if_pos rfl] at q ⊢
      exact q
    · rw [zif_t c2, e_X1_readLabel]
      by_cases c3 : p < n ∧ isLt (tx p)
      · rw [show (M, ρ).1 11 0 7 = 1 from (tok_w ht).1 c3, if_pos rfl, sw, zcI_ok, zb_f c2, if_pos rfl, e_X1_fail, zcI_ok, if_pos (Or.inl rfl), zcI_ok, if_pos (Or.inl rfl), show (M, ρ).1 11 0 8 = _ from ht.1]
        exact fl_out hF
      · rw [show (M, ρ).1 11 0 7 = M 11 0 7 from rfl, if_neg ((tok_w ht).2 c3), if_pos rfl, sw, zcI_ok, zb_f c2, if_pos rfl, e_X1_fail, zcI_ok, if_pos (Or.inl rfl), zcI_ok, if_pos (Or.inl rfl), show (M, ρ).1 11 0 8 = _ from ht.1]
        exact fl_out hF
end ZCN2
