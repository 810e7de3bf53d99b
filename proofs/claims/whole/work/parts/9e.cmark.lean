/-! a line of a mark, the class's side -/
noncomputable def vbW (tx : Nat → Int32) (n p : Nat) : Int32 := zif (wordIs tx n p (zstr 5)) 1 (zif (wordIs tx n p (zstr 6)) 2 (zif (wordIs tx n p (zstr 7)) 3 (zif (wordIs tx n p (zstr 8)) 4 (-1))))
noncomputable def lbV (tx : Nat → Int32) (n u : Nat) : Int32 := nI (mkF tx 6 u (we tx n u - u))
noncomputable def lnLab (tx : Nat → Int32) (n u : Nat) (T0 : zSheet) (f : Int32 → zSheet) : zLo := zif (u < n ∧ isLt (tx u)) (zif (¬ shW tx n u 4) (.inl (1, u)) (.inr (f (lbV tx n u), nx tx n u))) (.inr (T0, u))
noncomputable def lnPut (tx : Nat → Int32) (n : Nat) (T : zSheet) (t a q s : Nat) : zLo :=
  zif (¬ isTm tx n s) (.inl (1, s)) (zif (¬ (nmT tx n s ≤ 999 ∧ a < nmT tx n s)) (.inl (2, s)) (zif (¬ pMayPut T t (nI a) (nI (nmT tx n s))) (.inl (6, q)) (zif (¬ pRoomM T t) (.inl (3, q)) (lnLab tx n (nx tx n s) (sPut T t (nI a) (nI (nmT tx n s)) 0) (fun l => sPut T t (nI a) (nI (nmT tx n s)) l)))))
noncomputable def lnPoi (tx : Nat → Int32) (n : Nat) (T : zSheet) (t a q s : Nat) : zLo :=
  zif (¬ pMayPoint T t (nI a)) (.inl (6, q)) (zif (¬ rct (T.2 t) < 40) (.inl (3, q)) (lnLab tx n s (sUp T t (tIns (T.2 t) (nI a) (nI a) 0)) (fun l => sUp T t (tIns (T.2 t) (nI a) (nI a) l))))
noncomputable def sCutL (T : zSheet) (t : Nat) (x l : Int32) : zSheet := sUp (sCut T t x) t (tLab ((sCut T t x).2 t) ((pIn (T.2 t) x).toNatClampNeg + 1) l)
def pSplT (T : zSheet) (t : Nat) (x : Int32) : Prop := ¬ rkd (T.2 t) = 3 ∧ ¬ pIn (T.2 t) x = -1 ∧ pNoIn T t x
noncomputable def lnSpl (tx : Nat → Int32) (n : Nat) (T : zSheet) (t a q s : Nat) : zLo :=
  zif (¬ pSplT T t (nI a)) (.inl (6, q)) (zif (¬ pRoomC T t (nI a)) (.inl (3, q)) (lnLab tx n s (sCut T t (nI a)) (fun l => sCutL T t (nI a) l)))
noncomputable def atI (T : zSheet) (t : Nat) (x : Int32) : Int32 := zfI (pAt (T.2 t) x) (rct (T.2 t))
noncomputable def lnLbl (tx : Nat → Int32) (n : Nat) (T : zSheet) (t a q s : Nat) : zLo :=
  zif (atI T t (nI a) = -1) (.inl (6, q)) (zif (¬ shW tx n s 4) (.inl (1, s)) (.inr (sUp T t (tLab (T.2 t) (atI T t (nI a)).toNatClampNeg (lbV tx n s)), nx tx n s)))
noncomputable def lnVrb (tx : Nat → Int32) (n : Nat) (T : zSheet) (v : Int32) (t a q s : Nat) : zLo := if v = 1 then lnPut tx n T t a q s else if v = 2 then lnPoi tx n T t a q s else if v = 3 then lnSpl tx n T t a q s else lnLbl tx n T t a q s
noncomputable def lnTim (tx : Nat → Int32) (n : Nat) (T : zSheet) (v : Int32) (t q r : Nat) : zLo := zif (¬ isTm tx n r) (.inl (1, r)) (zif (¬ nmT tx n r ≤ 999) (.inl (2, r)) (lnVrb tx n T v t (nmT tx n r) q (nx tx n r)))
noncomputable def lnKno (tx : Nat → Int32) (n : Nat) (T : zSheet) (v : Int32) (q : Nat) : zLo := zif (¬ shW tx n q 6) (.inl (1, q)) (zif (ixN T (nmv tx n q) = -1) (.inl (5, q)) (lnTim tx n T v (ixN T (nmv tx n q)).toNatClampNeg q (nx tx n q)))
noncomputable def lnMark (tx : Nat → Int32) (n : Nat) (T : zSheet) (p : Nat) : zLo := zif (vbW tx n p = -1) (.inl (1, p)) (lnKno tx n T (vbW tx n p) (nx tx n p))
section ZCM
variable {tx : Nat → Int32} {n p : Nat} {T : zSheet} {M M0 : zMem} {ρ : Int64 × Nat}
theorem tIns_lab {r : zTier} {a b l : Int32} : tLab (tIns r a b 0) (pPl (rfr r) a (rct r)) l = tIns r a b l := by
  unfold tLab tIns
  congr 6
  funext j
  show (if j = _ then l else insF (rlb r) _ 0 j) = insF (rlb r) _ l j
  rw [insF_v, insF_v]
  by_cases c : j = pPl (rfr r) a (rct r)
  · rw [if_pos c, if_pos c]
  · rw [if_neg c, if_neg c, if_neg c]
theorem cut_at {r : zTier} (hs : zSrt r) (h3 : ¬ rkd r = 3) (h40 : rct r < 40) {x : Int32} (hi : ¬ pIn r x = -1) : ∃ k, k < rct r ∧ pIn r x = nI k ∧ rct (tCutAt r x) = rct r + 1 ∧ zfI (pAt (tCutAt r x) x) (rct (tCutAt r x)) = nI (k + 1) := by
  unfold pIn zfI at hi
  cases hz : zfst (fun k => rfr r k < x ∧ x < rto r k) 0 (rct r) with
  | none => rw [hz] at hi; exact absurd rfl hi
  | some k =>
    obtain ⟨z1, z2, z3, -⟩ := (zfst_spec _ _ _).mp hz
    have hk : k < rct r := by omega
    have e1 : pIn r x = nI k := by unfold pIn zfI; rw [hz]
    have e2 : tCutAt r x = tCut r k x := by unfold tCutAt; rw [hz]
    have hp : pPl (rfr r) x (rct r) = k + 1 := by
      have hl := pPl_le (rfr r) x (rct r)
      rcases Nat.lt_trichotomy (pPl (rfr r) x (rct r)) (k + 1) with c | c | c
      · have := pPl_ge (f := rfr r) (a := x) (rct r) k (by omega) hk
        have z := z3.1
        rw [iI_lt] at this z
        omega
      · exact c
      · have q1 := pPl_lt (f := rfr r) (a := x) (rct r) (by omega)
        have q2 := hs.2 k (pPl (rfr r) x (rct r) - 1) (by omega) (by omega)
        have z := z3.2
        rw [iI_lt] at q1 q2 z
        omega
    have ef : ∀ j, rfr (tCut r k x) j = (if j = k + 1 then x else rfr r (if j < k + 1 then j else j - 1)) := fun j => by rw [← hp]; exact insF_v
    have et : ∀ j, rto (tCut r k x) j = (if j = k + 1 then rto r k else rto (tTo r k x) (if j < k + 1 then j else j - 1)) := fun j => by rw [← hp]; exact insF_v
    refine ⟨k, hk, e1, by rw [e2]; rfl, ?_⟩
    rw [e2]
    refine zfI_some (show k + 1 < rct r + 1 by omega) (Or.inl (by rw [ef, if_pos rfl])) (fun j hj hat => ?_)
    have hj' : j < rct r + 1 := hj
    rcases Nat.lt_trichotomy j (k + 1) with c | c | c
    · exfalso
      have zf := zSrt_ff hs (j := j) (k := k) (by omega) hk
      have z := z3.1
      have ej : rfr (tCut r k x) j = rfr r j := by rw [ef, if_neg (by omega), if_pos c]
      have ejt : rto (tCut r k x) j = (if j = k then x else rto r j) := by rw [et, if_neg (by omega), if_pos c, tTo_v]
      rcases hat with q | q
      · rw [ej] at q
        rw [q, iI_lt] at zf
        rw [iI_lt] at z
        omega
      · have q2 := q.2
        rw [ejt] at q2
        by_cases c2 : j = k
        · rw [if_pos c2] at q2; exact i_rf _ q2
        · rw [if_neg c2] at q2
          have := hs.2 j k (by omega) hk
          rw [iI_lt] at this q2 z
          omega
    · exact c
    · exfalso
      have ej : rfr (tCut r k x) j = rfr r (j - 1) := by rw [ef, if_neg (by omega), if_neg (by omega)]
      have q2 := hs.2 k (j - 1) (by omega) (by omega)
      have z := z3.2
      rcases hat with q | q
      · rw [ej] at q
        rw [q] at q2
        rw [iI_lt] at q2 z
        omega
      · have q1 := q.1
        rw [ej] at q1
        rw [iI_lt] at q1 q2 z
        omega
theorem c_verb (hx : cTx M tx n) (ht : cTok M tx n p) : zrun zP 18 [zR 11 0] (M, ρ) = zok (vbW tx n p) (M, ρ) := by
  rw [e_X1_verbThere, c_isWord hx ht (by omega), zcI_ok]
  unfold vbW
  by_cases c1 : wordIs tx n p (zstr 5)
  · rw [zb_t c1, if_neg (by decide), zif_t c1]
  · rw [zb_f c1, if_pos rfl, zif_f c1, c_isWord hx ht (by omega), zcI_ok]
    by_cases c2 : wordIs tx n p (zstr 6)
    · rw [zb_t c2, if_neg (by decide), zif_t c2]
    · rw [zb_f c2, if_pos rfl, zif_f c2, c_isWord hx ht (by omega), zcI_ok]
      by_cases c3 : wordIs tx n p (zstr 7)
      · rw [zb_t c3, if_neg (by decide), zif_t c3]
      · rw [zb_f c3, if_pos rfl, zif_f c3, c_isWord hx ht (by omega), zcI_ok]
        by_cases c4 : wordIs tx n p (zstr 8)
        · rw [zb_t c4, if_neg (by decide), zif_t c4]
        · rw [zb_f c4, if_pos rfl, zif_f c4]
/-- the label behind a mark that stands at k of tier t -/
theorem c_label2 (hx : cTx M tx n) (ht : cTok M tx n p) {S : zSheet} (hS : cSheet M 14 S) {t k : Nat} (htS : t < S.1) (hk : k < rct (S.2 t)) {v : Int32} (hv : ¬ v = 4) (f : Int32 → zSheet) (hf : ∀ l, f l = sUp S t (tLab (S.2 t) k l)) (hF : rdF M0 M) : cOut tx n M0 ρ (lnLab tx n p S f) (zcI (zrun zP 24 [zR 11 0, zI v, zI (nI t), zI (nI k)] (M, ρ)) (fun r12 s12 => if r12 = 0 ∨ r12 = 1 then zok r12 s12 else none)) := by
  have h6 := hS.2.1
  have hr := (hS.2.2 t htS).1
  have h40 := hr.2.2.2.2.1
  have a1 := nIk (k := t) (N := 6) (by omega) (by omega)
  have a2 := nI_clamp (n := t) (by omega)
  have a3 := nIk (k := k) (N := 40) (by omega) (by omega)
  have a4 := nI_clamp (n := k) (by omega)
  have sw : zrun zP 13 [zR 11 0, zI 4] (M, ρ) = zok (zb (shW tx n p 4)) (M, ρ) := c_isShort hx ht 4 (by omega)
  rw [e_X1_readLabel]
  unfold lnLab
  by_cases c : p < n ∧ isLt (tx p)
  · rw [show (M, ρ).1 11 0 7 = 1 from (tok_w ht).1 c, if_pos rfl, zif_t c, sw, zcI_ok]
    by_cases c1 : shW tx n p 4
    · rw [zb_t c1, if_neg (by decide), zif_f (fun e => e c1)]
      simp only [a1, a2, a3, a4, if_false]
      have h10 : M 11 0 10 = lbV tx n p := (ht.2.2.2.2.1 c.1 c.2).2.2
      have hfr : rowFr M (zms M 22 (6 * 14 + t) k (lbV tx n p)) (6 * 14 + t) := zm_fr22
      have hup := cSheet_up hS htS (c_lab hr k (lbV tx n p)) hfr rfl
      have wf : wsFr M (zms M 22 (6 * 14 + t) k (lbV tx n p)) 14 := sFr_ws (rowFr_s (by omega) hfr)
      obtain ⟨x1, k1⟩ := wsF_tok wf hx ht
      obtain ⟨M2, g1, g2, g3⟩ := c_advance (ρ := ρ) x1 k1
      rw [r_hasMark (σ := (M, ρ)) hr, zcI_ok, zb_t ⟨nI_pos (by omega), nI_lt hk (by omega)⟩, if_neg (by decide), show (M, ρ).1 11 0 10 = _ from h10, g1, zcV_ok, zcI_ok, if_pos (Or.inr rfl), hf]
      exact ⟨M2, rfl, tkFr_tx g3 x1, g2, tkF_sh g3 hup, rdF_tr hF (rdF_tr (wsF_rd wf) (tkF_rd g3))⟩
    · rw [zb_f c1, if_pos rfl, zif_t c1, e_X1_fail, zcI_ok, if_pos (Or.inl rfl), zcI_ok, if_pos (Or.inl rfl), show (M, ρ).1 11 0 8 = _ from ht.1]
      exact fl_out hF
  · rw [show (M, ρ).1 11 0 7 = M 11 0 7 from rfl, if_neg ((tok_w ht).2 c), if_neg hv, zif_f c, zcI_ok, if_pos (Or.inr rfl)]
    exact ⟨M, rfl, hx, ht, hS, hF⟩
end ZCM
