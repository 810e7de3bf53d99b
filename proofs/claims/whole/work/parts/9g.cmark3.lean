/-! a line of a mark, the class: joined -/
section ZCN3
variable {tx : Nat → Int32} {n p : Nat} {T : zSheet} {M M0 : zMem} {ρ : Int64 × Nat}
theorem c_markLine (ok : zOk T) (hx : cTx M tx n) (ht : cTok M tx n p) (hS : cSheet M 14 T) : cOut tx n M ρ (lnMark tx n T p) (zrun zP 21 [zR 11 0] (M, ρ)) := by
  have h6 := hS.2.1
  have rf : rdF M M := fun _ _ _ _ _ _ => rfl
  rw [e_X1_readMarkLine, c_verb hx ht, zcI_ok]
  unfold lnMark
  by_cases c0 : vbW tx n p = -1
  · rw [if_pos c0, zif_t c0, e_X1_fail, zcI_ok, if_pos (Or.inl rfl), show (M, ρ).1 11 0 8 = _ from ht.1]
    exact fl_out rf
  · rw [if_neg c0, zif_f c0]
    have vv := vbW_v (tx := tx) (n := n) (p := p)
    generalize vbW tx n p = v at c0 vv ⊢
    obtain ⟨M1, g1, g2, g3⟩ := c_advance (ρ := ρ) hx ht
    have x1 := tkFr_tx g3 hx
    have s1 := tkF_sh g3 hS
    have f1 := tkF_rd g3
    obtain ⟨t1, t2, t3⟩ := c_tierThere (ρ := ρ) x1 g2 s1
    rw [g1, zcV_ok]
    unfold lnKno
    by_cases c1 : shW tx n (nx tx n p) 6
    · rw [zif_f (fun e => e c1)]
      by_cases c2 : ixN T (nmv tx n (nx tx n p)) = -1
      · rw [zif_t c2, t2 c1 c2, zcI_ok, if_pos rfl]
        exact fl_out f1
      · obtain ⟨t, ht1, ht2⟩ := ixN_n h6 c2
        rw [zif_f c2, t1 c1 c2, zcI_ok, if_neg c2, ht2, nI_clamp (show t < 2 ^ 31 by omega)]
        obtain ⟨M2, l1, l2, l3⟩ := c_advance (ρ := ρ) x1 g2
        have x2 := tkFr_tx l3 x1
        have s2 := tkF_sh l3 s1
        have f2 := rdF_tr f1 (tkF_rd l3)
        obtain ⟨u1, u2, u3⟩ := c_time (ρ := ρ) l2
        rw [l1, zcV_ok]
        unfold lnTim
        by_cases c3 : isTm tx n (nx tx n (nx tx n p))
        · rw [zif_f (fun e => e c3)]
          by_cases c4 : nmT tx n (nx tx n (nx tx n p)) ≤ 999
          · obtain ⟨w1, w2⟩ := u1 c3 c4
            rw [zif_f (fun e => e c4), w1, zcI_ok, if_neg (by decide)]
            obtain ⟨M3, k1, k2, k3⟩ := c_advance (ρ := ρ) x2 l2
            have x3 := tkFr_tx k3 x2
            have s3 := tkF_sh k3 s2
            have f3 := rdF_tr f2 (tkF_rd k3)
            rw [k1, zcV_ok, show (M2, ρ).1 11 0 11 = _ from w2, show (M1, ρ).1 11 0 8 = _ from g2.1]
            unfold lnVrb
            rcases vv with e | e | e | e | e
            · rw [e, if_pos rfl, if_pos rfl]
              unfold lnPut
              obtain ⟨a1, a2, a3⟩ := c_time (ρ := ρ) k2
              by_cases c5 : isTm tx n (nx tx n (nx tx n (nx tx n p)))
              · rw [zif_f (fun e => e c5)]
                by_cases c6 : nmT tx n (nx tx n (nx tx n (nx tx n p))) ≤ 999
                · obtain ⟨b1, b2⟩ := a1 c5 c6
                  rw [b1, zcI_ok, if_neg (by decide), show (M3, ρ).1 11 0 11 = _ from b2]
                  by_cases c7 : nmT tx n (nx tx n (nx tx n p)) < nmT tx n (nx tx n (nx tx n (nx tx n p)))
                  · rw [if_pos (nI_lt c7 (by omega)), zif_f (fun e => e ⟨c6, c7⟩)]
                    obtain ⟨M4, m1, m2, m3⟩ := c_advance (ρ := ρ) x3 k2
                    rw [m1, zcV_ok]
                    exact c_tail1 ok (tkFr_tx m3 x3) m2 (tkF_sh m3 s3) ht1 _ _ _ (rdF_tr f3 (tkF_rd m3))
                  · rw [if_neg (nI_nlt (by omega) (by omega)), zif_t (fun e => c7 e.2), e_X1_fail, zcI_ok, if_pos (Or.inl rfl), show (M3, ρ).1 11 0 8 = _ from k2.1]
                    exact fl_out f3
                · rw [a2 c5 c6, zcI_ok, if_pos rfl, zif_t (fun e => c6 e.1)]
                  exact fl_out f3
              · rw [zif_t c5, a3 c5, zcI_ok, if_pos rfl]
                exact fl_out f3
            · rw [e, if_neg (by decide), if_pos rfl, if_neg (by decide)]
              exact c_tail2 ok x3 k2 s3 ht1 _ _ f3
            · rw [e, if_neg (by decide), if_neg (by decide), if_pos rfl, if_neg (by decide)]
              exact c_tail3 ok x3 k2 s3 ht1 _ _ f3
            · rw [e, if_neg (by decide), if_neg (by decide), if_neg (by decide), if_neg (by decide)]
              exact c_tail4 x3 k2 s3 ht1 _ _ f3
            · exact absurd e c0
          · rw [zif_t c4, u2 c3 c4, zcI_ok, if_pos rfl]
            exact fl_out f2
        · rw [zif_t c3, u3 c3, zcI_ok, if_pos rfl]
          exact fl_out f2
    · rw [zif_t c1, t3 c1, zcI_ok, if_pos rfl]
      exact fl_out f1
end ZCN3
