/-! a line of a tier, the class's side -/
abbrev zLo := (Int32 × Nat) ⊕ (zSheet × Nat)
noncomputable def kdW (tx : Nat → Int32) (n p : Nat) : Int32 := zif (wordIs tx n p (zstr 1)) 0 (zif (wordIs tx n p (zstr 2)) 1 (zif (wordIs tx n p (zstr 3)) 2 (zif (wordIs tx n p (zstr 4)) 3 (-1))))
/-- behind the kind: at s -/
noncomputable def lnPar (tx : Nat → Int32) (n : Nat) (T : zSheet) (nm : Nat) (kd : Int32) (s : Nat) : zLo :=
  zif (¬ shW tx n s 6) (.inl (1, s)) (zif (ixN T (nmv tx n s) = -1) (.inl (5, s)) (zif (rkd (T.2 (ixN T (nmv tx n s)).toNatClampNeg) = 3) (.inl (5, s)) (.inr (sAdd T (nI nm) kd (ixN T (nmv tx n s)), nx tx n s))))
noncomputable def lnKind (tx : Nat → Int32) (n : Nat) (T : zSheet) (nm r : Nat) : zLo :=
  zif (kdW tx n r = -1) (.inl (1, r)) (zif (kdW tx n r = 0 ∨ (kdW tx n r = 3 ∧ ¬ (nx tx n r < n ∧ isLt (tx (nx tx n r))))) (.inr (sAdd T (nI nm) (kdW tx n r) (-1), nx tx n r)) (lnPar tx n T nm (kdW tx n r) (nx tx n r)))
noncomputable def lnTier (tx : Nat → Int32) (n : Nat) (T : zSheet) (p : Nat) : zLo :=
  zif (¬ T.1 < 6) (.inl (3, p)) (zif (¬ shW tx n (nx tx n p) 6) (.inl (1, nx tx n p)) (zif (¬ ixN T (nmv tx n (nx tx n p)) = -1) (.inl (4, nx tx n p)) (lnKind tx n T (nmv tx n (nx tx n p)) (nx tx n (nx tx n p)))))
/-- what reading may change -/
def rdF (M M' : zMem) : Prop := ∀ k j q, ¬ (k = 11 ∧ j = 0 ∧ 6 ≤ q ∧ q ≤ 11) → ¬ (k = 13 ∧ j = 14) → ¬ (84 ≤ j ∧ j < 90 ∧ (k = 12 ∨ k = 20 ∨ k = 21 ∨ k = 22)) → M' k j q = M k j q
def rdB (M M' : zMem) : Prop := ∀ k j q, ¬ (k = 11 ∧ j = 0 ∧ (q = 3 ∨ q = 4 ∨ (6 ≤ q ∧ q ≤ 11))) → ¬ (k = 13 ∧ j = 14) → ¬ (84 ≤ j ∧ j < 90 ∧ (k = 12 ∨ k = 20 ∨ k = 21 ∨ k = 22)) → M' k j q = M k j q
def cOut (tx : Nat → Int32) (n : Nat) (M : zMem) (ρ : Int64 × Nat) (out : zLo) (r : zRes) : Prop := match out with
  | .inl (k, q) => ∃ M', r = zok 0 (M', ρ) ∧ M' 11 0 3 = k ∧ M' 11 0 4 = nI q ∧ rdB M M'
  | .inr (T', q) => ∃ M', r = zok 1 (M', ρ) ∧ cTx M' tx n ∧ cTok M' tx n q ∧ cSheet M' 14 T' ∧ rdF M M'
section ZCT
variable {tx : Nat → Int32} {n p : Nat} {T : zSheet} {M M0 : zMem} {ρ : Int64 × Nat}
theorem rdF_tr {M1 M2 : zMem} (h1 : rdF M M1) (h2 : rdF M1 M2) : rdF M M2 := fun k j q a b c => (h2 k j q a b c).trans (h1 k j q a b c)
theorem tkF_rd {M' : zMem} (h : tkFr M M') : rdF M M' := fun k j q a b c => h k j q (by omega)
theorem wsF_rd {M' : zMem} (h : wsFr M M' 14) : rdF M M' := fun k j q a b c => h k j q (by omega)
theorem rdF_B {M' : zMem} (h : rdF M M') : rdB M M' := fun k j q a b c => h k j q (by omega) b c
theorem rdB_tr {M1 M2 : zMem} (h1 : rdB M M1) (h2 : rdB M1 M2) : rdB M M2 := fun k j q a b c => (h2 k j q a b c).trans (h1 k j q a b c)
theorem flM_rd {k : Int32} {q : Nat} : rdB M (flM M k q) := fun a j z h1 h2 h3 => (zms_ne (by omega)).trans (zms_ne (by omega))
theorem tkF_sh {M' : zMem} (h : tkFr M M') (hs : cSheet M 14 T) : cSheet M' 14 T := cSheet_congr (fun k j q e => h k j q (by omega)) hs
theorem wsF_tok {M' : zMem} (h : wsFr M M' 14) (hx : cTx M tx n) (ht : cTok M tx n p) : cTx M' tx n ∧ cTok M' tx n p := by
  have e : ∀ q, M' 11 0 q = M 11 0 q := fun q => h _ _ _ (by omega)
  have e2 : ∀ q, M' 27 0 q = M 27 0 q := fun q => h _ _ _ (by omega)
  refine ⟨⟨hx.1, (e _).trans hx.2.1, fun q hq => (e2 _).trans (hx.2.2 q hq)⟩, ?_⟩
  unfold cTok
  simp only [e]
  exact ht
theorem fl_out {k : Int32} {q : Nat} (h : rdF M0 M) : cOut tx n M0 ρ (.inl (k, q)) (zok 0 (flM M k q, ρ)) := ⟨flM M k q, rfl, (zms_ne (by omega)).trans zms_eq, zms_eq, rdB_tr (rdF_B h) flM_rd⟩
theorem c_kind (hx : cTx M tx n) (ht : cTok M tx n p) : zrun zP 17 [zR 11 0] (M, ρ) = zok (kdW tx n p) (M, ρ) := by
  rw [e_X1_kindThere, c_isWord hx ht (by omega), zcI_ok]
  unfold kdW
  by_cases c1 : wordIs tx n p (zstr 1)
  · rw [zb_t c1, if_neg (by decide), zif_t c1]
  · rw [zb_f c1, if_pos rfl, zif_f c1, c_isWord hx ht (by omega), zcI_ok]
    by_cases c2 : wordIs tx n p (zstr 2)
    · rw [zb_t c2, if_neg (by decide), zif_t c2]
    · rw [zb_f c2, if_pos rfl, zif_f c2, c_isWord hx ht (by omega), zcI_ok]
      by_cases c3 : wordIs tx n p (zstr 3)
      · rw [zb_t c3, if_neg (by decide), zif_t c3]
      · rw [zb_f c3, if_pos rfl, zif_f c3, c_isWord hx ht (by omega), zcI_ok]
        by_cases c4 : wordIs tx n p (zstr 4)
        · rw [zb_t c4, if_neg (by decide), zif_t c4]
        · rw [zb_f c4, if_pos rfl, zif_f c4]
theorem kdW_v : kdW tx n p = 0 ∨ kdW tx n p = 1 ∨ kdW tx n p = 2 ∨ kdW tx n p = 3 ∨ kdW tx n p = -1 := by
  unfold kdW
  by_cases c1 : wordIs tx n p (zstr 1)
  · rw [zif_t c1]; exact Or.inl rfl
  · rw [zif_f c1]
    by_cases c2 : wordIs tx n p (zstr 2)
    · rw [zif_t c2]; exact Or.inr (Or.inl rfl)
    · rw [zif_f c2]
      by_cases c3 : wordIs tx n p (zstr 3)
      · rw [zif_t c3]; exact Or.inr (Or.inr (Or.inl rfl))
      · rw [zif_f c3]
        by_cases c4 : wordIs tx n p (zstr 4)
        · rw [zif_t c4]; exact Or.inr (Or.inr (Or.inr (Or.inl rfl)))
        · rw [zif_f c4]; exact Or.inr (Or.inr (Or.inr (Or.inr rfl)))
theorem ixN_n {x : Nat} (h6 : T.1 ≤ 6) (h : ¬ ixN T x = -1) : ∃ q, q < T.1 ∧ ixN T x = nI q := by
  unfold ixN zfI at h ⊢
  cases hz : zfst (fun t => rnm (T.2 t) = nI x) 0 T.1 with
  | none => rw [hz] at h; exact absurd rfl h
  | some q =>
    obtain ⟨z1, z2, -⟩ := (zfst_spec _ _ _).mp hz
    exact ⟨q, by omega, rfl⟩
theorem c_parent (hx : cTx M tx n) (ht : cTok M tx n p) (hS : cSheet M 14 T) (hw : zwp T) (h6 : T.1 < 6) {kd : Int32} (hkd : kd = 1 ∨ kd = 2 ∨ kd = 3) (nm : Nat) (hf : rdF M0 M) : cOut tx n M0 ρ (lnPar tx n T nm kd p) (zrun zP 20 [zR 11 0, zI (nI nm), zI kd] (M, ρ)) := by
  obtain ⟨t1, t2, t3⟩ := c_tierThere (ρ := ρ) hx ht hS
  rw [e_X1_readParent]
  unfold lnPar
  by_cases c1 : shW tx n p 6
  · rw [zif_f (fun e => e c1)]
    by_cases c2 : ixN T (nmv tx n p) = -1
    · rw [zif_t c2, t2 c1 c2, zcI_ok, if_pos rfl]
      exact fl_out hf
    · obtain ⟨q, q1, q2⟩ := ixN_n (by omega) c2
      have a1 := nIk (k := q) (N := 6) (by omega) (by omega)
      have a2 := nI_clamp (n := q) (by omega)
      rw [zif_f c2, t1 c1 c2, zcI_ok, if_neg c2, q2]
      simp only [a1, a2, if_false]
      rw [(hS.2.2 q q1).1.2.1]
      by_cases c3 : rkd (T.2 q) = 3
      · rw [if_pos c3, zif_t c3, e_X1_fail, zcI_ok, if_pos (Or.inl rfl), ht.1]
        exact fl_out hf
      · obtain ⟨M1, g1, g2, g3⟩ := s_addTier (ρ := ρ) (nm := nI nm) hS hw h6 (kd := kd) (pr := nI q) (Or.inr (Or.inr ⟨hkd, q, q1, rfl, c3⟩))
        obtain ⟨x1, k1⟩ := wsF_tok g3 hx ht
        obtain ⟨M2, l1, l2, l3⟩ := c_advance (ρ := ρ) x1 k1
        rw [if_neg c3, zif_f c3, g1, zcV_ok, l1, zcV_ok]
        exact ⟨M2, rfl, tkFr_tx l3 x1, l2, tkF_sh l3 g2, rdF_tr hf (rdF_tr (wsF_rd g3) (tkF_rd l3))⟩
  · rw [zif_t c1, t3 c1, zcI_ok, if_pos rfl]
    exact fl_out hf
theorem c_tierLine (hx : cTx M tx n) (ht : cTok M tx n p) (hS : cSheet M 14 T) (hw : zwp T) : cOut tx n M ρ (lnTier tx n T p) (zrun zP 19 [zR 11 0] (M, ρ)) := by
  have h6 := hS.2.1
  have rf : rdF M M := fun _ _ _ _ _ _ => rfl
  rw [e_X1_readTierLine, show (M, ρ).1 13 14 0 = _ from hS.1]
  unfold lnTier
  by_cases c0 : T.1 < 6
  · rw [if_pos (show nI T.1 < 6 from (nI_lt c0 (by omega) : nI T.1 < nI 6)), zif_f (fun e => e c0)]
    obtain ⟨M1, g1, g2, g3⟩ := c_advance (ρ := ρ) hx ht
    have x1 := tkFr_tx g3 hx
    have s1 := tkF_sh g3 hS
    have f1 := tkF_rd g3
    have sw : zrun zP 13 [zR 11 0, zI 6] (M1, ρ) = zok (zb (shW tx n (nx tx n p) 6)) (M1, ρ) := c_isShort x1 g2 6 (by omega)
    rw [g1, zcV_ok, sw, zcI_ok]
    by_cases c1 : shW tx n (nx tx n p) 6
    · rw [zb_t c1, if_neg (by decide), zif_f (fun e => e c1), (c_name x1 g2 c1).1, zcI_ok, s_indexOf (σ := (M1, ρ)) s1, zcI_ok, show zfI (fun t => rnm (T.2 t) = nI (nmv tx n (nx tx n p))) T.1 = ixN T (nmv tx n (nx tx n p)) from rfl]
      by_cases c2 : ixN T (nmv tx n (nx tx n p)) = -1
      · rw [if_pos c2, zif_f (fun e => e c2)]
        obtain ⟨M2, l1, l2, l3⟩ := c_advance (ρ := ρ) x1 g2
        have x2 := tkFr_tx l3 x1
        have s2 := tkF_sh l3 s1
        have f2 := rdF_tr f1 (tkF_rd l3)
        rw [l1, zcV_ok, c_kind x2 l2, zcI_ok]
        unfold lnKind
        by_cases c3 : kdW tx n (nx tx n (nx tx n p)) = -1
        · rw [if_pos c3, zif_t c3, e_X1_fail, zcI_ok, if_pos (Or.inl rfl), show (M2, ρ).1 11 0 8 = _ from l2.1]
          exact fl_out f2
        · rw [if_neg c3, zif_f c3]
          obtain ⟨M3, k1, k2, k3⟩ := c_advance (ρ := ρ) x2 l2
          have x3 := tkFr_tx k3 x2
          have s3 := tkF_sh k3 s2
          have f3 := rdF_tr f2 (tkF_rd k3)
          rw [k1, zcV_ok]
          have fin : ∀ kd, (kd = 0 ∨ kd = 3) → cOut tx n M ρ (.inr (sAdd T (nI (nmv tx n (nx tx n p))) kd (-1), nx tx n (nx tx n (nx tx n p)))) (zcV (zrun zP 56 [zR 13 14, zI (nI (nmv tx n (nx tx n p))), zI kd, zI (-1)] (M3, ρ)) (fun s10 => zok 1 s10)) := fun kd hkd => by
            obtain ⟨M4, e1, e2, e3⟩ := s_addTier (ρ := ρ) (nm := nI (nmv tx n (nx tx n p))) s3 hw c0 (kd := kd) (pr := -1) (by
              rcases hkd with z | z
              · exact Or.inl ⟨z, rfl⟩
              · exact Or.inr (Or.inl ⟨z, rfl⟩))
            obtain ⟨y1, y2⟩ := wsF_tok e3 x3 k2
            rw [e1, zcV_ok]
            exact ⟨M4, rfl, y1, y2, e2, rdF_tr f3 (wsF_rd e3)⟩
          have par : ∀ kd, (kd = 1 ∨ kd = 2 ∨ kd = 3) → cOut tx n M ρ (lnPar tx n T (nmv tx n (nx tx n p)) kd (nx tx n (nx tx n (nx tx n p)))) (zcI (zrun zP 20 [zR 11 0, zI (nI (nmv tx n (nx tx n p))), zI kd] (M3, ρ)) (fun r13 s13 => if r13 = 0 ∨ r13 = 1 then zok r13 s13 else none)) := fun kd hkd => by
            have h := c_parent (ρ := ρ) x3 k2 s3 hw c0 hkd (nmv tx n (nx tx n p)) f3
            revert h
            generalize lnPar tx n T (nmv tx n (nx tx n p)) kd (nx tx n (nx tx n (nx tx n p))) = out
            generalize zrun zP 20 [zR 11 0, zI (nI (nmv tx n (nx tx n p))), zI kd] (M3, ρ) = rr
            intro h
            match out, h with
            | .inl (k, q), ⟨M', a, bb⟩ => rw [a, zcI_ok, if_pos (Or.inl rfl)]; exact ⟨M', rfl, bb⟩
            | .inr (T', q), ⟨M', a, bb⟩ => rw [a, zcI_ok, if_pos (Or.inr rfl)]; exact ⟨M', rfl, bb⟩
          rcases kdW_v (tx := tx) (n := n) (p := nx tx n (nx tx n p)) with e | e | e | e | e
          · rw [e, if_pos rfl, zif_t (Or.inl rfl)]
            exact fin 0 (Or.inl rfl)
          · rw [e, if_neg (by decide), if_neg (by decide), zif_f (fun z => z.elim (by decide) (fun z => absurd z.1 (by decide)))]
            exact par 1 (Or.inl rfl)
          · rw [e, if_neg (by decide), if_neg (by decide), zif_f (fun z => z.elim (by decide) (fun z => absurd z.1 (by decide)))]
            exact par 2 (Or.inr (Or.inl rfl))
          · rw [e, if_neg (by decide), if_pos rfl]
            by_cases c5 : nx tx n (nx tx n (nx tx n p)) < n ∧ isLt (tx (nx tx n (nx tx n (nx tx n p))))
            · rw [show (M3, ρ).1 11 0 7 = 1 from (tok_w k2).1 c5, if_pos rfl, zif_f (fun z => z.elim (by decide) (fun z => z.2 c5))]
              exact par 3 (Or.inr (Or.inr rfl))
            · rw [show (M3, ρ).1 11 0 7 = M3 11 0 7 from rfl, if_neg ((tok_w k2).2 c5), zif_t (Or.inr ⟨rfl, c5⟩)]
              exact fin 3 (Or.inr rfl)
          · exact absurd e c3
      · rw [if_neg c2, zif_t c2, e_X1_fail, zcI_ok, if_pos (Or.inl rfl), show (M1, ρ).1 11 0 8 = _ from g2.1]
        exact fl_out f1
    · rw [zb_f c1, if_pos rfl, zif_t c1, e_X1_fail, zcI_ok, if_pos (Or.inl rfl), show (M1, ρ).1 11 0 8 = _ from g2.1]
      exact fl_out f1
  · rw [if_neg (show ¬ nI T.1 < 6 from (nI_nlt (by omega) (by omega) : ¬ nI T.1 < nI 6)), zif_t c0, e_X1_fail, zcI_ok, if_pos (Or.inl rfl), show (M, ρ).1 11 0 8 = _ from ht.1]
    exact fl_out rf
end ZCT
