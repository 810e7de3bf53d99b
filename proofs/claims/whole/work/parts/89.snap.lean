/-! snap -/
noncomputable def snF (top : Nat) (P Q : Nat → Prop) (ap : Int32) (k : Nat) (s : zSheet × Nat) : zSheet × Nat := zif (pGo s.1 top Q ap (yk P k)) (sMapA s.1 (fun u => pRoot s.1 u = top) (gShift (nI (yk P k)) (nI (nrv Q (yk P k)))), s.2 + 1) s
def snI (T : zSheet) (s : zSheet × Nat) : Prop := zOk s.1 ∧ sEq T s.1 ∧ (s.2 = 0 → s.1 = T)
section ZSN
variable {T O : zSheet} {n i : Nat} {H : Nat → zSheet} {M M0 : zMem} {σ : zSt} {ρ : Int64 × Nat} {P Q : Nat → Prop}
theorem nrv_pr {y : Nat} (h : ∃ v, pNr Q y v) : pNr Q y (nrv Q y) := Classical.epsilon_spec (p := fun v => pNr Q y v) h
theorem near_ex {y : Nat} (hq : 0 < cnt Q 1000) : ∃ v, pNr Q y v := by
  have key : ∀ n, n ≤ 1000 → 0 < cnt Q n → ∃ v, v < n ∧ Q v ∧ ∀ w, w < n → Q w → dst v y < dst w y ∨ (dst v y = dst w y ∧ v ≤ w) := by
    intro n
    induction n with
    | zero => intro _ h; exact absurd h (Nat.lt_irrefl _)
    | succ n ih =>
      intro hn h
      by_cases c : 0 < cnt Q n
      · obtain ⟨v, v1, v2, v3⟩ := ih (by omega) c
        by_cases q : Q n ∧ dst n y < dst v y
        · refine ⟨n, by omega, q.1, fun w w1 w2 => ?_⟩
          by_cases e : w = n
          · rw [e]; exact Or.inr ⟨rfl, Nat.le_refl _⟩
          · have := v3 w (by omega) w2
            have := q.2
            omega
        · refine ⟨v, by omega, v2, fun w w1 w2 => ?_⟩
          by_cases e : w = n
          · have : ¬ dst n y < dst v y := fun z => q ⟨e ▸ w2, z⟩
            rw [e]
            omega
          · exact v3 w (by omega) w2
      · have q : Q n := Classical.byContradiction (fun e => by rw [cnt_f e] at h; omega)
        refine ⟨n, by omega, q, fun w w1 w2 => ?_⟩
        by_cases e : w = n
        · rw [e]; exact Or.inr ⟨rfl, Nat.le_refl _⟩
        · have := cnt_lt (show w < n by omega) w2
          omega
  obtain ⟨v, v1, v2, v3⟩ := key 1000 (Nat.le_refl _) hq
  exact ⟨v, v1, v2, v3⟩
theorem zfold_s {α : Type} {f : Nat → α → α} {k d : Nat} {a : α} : zfold f k (d + 1) a = zfold f (k + 1) d (f k a) := rfl
theorem sn_step (h6 : T.1 ≤ 6) {top : Nat} {ap : Int32} {k : Nat} (hk : k < cnt P 1000) {s : zSheet × Nat} (h : snI T s) : snI T (snF top P Q ap k s) := by
  obtain ⟨h1, h2, h3⟩ := h
  unfold snF
  by_cases c : pGo s.1 top Q ap (yk P k)
  · rw [zif_t c]
    have hy := yk_e hk
    have hv := nrv_pr (near_ex (y := yk P k) c.1)
    have v9 := hv.1
    have s6 : s.1.1 ≤ 6 := by rw [h2.1]; exact h6
    refine ⟨ok_move h1 s6 (by omega) ⟨nI_pos (by omega), by rw [nI_999 (by omega)]; omega⟩ c.2.2.2, sEq_tr h2 (sMapA_eq (u := s.1.1)), fun e => by simp at e⟩
  · rw [zif_f c]; exact ⟨h1, h2, h3⟩
theorem sn_root {s : zSheet × Nat} (h : snI T s) (u : Nat) : pRoot s.1 u = pRoot T u := zrt_congr (fun u => (h.2.1.2 u).2.2) 6 u
def snSt (M0 : zMem) (T : zSheet) (n : Nat) (H : Nat → zSheet) (M' : zMem) (s : zSheet × Nat) : Prop := (s.2 = 0 ∧ M' = M0) ∨ (0 < s.2 ∧ cSheet M' 0 s.1 ∧ cHist M' (min (n + 1) 12) (hPush T H) ∧ edFr M0 M')
theorem c_sn (h6 : T.1 ≤ 6) (hS : cSheet M0 0 T) (hH : cHist M0 n H) (hP : cTimes M0 1 P) (hQ : cTimes M0 2 Q) {t j : Nat} (ht : t < T.1) (x1 ap : Int32) : ∀ d k s M' v w, k + d = cnt P 1000 → s.2 ≤ k → snI T s → snSt M0 T n H M' s → ∃ M'', zX zP zK_X5_snap (61, [zR 15 i, zI x1, zI ap, zR 12 (6 * 0 + t), zR 12 j, zI (nI s.2), zI (nI k), v, w], []) (M', ρ) = zok (nI (zfold (snF (pRoot T t) P Q ap) k d s).2) (M'', ρ) ∧ snSt M0 T n H M'' (zfold (snF (pRoot T t) P Q ap) k d s) ∧ snI T (zfold (snF (pRoot T t) P Q ap) k d s) := by
  have h80 : cnt P 1000 ≤ 80 := hP.2.1
  intro d
  induction d with
  | zero =>
    intro k s M' v w hk hs hI hSt
    have ed : edFr M0 M' := by
      rcases hSt with ⟨-, e⟩ | ⟨-, -, -, e⟩
      · rw [e]; exact fun _ _ _ _ _ _ => rfl
      · exact e
    refine ⟨M', ?_, hSt, hI⟩
    have e14 : M' 14 1 1 = nI (cnt P 1000) := (ed _ _ _ (by omega) (by omega) (by omega)).trans hP.1
    rw [e_X5_snap_61, show (M', ρ).1 14 1 1 = _ from e14, if_neg (nI_nlt (by omega) (by omega))]
    rfl
  | succ d ih =>
    intro k s M' v w hk hs hI hSt
    have ed : edFr M0 M' := by
      rcases hSt with ⟨-, e⟩ | ⟨-, -, -, e⟩
      · rw [e]; exact fun _ _ _ _ _ _ => rfl
      · exact e
    have cS : cSheet M' 0 s.1 := by
      rcases hSt with ⟨a, e⟩ | ⟨-, e, -, -⟩
      · rw [e, hI.2.2 a]; exact hS
      · exact e
    have tf : ∀ i, i = 1 ∨ i = 2 → ∀ R, cTimes M0 i R → cTimes M' i R := fun i hi R ⟨a, b, c⟩ => ⟨(ed _ _ _ (by omega) (by omega) (by omega)).trans a, b, fun x x1 x2 => (ed _ _ _ (by omega) (by omega) (by omega)).trans (c x x1 x2)⟩
    have hP' := tf 1 (by omega) P hP
    have hQ' := tf 2 (by omega) Q hQ
    have hk' : k < cnt P 1000 := by omega
    obtain ⟨y1, y2, y3⟩ := yk_e hk'
    have ey := hP'.2.2 _ y1 y2
    rw [y3] at ey
    have ein := nIk (k := k) (N := 80) (by omega) (by omega)
    have ecl := nI_clamp (n := k) (by omega)
    have ts : t < s.1.1 := by rw [hI.2.1.1]; exact ht
    have s6 : s.1.1 ≤ 6 := by rw [hI.2.1.1]; exact h6
    have ro := sn_root hI t
    have hro : pRoot T t < 2 ^ 31 := by rw [← ro]; exact pRoot_lt hI.1.1 s6 ts
    have rt : M' 12 (6 * 0 + t) 3 = nI (pRoot T t) := by rw [← ro]; exact (cS.2.2 t ts).2.1
    have gl := c_goal (i := i) (σ := (M', ρ)) cS hQ' hI.1.1 (zOk_wt hI.1) hro (show yk P k ≤ 999 by omega) ap
    have hI' := sn_step (top := pRoot T t) (Q := Q) (ap := ap) h6 hk' hI
    rw [e_X5_snap_61, show (M', ρ).1 14 1 1 = _ from hP'.1, if_pos (nI_lt hk' (by omega))]
    simp only [ecl, ein, if_false]
    rw [ey, rt, gl, zcI_ok, nI_1]
    rw [zfold_s]
    by_cases c : pGo s.1 (pRoot T t) Q ap (yk P k)
    · have es : snF (pRoot T t) P Q ap k s = (sMapA s.1 (fun u => pRoot s.1 u = pRoot T t) (gShift (nI (yk P k)) (nI (nrv Q (yk P k)))), s.2 + 1) := zif_t c
      have v9 := (nrv_pr (near_ex (y := yk P k) c.1)).1
      rw [zif_t c, if_neg (nI_m1 _ (by omega)), es]
      rw [es] at hI'
      rcases hSt with ⟨a, e⟩ | ⟨a, b1, b2, b3⟩
      · obtain ⟨M1, e1, e2, e3⟩ := c_edit (ρ := ρ) hS hH
        have e2' : cSheet M1 0 s.1 := by rw [hI.2.2 a]; exact e2
        have rt1 : M1 12 (6 * 0 + t) 3 = nI (pRoot T t) := by rw [← ro]; exact (e2'.2.2 t ts).2.1
        obtain ⟨M2, g1, g2, g3⟩ := s_shiftStop (ρ := ρ) e2' hI.1.1 (pRoot T t) hro (nI (yk P k)) (nI (nrv Q (yk P k)))
        obtain ⟨l1, l2⟩ := e3 M2 g3
        rw [a, if_pos nI_0, e, e1, zcV_ok, show (M1, ρ).1 12 (6 * 0 + t) 3 = _ from rt1, g1, zcI_ok]
        obtain ⟨M3, k1, k2⟩ := ih (k + 1) (sMapA s.1 (fun u => pRoot s.1 u = pRoot T t) (gShift (nI (yk P k)) (nI (nrv Q (yk P k)))), s.2 + 1) M2 (zI (nI (yk P k))) (zI (nI (nrv Q (yk P k)))) (by omega) (show s.2 + 1 ≤ k + 1 by omega) hI' (Or.inr ⟨Nat.succ_pos _, g2, l1, l2⟩)
        rw [a] at k1 k2
        rw [nI_1]
        exact ⟨M3, k1, k2⟩
      · obtain ⟨M2, g1, g2, g3⟩ := s_shiftStop (ρ := ρ) cS hI.1.1 (pRoot T t) hro (nI (yk P k)) (nI (nrv Q (yk P k)))
        rw [if_neg (fun e => by have := (nI_eq (b := 0) (by omega) (by omega)).mp e; omega), show (M', ρ).1 12 (6 * 0 + t) 3 = _ from rt, g1, zcI_ok, nI_1]
        exact ih (k + 1) (sMapA s.1 (fun u => pRoot s.1 u = pRoot T t) (gShift (nI (yk P k)) (nI (nrv Q (yk P k)))), s.2 + 1) M2 (zI (nI (yk P k))) (zI (nI (nrv Q (yk P k)))) (by omega) (show s.2 + 1 ≤ k + 1 by omega) hI' (Or.inr ⟨Nat.succ_pos _, g2, cHist_s g3 b2, edFr_tr b3 (sFr_ed g3)⟩)
    · have es : snF (pRoot T t) P Q ap k s = s := zif_f c
      rw [zif_f c, if_pos rfl, es]
      exact ih (k + 1) s M' _ _ (by omega) (by omega) hI hSt
theorem m_sn (h6 : T.1 ≤ 6) (hP : mTimes M0 37 P) (hQ : mTimes M0 38 Q) (p80 : cnt P 1000 ≤ 80) (q80 : cnt Q 1000 ≤ 80) {t : Nat} (ht : t < T.1) (ap x3 : Int32) : ∀ d k s M' v, k + d = cnt P 1000 → s.2 ≤ k → snI T s → mSheet M' 31 s.1 → oFr M0 M' → ∃ M'' v', zX zP zK_X6_snap (90, [zR 16 i, zI (nI t), zI ap, zI x3, zI (nI (cnt P 1000)), zI (nI (cnt Q 1000)), zI (nI s.2), zI (nI k), v], []) (M', ρ) = (if (zfold (snF (pRoot T t) P Q ap) k d s).2 = 0 then zok 0 (M'', ρ) else zcV (zrun zP 188 [zR 16 i] (M'', ρ)) (fun s6 => zX zP zK_X6_snap (215, [zR 16 i, zI (nI t), zI ap, zI x3, zI (nI (cnt P 1000)), zI (nI (cnt Q 1000)), zI (nI (zfold (snF (pRoot T t) P Q ap) k d s).2), zI 0, v'], []) s6)) ∧ mSheet M'' 31 (zfold (snF (pRoot T t) P Q ap) k d s).1 ∧ oFr M0 M'' := by
  intro d
  induction d with
  | zero =>
    intro k s M' v hk hs hI hm hf
    refine ⟨M', v, ?_, hm, hf⟩
    rw [e_X6_snap_90, if_neg (nI_nlt (by omega) (by omega))]
    show _ = (if s.2 = 0 then zok 0 (M', ρ) else zcV (zrun zP 188 [zR 16 i] (M', ρ)) (fun s6 => zX zP zK_X6_snap (215, [zR 16 i, zI (nI t), zI ap, zI x3, zI (nI (cnt P 1000)), zI (nI (cnt Q 1000)), zI (nI s.2), zI 0, v], []) s6))
    by_cases e : s.2 = 0
    · rw [if_pos (show nI s.2 = 0 by rw [e]; rfl), if_pos e]
    · rw [if_neg (show ¬ nI s.2 = 0 from fun q => e ((nI_eq (b := 0) (by omega) (by omega)).mp q)), if_neg e]
  | succ d ih =>
    intro k s M' v hk hs hI hm hf
    have hk' : k < cnt P 1000 := by omega
    obtain ⟨y1, y2, y3⟩ := yk_e hk'
    have ey : M' 37 0 k = nI (yk P k) := by
      have := hP _ y1 y2
      rw [y3] at this
      exact (hf _ _ _ (by omega)).trans this
    have hQ' : mTimes M' 38 Q := fun w w1 w2 => (hf _ _ _ (by omega)).trans (hQ w w1 w2)
    have ein := nIk (k := k) (N := 80) (by omega) (by omega)
    have ecl := nI_clamp (n := k) (by omega)
    have ts : t < s.1.1 := by rw [hI.2.1.1]; exact ht
    have s6 : s.1.1 ≤ 6 := by rw [hI.2.1.1]; exact h6
    have ro := sn_root hI t
    have hro : pRoot T t < 2 ^ 31 := by rw [← ro]; exact pRoot_lt hI.1.1 s6 ts
    have top := m_topOf (i := i) (σ := (M', ρ)) hm hI.1.1 ts
    rw [ro] at top
    obtain ⟨b, g1, g2⟩ := m_nearest (a := 37) (σ := (M', ρ)) rfl hQ' q80 (show yk P k ≤ 999 by omega)
    have hI' := sn_step (top := pRoot T t) (Q := Q) (ap := ap) h6 hk' hI
    have skip : ¬ pGo s.1 (pRoot T t) Q ap (yk P k) → ∀ v', ∃ M'' v'', zX zP zK_X6_snap (90, [zR 16 i, zI (nI t), zI ap, zI x3, zI (nI (cnt P 1000)), zI (nI (cnt Q 1000)), zI (nI s.2), zI (nI (k + 1)), v'], []) (M', ρ) = (if (zfold (snF (pRoot T t) P Q ap) (k + 1) d (snF (pRoot T t) P Q ap k s)).2 = 0 then zok 0 (M'', ρ) else zcV (zrun zP 188 [zR 16 i] (M'', ρ)) (fun s6 => zX zP zK_X6_snap (215, [zR 16 i, zI (nI t), zI ap, zI x3, zI (nI (cnt P 1000)), zI (nI (cnt Q 1000)), zI (nI (zfold (snF (pRoot T t) P Q ap) (k + 1) d (snF (pRoot T t) P Q ap k s)).2), zI 0, v''], []) s6)) ∧ mSheet M'' 31 (zfold (snF (pRoot T t) P Q ap) (k + 1) d (snF (pRoot T t) P Q ap k s)).1 ∧ oFr M0 M'' := fun c v' => by
      rw [show snF (pRoot T t) P Q ap k s = s from zif_f c]
      exact ih (k + 1) s M' v' (by omega) (by omega) hI hm hf
    rw [e_X6_snap_90, if_pos (nI_lt hk' (by omega))]
    simp only [ecl, ein, if_false]
    rw [ey, show zrun zP 215 [zR 38 0, zI (nI (cnt Q 1000)), zI (nI (yk P k))] (M', ρ) = zok b (M', ρ) from g1, zcI_ok, nI_1]
    rw [zfold_s]
    rcases g2 with ⟨z1, z2⟩ | ⟨w, w1, w2⟩
    · rw [if_pos z2]
      exact skip (fun e => by have := e.1; omega) _
    · have ew := nrv_e w2
      have w9 := w2.1
      rw [w1, if_neg (nI_m1 _ (by omega)), show (M', ρ).1 37 0 k = _ from ey]
      by_cases c1 : w = yk P k
      · rw [if_pos (by rw [c1])]
        exact skip (fun e => e.2.1 (by rw [ew]; exact c1)) _
      · rw [if_neg (fun e => c1 ((nI_eq (by omega) (by omega)).mp e)), abs_n (by omega) (by omega)]
        by_cases c2 : ap < nI (dst w (yk P k))
        · rw [if_pos c2]
          exact skip (fun e => e.2.2.1 (by rw [ew]; exact c2)) _
        · rw [if_neg c2, top, zcI_ok, show (M', ρ).1 37 0 k = _ from ey, m_mayMove (σ := (M', ρ)) hm hI.1.1 hro (show yk P k ≤ 999 by omega), zcI_ok]
          by_cases c3 : pMayMove s.1 (pRoot T t) (yk P k) (nI w)
          · have go : pGo s.1 (pRoot T t) Q ap (yk P k) := ⟨by
              have := w2.2.1
              have := cnt_lt w9 w2.2.1
              omega, by rw [ew]; exact c1, by rw [ew]; exact c2, by rw [ew]; exact c3⟩
            have es : snF (pRoot T t) P Q ap k s = (sMapA s.1 (fun u => pRoot s.1 u = pRoot T t) (gShift (nI (yk P k)) (nI w)), s.2 + 1) := by
              rw [← ew]; exact zif_t go
            obtain ⟨M2, l1, l2, l3⟩ := m_moves (i := i) (ρ := ρ) hm hI.1.1 (pRoot T t) hro (nI (yk P k)) (nI w)
            rw [es] at hI'
            rw [zb_t c3, if_neg (by decide), top, zcI_ok, show (M', ρ).1 37 0 k = _ from ey, l1, zcV_ok, nI_1, es]
            exact ih (k + 1) (sMapA s.1 (fun u => pRoot s.1 u = pRoot T t) (gShift (nI (yk P k)) (nI w)), s.2 + 1) M2 _ (by omega) (show s.2 + 1 ≤ k + 1 by omega) hI' l2 (oFr_tr hf l3)
          · rw [zb_f c3, if_pos rfl]
            exact skip (fun e => c3 (ew ▸ e.2.2.2)) _
end ZSN
