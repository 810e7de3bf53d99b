/-! a tier more, class and reference -/
section ZCA
variable {T : zSheet} {nm kd pr : Int32} {s i : Nat} {M : zMem} {ρ : Int64 × Nat}
/-- rows of a sheet that are not in use -/
theorem cSheet_new {v : Int32} {q : Nat} (h : cSheet M s T) : cSheet (zms M 12 (6 * s + T.1) q v) s T := by
  obtain ⟨h1, h6, h2⟩ := h
  refine ⟨(zms_ne (by omega)).trans h1, h6, fun t ht => ?_⟩
  obtain ⟨⟨r0, r1, r2, r3, r4, r5⟩, a, b⟩ := h2 t ht
  exact ⟨⟨(zms_ne (by omega)).trans r0, (zms_ne (by omega)).trans r1, (zms_ne (by omega)).trans r2, (zms_ne (by omega)).trans r3, r4, fun k hk => ⟨(zms_ne (by omega)).trans (r5 k hk).1, (zms_ne (by omega)).trans (r5 k hk).2.1, (zms_ne (by omega)).trans (r5 k hk).2.2⟩⟩, (zms_ne (by omega)).trans a, (zms_ne (by omega)).trans b⟩
theorem cSheet_rw {M' : zMem} (h : cSheet M s T) (h6 : T.1 < 6) (hf : rowFr M M' (6 * s + T.1)) : cSheet M' s T := by
  obtain ⟨h1, h6', h2⟩ := h
  refine ⟨(hf _ _ _ (by omega)).trans h1, h6', fun t ht => ?_⟩
  obtain ⟨r, a, b⟩ := h2 t ht
  exact ⟨cRow_kept r hf (by omega), (hf _ _ _ (by omega)).trans a, (hf _ _ _ (by omega)).trans b⟩
/-- the new row stands, its number not yet counted -/
def nwS (M : zMem) (T : zSheet) (s : Nat) (nm kd pr : Int32) (r : zTier) : Prop := cSheet M s T ∧ cRow M (6 * s + T.1) r ∧ M 12 (6 * s + T.1) 3 = nI (pRoot (sAdd T nm kd pr) T.1) ∧ M 12 (6 * s + T.1) 4 = nI (pDep (sAdd T nm kd pr) T.1)
theorem nwS_end (hw : zwp T) (h6 : T.1 < 6) (h : nwS M T s nm kd pr (nwR T nm kd pr)) : cSheet (zms M 13 s 0 (nI (T.1 + 1))) s (sAdd T nm kd pr) := by
  obtain ⟨h1, h2, h3, h4⟩ := h
  have cg : ∀ j t, cRow M j t → cRow (zms M 13 s 0 (nI (T.1 + 1))) j t := fun j t ⟨r0, r1, r2, r3, r4, r5⟩ => ⟨(zms_ne (by omega)).trans r0, (zms_ne (by omega)).trans r1, (zms_ne (by omega)).trans r2, (zms_ne (by omega)).trans r3, r4, fun k hk => ⟨(zms_ne (by omega)).trans (r5 k hk).1, (zms_ne (by omega)).trans (r5 k hk).2.1, (zms_ne (by omega)).trans (r5 k hk).2.2⟩⟩
  refine ⟨zms_eq, h6, fun t ht => ?_⟩
  by_cases c : t = T.1
  · rw [c, sAdd_n]
    exact ⟨cg _ _ h2, (zms_ne (by omega)).trans h3, (zms_ne (by omega)).trans h4⟩
  · have ht' : t < T.1 := by have : t < T.1 + 1 := ht; omega
    rw [sAdd_o c]
    obtain ⟨r, a, b⟩ := h1.2.2 t ht'
    obtain ⟨e1, e2⟩ := sAdd_rt (nm := nm) (kd := kd) (pr := pr) hw (by omega) 6 t ht'
    refine ⟨cg _ _ r, (zms_ne (by omega)).trans ?_, (zms_ne (by omega)).trans ?_⟩
    · rw [a]; exact congrArg nI e1.symm
    · rw [b]; exact congrArg nI e2.symm
theorem wsFr_z {v : Int32} {q : Nat} (h6 : T.1 < 6) : wsFr M (zms M 12 (6 * s + T.1) q v) s := fun k j z h => zms_ne (by omega)
theorem rowFr_ws {M' : zMem} (h6 : T.1 < 6) (h : rowFr M M' (6 * s + T.1)) : wsFr M M' s := fun k j z hne => h k j z (by omega)
theorem add_loop (h6 : T.1 < 6) {q : Nat} (hq : q < T.1) (x1 x2 x3 : Int32) : ∀ d k M', k + d = rct (T.2 q) → nwS M' T s nm kd pr (tCp (eRow nm kd pr) (T.2 q) k) → ∃ M'', zX zP zK_X3_addTier (126, [zR 13 s, zI x1, zI x2, zI x3, zR 12 (6 * s + T.1), zR 12 (6 * s + q), zI (nI k)], []) (M', ρ) = zvd (zms M'' 13 s 0 (nI (T.1 + 1)), ρ) ∧ nwS M'' T s nm kd pr (tCp (eRow nm kd pr) (T.2 q) (rct (T.2 q))) ∧ wsFr M' M'' s := by
  intro d
  induction d with
  | zero =>
    intro k M' hk h
    have hr := (h.1.2.2 q hq).1
    have h40 := hr.2.2.2.2.1
    refine ⟨M', ?_, by rw [show rct (T.2 q) = k by omega]; exact h, wsFr_rf⟩
    rw [e_X3_addTier_126, show (M', ρ).1 12 (6 * s + q) 5 = _ from hr.2.2.2.1, if_neg (nI_nlt (by omega) (by omega)), show (M', ρ).1 13 s 0 = _ from h.1.1, nI_1]
  | succ d ih =>
    intro k M' hk h
    have hr := (h.1.2.2 q hq).1
    have h40 := hr.2.2.2.2.1
    have f := hr.2.2.2.2.2 k (by omega)
    have c1 := nIk (k := k) (N := 40) (by omega) (by omega)
    have c2 := nI_clamp (n := k) (by omega)
    have ct : rct (tCp (eRow nm kd pr) (T.2 q) k) = k := by rw [(tCp_3 k).2.2.2]; show 0 + k = k; omega
    obtain ⟨M1, g1, g2, g3⟩ := r_insert (ρ := ρ) h.2.1 (by rw [ct]; omega) (rfr (T.2 q) k) (rto (T.2 q) k) 0
    obtain ⟨M2, k1, k2, k3⟩ := ih (k + 1) M1 (by omega) ⟨cSheet_rw h.1 h6 g3, g2, (g3 _ _ _ (by omega)).trans h.2.2.1, (g3 _ _ _ (by omega)).trans h.2.2.2⟩
    refine ⟨M2, ?_, k2, wsFr_tr (rowFr_ws h6 g3) k3⟩
    rw [e_X3_addTier_126, show (M', ρ).1 12 (6 * s + q) 5 = _ from hr.2.2.2.1, if_pos (nI_lt (by omega) (by omega))]
    simp only [c1, c2, if_false]
    rw [f.1, f.2.1, g1, zcI_ok, nI_1]
    exact k1
theorem s_addTier (h : cSheet M s T) (hw : zwp T) (h6 : T.1 < 6) (hk : kpOk T kd pr) : ∃ M', zrun zP 56 [zR 13 s, zI nm, zI kd, zI pr] (M, ρ) = zvd (M', ρ) ∧ cSheet M' s (sAdd T nm kd pr) ∧ wsFr M M' s := by
  have c1 := nIk (k := T.1) (N := 6) h6 (by omega)
  have c2 := nI_clamp (n := T.1) (by omega)
  have A := cSheet_new (v := pr) (q := 2) (cSheet_new (v := kd) (q := 1) (cSheet_new (v := nm) (q := 0) h))
  obtain ⟨nw1, nw2⟩ := sAdd_new (nm := nm) (kd := kd) (pr := pr) hw h6
  have base : ∀ (r3 d4 : Int32), r3 = nI (pRoot (sAdd T nm kd pr) T.1) → d4 = nI (pDep (sAdd T nm kd pr) T.1) → nwS (zms (zms (zms (zms (zms (zms M 12 (6 * s + T.1) 0 nm) 12 (6 * s + T.1) 1 kd) 12 (6 * s + T.1) 2 pr) 12 (6 * s + T.1) 3 r3) 12 (6 * s + T.1) 4 d4) 12 (6 * s + T.1) 5 0) T s nm kd pr (eRow nm kd pr) := fun r3 d4 e3 e4 => by
    refine ⟨cSheet_new (cSheet_new (cSheet_new A)), ⟨?_, ?_, ?_, zms_eq, Nat.zero_le _, fun k hk => absurd hk (Nat.not_lt_zero _)⟩, ?_, ?_⟩
    · rw [zms_ne (by omega), zms_ne (by omega), zms_ne (by omega), zms_ne (by omega), zms_ne (by omega), zms_eq]; rfl
    · rw [zms_ne (by omega), zms_ne (by omega), zms_ne (by omega), zms_ne (by omega), zms_eq]; rfl
    · rw [zms_ne (by omega), zms_ne (by omega), zms_ne (by omega), zms_eq]; rfl
    · rw [zms_ne (by omega), zms_ne (by omega), zms_eq, e3]
    · rw [zms_ne (by omega), zms_eq, e4]
  have bfr : ∀ (r3 d4 : Int32), wsFr M (zms (zms (zms (zms (zms (zms M 12 (6 * s + T.1) 0 nm) 12 (6 * s + T.1) 1 kd) 12 (6 * s + T.1) 2 pr) 12 (6 * s + T.1) 3 r3) 12 (6 * s + T.1) 4 d4) 12 (6 * s + T.1) 5 0) s := fun r3 d4 k j z hne => by
    rw [zms_ne (by omega), zms_ne (by omega), zms_ne (by omega), zms_ne (by omega), zms_ne (by omega), zms_ne (by omega)]
  have cfr : ∀ (N : zMem), wsFr M N s → wsFr M (zms N 13 s 0 (nI (T.1 + 1))) s := fun N hN k j z hne => (zms_ne (by omega)).trans (hN k j z hne)
  rw [e_X3_addTier, show (M, ρ).1 13 s 0 = _ from h.1, if_pos (show nI T.1 < 6 from (nI_lt h6 (by omega) : nI T.1 < nI 6))]
  simp only [c1, c2, if_false]
  have sh := fun (N : zMem) (hN : cSheet N s T) => s_hasTier (σ := (N, ρ)) hN pr
  have hS : ∀ (N : zMem), cSheet N s T → N 13 s 0 = nI T.1 := fun N hN => hN.1
  rcases hk with ⟨k1, k2⟩ | ⟨k1, k2⟩ | ⟨k0, q, q1, q2, q3⟩
  · have hf : zb (¬ pr < 0 ∧ pr < nI T.1) = 0 := zb_f (fun e => e.1 (by rw [k2]; decide))
    obtain ⟨n1, n2⟩ := nw1 k2
    have en : nwR T nm kd pr = eRow nm kd pr := if_neg (by rw [k1]; decide)
    have B := base (nI T.1) 0 (by rw [n1]) (by rw [n2]; rfl)
    refine ⟨_, ?_, nwS_end hw h6 (en ▸ B), cfr _ (bfr _ _)⟩
    rw [sh _ A, zcI_ok, hf, if_pos rfl, show (zms (zms (zms M 12 (6 * s + T.1) 0 nm) 12 (6 * s + T.1) 1 kd) 12 (6 * s + T.1) 2 pr, ρ).1 13 s 0 = _ from A.1, sh _ (cSheet_new A), zcI_ok, hf, if_pos rfl, if_neg (show ¬ kd = 1 by rw [k1]; decide)]
    dsimp only
    rw [hS _ (cSheet_new A), nI_1]
  · have hf : zb (¬ pr < 0 ∧ pr < nI T.1) = 0 := zb_f (fun e => e.1 (by rw [k2]; decide))
    obtain ⟨n1, n2⟩ := nw1 k2
    have en : nwR T nm kd pr = eRow nm kd pr := if_neg (by rw [k1]; decide)
    have B := base (nI T.1) 0 (by rw [n1]) (by rw [n2]; rfl)
    refine ⟨_, ?_, nwS_end hw h6 (en ▸ B), cfr _ (bfr _ _)⟩
    rw [sh _ A, zcI_ok, hf, if_pos rfl, show (zms (zms (zms M 12 (6 * s + T.1) 0 nm) 12 (6 * s + T.1) 1 kd) 12 (6 * s + T.1) 2 pr, ρ).1 13 s 0 = _ from A.1, sh _ (cSheet_new A), zcI_ok, hf, if_pos rfl, if_neg (show ¬ kd = 1 by rw [k1]; decide)]
    dsimp only
    rw [hS _ (cSheet_new A), nI_1]
  · subst q2
    have ht : zb (¬ nI q < 0 ∧ nI q < nI T.1) = 1 := zb_t ⟨nI_pos (by omega), nI_lt q1 (by omega)⟩
    obtain ⟨n1, n2⟩ := nw2 q q1 rfl
    have c3 := nIk (k := q) (N := 6) (by omega) (by omega)
    have c4 := nI_clamp (n := q) (by omega)
    have r3 := (A.2.2 q q1).2.1
    have A3 := cSheet_new (v := nI (pRoot T q)) (q := 3) A
    have r4 := (A3.2.2 q q1).2.2
    have B := base (nI (pRoot T q)) (nI (pDep T q + 1)) (by rw [n1]) (by rw [n2])
    have A5 := B.1
    rw [sh _ A, zcI_ok, ht, if_neg (by decide)]
    simp only [c3, c4, if_false]
    rw [r3, sh _ A3, zcI_ok, ht, if_neg (by decide)]
    simp only [c3, c4, if_false]
    rw [r4, nI_1]
    by_cases c5 : kd = 1
    · have en : nwR T nm kd (nI q) = tCp (eRow nm kd (nI q)) (T.2 q) (rct (T.2 q)) := by
        unfold nwR
        rw [if_pos c5, nI_clamp (by omega)]
      obtain ⟨M2, g1, g2, g3⟩ := add_loop (ρ := ρ) h6 q1 nm kd (nI q) (rct (T.2 q)) 0 _ (by omega) B
      rw [nI_0] at g1
      refine ⟨_, ?_, nwS_end hw h6 (en ▸ g2), cfr _ (wsFr_tr (bfr _ _) g3)⟩
      rw [if_pos c5, sh _ A5, zcI_ok, ht, if_neg (by decide)]
      exact g1
    · have en : nwR T nm kd (nI q) = eRow nm kd (nI q) := if_neg c5
      refine ⟨_, ?_, nwS_end hw h6 (en ▸ B), cfr _ (bfr _ _)⟩
      rw [if_neg c5, hS _ A3, nI_1]
end ZCA
