/-! the relation between class and reference; a call answers alike -/
def inR (r : zTier) (f g : Int32) : Prop := ∃ k, k < rct r ∧ rfr r k = f ∧ rto r k = g
/-- marks of a row stand in order, beside each other -/
def zSrt (r : zTier) : Prop := (∀ k, k < rct r → (rkd r = 3 ∧ rto r k = rfr r k) ∨ (¬ rkd r = 3 ∧ rfr r k < rto r k)) ∧ ∀ j k, j < k → k < rct r → ¬ rfr r k < rto r j
def zLb (r : zTier) : Prop := ∀ k, k < rct r → ∃ v, v < 2 ^ 31 ∧ rlb r k = nI v
def zRo (r : zTier) : Prop := zSrt r ∧ zRt r ∧ zLb r
/-- each mark of a tier with a parent lies in one of the parent -/
def zNs (T : zSheet) : Prop := ∀ t, t < T.1 → ¬ rpr (T.2 t) = -1 → ∀ f g, inR (T.2 t) f g → ∃ F G, inR (T.2 (zpt T t)) F G ∧ ¬ f < F ∧ ¬ G < g
def zOk (T : zSheet) : Prop := zwp T ∧ zwk T ∧ zwq T ∧ (∀ t, t < T.1 → zRo (T.2 t)) ∧ zNs T
def zKept (M : zMem) : Prop := (M 15 0 2 = 0 ∧ M 16 0 7 = 0) ∨ (M 15 0 2 = 1 ∧ M 16 0 7 = 1 ∧ ∃ O, cSheet M 1 O ∧ mSheet M 32 O ∧ zOk O)
def zTape (M : zMem) : Prop := ∃ c, c ≤ 400 ∧ M 11 0 1 = nI c ∧ M 16 0 10 = nI c ∧ (∀ q, q < c → M 27 0 q = M 35 0 q ∧ Int8.toInt32 (Int32.toInt8 (M 35 0 q)) = M 35 0 q) ∧ M 11 0 4 = M 16 0 16
def zRefu (M : zMem) : Prop := ∀ e, e < 3 → M 15 0 (9 + e) = M 30 0 e
def Rs (M : zMem) (T : zSheet) (n : Nat) (H : Nat → zSheet) : Prop := (cSheet M 0 T ∧ mSheet M 31 T ∧ zOk T) ∧ (cHist M n H ∧ mHist M 0 n H ∧ ∀ j, j < n → zOk (H j)) ∧ zKept M ∧ zTape M ∧ zRefu M
def zRel (M : zMem) : Prop := ∃ T n H, Rs M T n H
def zAg (c m : Nat) (args : List zAV) (cd : Nat → Int32) (M : zMem) : Prop := ∀ ρ ρ' : Int64 × Nat, (∃ x M1 M2, zrun zP c (zR 15 0 :: args) (M, ρ) = zok x (M1, ρ) ∧ zrun zP m (zR 16 0 :: args) (M1, ρ') = zok x (M2, ρ') ∧ M2 16 0 0 = 0 ∧ zRel M2) ∨ (∃ e M1 M2, e < 3 ∧ cd e ≠ 0 ∧ zrun zP c (zR 15 0 :: args) (M, ρ) = some (.inr e, (M1, ρ.1, ρ.2 + 1)) ∧ zrun zP m (zR 16 0 :: args) (M1, ρ') = zok 0 (M2, ρ') ∧ M2 16 0 0 = cd e ∧ zRel M2)
theorem zOk_wt {T : zSheet} (h : zOk T) : zwt T := fun t ht => (h.2.2.2.1 t ht).2.1
theorem zOk_po {T : zSheet} (h : zOk T) : zpo T := fun t ht h3 k hk => by
  rcases (h.2.2.2.1 t ht).1.1 k hk with e | e
  · exact e.2
  · exact absurd h3 e.1
theorem zOk_la {T : zSheet} (h : zOk T) : pLast T := fun t ht k hk => by
  obtain ⟨s1, s2⟩ := (h.2.2.2.1 t ht).1
  by_cases e : k = rct (T.2 t) - 1
  · rw [← e, iI_lt]; omega
  · have q := s2 k (rct (T.2 t) - 1) (by omega) (by omega)
    have q2 : ¬ rto (T.2 t) (rct (T.2 t) - 1) < rfr (T.2 t) (rct (T.2 t) - 1) := by
      rcases s1 (rct (T.2 t) - 1) (by omega) with e | e
      · rw [e.2, iI_lt]; omega
      · have := e.2; rw [iI_lt] at this ⊢; omega
    rw [iI_lt] at q q2 ⊢
    omega
theorem cSheet_lo {M M' : zMem} {s : Nat} {T : zSheet} (hf : ∀ k j q, ((k = 13 ∧ j = s ∧ q = 0) ∨ (6 * s ≤ j ∧ j < 6 * s + 6 ∧ (k = 12 ∨ k = 20 ∨ k = 21 ∨ k = 22))) → M' k j q = M k j q) (h : cSheet M s T) : cSheet M' s T := by
  obtain ⟨h1, h6, h2⟩ := h
  refine ⟨(hf _ _ _ (Or.inl ⟨rfl, rfl, rfl⟩)).trans h1, h6, fun t ht => ?_⟩
  obtain ⟨⟨r0, r1, r2, r3, r4, r5⟩, a, b⟩ := h2 t ht
  have e : ∀ k q, (k = 12 ∨ k = 20 ∨ k = 21 ∨ k = 22) → M' k (6 * s + t) q = M k (6 * s + t) q := fun k q hk => hf _ _ _ (Or.inr ⟨by omega, by omega, hk⟩)
  exact ⟨⟨(e _ _ (by omega)).trans r0, (e _ _ (by omega)).trans r1, (e _ _ (by omega)).trans r2, (e _ _ (by omega)).trans r3, r4, fun k hk => ⟨(e _ _ (by omega)).trans (r5 k hk).1, (e _ _ (by omega)).trans (r5 k hk).2.1, (e _ _ (by omega)).trans (r5 k hk).2.2⟩⟩, (e _ _ (by omega)).trans a, (e _ _ (by omega)).trans b⟩
theorem cHist_congr {M M' : zMem} {n : Nat} {H : Nat → zSheet} (hf : ∀ k j q, (k = 10 ∨ k = 12 ∨ k = 13 ∨ k = 20 ∨ k = 21 ∨ k = 22) → M' k j q = M k j q) (h : cHist M n H) : cHist M' n H := by
  obtain ⟨hn, N, hN, h1, h2, h3⟩ := h
  exact ⟨hn, N, hN, (hf _ _ _ (by omega)).trans h1, (hf _ _ _ (by omega)).trans h2, fun j hj => cSheet_congr (fun k j q hk => hf k j q (by omega)) (h3 j hj)⟩
theorem mHist_congr {M M' : zMem} {n : Nat} {H : Nat → zSheet} (h6 : M' 16 0 6 = M 16 0 6) (hf : ∀ q, M' 34 0 q = M 34 0 q) (h : mHist M 0 n H) : mHist M' 0 n H := by
  obtain ⟨hn, h1, h2⟩ := h
  exact ⟨hn, h6.trans h1, fun j hj => mSheet_congr (fun q hq => hf _) (h2 j hj)⟩
/-- what else is kept -/
def reFr (M M' : zMem) : Prop := ∀ k j q, (k = 15 ∨ (k = 16 ∧ j = 0 ∧ (q = 7 ∨ q = 10 ∨ q = 16)) ∨ (k = 11 ∧ j = 0) ∨ (k = 13 ∧ j = 1) ∨ (6 ≤ j ∧ j < 12 ∧ (k = 12 ∨ k = 20 ∨ k = 21 ∨ k = 22)) ∨ k = 32 ∨ k = 27 ∨ k = 35 ∨ k = 30) → M' k j q = M k j q
theorem reFr_tr {M M1 M2 : zMem} (h1 : reFr M M1) (h2 : reFr M1 M2) : reFr M M2 := fun k j q h => (h2 k j q h).trans (h1 k j q h)
theorem reKept {M M' : zMem} (hf : reFr M M') (h : zKept M) : zKept M' := by
  rcases h with ⟨a, b⟩ | ⟨a, b, O, o1, o2, o3⟩
  · exact Or.inl ⟨(hf _ _ _ (by omega)).trans a, (hf _ _ _ (by omega)).trans b⟩
  · exact Or.inr ⟨(hf _ _ _ (by omega)).trans a, (hf _ _ _ (by omega)).trans b, O, cSheet_lo (fun k j q e => hf k j q (by omega)) o1, mSheet_congr (fun q hq => hf _ _ _ (by omega)) o2, o3⟩
theorem reTape {M M' : zMem} (hf : reFr M M') (h : zTape M) : zTape M' := by
  obtain ⟨c, c1, c2, c3, c4, c5⟩ := h
  refine ⟨c, c1, (hf _ _ _ (by omega)).trans c2, (hf _ _ _ (by omega)).trans c3, fun q hq => ?_, ?_⟩
  · rw [hf _ _ _ (by omega), hf _ _ _ (by omega)]; exact c4 q hq
  · rw [hf _ _ _ (by omega), hf _ _ _ (by omega)]; exact c5
theorem reRefu {M M' : zMem} (hf : reFr M M') (h : zRefu M) : zRefu M' := fun e he => by
  rw [hf _ _ _ (by omega), hf _ _ _ (by omega)]; exact h e he
/-- what a class's edit may change, the reference kept -/
def cxFr (M M' : zMem) : Prop := reFr M M' ∧ ∀ k j q, (k = 31 ∨ k = 34 ∨ k = 16) → M' k j q = M k j q
theorem cxFr_tr {M M1 M2 : zMem} (h1 : cxFr M M1) (h2 : cxFr M1 M2) : cxFr M M2 := ⟨reFr_tr h1.1 h2.1, fun k j q h => (h2.2 k j q h).trans (h1.2 k j q h)⟩
theorem edFr_cx {M M' : zMem} (h : edFr M M') : cxFr M M' := ⟨fun k j q e => h k j q (by omega) (by omega) (by omega), fun k j q e => h k j q (by omega) (by omega) (by omega)⟩
theorem tFr_cx {M M' : zMem} {i : Nat} (h : tFr M M' i) : cxFr M M' := ⟨fun k j q e => h k j q (by omega) (by omega), fun k j q e => h k j q (by omega) (by omega)⟩
theorem emFr_re {M M' : zMem} (h : emFr M M' 0) : reFr M M' := fun k j q e => h k j q (by omega) (by omega) (by omega)
section ZRL
variable {T T' : zSheet} {n : Nat} {H : Nat → zSheet} {M M1 M2 : zMem}
theorem hPush_ok (h : zOk T) (hH : ∀ j, j < n → zOk (H j)) : ∀ j, j < min (n + 1) 12 → zOk (hPush T H j) := by
  intro j hj
  cases j with
  | zero => exact h
  | succ j => exact hH j (by omega)
theorem R_edit (hR : Rs M T n H) (hok : zOk T') (c1 : cSheet M1 0 T') (c2 : cHist M1 (min (n + 1) 12) (hPush T H)) (c3 : cxFr M M1) (m1 : mSheet M2 31 T') (m2 : mHist M2 0 (min (n + 1) 12) (hPush T H)) (m3 : emFr M1 M2 0) : zRel M2 := by
  obtain ⟨⟨a1, a2, a3⟩, ⟨b1, b2, b3⟩, k1, k2, k3⟩ := hR
  have hf := reFr_tr c3.1 (emFr_re m3)
  exact ⟨T', _, _, ⟨cSheet_congr (fun k j q e => m3 k j q (by omega) (by omega) (by omega)) c1, m1, hok⟩, ⟨cHist_congr (fun k j q e => m3 k j q (by omega) (by omega) (by omega)) c2, m2, hPush_ok a3 b3⟩, reKept hf k1, reTape hf k2, reRefu hf k3⟩
/-- what answering may change -/
def scFr (M M' : zMem) : Prop := ∀ k j q, (k < 14 ∨ k = 15 ∨ (k = 16 ∧ q ≠ 0) ∨ (17 ≤ k ∧ k ≤ 22) ∨ k = 27 ∨ k = 30 ∨ k = 31 ∨ k = 32 ∨ k = 34 ∨ k = 35) → M' k j q = M k j q
theorem scFr_rf : scFr M M := fun _ _ _ _ => rfl
theorem scFr_tr (h1 : scFr M M1) (h2 : scFr M1 M2) : scFr M M2 := fun k j q h => (h2 k j q h).trans (h1 k j q h)
theorem scFr_z : scFr M (zms M 16 0 0 0) := fun k j q h => zms_ne (by omega)
theorem scFr_t {i : Nat} (h : tFr M M1 i) : scFr M M1 := fun k j q e => h k j q (by omega) (by omega)
theorem scFr_re (h : scFr M M1) : reFr M M1 := fun k j q e => h k j q (by omega)
theorem Rs_sc (hR : Rs M T n H) (hf : scFr M M1) : Rs M1 T n H := by
  obtain ⟨⟨a1, a2, a3⟩, ⟨b1, b2, b3⟩, k1, k2, k3⟩ := hR
  have hr := scFr_re hf
  exact ⟨⟨cSheet_congr (fun k j q e => hf k j q (by omega)) a1, mSheet_congr (fun q hq => hf _ _ _ (by omega)) a2, a3⟩, ⟨cHist_congr (fun k j q e => hf k j q (by omega)) b1, mHist_congr (hf _ _ _ (by omega)) (fun q => hf _ _ _ (by omega)) b2, b3⟩, reKept hr k1, reTape hr k2, reRefu hr k3⟩
/-- the memory behind a refusal of the class -/
def rfM (M : zMem) (e : Nat) : zMem := zms M 15 0 (9 + e) (M 15 0 (9 + e) + 1)
theorem cTh_r {e : Nat} {ρ : Int64 × Nat} : cTh e 0 (M, ρ) = some (.inr e, (rfM M e, ρ.1, ρ.2 + 1)) := rfl
theorem rfM_m {e : Nat} (h : mSheet M 31 T) : mSheet (rfM M e) 31 T := mSheet_congr (fun q hq => zms_ne (by omega)) h
theorem R_refuse (hR : Rs M T n H) {e : Nat} (he : e < 3) (c : Int32) (ρ : Int64 × Nat) : zRel (mTh 0 c e (zms (rfM M e) 16 0 0 0, ρ)).1 := by
  obtain ⟨⟨a1, a2, a3⟩, ⟨b1, b2, b3⟩, k1, k2, k3⟩ := hR
  show zRel (zms (zms (zms (rfM M e) 16 0 0 0) 16 0 0 c) 30 0 e ((zms (rfM M e) 16 0 0 0) 30 0 e + 1))
  have hf : ∀ k j q, ¬ (k = 15 ∧ j = 0 ∧ q = 9 + e) → ¬ (k = 16 ∧ j = 0 ∧ q = 0) → ¬ (k = 30 ∧ j = 0 ∧ q = e) → zms (zms (zms (rfM M e) 16 0 0 0) 16 0 0 c) 30 0 e ((zms (rfM M e) 16 0 0 0) 30 0 e + 1) k j q = M k j q := by
    intro k j q h1 h2 h3
    rw [zms_ne (by omega), zms_ne (by omega), zms_ne (by omega)]
    exact zms_ne (by omega)
  refine ⟨T, n, H, ⟨cSheet_congr (fun k j q e => hf k j q (by omega) (by omega) (by omega)) a1, mSheet_congr (fun q hq => hf _ _ _ (by omega) (by omega) (by omega)) a2, a3⟩, ⟨cHist_congr (fun k j q e => hf k j q (by omega) (by omega) (by omega)) b1, mHist_congr (hf _ _ _ (by omega) (by omega) (by omega)) (fun q => hf _ _ _ (by omega) (by omega) (by omega)) b2, b3⟩, ?_, ?_, ?_⟩
  · rcases k1 with ⟨a, b⟩ | ⟨a, b, O, o1, o2, o3⟩
    · exact Or.inl ⟨(hf _ _ _ (by omega) (by omega) (by omega)).trans a, (hf _ _ _ (by omega) (by omega) (by omega)).trans b⟩
    · exact Or.inr ⟨(hf _ _ _ (by omega) (by omega) (by omega)).trans a, (hf _ _ _ (by omega) (by omega) (by omega)).trans b, O, cSheet_congr (fun k j q e => hf k j q (by omega) (by omega) (by omega)) o1, mSheet_congr (fun q hq => hf _ _ _ (by omega) (by omega) (by omega)) o2, o3⟩
  · obtain ⟨c, c1, c2, c3, c4, c5⟩ := k2
    refine ⟨c, c1, (hf _ _ _ (by omega) (by omega) (by omega)).trans c2, (hf _ _ _ (by omega) (by omega) (by omega)).trans c3, fun q hq => ?_, ?_⟩
    · rw [hf _ _ _ (by omega) (by omega) (by omega), hf _ _ _ (by omega) (by omega) (by omega)]; exact c4 q hq
    · rw [hf _ _ _ (by omega) (by omega) (by omega), hf _ _ _ (by omega) (by omega) (by omega)]; exact c5
  · intro f hf3
    by_cases ef : f = e
    · subst ef
      rw [zms_eq, zms_ne (by omega), zms_ne (by omega), zms_ne (by omega), zms_ne (by omega)]
      show zms M 15 0 (9 + f) (M 15 0 (9 + f) + 1) 15 0 (9 + f) = zms M 15 0 (9 + f) (M 15 0 (9 + f) + 1) 30 0 f + 1
      rw [zms_eq, zms_ne (by omega), k3 f hf3]
    · rw [hf _ _ _ (by omega) (by omega) (by omega), hf _ _ _ (by omega) (by omega) (by omega)]
      exact k3 f hf3
variable {c m : Nat} {args : List zAV} {cd : Nat → Int32}
theorem ag_ref (hR : Rs M T n H) {e : Nat} (he : e < 3) (hc : ∀ ρ, zrun zP c (zR 15 0 :: args) (M, ρ) = cTh e 0 (M, ρ)) (hm : ∀ ρ', zrun zP m (zR 16 0 :: args) (rfM M e, ρ') = zok 0 (mTh 0 (cd e) e (zms (rfM M e) 16 0 0 0, ρ'))) (hz : cd e ≠ 0 := by decide) : zAg c m args cd M := by
  intro ρ ρ'
  refine Or.inr ⟨e, rfM M e, (mTh 0 (cd e) e (zms (rfM M e) 16 0 0 0, ρ')).1, he, hz, hc ρ, hm ρ', ?_, R_refuse hR he _ _⟩
  show zms (zms (zms (rfM M e) 16 0 0 0) 16 0 0 (cd e)) 30 0 e ((zms (rfM M e) 16 0 0 0) 30 0 e + 1) 16 0 0 = cd e
  rw [zms_ne (by omega), zms_eq]
theorem ag_read (hR : Rs M T n H) {x : Int32} (hc : ∀ ρ, ∃ M1, zrun zP c (zR 15 0 :: args) (M, ρ) = zok x (M1, ρ) ∧ scFr M M1) (hm : ∀ M1 ρ', Rs M1 T n H → ∃ M2, zrun zP m (zR 16 0 :: args) (M1, ρ') = zok x (M2, ρ') ∧ scFr M1 M2 ∧ M2 16 0 0 = 0) : zAg c m args cd M := by
  intro ρ ρ'
  obtain ⟨M1, h1, h2⟩ := hc ρ
  have hR1 := Rs_sc hR h2
  obtain ⟨M2, g1, g2, g3⟩ := hm M1 ρ' hR1
  exact Or.inl ⟨x, M1, M2, h1, g1, g3, T, n, H, Rs_sc hR1 g2⟩
theorem ag_edit (hR : Rs M T n H) (hok : zOk T') {x : Int32} (hc : ∀ ρ, ∃ M1, zrun zP c (zR 15 0 :: args) (M, ρ) = zok x (M1, ρ) ∧ cSheet M1 0 T' ∧ cHist M1 (min (n + 1) 12) (hPush T H) ∧ cxFr M M1) (hm : ∀ M1 ρ', mSheet M1 31 T → mHist M1 0 n H → mEd M1 0 n H T T' x ρ' (zrun zP m (zR 16 0 :: args) (M1, ρ'))) : zAg c m args cd M := by
  intro ρ ρ'
  obtain ⟨M1, h1, h2, h3, h4⟩ := hc ρ
  have hmS : mSheet M1 31 T := mSheet_congr (fun q hq => h4.2 _ _ _ (by omega)) hR.1.2.1
  have hmH : mHist M1 0 n H := mHist_congr (h4.2 _ _ _ (by omega)) (fun q => h4.2 _ _ _ (by omega)) hR.2.1.2.1
  obtain ⟨M2, g1, g2, g3, g4, g5⟩ := hm M1 ρ' hmS hmH
  exact Or.inl ⟨x, M1, M2, h1, g1, g4, R_edit hR hok h2 h3 h4 g2 g3 g5⟩
theorem cEd_x {x : Int32} {ρ : Int64 × Nat} {r : zRes} (h : cEd M n H T T' x ρ r) : ∃ M1, r = zok x (M1, ρ) ∧ cSheet M1 0 T' ∧ cHist M1 (min (n + 1) 12) (hPush T H) ∧ cxFr M M1 := by
  obtain ⟨M1, h1, h2, h3, h4⟩ := h
  exact ⟨M1, h1, h2, h3, edFr_cx h4⟩
end ZRL
