/-! how the reference reads -/
def mTx (M : zMem) (tx : Nat → Int32) (n : Nat) : Prop := n ≤ 400 ∧ M 16 0 11 = nI n ∧ ∀ q, q < n → M 36 0 q = tx q
def ms (M : zMem) (p : Nat) (b f w : Int32) : Prop := M 16 0 12 = nI p ∧ M 16 0 13 = b ∧ M 16 0 14 = f ∧ M 16 0 15 = w
def nxF (M M' : zMem) : Prop := ∀ k j q, ¬ (k = 16 ∧ j = 0 ∧ 12 ≤ q ∧ q ≤ 15) → M' k j q = M k j q
theorem nxF_rf {M : zMem} : nxF M M := fun _ _ _ _ => rfl
theorem nxF_tr {M M1 M2 : zMem} (h1 : nxF M M1) (h2 : nxF M1 M2) : nxF M M2 := fun k j q h => (h2 k j q h).trans (h1 k j q h)
section ZMK
variable {tx : Nat → Int32} {n p : Nat} {b f w : Int32} {M : zMem} {T : zSheet} {σ : zSt} {ρ : Int64 × Nat}
theorem nxF_tx {M' : zMem} (h : nxF M M') (ht : mTx M tx n) : mTx M' tx n := ⟨ht.1, (h _ _ _ (by omega)).trans ht.2.1, fun q hq => (h _ _ _ (by omega)).trans (ht.2.2 q hq)⟩
theorem nxF_sh {M' : zMem} (h : nxF M M') (hs : mSheet M 31 T) : mSheet M' 31 T := mSheet_congr (fun q hq => h _ _ _ (by omega)) hs
noncomputable def sgv (tx : Nat → Int32) (n q : Nat) : Int32 := zif (q < n) (tx q) 0
theorem m_sign_loop : ∀ d q M', n - q = d → q ≤ n → mTx M' tx n → ms M' q b f w → ∃ M'', zX zP zK_X6_sign (0, [zR 16 0], []) (M', ρ) = zok (sgv tx n (sk tx n q)) (M'', ρ) ∧ ms M'' (sk tx n q) b f w ∧ nxF M' M'' := by
  intro d
  induction d with
  | zero =>
    intro q M' hd hq hx hm
    have hs : ¬ (q < n ∧ tx q = 32) := fun e => by have := e.1; omega
    have hn := hx.1
    rw [sk_id hs]
    refine ⟨M', ?_, hm, nxF_rf⟩
    rw [e_X6_sign_0, show (M', ρ).1 16 0 12 = _ from hm.1, show (M', ρ).1 16 0 11 = _ from hx.2.1, if_neg (nI_nlt (by omega) (by omega)), if_neg (nI_nlt (by omega) (by omega)), show sgv tx n q = 0 from zif_f (by omega)]
  | succ d ih =>
    intro q M' hd hq hx hm
    have hn := hx.1
    have hqn : q < n := by omega
    have ein := nIk (k := q) (N := 400) (by omega) (by omega)
    have ecl := nI_clamp (n := q) (by omega)
    rw [e_X6_sign_0, show (M', ρ).1 16 0 12 = _ from hm.1, show (M', ρ).1 16 0 11 = _ from hx.2.1, if_pos (nI_lt hqn (by omega))]
    simp only [ecl, ein, if_false]
    rw [hx.2.2 q hqn]
    by_cases hs : tx q = 32
    · have es : sk tx n q = sk tx n (q + 1) := eE_t (c := fun q => q < n ∧ tx q = 32) ⟨hqn, hs⟩ hqn
      obtain ⟨M2, g1, g2, g3⟩ := ih (q + 1) (zms M' 16 0 12 (nI (q + 1))) (by omega) (by omega) ⟨hn, (zms_ne (by omega)).trans hx.2.1, fun z hz => (zms_ne (by omega)).trans (hx.2.2 z hz)⟩ ⟨zms_eq, (zms_ne (by omega)).trans hm.2.1, (zms_ne (by omega)).trans hm.2.2.1, (zms_ne (by omega)).trans hm.2.2.2⟩
      rw [← es] at g1 g2
      refine ⟨M2, ?_, g2, fun k j z h => (g3 k j z h).trans (zms_ne (by omega))⟩
      rw [if_pos hs, nI_1]
      exact g1
    · rw [if_neg hs, if_pos (nI_lt hqn (by omega)), sk_id (fun e => hs e.2), show sgv tx n q = tx q from zif_t hqn]
      exact ⟨M', rfl, hm, nxF_rf⟩
theorem m_sign (hp : p ≤ n) (hx : mTx M tx n) (hm : ms M p b f w) : ∃ M', zrun zP 169 [zR 16 0] (M, ρ) = zok (sgv tx n (sk tx n p)) (M', ρ) ∧ ms M' (sk tx n p) b f w ∧ nxF M M' := by
  obtain ⟨M2, g1, g2, g3⟩ := m_sign_loop (ρ := ρ) _ p M rfl hp hx hm
  exact ⟨M2, ((e_X6_sign 0 (M, ρ)).trans (e_X6_sign_0 0 (M, ρ)).symm).trans g1, g2, g3⟩
theorem m_isSmall (hx : mTx σ.1 tx n) {q : Nat} (hq : q < 2 ^ 31) : zrun zP 170 [zR 16 0, zI (nI q)] σ = zok (zb (q < n ∧ isLt (tx q))) σ := by
  have hn := hx.1
  rw [e_X6_isSmall, hx.2.1]
  by_cases c : q < n
  · have ein := nIk (k := q) (N := 400) (by omega) (by omega)
    have ecl := nI_clamp (n := q) (by omega)
    rw [if_pos (nI_lt c (by omega))]
    simp only [ecl, ein, if_false]
    rw [hx.2.2 q c]
    by_cases c1 : tx q < 97
    · rw [if_pos c1, zb_f (fun e => e.2.1 c1)]
    · rw [if_neg c1]
      by_cases c2 : 122 < tx q
      · rw [if_pos c2, zb_f (fun e => e.2.2 c2)]
      · rw [if_neg c2, zb_t ⟨c, c1, c2⟩]
  · rw [if_neg (nI_nlt (by omega) hq), zb_f (fun e => c e.1)]
theorem m_wrong0 (hm : ms M p b 0 w) (k x : Int32) : ∃ M', zrun zP 168 [zR 16 0, zI k, zI x] (M, ρ) = zvd (M', ρ) ∧ ms M' p b k x ∧ nxF M M' := by
  refine ⟨zms (zms M 16 0 14 k) 16 0 15 x, ?_, ⟨?_, ?_, ?_, zms_eq⟩, fun a j q h => (zms_ne (by omega)).trans (zms_ne (by omega))⟩
  · rw [e_X6_wrong, show (M, ρ).1 16 0 14 = 0 from hm.2.2.1, if_neg (by decide)]
  · rw [zms_ne (by omega), zms_ne (by omega), hm.1]
  · rw [zms_ne (by omega), zms_ne (by omega), hm.2.1]
  · rw [zms_ne (by omega), zms_eq]
theorem m_wrong1 (hm : M 16 0 14 = f) (hf : 0 < f) (k x : Int32) : zrun zP 168 [zR 16 0, zI k, zI x] (M, ρ) = zvd (M, ρ) := by
  rw [e_X6_wrong, show (M, ρ).1 16 0 14 = f from hm, if_pos hf]
theorem m_passes (hp : p ≤ n) (hx : mTx M tx n) (hm : ms M p b f w) {k : Nat} (hk : k < 9) : (wordIs tx n (sk tx n p) (zstr k) → ∃ M', zrun zP 171 [zR 16 0, zR 1 k] (M, ρ) = zok 1 (M', ρ) ∧ ms M' (sk tx n p + (zstr k).length) (nI (sk tx n p)) f w ∧ nxF M M') ∧ (¬ wordIs tx n (sk tx n p) (zstr k) → ∃ M', zrun zP 171 [zR 16 0, zR 1 k] (M, ρ) = zok 0 (M', ρ) ∧ ms M' (sk tx n p) b f w ∧ nxF M M') := by
  obtain ⟨l1, l2, l3⟩ := zstr_ok k hk
  obtain ⟨M1, g1, g2, g3⟩ := m_sign (ρ := ρ) hp hx hm
  have hx1 := nxF_tx g3 hx
  have hn := hx.1
  have hq := (sk_spec (tx := tx) (n := n) p).2.1 hp
  have hof : (Int32.ofNat (zstr k).length) = nI (zstr k).length := rfl
  have L := zfst_loop (X := fun j => zX zP zK_X6_passes (7, [zR 16 0, zR 1 k, zI (nI j)], []) (M1, ρ)) (v := fun _ => zok 0 (M1, ρ)) (w := zif (sk tx n p + (zstr k).length < n ∧ isLt (tx (sk tx n p + (zstr k).length))) (zok 0 (M1, ρ)) (zok 1 (zms (zms M1 16 0 13 (nI (sk tx n p))) 16 0 12 (nI (sk tx n p + (zstr k).length)), ρ))) (p := fun j => ¬ (sk tx n p + j < n ∧ tx (sk tx n p + j) = (zstr k).getD j 0)) (n := (zstr k).length) (fun j hj => by
    have c3 := nIk (k := j) (N := (zstr k).length) hj (by omega)
    have c4 := nI_clamp (n := j) (by omega)
    have sm := m_isSmall (σ := (M1, ρ)) hx1 (q := sk tx n p + j) (by omega)
    have h12 : (M1, ρ).1 16 0 12 = nI (sk tx n p) := g2.1
    constructor
    · intro q
      rw [e_X6_passes_7, hof, if_pos (nI_lt hj (by omega)), h12, nI_add, sm, zcI_ok]
      by_cases c : sk tx n p + j < n ∧ isLt (tx (sk tx n p + j))
      · have c1 := nIk (k := sk tx n p + j) (N := 400) (by omega) (by omega)
        have c2 := nI_clamp (n := sk tx n p + j) (by omega)
        rw [zb_t c, if_neg (by decide), h12, nI_add]
        simp only [c1, c2, c3, c4, if_false]
        rw [hx1.2.2 _ c.1, if_neg (fun e => q ⟨c.1, e⟩)]
      · rw [zb_f c, if_pos rfl]
    · intro q
      have q' := Classical.not_not.mp q
      have c : sk tx n p + j < n ∧ isLt (tx (sk tx n p + j)) := ⟨q'.1, by rw [q'.2]; exact l3 j hj⟩
      have c1 := nIk (k := sk tx n p + j) (N := 400) (by omega) (by omega)
      have c2 := nI_clamp (n := sk tx n p + j) (by omega)
      rw [e_X6_passes_7, hof, if_pos (nI_lt hj (by omega)), h12, nI_add, sm, zcI_ok, zb_t c, if_neg (by decide), h12, nI_add, nI_1]
      simp only [c1, c2, c3, c4, if_false]
      rw [hx1.2.2 _ c.1, if_pos q'.2]) (by
    have sm := m_isSmall (σ := (M1, ρ)) hx1 (q := sk tx n p + (zstr k).length) (by omega)
    have h12 : (M1, ρ).1 16 0 12 = nI (sk tx n p) := g2.1
    rw [e_X6_passes_7, hof, if_neg (nI_nlt (Nat.le_refl _) (by omega)), h12, nI_add, sm, zcI_ok]
    by_cases c : sk tx n p + (zstr k).length < n ∧ isLt (tx (sk tx n p + (zstr k).length))
    · rw [zb_t c, if_neg (by decide)]
      exact (zif_t c).symm
    · rw [zb_f c, if_pos rfl, h12, zms_ne (by omega), h12, nI_add]
      exact (zif_f c).symm) (zstr k).length 0 (by omega)
  rw [nI_0] at L
  constructor
  · intro q
    refine ⟨zms (zms M1 16 0 13 (nI (sk tx n p))) 16 0 12 (nI (sk tx n p + (zstr k).length)), ?_, ⟨zms_eq, (zms_ne (by omega)).trans zms_eq, (zms_ne (by omega)).trans ((zms_ne (by omega)).trans g2.2.2.1), (zms_ne (by omega)).trans ((zms_ne (by omega)).trans g2.2.2.2)⟩, nxF_tr g3 (fun a j z h => (zms_ne (by omega)).trans (zms_ne (by omega)))⟩
    rw [e_X6_passes, g1, zcI_ok, L, (zfst_none _ _).mpr (fun j _ hj z => z (q.1 j (by omega)))]
    exact zif_f q.2
  · intro q
    refine ⟨M1, ?_, g2, g3⟩
    rw [e_X6_passes, g1, zcI_ok, L]
    cases hz : zfst (fun j => ¬ (sk tx n p + j < n ∧ tx (sk tx n p + j) = (zstr k).getD j 0)) 0 (zstr k).length with
    | some j => rfl
    | none =>
      have c : sk tx n p + (zstr k).length < n ∧ isLt (tx (sk tx n p + (zstr k).length)) := Classical.byContradiction (fun e => q ⟨fun j hj => Classical.not_not.mp ((zfst_none _ _).mp hz j (by omega) (by omega)), e⟩)
      exact zif_t c
theorem m_isWordHere0 (hp : p ≤ n) (hx : mTx M tx n) (hm : ms M p b 0 w) : ∃ M', zrun zP 173 [zR 16 0] (M, ρ) = zok (zb (sk tx n p < n ∧ isLt (tx (sk tx n p)))) (M', ρ) ∧ ms M' (sk tx n p) b 0 w ∧ nxF M M' := by
  obtain ⟨M1, g1, g2, g3⟩ := m_sign (ρ := ρ) hp hx hm
  have hn := hx.1
  have hq := (sk_spec (tx := tx) (n := n) p).2.1 hp
  refine ⟨M1, ?_, g2, g3⟩
  rw [e_X6_isWordHere, g1, zcI_ok, show (M1, ρ).1 16 0 14 = 0 from g2.2.2.1, if_pos rfl, show (M1, ρ).1 16 0 12 = _ from g2.1, m_isSmall (σ := (M1, ρ)) (nxF_tx g3 hx) (by omega), zcI_ok]
  by_cases c : sk tx n p < n ∧ isLt (tx (sk tx n p))
  · rw [zb_t c, if_neg (by decide)]
  · rw [zb_f c, if_pos rfl]
theorem m_isWordHere1 (hp : p ≤ n) (hx : mTx M tx n) (hm : ms M p b f w) (hf : ¬ f = 0) : ∃ M', zrun zP 173 [zR 16 0] (M, ρ) = zok 0 (M', ρ) ∧ ms M' (sk tx n p) b f w ∧ nxF M M' := by
  obtain ⟨M1, g1, g2, g3⟩ := m_sign (ρ := ρ) hp hx hm
  refine ⟨M1, ?_, g2, g3⟩
  rw [e_X6_isWordHere, g1, zcI_ok, show (M1, ρ).1 16 0 14 = f from g2.2.2.1, if_neg hf]
end ZMK
