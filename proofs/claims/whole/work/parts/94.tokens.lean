/-! the text: tokens, and how the class reads them -/
noncomputable def rn (c : Nat → Prop) : Nat → Nat → Nat
  | 0, p => p
  | d + 1, p => zif (c p) (rn c d (p + 1)) p
noncomputable def eE (c : Nat → Prop) (n p : Nat) : Nat := rn c (n - p) p
theorem eE_t {c : Nat → Prop} {n p : Nat} (h : c p) (hp : p < n) : eE c n p = eE c n (p + 1) := by
  unfold eE
  rw [show n - p = (n - (p + 1)) + 1 by omega]
  exact zif_t h
theorem eE_f {c : Nat → Prop} {n p : Nat} (h : ¬ c p) : eE c n p = p := by
  unfold eE
  cases n - p with
  | zero => rfl
  | succ d => exact zif_f h
theorem eE_spec {c : Nat → Prop} {n : Nat} (hc : ∀ q, c q → q < n) : ∀ d p, n - p = d → p ≤ eE c n p ∧ (p ≤ n → eE c n p ≤ n) ∧ (∀ q, p ≤ q → q < eE c n p → c q) ∧ ¬ c (eE c n p) := by
  intro d
  induction d with
  | zero =>
    intro p hp
    have h : ¬ c p := fun e => by have := hc p e; omega
    rw [eE_f h]
    exact ⟨Nat.le_refl _, fun e => e, fun q q1 q2 => by omega, h⟩
  | succ d ih =>
    intro p hp
    by_cases h : c p
    · rw [eE_t h (hc p h)]
      obtain ⟨a, b, e, f⟩ := ih (p + 1) (by omega)
      refine ⟨by omega, fun _ => b (by omega), fun q q1 q2 => ?_, f⟩
      by_cases g : q = p
      · rw [g]; exact h
      · exact e q (by omega) q2
    · rw [eE_f h]
      exact ⟨Nat.le_refl _, fun e => e, fun q q1 q2 => by omega, h⟩
def isLt (b : Int32) : Prop := ¬ b < 97 ∧ ¬ 122 < b
def isDg (b : Int32) : Prop := ¬ b < 48 ∧ ¬ 57 < b
theorem isLt_n {b : Int32} (h : isLt b) : ∃ v, 97 ≤ v ∧ v ≤ 122 ∧ b = nI v := by
  obtain ⟨h1, h2⟩ := h
  rw [iI_lt, show (97 : Int32).toInt = 97 from by decide] at h1
  rw [iI_lt, show (122 : Int32).toInt = 122 from by decide] at h2
  exact ⟨b.toInt.toNat, by omega, by omega, by rw [iI_eq, iI_n (by omega)]; omega⟩
theorem isDg_n {b : Int32} (h : isDg b) : ∃ v, 48 ≤ v ∧ v ≤ 57 ∧ b = nI v := by
  obtain ⟨h1, h2⟩ := h
  rw [iI_lt, show (48 : Int32).toInt = 48 from by decide] at h1
  rw [iI_lt, show (57 : Int32).toInt = 57 from by decide] at h2
  exact ⟨b.toInt.toNat, by omega, by omega, by rw [iI_eq, iI_n (by omega)]; omega⟩
theorem lt_dg {b : Int32} (h : isLt b) : ¬ isDg b := fun e => by
  obtain ⟨v, v1, v2, rfl⟩ := isLt_n h
  obtain ⟨w, w1, w2, e⟩ := isDg_n e
  have := (nI_eq (by omega) (by omega)).mp e
  omega
section ZTK
variable (tx : Nat → Int32) (n : Nat)
noncomputable def sk (p : Nat) : Nat := eE (fun q => q < n ∧ tx q = 32) n p
noncomputable def we (p : Nat) : Nat := eE (fun q => q < n ∧ isLt (tx q)) n p
noncomputable def de (p : Nat) : Nat := eE (fun q => q < n ∧ isDg (tx q)) n p
def lv (q : Nat) : Nat := (tx q).toNatClampNeg - 96
def dv (q : Nat) : Nat := (tx q).toNatClampNeg - 48
def mkF (mo p : Nat) : Nat → Nat
  | 0 => 0
  | k + 1 => if k < mo then 32 * mkF mo p k + lv tx (p + k) else mkF mo p k
def nmF (cap p : Nat) : Nat → Nat
  | 0 => 0
  | k + 1 => min (10 * nmF cap p k + dv tx (p + k)) cap
/-- where the token at p ends -/
noncomputable def te (p : Nat) : Nat := zif (p < n) (zif (isLt (tx p)) (we tx n p) (zif (isDg (tx p)) (de tx n p) (p + 1))) p
end ZTK
section ZTC
variable {tx : Nat → Int32} {n i : Nat} {M : zMem} {σ : zSt} {ρ : Int64 × Nat}
theorem sk_spec (p : Nat) : p ≤ sk tx n p ∧ (p ≤ n → sk tx n p ≤ n) ∧ (∀ q, p ≤ q → q < sk tx n p → q < n ∧ tx q = 32) ∧ ¬ (sk tx n p < n ∧ tx (sk tx n p) = 32) := eE_spec (c := fun q => q < n ∧ tx q = 32) (fun q e => e.1) _ p rfl
theorem we_spec (p : Nat) : p ≤ we tx n p ∧ (p ≤ n → we tx n p ≤ n) ∧ (∀ q, p ≤ q → q < we tx n p → q < n ∧ isLt (tx q)) ∧ ¬ (we tx n p < n ∧ isLt (tx (we tx n p))) := eE_spec (c := fun q => q < n ∧ isLt (tx q)) (fun q e => e.1) _ p rfl
theorem de_spec (p : Nat) : p ≤ de tx n p ∧ (p ≤ n → de tx n p ≤ n) ∧ (∀ q, p ≤ q → q < de tx n p → q < n ∧ isDg (tx q)) ∧ ¬ (de tx n p < n ∧ isDg (tx (de tx n p))) := eE_spec (c := fun q => q < n ∧ isDg (tx q)) (fun q e => e.1) _ p rfl
theorem sk_id {p : Nat} (h : ¬ (p < n ∧ tx p = 32)) : sk tx n p = p := eE_f h
theorem sk_sk (p : Nat) : sk tx n (sk tx n p) = sk tx n p := sk_id (sk_spec p).2.2.2
theorem lv_le {q : Nat} (h : isLt (tx q)) : 1 ≤ lv tx q ∧ lv tx q ≤ 26 ∧ tx q = nI (lv tx q + 96) := by
  obtain ⟨v, v1, v2, e⟩ := isLt_n h
  unfold lv
  rw [e, nI_clamp (by omega), show v - 96 + 96 = v by omega]
  exact ⟨by omega, by omega, rfl⟩
theorem dv_le {q : Nat} (h : isDg (tx q)) : dv tx q ≤ 9 ∧ tx q = nI (dv tx q + 48) := by
  obtain ⟨v, v1, v2, e⟩ := isDg_n h
  unfold dv
  rw [e, nI_clamp (by omega), show v - 48 + 48 = v by omega]
  exact ⟨by omega, rfl⟩
theorem mkF_lt {mo p : Nat} : ∀ k, (∀ q, q < k → isLt (tx (p + q))) → mkF tx mo p k < 32 ^ (min k mo) := by
  intro k
  induction k with
  | zero => intro _; show 0 < 32 ^ (min 0 mo); exact Nat.pow_pos (by omega)
  | succ k ih =>
    intro h
    have i := ih (fun q hq => h q (by omega))
    have l := lv_le (h k (by omega))
    show (if k < mo then 32 * mkF tx mo p k + lv tx (p + k) else mkF tx mo p k) < _
    by_cases c : k < mo
    · rw [if_pos c, show min (k + 1) mo = min k mo + 1 by omega, Nat.pow_succ]
      omega
    · rw [if_neg c, show min (k + 1) mo = min k mo by omega]
      exact i
/-- the reader has the text -/
def cTx (M : zMem) (tx : Nat → Int32) (n : Nat) : Prop := n ≤ 400 ∧ M 11 0 5 = nI n ∧ ∀ q, q < n → M 27 0 q = tx q
/-- the token at p is the one looked at -/
def cTok (M : zMem) (tx : Nat → Int32) (n p : Nat) : Prop := M 11 0 8 = nI p ∧ M 11 0 6 = nI (te tx n p) ∧ p ≤ n ∧ (¬ p < n → M 11 0 7 = 4) ∧ (p < n → isLt (tx p) → M 11 0 7 = 1 ∧ M 11 0 9 = nI (we tx n p - p) ∧ M 11 0 10 = nI (mkF tx 6 p (we tx n p - p))) ∧ (p < n → isDg (tx p) → M 11 0 7 = 2 ∧ M 11 0 11 = nI (nmF tx 1000 p (de tx n p - p))) ∧ (p < n → ¬ isLt (tx p) → ¬ isDg (tx p) → M 11 0 7 = 3)
def tkFr (M M' : zMem) : Prop := ∀ k j q, ¬ (k = 11 ∧ j = 0 ∧ 6 ≤ q ∧ q ≤ 11) → M' k j q = M k j q
theorem tkFr_tr {M1 M2 : zMem} (h1 : tkFr M M1) (h2 : tkFr M1 M2) : tkFr M M2 := fun k j q h => (h2 k j q h).trans (h1 k j q h)
theorem tkFr_tx {M' : zMem} (h : tkFr M M') (ht : cTx M tx n) : cTx M' tx n := ⟨ht.1, (h _ _ _ (by omega)).trans ht.2.1, fun q hq => (h _ _ _ (by omega)).trans (ht.2.2 q hq)⟩
theorem c_isLt (b : Int32) : zrun zP 9 [zI b] σ = zok (zb (isLt b)) σ := by
  rw [e_X1_isLetter]
  by_cases c : b < 97
  · rw [if_pos c, zb_f (fun e => e.1 c)]
  · rw [if_neg c]
    by_cases d : 122 < b
    · rw [if_pos d, zb_f (fun e => e.2 d)]
    · rw [if_neg d, zb_t ⟨c, d⟩]
theorem c_isDg (b : Int32) : zrun zP 10 [zI b] σ = zok (zb (isDg b)) σ := by
  rw [e_X1_isDigit]
  by_cases c : b < 48
  · rw [if_pos c, zb_f (fun e => e.1 c)]
  · rw [if_neg c]
    by_cases d : 57 < b
    · rw [if_pos d, zb_f (fun e => e.2 d)]
    · rw [if_neg d, zb_t ⟨c, d⟩]
theorem shl_or {v x : Nat} (hx : x < 32) (hv : 32 * v + x < 2 ^ 31) : (nI v <<< (5 &&& 31)) ||| nI x = nI (32 * v + x) := by
  apply Int32.toBitVec_inj.mp
  show (BitVec.ofNat 32 v <<< (((5 : Int32) &&& 31).toBitVec.smod 32)) ||| BitVec.ofNat 32 x = BitVec.ofNat 32 (32 * v + x)
  rw [show (((5 : Int32) &&& 31).toBitVec.smod 32) = 5#32 from by decide]
  apply BitVec.eq_of_toNat_eq
  have e : (BitVec.ofNat 32 v <<< 5#32) = BitVec.ofNat 32 v <<< 5 := rfl
  rw [e, BitVec.toNat_or, BitVec.toNat_shiftLeft, BitVec.toNat_ofNat, BitVec.toNat_ofNat, BitVec.toNat_ofNat, Nat.mod_eq_of_lt (show v < 2 ^ 32 by omega), Nat.mod_eq_of_lt (show x < 2 ^ 32 by omega), Nat.mod_eq_of_lt (show 32 * v + x < 2 ^ 32 by omega), Nat.shiftLeft_eq, Nat.mod_eq_of_lt (show v * 2 ^ 5 < 2 ^ 32 by omega)]
  rw [← Nat.shiftLeft_eq, ← Nat.shiftLeft_add_eq_or_of_lt (show x < 2 ^ 5 by omega), Nat.shiftLeft_eq]
  omega
theorem c_scanWord_loop {p : Nat} : ∀ d q M', we tx n p - q = d → p ≤ q → q ≤ we tx n p → p ≤ n → cTx M' tx n → M' 11 0 8 = nI p → M' 11 0 6 = nI q → M' 11 0 10 = nI (mkF tx 6 p (q - p)) → ∃ M'', zX zP zK_X1_scanWord (10, [zR 11 0], []) (M', ρ) = zvd (M'', ρ) ∧ M'' 11 0 9 = nI (we tx n p - p) ∧ M'' 11 0 6 = nI (we tx n p) ∧ M'' 11 0 10 = nI (mkF tx 6 p (we tx n p - p)) ∧ ∀ k j z, ¬ (k = 11 ∧ j = 0 ∧ (z = 6 ∨ z = 9 ∨ z = 10)) → M'' k j z = M' k j z := by
  have ws := we_spec (tx := tx) (n := n) p
  intro d
  induction d with
  | zero =>
    intro q M' hd hpq hq hpn hx h8 h6 h10
    have e : q = we tx n p := by omega
    have hn := hx.1
    have wn := ws.2.1 hpn
    refine ⟨zms M' 11 0 9 (nI (we tx n p - p)), ?_, zms_eq, ?_, ?_, fun k j z h => zms_ne (by omega)⟩
    · rw [e_X1_scanWord_10, show (M', ρ).1 11 0 6 = nI q from h6, show (M', ρ).1 11 0 5 = nI n from hx.2.1, show (M', ρ).1 11 0 8 = nI p from h8, nI_sub hpq]
      by_cases c : q < n
      · have ein := nIk (k := q) (N := 400) (by omega) (by omega)
        have ecl := nI_clamp (n := q) (by omega)
        rw [if_pos (nI_lt c (by omega))]
        simp only [ecl, ein, if_false]
        rw [hx.2.2 q c, c_isLt, zcI_ok, zb_f (fun z => ws.2.2.2 (e ▸ ⟨c, z⟩)), if_pos rfl, show (M', ρ).1 11 0 6 = nI q from h6, show (M', ρ).1 11 0 8 = nI p from h8, nI_sub hpq, e]
      · rw [if_neg (nI_nlt (by omega) (by omega)), e]
    · rw [zms_ne (by omega), h6, e]
    · rw [zms_ne (by omega), h10, e]
  | succ d ih =>
    intro q M' hd hpq hq hpn hx h8 h6 h10
    have hn := hx.1
    obtain ⟨c, hl⟩ := ws.2.2.1 q hpq (by omega)
    have lq := lv_le hl
    have ein := nIk (k := q) (N := 400) (by omega) (by omega)
    have ecl := nI_clamp (n := q) (by omega)
    have lt6 : (nI (q - p) < 6) = (q - p < 6) := nI_lp (a := q - p) (b := 6) (by omega) (by omega)
    have hm := mkF_lt (tx := tx) (mo := 6) (p := p) (q - p) (fun z hz => (ws.2.2.1 (p + z) (by omega) (by omega)).2)
    have h32 : 32 ^ (min (q - p) 6) ≤ 32 ^ 6 := Nat.pow_le_pow_right (by omega) (by omega)
    have step : zX zP zK_X1_scanWord (10, [zR 11 0], []) (M', ρ) = (if q - p < 6 then zX zP zK_X1_scanWord (10, [zR 11 0], []) (zms (zms M' 11 0 10 ((nI (mkF tx 6 p (q - p)) <<< (5 &&& 31)) ||| ((tx q - 97) + 1))) 11 0 6 (nI (q + 1)), ρ) else zX zP zK_X1_scanWord (10, [zR 11 0], []) (zms M' 11 0 6 (nI (q + 1)), ρ)) := by
      rw [e_X1_scanWord_10, show (M', ρ).1 11 0 6 = nI q from h6, show (M', ρ).1 11 0 5 = nI n from hx.2.1, if_pos (nI_lt c (by omega))]
      simp only [ecl, ein, if_false]
      rw [hx.2.2 q c, c_isLt, zcI_ok, zb_t hl, if_neg (by decide), show (M', ρ).1 11 0 6 = nI q from h6, show (M', ρ).1 11 0 8 = nI p from h8, nI_sub hpq]
      simp only [ecl, ein, if_false, lt6]
      rw [h10, hx.2.2 q c, zms_ne (by omega), h6, nI_1]
    have sp : mkF tx 6 p (q + 1 - p) = (if q - p < 6 then 32 * mkF tx 6 p (q - p) + lv tx q else mkF tx 6 p (q - p)) := by
      rw [show q + 1 - p = (q - p) + 1 by omega]
      show (if q - p < 6 then 32 * mkF tx 6 p (q - p) + lv tx (p + (q - p)) else _) = _
      rw [show p + (q - p) = q by omega]
    rw [step]
    by_cases c6 : q - p < 6
    · rw [if_pos c6] at sp ⊢
      have h5 : 32 ^ (min (q - p) 6) ≤ 32 ^ 5 := Nat.pow_le_pow_right (by omega) (by omega)
      have el : (tx q - 97) + 1 = nI (lv tx q) := by
        rw [lq.2.2, show (97 : Int32) = nI 97 from rfl, nI_sub (by omega), nI_1]
        congr 1
        omega
      rw [el, shl_or (by omega) (by omega), ← sp]
      obtain ⟨M2, g1, g2, g3, g4, g5⟩ := ih (q + 1) (zms (zms M' 11 0 10 (nI (mkF tx 6 p (q + 1 - p)))) 11 0 6 (nI (q + 1))) (by omega) (by omega) (by omega) hpn ⟨hn, (zms_ne (by omega)).trans ((zms_ne (by omega)).trans hx.2.1), fun z hz => (zms_ne (by omega)).trans ((zms_ne (by omega)).trans (hx.2.2 z hz))⟩ ((zms_ne (by omega)).trans ((zms_ne (by omega)).trans h8)) zms_eq ((zms_ne (by omega)).trans zms_eq)
      exact ⟨M2, g1, g2, g3, g4, fun k j z h => (g5 k j z h).trans ((zms_ne (by omega)).trans (zms_ne (by omega)))⟩
    · rw [if_neg c6] at sp ⊢
      obtain ⟨M2, g1, g2, g3, g4, g5⟩ := ih (q + 1) (zms M' 11 0 6 (nI (q + 1))) (by omega) (by omega) (by omega) hpn ⟨hn, (zms_ne (by omega)).trans hx.2.1, fun z hz => (zms_ne (by omega)).trans (hx.2.2 z hz)⟩ ((zms_ne (by omega)).trans h8) zms_eq (by rw [zms_ne (by omega), h10, sp])
      exact ⟨M2, g1, g2, g3, g4, fun k j z h => (g5 k j z h).trans (zms_ne (by omega))⟩
end ZTC
