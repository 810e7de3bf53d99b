/-! what the class asks of a token -/
def wordIs (tx : Nat → Int32) (n p : Nat) (w : List Int32) : Prop := (∀ k, k < w.length → p + k < n ∧ tx (p + k) = w.getD k 0) ∧ ¬ (p + w.length < n ∧ isLt (tx (p + w.length)))
def shW (tx : Nat → Int32) (n p mo : Nat) : Prop := p < n ∧ isLt (tx p) ∧ we tx n p - p ≤ mo
noncomputable def nmv (tx : Nat → Int32) (n p : Nat) : Nat := mkF tx 6 p (we tx n p - p) * 32 ^ (6 - (we tx n p - p))
/-- the reader tells a fault -/
def flM (M : zMem) (k : Int32) (p : Nat) : zMem := zms (zms M 11 0 3 k) 11 0 4 (nI p)
section ZAK
variable {tx : Nat → Int32} {n i p : Nat} {M : zMem} {T : zSheet} {ρ : Int64 × Nat}
theorem we_u {q : Nat} (hpq : p ≤ q) (h1 : ∀ z, p ≤ z → z < q → z < n ∧ isLt (tx z)) (h2 : ¬ (q < n ∧ isLt (tx q))) : we tx n p = q := by
  have w := we_spec (tx := tx) (n := n) p
  rcases Nat.lt_trichotomy (we tx n p) q with c | c | c
  · exact absurd (h1 _ w.1 c) w.2.2.2
  · exact c
  · exact absurd (w.2.2.1 q hpq c) h2
theorem zstr_ok (k : Nat) (hk : k < 9) : 0 < (zstr k).length ∧ (zstr k).length ≤ 6 ∧ ∀ j, j < (zstr k).length → isLt ((zstr k).getD j 0) := by
  have key : ∀ k, k < 9 → 0 < (zstr k).length ∧ (zstr k).length ≤ 6 ∧ ∀ j, j < 6 → j < (zstr k).length → (¬ ((zstr k).getD j 0) < 97 ∧ ¬ 122 < ((zstr k).getD j 0)) := by decide
  obtain ⟨a, b, c⟩ := key k hk
  exact ⟨a, b, fun j hj => c j (by omega) hj⟩
theorem c_isWord (hx : cTx M tx n) (ht : cTok M tx n p) {k : Nat} (hk : k < 9) : zrun zP 12 [zR 11 0, zR 1 k] (M, ρ) = zok (zb (wordIs tx n p (zstr k))) (M, ρ) := by
  obtain ⟨l1, l2, l3⟩ := zstr_ok k hk
  have hn := hx.1
  obtain ⟨t1, t2, t3, t4, t5, t6, t7⟩ := ht
  have hof : (Int32.ofNat (zstr k).length) = nI (zstr k).length := rfl
  rw [e_X1_isWord]
  by_cases c : p < n ∧ isLt (tx p)
  · obtain ⟨a1, a2, a3⟩ := t5 c.1 c.2
    have w := we_spec (tx := tx) (n := n) p
    have wn := w.2.1 t3
    rw [show (M, ρ).1 11 0 7 = 1 from a1, if_pos rfl, show (M, ρ).1 11 0 9 = _ from a2, hof]
    by_cases e : (zstr k).length = we tx n p - p
    · rw [if_pos (by rw [e])]
      have L := zfA_loop (X := fun j => zX zP zK_X1_isWord (23, [zR 11 0, zR 1 k, zI (nI j)], []) (M, ρ)) (σ := (M, ρ)) (p := fun j => ¬ tx (p + j) = (zstr k).getD j 0) (n := (zstr k).length) (fun j hj => by
        have c1 := nIk (k := p + j) (N := 400) (by omega) (by omega)
        have c2 := nI_clamp (n := p + j) (by omega)
        have c3 := nIk (k := j) (N := (zstr k).length) hj (by omega)
        have c4 := nI_clamp (n := j) (by omega)
        have hb := (w.2.2.1 (p + j) (by omega) (by omega)).1
        have step : zX zP zK_X1_isWord (23, [zR 11 0, zR 1 k, zI (nI j)], []) (M, ρ) = (if tx (p + j) = (zstr k).getD j 0 then zX zP zK_X1_isWord (23, [zR 11 0, zR 1 k, zI (nI (j + 1))], []) (M, ρ) else zok 0 (M, ρ)) := by
          rw [e_X1_isWord_23, show (M, ρ).1 11 0 9 = _ from a2, show (M, ρ).1 11 0 8 = _ from t1, if_pos (nI_lt (by omega) (by omega)), nI_add, nI_1]
          simp only [c1, c2, c3, c4, if_false]
          rw [hx.2.2 _ hb]
        constructor
        · intro q
          rw [step, if_neg q]
        · intro q
          rw [step, if_pos (Classical.not_not.mp q)]) (by
        rw [e_X1_isWord_23, show (M, ρ).1 11 0 9 = _ from a2, if_neg (nI_nlt (by omega) (by omega))])
      rw [nI_0] at L
      rw [L]
      refine congrArg (fun z => zok z (M, ρ)) (zb_congr ⟨fun q => ⟨fun j hj => ⟨(w.2.2.1 (p + j) (by omega) (by omega)).1, Classical.not_not.mp (q j hj)⟩, ?_⟩, fun q j hj z => z (q.1 j hj).2⟩)
      rw [e, show p + (we tx n p - p) = we tx n p by have := w.1; omega]
      exact w.2.2.2
    · rw [if_neg (fun q => e ((nI_eq (by omega) (by omega)).mp q)), zb_f]
      intro q
      have := we_u (tx := tx) (n := n) (p := p) (q := p + (zstr k).length) (by omega) (fun z z1 z2 => by
        have qz := q.1 (z - p) (by omega)
        rw [show p + (z - p) = z by omega] at qz
        exact ⟨qz.1, by rw [qz.2]; exact l3 _ (by omega)⟩) q.2
      omega
  · have h7 : ¬ M 11 0 7 = 1 := by
      by_cases c1 : p < n
      · have cl : ¬ isLt (tx p) := fun e => c ⟨c1, e⟩
        by_cases cd : isDg (tx p)
        · rw [(t6 c1 cd).1]; decide
        · rw [t7 c1 cl cd]; decide
      · rw [t4 c1]; decide
    rw [show (M, ρ).1 11 0 7 = M 11 0 7 from rfl, if_neg h7, zb_f]
    intro q
    have q0 := q.1 0 l1
    rw [Nat.add_zero] at q0
    exact c ⟨q0.1, by rw [q0.2]; exact l3 0 l1⟩
theorem tok_w (ht : cTok M tx n p) : (p < n ∧ isLt (tx p) → M 11 0 7 = 1) ∧ (¬ (p < n ∧ isLt (tx p)) → ¬ M 11 0 7 = 1) := by
  obtain ⟨t1, t2, t3, t4, t5, t6, t7⟩ := ht
  refine ⟨fun e => (t5 e.1 e.2).1, fun c => ?_⟩
  by_cases c1 : p < n
  · have cl : ¬ isLt (tx p) := fun e => c ⟨c1, e⟩
    by_cases cd : isDg (tx p)
    · rw [(t6 c1 cd).1]; decide
    · rw [t7 c1 cl cd]; decide
  · rw [t4 c1]; decide
theorem c_isShort (hx : cTx M tx n) (ht : cTok M tx n p) (mo : Nat) (hm : mo ≤ 100) : zrun zP 13 [zR 11 0, zI (nI mo)] (M, ρ) = zok (zb (shW tx n p mo)) (M, ρ) := by
  have hn := hx.1
  rw [e_X1_isShortWord]
  by_cases c : p < n ∧ isLt (tx p)
  · have w := we_spec (tx := tx) (n := n) p
    have wn := w.2.1 ht.2.2.1
    rw [show (M, ρ).1 11 0 7 = 1 from (tok_w ht).1 c, if_pos rfl, show (M, ρ).1 11 0 9 = _ from (ht.2.2.2.2.1 c.1 c.2).2.1]
    by_cases d : mo < we tx n p - p
    · rw [if_pos (nI_lt d (by omega)), zb_f (fun e => by have := e.2.2; omega)]
    · rw [if_neg (nI_nlt (by omega) (by omega)), zb_t ⟨c.1, c.2, by omega⟩]
  · rw [show (M, ρ).1 11 0 7 = M 11 0 7 from rfl, if_neg ((tok_w ht).2 c), zb_f (fun e => c ⟨e.1, e.2.1⟩)]
theorem shl_n {v c : Nat} (hc : c < 32) (hs : (nI c).toBitVec.smod 32 = BitVec.ofNat 32 c) (hv : v * 2 ^ c < 2 ^ 31) : nI v <<< nI c = nI (v * 2 ^ c) := by
  apply Int32.toBitVec_inj.mp
  show (BitVec.ofNat 32 v <<< ((nI c).toBitVec.smod 32)) = BitVec.ofNat 32 (v * 2 ^ c)
  rw [hs]
  apply BitVec.eq_of_toNat_eq
  have hp : 1 ≤ 2 ^ c := Nat.pow_pos (by omega)
  have hvl : v ≤ v * 2 ^ c := Nat.le_mul_of_pos_right v (by omega)
  rw [BitVec.shiftLeft_eq', BitVec.toNat_shiftLeft, BitVec.toNat_ofNat, BitVec.toNat_ofNat, BitVec.toNat_ofNat, Nat.mod_eq_of_lt (show v < 2 ^ 32 by omega), Nat.mod_eq_of_lt (show c < 2 ^ 32 by omega), Nat.mod_eq_of_lt (show v * 2 ^ c < 2 ^ 32 by omega), Nat.shiftLeft_eq, Nat.mod_eq_of_lt (show v * 2 ^ c < 2 ^ 32 by omega)]
theorem c_name (hx : cTx M tx n) (ht : cTok M tx n p) (hs : shW tx n p 6) : zrun zP 14 [zR 11 0] (M, ρ) = zok (nI (nmv tx n p)) (M, ρ) ∧ nmv tx n p < 2 ^ 30 := by
  obtain ⟨s1, s2, s3⟩ := hs
  obtain ⟨a1, a2, a3⟩ := ht.2.2.2.2.1 s1 s2
  have w := we_spec (tx := tx) (n := n) p
  have te := te_le (tx := tx) ht.2.2.1
  rw [te_lt s1 s2] at te
  have hL : 1 ≤ we tx n p - p := by have := te.2.2 s1; omega
  have hm := mkF_lt (tx := tx) (mo := 6) (p := p) (we tx n p - p) (fun z hz => (w.2.2.1 (p + z) (by omega) (by omega)).2)
  rw [e_X1_nameThere, show (M, ρ).1 11 0 10 = _ from a3, show (M, ρ).1 11 0 9 = _ from a2]
  unfold nmv
  generalize we tx n p - p = L at hL s3 hm
  generalize mkF tx 6 p L = v at hm
  have hL6 : L = 1 ∨ L = 2 ∨ L = 3 ∨ L = 4 ∨ L = 5 ∨ L = 6 := by omega
  have key : ∀ c, c < 32 → (5 * (if 0 < (6 - nI L) then (6 - nI L) else 0)) &&& 31 = nI c → (nI c).toBitVec.smod 32 = BitVec.ofNat 32 c → v * 2 ^ c < 2 ^ 30 → v * 2 ^ c = v * 32 ^ (6 - L) → (zok (nI v <<< ((5 * (if 0 < (6 - nI L) then (6 - nI L) else 0)) &&& 31)) (M, ρ) = zok (nI (v * 32 ^ (6 - L))) (M, ρ)) ∧ v * 32 ^ (6 - L) < 2 ^ 30 := fun c h1 h2 h3 h4 h5 => by
    rw [h2, shl_n h1 h3 (by omega), ← h5]
    exact ⟨rfl, h4⟩
  rcases hL6 with rfl | rfl | rfl | rfl | rfl | rfl
  · exact key 25 (by omega) (by decide) (by decide) (by simp at hm; omega) (by simp)
  · exact key 20 (by omega) (by decide) (by decide) (by simp at hm; omega) (by simp)
  · exact key 15 (by omega) (by decide) (by decide) (by simp at hm; omega) (by simp)
  · exact key 10 (by omega) (by decide) (by decide) (by simp at hm; omega) (by simp)
  · exact key 5 (by omega) (by decide) (by decide) (by simp at hm; omega) (by simp)
  · exact key 0 (by omega) (by decide) (by decide) (by simp at hm; omega) (by simp)
def isTm (tx : Nat → Int32) (n p : Nat) : Prop := p < n ∧ isDg (tx p)
noncomputable def nmT (tx : Nat → Int32) (n p : Nat) : Nat := nmF tx 1000 p (de tx n p - p)
theorem c_time (ht : cTok M tx n p) : (isTm tx n p → nmT tx n p ≤ 999 → zrun zP 16 [zR 11 0] (M, ρ) = zok 1 (M, ρ) ∧ M 11 0 11 = nI (nmT tx n p)) ∧ (isTm tx n p → ¬ nmT tx n p ≤ 999 → zrun zP 16 [zR 11 0] (M, ρ) = zok 0 (flM M 2 p, ρ)) ∧ (¬ isTm tx n p → zrun zP 16 [zR 11 0] (M, ρ) = zok 0 (flM M 1 p, ρ)) := by
  obtain ⟨t1, t2, t3, t4, t5, t6, t7⟩ := ht
  have nl : nmT tx n p ≤ 1000 := nmF_le _
  refine ⟨fun a b => ?_, fun a b => ?_, fun a => ?_⟩
  · obtain ⟨b1, b2⟩ := t6 a.1 a.2
    refine ⟨?_, b2⟩
    rw [e_X1_isTimeThere, show (M, ρ).1 11 0 7 = _ from b1, if_pos rfl, show (M, ρ).1 11 0 11 = nI (nmT tx n p) from b2, if_neg (by rw [nI_999 (by omega)]; omega)]
  · obtain ⟨b1, b2⟩ := t6 a.1 a.2
    rw [e_X1_isTimeThere, show (M, ρ).1 11 0 7 = _ from b1, if_pos rfl, show (M, ρ).1 11 0 11 = nI (nmT tx n p) from b2, if_pos (by rw [nI_999 (by omega)]; omega), e_X1_fail, zcI_ok, if_pos rfl, show (M, ρ).1 11 0 8 = _ from t1]
    rfl
  · have h7 : ¬ M 11 0 7 = 2 := by
      by_cases c1 : p < n
      · have cd : ¬ isDg (tx p) := fun e => a ⟨c1, e⟩
        by_cases cl : isLt (tx p)
        · rw [(t5 c1 cl).1]; decide
        · rw [t7 c1 cl cd]; decide
      · rw [t4 c1]; decide
    rw [e_X1_isTimeThere, if_neg h7, e_X1_fail, zcI_ok, if_pos (Or.inl rfl), show (M, ρ).1 11 0 8 = _ from t1]
    rfl
noncomputable def ixN (T : zSheet) (x : Nat) : Int32 := zfI (fun t => rnm (T.2 t) = nI x) T.1
theorem c_tierThere (hx : cTx M tx n) (ht : cTok M tx n p) (hS : cSheet M 14 T) : (shW tx n p 6 → ¬ ixN T (nmv tx n p) = -1 → zrun zP 15 [zR 11 0] (M, ρ) = zok (ixN T (nmv tx n p)) (M, ρ)) ∧ (shW tx n p 6 → ixN T (nmv tx n p) = -1 → zrun zP 15 [zR 11 0] (M, ρ) = zok (-1) (flM M 5 p, ρ)) ∧ (¬ shW tx n p 6 → zrun zP 15 [zR 11 0] (M, ρ) = zok (-1) (flM M 1 p, ρ)) := by
  have sw : zrun zP 13 [zR 11 0, zI 6] (M, ρ) = zok (zb (shW tx n p 6)) (M, ρ) := c_isShort hx ht 6 (by omega)
  have ixe : zfI (fun t => rnm (T.2 t) = nI (nmv tx n p)) T.1 = ixN T (nmv tx n p) := rfl
  refine ⟨fun a b => ?_, fun a b => ?_, fun a => ?_⟩
  · rw [e_X1_tierThere, sw, zcI_ok, zb_t a, if_neg (by decide), (c_name hx ht a).1, zcI_ok, s_indexOf (σ := (M, ρ)) hS, zcI_ok, ixe, if_neg b]
  · rw [e_X1_tierThere, sw, zcI_ok, zb_t a, if_neg (by decide), (c_name hx ht a).1, zcI_ok, s_indexOf (σ := (M, ρ)) hS, zcI_ok, ixe, if_pos b, e_X1_fail, zcI_ok, show (M, ρ).1 11 0 8 = _ from ht.1, b]
    rfl
  · rw [e_X1_tierThere, sw, zcI_ok, zb_f a, if_pos rfl, e_X1_fail, zcI_ok, show (M, ρ).1 11 0 8 = _ from ht.1]
    rfl
end ZAK
