/-! how far a stop may go back -/
/-- all times lie in the row of times -/
def zwt (T : zSheet) : Prop := ∀ t, t < T.1 → ∀ k, k < rct (T.2 t) → (∃ n, n ≤ 999 ∧ rfr (T.2 t) k = nI n) ∧ ∃ n, n ≤ 999 ∧ rto (T.2 t) k = nI n
def pEndAt (T : zSheet) (t k n : Nat) : Prop := rfr (T.2 t) k = nI n ∨ rto (T.2 t) k = nI n
def pStopIn (T : zSheet) (top : Nat) (n : Nat) : Prop := ∃ t, t < T.1 ∧ (pRoot T t = top ∧ ∃ k, k < rct (T.2 t) ∧ pEndAt T t k n)
def pLeast (T : zSheet) (top x v : Nat) : Prop := v ≤ x ∧ (∀ n, n < x → pStopIn T top n → n < v) ∧ (v = 0 ∨ ∃ n, n < x ∧ v = n + 1 ∧ pStopIn T top n)
theorem pLeast_u {T : zSheet} {top x v v' : Nat} (h : pLeast T top x v) (h' : pLeast T top x v') : v = v' := by
  obtain ⟨a1, a2, a3⟩ := h
  obtain ⟨b1, b2, b3⟩ := h'
  have e1 : v ≤ v' := by
    rcases a3 with q | ⟨n, n1, n2, n3⟩
    · omega
    · have := b2 n n1 n3
      omega
  have e2 : v' ≤ v := by
    rcases b3 with q | ⟨n, n1, n2, n3⟩
    · omega
    · have := a2 n n1 n3
      omega
  omega
def lstN (x v n : Nat) : Nat := if n < x then max v (n + 1) else v
theorem lst_mx {v n : Nat} (hv : v ≤ 1000) (hn : n ≤ 999) : (if nI v < nI (n + 1) then nI (n + 1) else nI v) = nI (max v (n + 1)) := by
  simp only [nI_lp (show v < 2 ^ 31 by omega) (show n + 1 < 2 ^ 31 by omega)]
  by_cases c : v < n + 1
  · rw [if_pos c, Nat.max_eq_right (by omega)]
  · rw [if_neg c, Nat.max_eq_left (by omega)]
section ZLE
variable {s i : Nat} {T : zSheet} {M : zMem} {ρ : Int64 × Nat} {σ : zSt}
theorem s_least_step (h : cSheet σ.1 s T) (hw : zwp T) {top x v t k a b : Nat} (htop : top < 2 ^ 31) (hx : x ≤ 999) (hv : v ≤ 1000) (ht : t < T.1) (hro : pRoot T t = top) (hk : k < rct (T.2 t)) (ha : a ≤ 999) (hb : b ≤ 999) (e1 : rfr (T.2 t) k = nI a) (e2 : rto (T.2 t) k = nI b) : zX zP zK_X3_leastFor (17, [zR 13 s, zI (nI top), zI (nI x), zI (nI v), zI (nI t), zI (nI k)], []) σ = zX zP zK_X3_leastFor (17, [zR 13 s, zI (nI top), zI (nI x), zI (nI (lstN x (lstN x v a) b)), zI (nI t), zI (nI (k + 1))], []) σ := by
  have h6 := h.2.1
  obtain ⟨q1, q2, q3⟩ := s_in h ht
  have hr := (h.2.2 t ht).1
  have hn := hr.2.2.2.2.1
  have hc := hr.2.2.2.1
  have hf := hr.2.2.2.2.2 k hk
  have hin := nIk (k := k) (N := 40) (by omega) (by omega)
  have hcl := nI_clamp (n := k) (by omega)
  have hcc : nI k < nI (rct (T.2 t)) := nI_lt hk (by omega)
  rw [e_X3_leastFor_17]
  simp only [q2, q1, hin, hcl, if_false, (h.2.2 t ht).2.1, hro, if_true, hc, hcc, hf.1, hf.2.1, e1, e2, nI_1, nI_lp (show a < 2 ^ 31 by omega) (show x < 2 ^ 31 by omega), nI_lp (show b < 2 ^ 31 by omega) (show x < 2 ^ 31 by omega), lst_mx hv ha, lst_mx hv hb]
  unfold lstN
  by_cases c1 : a < x <;> by_cases c2 : b < x
  all_goals simp only [c1, c2, if_true, if_false]
  rw [lst_mx (by omega) hb]
theorem lstN_b {x v n : Nat} (hv : v ≤ x) (hx : x ≤ 999) : v ≤ lstN x v n ∧ lstN x v n ≤ x ∧ (n < x → n < lstN x v n) ∧ (lstN x v n = v ∨ (n < x ∧ lstN x v n = n + 1)) := by
  unfold lstN
  by_cases c : n < x
  · rw [if_pos c]
    refine ⟨Nat.le_max_left _ _, by omega, fun _ => by omega, ?_⟩
    rcases Nat.le_total v (n + 1) with q | q
    · exact Or.inr ⟨c, Nat.max_eq_right q⟩
    · exact Or.inl (Nat.max_eq_left q)
  · rw [if_neg c]
    exact ⟨Nat.le_refl _, hv, fun e => (c e).elim, Or.inl rfl⟩
theorem nI_inj {a b : Nat} (ha : a ≤ 1000) (hb : b ≤ 1000) (h : nI a = nI b) : a = b := by
  have := nI_ne (a := a) (b := b) (by omega) (by omega)
  exact this.mp h
theorem s_least_in (h : cSheet σ.1 s T) (hw : zwp T) (hwt : zwt T) {top x t : Nat} (htop : top < 2 ^ 31) (hx : x ≤ 999) (ht : t < T.1) (hro : pRoot T t = top) : ∀ d k v, k + d = rct (T.2 t) → v ≤ x → ∃ v' z', zX zP zK_X3_leastFor (17, [zR 13 s, zI (nI top), zI (nI x), zI (nI v), zI (nI t), zI (nI k)], []) σ = zX zP zK_X3_leastFor (5, [zR 13 s, zI (nI top), zI (nI x), zI (nI v'), zI (nI (t + 1)), z'], []) σ ∧ v ≤ v' ∧ v' ≤ x ∧ (∀ j, k ≤ j → j < rct (T.2 t) → ∀ n, n < x → pEndAt T t j n → n < v') ∧ (v' = v ∨ ∃ n, n < x ∧ v' = n + 1 ∧ pStopIn T top n) := by
  intro d
  have h6 := h.2.1
  have hr := (h.2.2 t ht).1
  have hn := hr.2.2.2.2.1
  obtain ⟨q1, q2, q3⟩ := s_in h ht
  induction d with
  | zero =>
    intro k v hd hv
    refine ⟨v, zI (nI k), ?_, Nat.le_refl _, hv, fun j h1 h2 => by omega, Or.inl rfl⟩
    have hnc : ¬ nI k < nI (rct (T.2 t)) := nI_nlt (by omega) (by omega)
    rw [e_X3_leastFor_17]
    simp only [q2, q1, if_false, (h.2.2 t ht).2.1, hro, if_true, hr.2.2.2.1, hnc, nI_1]
  | succ d ih =>
    intro k v hd hv
    have hk : k < rct (T.2 t) := by omega
    obtain ⟨⟨a, a1, a2⟩, ⟨b, b1, b2⟩⟩ := hwt t ht k hk
    obtain ⟨l1, l2, l3, l4⟩ := lstN_b (n := a) hv hx
    obtain ⟨m1, m2, m3, m4⟩ := lstN_b (n := b) l2 hx
    obtain ⟨v', z', e1, e2, e3, e4, e5⟩ := ih (k + 1) (lstN x (lstN x v a) b) (by omega) m2
    refine ⟨v', z', (s_least_step h hw htop hx (by omega) ht hro hk a1 b1 a2 b2).trans e1, by omega, e3, fun j h1 h2 n h3 h4 => ?_, ?_⟩
    · by_cases e : j = k
      · subst e
        rcases h4 with h4 | h4
        · have : a = n := nI_inj (by omega) (by omega) (a2.symm.trans h4)
          have := l3 (by omega)
          omega
        · have : b = n := nI_inj (by omega) (by omega) (b2.symm.trans h4)
          have := m3 (by omega)
          omega
      · exact e4 j (by omega) h2 n h3 h4
    · rcases e5 with e5 | e5
      · rw [e5]
        rcases m4 with m4 | m4
        · rw [m4]
          rcases l4 with l4 | l4
          · exact Or.inl l4
          · exact Or.inr ⟨a, l4.1, l4.2, t, ht, hro, k, hk, Or.inl a2⟩
        · exact Or.inr ⟨b, m4.1, m4.2, t, ht, hro, k, hk, Or.inr b2⟩
      · exact Or.inr e5
theorem s_least_out (h : cSheet σ.1 s T) (hw : zwp T) (hwt : zwt T) {top x : Nat} (htop : top < 2 ^ 31) (hx : x ≤ 999) : ∀ d u v z, u + d = T.1 → v ≤ x → ∃ v', zX zP zK_X3_leastFor (5, [zR 13 s, zI (nI top), zI (nI x), zI (nI v), zI (nI u), z], []) σ = zok (nI v') σ ∧ v ≤ v' ∧ v' ≤ x ∧ (∀ t, u ≤ t → t < T.1 → pRoot T t = top → ∀ j, j < rct (T.2 t) → ∀ n, n < x → pEndAt T t j n → n < v') ∧ (v' = v ∨ ∃ n, n < x ∧ v' = n + 1 ∧ pStopIn T top n) := by
  intro d
  have h6 := h.2.1
  induction d with
  | zero =>
    intro u v z hd hv
    refine ⟨v, ?_, Nat.le_refl _, hv, fun t h1 h2 => by omega, Or.inl rfl⟩
    rw [e_X3_leastFor_5, h.1, if_neg (nI_nlt (by omega) (by omega))]
  | succ d ih =>
    intro u v z hd hv
    have hu : u < T.1 := by omega
    have hrl : pRoot T u ≤ u := zrt_le hw h6 6 u hu
    rw [e_X3_leastFor_5, h.1, if_pos (nI_lt hu (by omega))]
    by_cases c : pRoot T u = top
    · obtain ⟨v1, z1, e1, e2, e3, e4, e5⟩ := s_least_in h hw hwt htop hx hu c (rct (T.2 u)) 0 v (by omega) hv
      rw [nI_0] at e1
      obtain ⟨v2, f1, f2, f3, f4, f5⟩ := ih (u + 1) v1 z1 (by omega) e3
      refine ⟨v2, e1.trans f1, by omega, f3, fun t h1 h2 h3 j h4 n h5 h6 => ?_, ?_⟩
      · by_cases e : t = u
        · subst e
          have := e4 j (by omega) h4 n h5 h6
          omega
        · exact f4 t (by omega) h2 h3 j h4 n h5 h6
      · rcases f5 with f5 | f5
        · rw [f5]; exact e5
        · exact Or.inr f5
    · obtain ⟨q1, q2, q3⟩ := s_in h hu
      have c' : ¬ nI (pRoot T u) = nI top := fun e => c ((nI_ne (by omega) htop).mp e)
      obtain ⟨v2, f1, f2, f3, f4, f5⟩ := ih (u + 1) v (zI 0) (by omega) hv
      refine ⟨v2, Eq.trans ?_ f1, f2, f3, fun t h1 h2 h3 j h4 n h5 h6 => ?_, f5⟩
      · rw [e_X3_leastFor_17]
        simp only [q2, q1, if_false, (h.2.2 u hu).2.1, c', nI_1]
      · by_cases e : t = u
        · subst e; exact (c h3).elim
        · exact f4 t (by omega) h2 h3 j h4 n h5 h6
theorem s_leastFor (h : cSheet σ.1 s T) (hw : zwp T) (hwt : zwt T) {top x : Nat} (htop : top < 2 ^ 31) (hx : x ≤ 999) : ∃ v, zrun zP 79 [zR 13 s, zI (nI top), zI (nI x)] σ = zok (nI v) σ ∧ pLeast T top x v := by
  obtain ⟨v, e1, e2, e3, e4, e5⟩ := s_least_out h hw hwt htop hx T.1 0 0 zJunk (by omega) (by omega)
  rw [nI_0] at e1
  refine ⟨v, by rw [e_X3_leastFor, e1], e3, fun n h1 h2 => ?_, ?_⟩
  · obtain ⟨t, t1, t2, k, k1, k2⟩ := h2
    exact e4 t (by omega) t1 t2 k k1 n h1 k2
  · exact e5
theorem m_isStopP (h : mSheet σ.1 31 T) (hw : zwp T) {top n : Nat} (htop : top < 2 ^ 31) : zrun zP 151 [zR 16 i, zI (nI top), zI (nI n)] σ = zok (zb (pStopIn T top n)) σ := m_isStop h hw top htop (nI n)
theorem m_stopAhead (h : mSheet σ.1 31 T) (hw : zwp T) {top x : Nat} (htop : top < 2 ^ 31) (hx : x ≤ 999) : ∃ v, zrun zP 201 [zR 16 i, zI (nI top), zI (nI x)] σ = zok (nI v - 1) σ ∧ pLeast T top x v := by
  have L : ∀ d, d ≤ x → (∀ n, d ≤ n → n < x → ¬ pStopIn T top n) → ∃ v, zX zP zK_X6_stopAhead (4, [zR 16 i, zI (nI top), zI (nI x), zI (nI d - 1)], []) σ = zok (nI v - 1) σ ∧ pLeast T top x v := by
    intro d
    induction d with
    | zero =>
      intro hd hno
      refine ⟨0, ?_, by omega, fun n h1 h2 => (hno n (by omega) h1 h2).elim, Or.inl rfl⟩
      rw [e_X6_stopAhead_4, if_pos (by rw [nI_0]; decide)]
      rfl
    | succ d ih =>
      intro hd hno
      rw [e_X6_stopAhead_4, nI_pred, if_neg (nI_pos (by omega)), m_isStopP h hw htop, zcI_ok, show nI d + (-1) = nI d - 1 from by rw [Int32.sub_eq_add_neg]]
      by_cases c : pStopIn T top d
      · refine ⟨d + 1, ?_, by omega, fun n h1 h2 => ?_, Or.inr ⟨d, by omega, rfl, c⟩⟩
        · rw [zb_t c, if_neg (by decide), nI_pred]
        · rcases Nat.lt_or_ge n (d + 1) with q | q
          · exact q
          · exact (hno n q h1 h2).elim
      · rw [zb_f c, if_pos rfl]
        refine ih (by omega) (fun n h1 h2 => ?_)
        by_cases e : n = d
        · rw [e]; exact c
        · exact hno n (by omega) h2
  rw [e_X6_stopAhead]
  exact L x (Nat.le_refl _) (fun n h1 h2 => by omega)
end ZLE
