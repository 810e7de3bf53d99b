/-! how far a stop may go on -/
def pGreat (T : zSheet) (top x v : Nat) : Prop := (x ≤ v ∧ v ≤ 999) ∧ (∀ n, x < n → n ≤ 999 → pStopIn T top n → v < n) ∧ (v = 999 ∨ ∃ n, x < n ∧ n ≤ 999 ∧ v + 1 = n ∧ pStopIn T top n)
theorem pGreat_u {T : zSheet} {top x v v' : Nat} (h : pGreat T top x v) (h' : pGreat T top x v') : v = v' := by
  obtain ⟨a1, a2, a3⟩ := h
  obtain ⟨b1, b2, b3⟩ := h'
  have e1 : v' ≤ v := by
    rcases a3 with q | ⟨n, n1, n0, n2, n3⟩
    · omega
    · have := b2 n n1 n0 n3
      omega
  have e2 : v ≤ v' := by
    rcases b3 with q | ⟨n, n1, n0, n2, n3⟩
    · omega
    · have := a2 n n1 n0 n3
      omega
  omega
def gstN (x v n : Nat) : Nat := if x < n then min v (n - 1) else v
theorem gst_mn {v n : Nat} (hv : v ≤ 999) (hn : n ≤ 999) (h1 : 1 ≤ n) : (if nI n - 1 < nI v then nI n - 1 else nI v) = nI (min v (n - 1)) := by
  obtain ⟨m, rfl⟩ : ∃ m, n = m + 1 := ⟨n - 1, by omega⟩
  rw [nI_pred, Nat.add_sub_cancel]
  simp only [nI_lp (show m < 2 ^ 31 by omega) (show v < 2 ^ 31 by omega)]
  by_cases c : m < v
  · rw [if_pos c, Nat.min_eq_right (by omega)]
  · rw [if_neg c, Nat.min_eq_left (by omega)]
section ZGR
variable {s i : Nat} {T : zSheet} {M : zMem} {ρ : Int64 × Nat} {σ : zSt}
theorem s_great_step (h : cSheet σ.1 s T) (hw : zwp T) {top x v t k a b : Nat} (htop : top < 2 ^ 31) (hx : x ≤ 999) (hv : v ≤ 999) (ht : t < T.1) (hro : pRoot T t = top) (hk : k < rct (T.2 t)) (ha : a ≤ 999) (hb : b ≤ 999) (e1 : rfr (T.2 t) k = nI a) (e2 : rto (T.2 t) k = nI b) : zX zP zK_X3_greatestFor (19, [zR 13 s, zI (nI top), zI (nI x), zI (nI v), zI (nI t), zI (nI k)], []) σ = zX zP zK_X3_greatestFor (19, [zR 13 s, zI (nI top), zI (nI x), zI (nI (gstN x (gstN x v a) b)), zI (nI t), zI (nI (k + 1))], []) σ := by
  have h6 := h.2.1
  obtain ⟨q1, q2, q3⟩ := s_in h ht
  have hr := (h.2.2 t ht).1
  have hn := hr.2.2.2.2.1
  have hc := hr.2.2.2.1
  have hf := hr.2.2.2.2.2 k hk
  have hin := nIk (k := k) (N := 40) (by omega) (by omega)
  have hcl := nI_clamp (n := k) (by omega)
  have hcc : nI k < nI (rct (T.2 t)) := nI_lt hk (by omega)
  rw [e_X3_greatestFor_19]
  simp only [q2, q1, hin, hcl, if_false, (h.2.2 t ht).2.1, hro, if_true, hc, hcc, hf.1, hf.2.1, e1, e2, nI_1, nI_lp (show x < 2 ^ 31 by omega) (show a < 2 ^ 31 by omega), nI_lp (show x < 2 ^ 31 by omega) (show b < 2 ^ 31 by omega)]
  unfold gstN
  by_cases c1 : x < a <;> by_cases c2 : x < b
  · simp only [c1, c2, if_true, gst_mn hv ha (show 1 ≤ a by omega), gst_mn (show min v (a - 1) ≤ 999 by omega) hb (show 1 ≤ b by omega)]
  · simp only [c1, c2, if_true, if_false, gst_mn hv ha (show 1 ≤ a by omega)]
  · simp only [c1, c2, if_true, if_false, gst_mn hv hb (show 1 ≤ b by omega)]
  · simp only [c1, c2, if_false]
theorem gstN_b {x v n : Nat} (hv : x ≤ v ∧ v ≤ 999) (hx : x ≤ 999) : gstN x v n ≤ v ∧ (x ≤ gstN x v n ∧ gstN x v n ≤ 999) ∧ (x < n → gstN x v n < n) ∧ (gstN x v n = v ∨ (x < n ∧ gstN x v n + 1 = n)) := by
  unfold gstN
  by_cases c : x < n
  · rw [if_pos c]
    refine ⟨Nat.min_le_left _ _, by omega, fun _ => by omega, ?_⟩
    rcases Nat.le_total v (n - 1) with q | q
    · exact Or.inl (Nat.min_eq_left q)
    · exact Or.inr ⟨c, by rw [Nat.min_eq_right q]; omega⟩
  · rw [if_neg c]
    exact ⟨Nat.le_refl _, hv, fun e => (c e).elim, Or.inl rfl⟩
theorem s_great_in (h : cSheet σ.1 s T) (hw : zwp T) (hwt : zwt T) {top x t : Nat} (htop : top < 2 ^ 31) (hx : x ≤ 999) (ht : t < T.1) (hro : pRoot T t = top) : ∀ d k v, k + d = rct (T.2 t) → x ≤ v ∧ v ≤ 999 → ∃ v' z', zX zP zK_X3_greatestFor (19, [zR 13 s, zI (nI top), zI (nI x), zI (nI v), zI (nI t), zI (nI k)], []) σ = zX zP zK_X3_greatestFor (7, [zR 13 s, zI (nI top), zI (nI x), zI (nI v'), zI (nI (t + 1)), z'], []) σ ∧ v' ≤ v ∧ (x ≤ v' ∧ v' ≤ 999) ∧ (∀ j, k ≤ j → j < rct (T.2 t) → ∀ n, x < n → n ≤ 999 → pEndAt T t j n → v' < n) ∧ (v' = v ∨ ∃ n, x < n ∧ n ≤ 999 ∧ v' + 1 = n ∧ pStopIn T top n) := by
  intro d
  have h6 := h.2.1
  have hr := (h.2.2 t ht).1
  have hn := hr.2.2.2.2.1
  obtain ⟨q1, q2, q3⟩ := s_in h ht
  induction d with
  | zero =>
    intro k v hd hv
    refine ⟨v, zI (nI k), ?_, Nat.le_refl _, hv, fun j h1 h2 => by omega, Or.inl rfl⟩
    have hnc : ¬ nI k < nI (rct (T.2 t)) := nI_nlt (by omega) (by omega)
    rw [e_X3_greatestFor_19]
    simp only [q2, q1, if_false, (h.2.2 t ht).2.1, hro, if_true, hr.2.2.2.1, hnc, nI_1]
  | succ d ih =>
    intro k v hd hv
    have hk : k < rct (T.2 t) := by omega
    obtain ⟨⟨a, a1, a2⟩, ⟨b, b1, b2⟩⟩ := hwt t ht k hk
    obtain ⟨l1, l2, l3, l4⟩ := gstN_b (n := a) hv hx
    obtain ⟨m1, m2, m3, m4⟩ := gstN_b (n := b) l2 hx
    obtain ⟨v', z', e1, e2, e3, e4, e5⟩ := ih (k + 1) (gstN x (gstN x v a) b) (by omega) m2
    refine ⟨v', z', (s_great_step h hw htop hx hv.2 ht hro hk a1 b1 a2 b2).trans e1, by omega, e3, fun j h1 h2 n h3 h0 h4 => ?_, ?_⟩
    · by_cases e : j = k
      · subst e
        rcases h4 with h4 | h4
        · have : a = n := nI_inj (by omega) (by omega) (a2.symm.trans h4)
          have := l3 (by omega)
          omega
        · have : b = n := nI_inj (by omega) (by omega) (b2.symm.trans h4)
          have := m3 (by omega)
          omega
      · exact e4 j (by omega) h2 n h3 h0 h4
    · rcases e5 with e5 | e5
      · rw [e5]
        rcases m4 with m4 | m4
        · rw [m4]
          rcases l4 with l4 | l4
          · exact Or.inl l4
          · exact Or.inr ⟨a, l4.1, a1, l4.2, t, ht, hro, k, hk, Or.inl a2⟩
        · exact Or.inr ⟨b, m4.1, b1, m4.2, t, ht, hro, k, hk, Or.inr b2⟩
      · exact Or.inr e5
theorem s_great_out (h : cSheet σ.1 s T) (hw : zwp T) (hwt : zwt T) {top x : Nat} (htop : top < 2 ^ 31) (hx : x ≤ 999) : ∀ d u v z, u + d = T.1 → x ≤ v ∧ v ≤ 999 → ∃ v', zX zP zK_X3_greatestFor (7, [zR 13 s, zI (nI top), zI (nI x), zI (nI v), zI (nI u), z], []) σ = zok (nI v') σ ∧ v' ≤ v ∧ (x ≤ v' ∧ v' ≤ 999) ∧ (∀ t, u ≤ t → t < T.1 → pRoot T t = top → ∀ j, j < rct (T.2 t) → ∀ n, x < n → n ≤ 999 → pEndAt T t j n → v' < n) ∧ (v' = v ∨ ∃ n, x < n ∧ n ≤ 999 ∧ v' + 1 = n ∧ pStopIn T top n) := by
  intro d
  have h6 := h.2.1
  induction d with
  | zero =>
    intro u v z hd hv
    refine ⟨v, ?_, Nat.le_refl _, hv, fun t h1 h2 => by omega, Or.inl rfl⟩
    rw [e_X3_greatestFor_7, h.1, if_neg (nI_nlt (by omega) (by omega))]
  | succ d ih =>
    intro u v z hd hv
    have hu : u < T.1 := by omega
    have hrl : pRoot T u ≤ u := zrt_le hw h6 6 u hu
    rw [e_X3_greatestFor_7, h.1, if_pos (nI_lt hu (by omega))]
    by_cases c : pRoot T u = top
    · obtain ⟨v1, z1, e1, e2, e3, e4, e5⟩ := s_great_in h hw hwt htop hx hu c (rct (T.2 u)) 0 v (by omega) hv
      rw [nI_0] at e1
      obtain ⟨v2, f1, f2, f3, f4, f5⟩ := ih (u + 1) v1 z1 (by omega) e3
      refine ⟨v2, e1.trans f1, by omega, f3, fun t h1 h2 h3 j h4 n h5 h0 h6 => ?_, ?_⟩
      · by_cases e : t = u
        · subst e
          have := e4 j (by omega) h4 n h5 h0 h6
          omega
        · exact f4 t (by omega) h2 h3 j h4 n h5 h0 h6
      · rcases f5 with f5 | f5
        · rw [f5]; exact e5
        · exact Or.inr f5
    · obtain ⟨q1, q2, q3⟩ := s_in h hu
      have c' : ¬ nI (pRoot T u) = nI top := fun e => c ((nI_ne (by omega) htop).mp e)
      obtain ⟨v2, f1, f2, f3, f4, f5⟩ := ih (u + 1) v (zI 0) (by omega) hv
      refine ⟨v2, Eq.trans ?_ f1, f2, f3, fun t h1 h2 h3 j h4 n h5 h0 h6 => ?_, f5⟩
      · rw [e_X3_greatestFor_19]
        simp only [q2, q1, if_false, (h.2.2 u hu).2.1, c', nI_1]
      · by_cases e : t = u
        · subst e; exact (c h3).elim
        · exact f4 t (by omega) h2 h3 j h4 n h5 h0 h6
theorem s_greatestFor (h : cSheet σ.1 s T) (hw : zwp T) (hwt : zwt T) {top x : Nat} (htop : top < 2 ^ 31) (hx : x ≤ 999) : ∃ v, zrun zP 80 [zR 13 s, zI (nI top), zI (nI x)] σ = zok (nI v) σ ∧ pGreat T top x v := by
  obtain ⟨v, e1, e2, e3, e4, e5⟩ := s_great_out h hw hwt htop hx T.1 0 999 zJunk (by omega) (by omega)
  rw [nI_0] at e1
  refine ⟨v, by rw [e_X3_greatestFor]; exact e1, e3, fun n h1 h0 h2 => ?_, ?_⟩
  · obtain ⟨t, t1, t2, k, k1, k2⟩ := h2
    exact e4 t (by omega) t1 t2 k k1 n h1 h0 k2
  · exact e5
theorem m_stopBehind (h : mSheet σ.1 31 T) (hw : zwp T) {top x : Nat} (htop : top < 2 ^ 31) (hx : x ≤ 999) : ∃ v, zrun zP 202 [zR 16 i, zI (nI top), zI (nI x)] σ = zok (nI (v + 1)) σ ∧ pGreat T top x v := by
  have L : ∀ d k, k + d = 1000 → x < k → (∀ n, x < n → n < k → ¬ pStopIn T top n) → ∃ v, zX zP zK_X6_stopBehind (4, [zR 16 i, zI (nI top), zI (nI x), zI (nI k)], []) σ = zok (nI (v + 1)) σ ∧ pGreat T top x v := by
    intro d
    induction d with
    | zero =>
      intro k hd hxk hno
      have : k = 1000 := by omega
      subst this
      refine ⟨999, ?_, by omega, fun n h1 h0 h2 => (hno n h1 (by omega) h2).elim, Or.inl rfl⟩
      rw [e_X6_stopBehind_4, if_pos (by decide)]
      rfl
    | succ d ih =>
      intro k hd hxk hno
      rw [e_X6_stopBehind_4, if_neg (show ¬ (999 : Int32) < nI k from (nI_nlt (by omega) (by omega) : ¬ nI 999 < nI k)), m_isStopP h hw htop, zcI_ok, nI_1]
      by_cases c : pStopIn T top k
      · refine ⟨k - 1, ?_, by omega, fun n h1 h0 h2 => ?_, Or.inr ⟨k, hxk, by omega, by omega, c⟩⟩
        · rw [zb_t c, if_neg (by decide), show k - 1 + 1 = k by omega]
        · rcases Nat.lt_or_ge n k with q | q
          · exact (hno n h1 q h2).elim
          · omega
      · rw [zb_f c, if_pos rfl]
        refine ih (k + 1) (by omega) (by omega) (fun n h1 h2 => ?_)
        by_cases e : n = k
        · rw [e]; exact c
        · exact hno n h1 (by omega)
  rw [e_X6_stopBehind, nI_1]
  exact L (1000 - (x + 1)) (x + 1) (by omega) (by omega) (fun n h1 h2 => by omega)
end ZGR
