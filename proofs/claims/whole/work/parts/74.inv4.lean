/-! sheets: what a put, a split, a take of a whole mark, a move and a silence keep -/
section ZI4
variable {T : zSheet}
theorem below_fuel (hw : zwp T) (h6 : T.1 ≤ 6) {a : Nat} : ∀ f f' p, p < T.1 → p ≤ f → p ≤ f' → (zbelow T a f p ↔ zbelow T a f' p) := by
  intro f
  induction f with
  | zero =>
    intro f' p hp h1 h2
    have h0 : rpr (T.2 p) = -1 := Classical.byContradiction (fun c => by have := zpt_ne hw h6 hp c; omega)
    cases f' with
    | zero => exact Iff.rfl
    | succ f' => exact ⟨fun e => e.elim, fun e => absurd h0 e.1⟩
  | succ f ih =>
    intro f' p hp h1 h2
    cases f' with
    | zero =>
      have h0 : rpr (T.2 p) = -1 := Classical.byContradiction (fun c => by have := zpt_ne hw h6 hp c; omega)
      exact ⟨fun e => absurd h0 e.1, fun e => e.elim⟩
    | succ f' =>
      by_cases c : rpr (T.2 p) = -1
      · exact ⟨fun e => absurd c e.1, fun e => absurd c e.1⟩
      · have hl := zpt_ne hw h6 hp c
        have i := ih f' (zpt T p) (by omega) (by omega) (by omega)
        exact ⟨fun e => ⟨e.1, e.2.imp id i.mp⟩, fun e => ⟨e.1, e.2.imp id i.mpr⟩⟩
theorem below_s (hw : zwp T) (h6 : T.1 ≤ 6) {t a : Nat} (ht : t < T.1) : pBelow T t a ↔ ¬ rpr (T.2 t) = -1 ∧ (zpt T t = a ∨ pBelow T (zpt T t) a) := by
  constructor
  · intro e
    have hl := zpt_ne hw h6 ht e.1
    exact ⟨e.1, e.2.imp id (below_fuel hw h6 5 6 _ (by omega) (by omega) (by omega)).mp⟩
  · intro e
    have hl := zpt_ne hw h6 ht e.1
    exact ⟨e.1, e.2.imp id (below_fuel hw h6 5 6 _ (by omega) (by omega) (by omega)).mpr⟩
theorem piece_fuel (hw : zwp T) (h6 : T.1 ≤ 6) {a : Nat} : ∀ f f' p, p < T.1 → p ≤ f → p ≤ f' → (zpiece T a f p ↔ zpiece T a f' p) := by
  intro f
  induction f with
  | zero =>
    intro f' p hp h1 h2
    have h0 : rpr (T.2 p) = -1 := Classical.byContradiction (fun c => by have := zpt_ne hw h6 hp c; omega)
    cases f' with
    | zero => exact Iff.rfl
    | succ f' => exact ⟨fun e => Or.inl e, fun e => e.elim id (fun q => absurd h0 q.2.1)⟩
  | succ f ih =>
    intro f' p hp h1 h2
    cases f' with
    | zero =>
      have h0 : rpr (T.2 p) = -1 := Classical.byContradiction (fun c => by have := zpt_ne hw h6 hp c; omega)
      exact ⟨fun e => e.elim id (fun q => absurd h0 q.2.1), fun e => Or.inl e⟩
    | succ f' =>
      by_cases c : rpr (T.2 p) = -1
      · exact ⟨fun e => e.imp id (fun q => absurd c q.2.1), fun e => e.imp id (fun q => absurd c q.2.1)⟩
      · have hl := zpt_ne hw h6 hp c
        have i := ih f' (zpt T p) (by omega) (by omega) (by omega)
        exact ⟨fun e => e.imp id (fun q => ⟨q.1, q.2.1, i.mp q.2.2⟩), fun e => e.imp id (fun q => ⟨q.1, q.2.1, i.mpr q.2.2⟩)⟩
theorem piece_s (hw : zwp T) (h6 : T.1 ≤ 6) {t a : Nat} (ht : t < T.1) : pPiece T t a ↔ t = a ∨ (rkd (T.2 t) = 1 ∧ ¬ rpr (T.2 t) = -1 ∧ pPiece T (zpt T t) a) := by
  constructor
  · intro e
    refine e.imp id (fun q => ⟨q.1, q.2.1, ?_⟩)
    have hl := zpt_ne hw h6 ht q.2.1
    exact (piece_fuel hw h6 5 6 _ (by omega) (by omega) (by omega)).mp q.2.2
  · intro e
    refine e.imp id (fun q => ⟨q.1, q.2.1, ?_⟩)
    have hl := zpt_ne hw h6 ht q.2.1
    exact (piece_fuel hw h6 5 6 _ (by omega) (by omega) (by omega)).mpr q.2.2
/-- a mark comes -/
theorem ok_put (h : zOk T) (h6 : T.1 ≤ 6) (h40 : ∀ u, u < T.1 → rct (T.2 u) ≤ 40) {a : Nat} (ha : a < T.1) {x y l : Int32} (hp : pMayPut T a x y) (hxy : x < y) (hx : ∃ n, n ≤ 999 ∧ x = nI n) (hy : ∃ n, n ≤ 999 ∧ y = nI n) (hl : ∃ v, v < 2 ^ 31 ∧ l = nI v) : zOk (sPut T a x y l) := by
  obtain ⟨hw, w2, w3, w4, w5⟩ := h
  obtain ⟨p1, p2, p3⟩ := hp
  have k3 : ¬ rkd (T.2 a) = 3 := by
    rcases p1 with e | e <;> rw [e] <;> decide
  have dis : ∀ v, v < T.1 → pPiece T v a → ¬ rkd (T.2 v) = 3 ∧ ∀ f g, inR (T.2 v) f g → ¬ (f < y ∧ x < g) := by
    intro v
    induction v using Nat.strongRecOn with
    | _ v ih =>
      intro hv hpc
      rcases (piece_s hw h6 hv).mp hpc with e | ⟨e1, e2, e3⟩
      · rw [e]
        refine ⟨k3, ?_⟩
        rintro f g ⟨k, k1, k2, k4⟩ q
        exact p2 ⟨k, k1, Or.inr ⟨k3, by rw [k2]; exact q.1, by rw [k4]; exact q.2⟩⟩
      · have hlt := zpt_ne hw h6 hv e2
        refine ⟨by rw [e1]; decide, fun f g hi q => ?_⟩
        obtain ⟨F, G, a1, a2, a3⟩ := w5 v hv e2 f g hi
        refine (ih _ hlt (by omega) e3).2 F G a1 ⟨?_, ?_⟩
        · have := q.1; rw [iI_lt] at this a2 ⊢; omega
        · have := q.2; rw [iI_lt] at this a3 ⊢; omega
  have row : ∀ v, v < T.1 → ((v = a ∧ (sPut T a x y l).2 v = tIns (T.2 v) x y l) ∨ (v ≠ a ∧ pPiece T v a ∧ (sPut T a x y l).2 v = tIns (T.2 v) x y 0) ∨ (v ≠ a ∧ ¬ pPiece T v a ∧ (sPut T a x y l).2 v = T.2 v)) := by
    intro v hv
    by_cases c : v = a
    · refine Or.inl ⟨c, ?_⟩
      rw [c]
      exact sUp_eq
    · have e : (sPut T a x y l).2 v = (sPutK T a T.1 x y).2 v := sUp_ne c
      by_cases c2 : pPiece T v a
      · exact Or.inr (Or.inl ⟨c, c2, e.trans (sPutK_t ⟨hv, hv, c, c2⟩)⟩)
      · exact Or.inr (Or.inr ⟨c, c2, e.trans (sPutK_f (fun q => c2 q.2.2.2))⟩)
  have pa : pPiece T a a := Or.inl rfl
  have h0 : ∃ v, v < 2 ^ 31 ∧ (0 : Int32) = nI v := ⟨0, by omega, rfl⟩
  have sub : ∀ v, v < T.1 → ∀ f g, inR (T.2 v) f g → inR ((sPut T a x y l).2 v) f g := fun v hv f g hi => by
    rcases row v hv with e | e | e
    · rw [e.2]; exact in_ins.mpr (Or.inl hi)
    · rw [e.2.2]; exact in_ins.mpr (Or.inl hi)
    · rw [e.2.2]; exact hi
  refine zOk_of ⟨hw, w2, w3, w4, w5⟩ h6 (sEq_up sPutK_eq rfl rfl rfl) (fun v hv => ?_) (fun v hv hpr f g hi => ?_)
  · rcases row v hv with e | e | e
    · obtain ⟨d1, d2⟩ := dis v hv (e.1 ▸ pa)
      rw [e.2]
      exact zRo_ins (w4 v hv) (Or.inr ⟨d1, hxy⟩) hx hy hl (fun _ k hk => d2 _ _ ⟨k, hk, rfl, rfl⟩)
    · obtain ⟨d1, d2⟩ := dis v hv e.2.1
      rw [e.2.2]
      exact zRo_ins (w4 v hv) (Or.inr ⟨d1, hxy⟩) hx hy h0 (fun _ k hk => d2 _ _ ⟨k, hk, rfl, rfl⟩)
    · rw [e.2.2]; exact w4 v hv
  · have hlt := zpt_ne hw h6 hv hpr
    have old : inR (T.2 v) f g → ∃ F G, inR ((sPut T a x y l).2 (zpt T v)) F G ∧ ¬ f < F ∧ ¬ G < g := fun q => by
      obtain ⟨F, G, a1, a2⟩ := w5 v hv hpr f g q
      exact ⟨F, G, sub _ (by omega) F G a1, a2⟩
    rcases row v hv with e | e | e
    · rw [e.2] at hi
      rcases in_ins.mp hi with q | ⟨q1, q2⟩
      · exact old q
      · have hk2 : ¬ rkd (T.2 a) = 0 := fun c => by
          rcases w2 a ha with z | z | z | z
          · exact absurd z.2 (e.1 ▸ hpr)
          · rw [c] at z; exact absurd z.1 (by decide)
          · rw [c] at z; exact absurd z.1 (by decide)
          · rw [c] at z; exact absurd z (by decide)
        obtain ⟨-, q3⟩ := p3.resolve_left hk2
        obtain ⟨F, G, a1, a2⟩ := (around_ex (h40 _ (by rw [← e.1]; omega))).mp q3
        rw [q1, q2]
        refine ⟨F, G, sub _ (by omega) F G ?_, a2⟩
        rw [e.1]; exact a1
    · rw [e.2.2] at hi
      rcases in_ins.mp hi with q | ⟨q1, q2⟩
      · exact old q
      · rw [q1, q2]
        refine ⟨x, y, ?_, i_rf _, i_rf _⟩
        obtain ⟨-, -, e3⟩ := ((piece_s hw h6 hv).mp e.2.1).resolve_left e.1
        rcases row (zpt T v) (by omega) with z | z | z
        · rw [z.2]; exact in_ins.mpr (Or.inr ⟨rfl, rfl⟩)
        · rw [z.2.2]; exact in_ins.mpr (Or.inr ⟨rfl, rfl⟩)
        · exact absurd e3 z.2.1
    · rw [e.2.2] at hi
      exact old hi
/-- a cut goes through -/
theorem ok_cut (h : zOk T) (h6 : T.1 ≤ 6) (h40 : ∀ u, u < T.1 → rct (T.2 u) ≤ 40) {a : Nat} (ha : a < T.1) {x : Int32} (h3 : ¬ rkd (T.2 a) = 3) (hn : pNoIn T a x) : zOk (sCut T a x) := by
  obtain ⟨hw, w2, w3, w4, w5⟩ := h
  have c3 : ∀ v, pCutC T a v → ¬ rkd (T.2 v) = 3 := fun v hv => by
    rcases hv with e | e
    · rw [e]; exact h3
    · rw [e.1]; decide
  have row : ∀ v, v < T.1 → (pCutC T a v ∧ (sCut T a x).2 v = tCutAt (T.2 v) x) ∨ (¬ pCutC T a v ∧ (sCut T a x).2 v = T.2 v) := fun v hv => by
    by_cases c : pCutC T a v
    · exact Or.inl ⟨c, sMapK_t ⟨hv, hv, c⟩⟩
    · exact Or.inr ⟨c, sMapK_f (fun e => c e.2.2)⟩
  have sub : ∀ v, v < T.1 → ∀ F G, inR (T.2 v) F G → ∀ f g, ¬ f < F → ¬ G < g → ¬ g < f → (pCutC T a v → ¬ (f < x ∧ x < g)) → ∃ F' G', inR ((sCut T a x).2 v) F' G' ∧ ¬ f < F' ∧ ¬ G' < g := by
    intro v hv F G hi f g e1 e2 e3 e4
    rcases row v hv with ⟨c, e⟩ | ⟨c, e⟩
    · rw [e]
      have s := (w4 v hv).1
      have k3 := c3 v c
      by_cases q : F < x ∧ x < G
      · have q4 := e4 c
        by_cases q5 : x < g
        · refine ⟨x, G, (in_cutAt s k3).mpr (Or.inr (Or.inr ⟨rfl, F, hi, q⟩)), fun z => q4 ⟨z, q5⟩, e2⟩
        · exact ⟨F, x, (in_cutAt s k3).mpr (Or.inr (Or.inl ⟨rfl, G, hi, q⟩)), e1, q5⟩
      · exact ⟨F, G, (in_cutAt s k3).mpr (Or.inl ⟨hi, q⟩), e1, e2⟩
    · rw [e]; exact ⟨F, G, hi, e1, e2⟩
  refine zOk_of ⟨hw, w2, w3, w4, w5⟩ h6 (sMapK_eq (fun v => tCutAt_3 _ _)) (fun v hv => ?_) (fun v hv hpr f g hi => ?_)
  · rcases row v hv with ⟨c, e⟩ | ⟨c, e⟩
    · rw [e]; exact zRo_cutAt (w4 v hv) (c3 v c) x
    · rw [e]; exact w4 v hv
  · have hlt := zpt_ne hw h6 hv hpr
    have s := (w4 v hv).1
    have le : ∀ f g, inR (T.2 v) f g → ¬ g < f := by
      rintro f g ⟨k, k1, k2, k3⟩
      rw [← k2, ← k3]
      exact zSrt_ft s k1
    rcases row v hv with ⟨c, e⟩ | ⟨c, e⟩
    · rw [e] at hi
      rcases (in_cutAt s (c3 v c)).mp hi with ⟨q1, q2⟩ | ⟨q1, G, q2, q3, q4⟩ | ⟨q1, F, q2, q3, q4⟩
      · obtain ⟨F, G, a1, a2, a3⟩ := w5 v hv hpr f g q1
        exact sub _ (by omega) F G a1 f g a2 a3 (le f g q1) (fun _ => q2)
      · obtain ⟨F', G', a1, a2, a3⟩ := w5 v hv hpr f G q2
        refine sub _ (by omega) F' G' a1 f g a2 ?_ ?_ (fun _ z => ?_)
        · rw [q1]; rw [iI_lt] at q4 a3 ⊢; omega
        · rw [q1]; rw [iI_lt] at q3 ⊢; omega
        · exact i_rf x (q1 ▸ z.2)
      · obtain ⟨F', G', a1, a2, a3⟩ := w5 v hv hpr F g q2
        refine sub _ (by omega) F' G' a1 f g ?_ a3 ?_ (fun _ z => ?_)
        · rw [q1]; rw [iI_lt] at q3 a2 ⊢; omega
        · rw [q1]; rw [iI_lt] at q4 ⊢; omega
        · exact i_rf x (q1 ▸ z.1)
    · rw [e] at hi
      obtain ⟨F, G, a1, a2, a3⟩ := w5 v hv hpr f g hi
      refine sub _ (by omega) F G a1 f g a2 a3 (le f g hi) (fun cp z => ?_)
      have bl : pBelow T v a := (below_s hw h6 hv).mpr ⟨hpr, cp.imp id (fun q => q.2)⟩
      obtain ⟨k, k1, k2, k3⟩ := hi
      rcases w2 v hv with q | q | q | q
      · exact absurd q.2 hpr
      · exact c (Or.inr ⟨q.1, bl⟩)
      · refine hn v hv ⟨q.1, bl, (pIn_ex (h40 v hv)).mpr ⟨k, k1, ?_, ?_⟩⟩
        · rw [k2]; exact z.1
        · rw [k3]; exact z.2
      · rcases s.1 k k1 with q2 | q2
        · obtain ⟨z1, z2⟩ := z
          rw [← k3, q2.2, k2] at z2
          rw [iI_lt] at z1 z2
          omega
        · exact absurd q q2.1
end ZI4
