/-! the law's helpers: what they share -/
def zNcs (U : State) : Prop := va_Nc (zxn 1) (zxn 0) U ∧ va_Nc (zxn 2) (zxn 0) U ∧ va_Nc (zxn 2) (zxn 1) U
theorem zNcs_moved {u U : State} (hvm : u.vm.Alike U.vm) (h : zNcs u) : zNcs U := ⟨va_Nc.moved hvm h.1, va_Nc.moved hvm h.2.1, va_Nc.moved hvm h.2.2⟩
def zhrm (a n : Nat) : Room := { frames := zfr a + 1, cells := n, slots := 6 * n, locals := 19 + (zP a).2 + zlo a }
/-- what a helper makes of a call -/
def zhR (a : Nat) (as : List zAV) (cd : Nat → Int32) (σ : zSt) (k : Int32) (σ1 : zSt) : Prop := (∃ x M1, zrun zP a (zR 15 0 :: as) σ = zok x (M1, σ.2) ∧ k = 0 ∧ σ1 = (M1, x.toInt64, σ.2.2)) ∨ (∃ e M1, e < 3 ∧ cd e ≠ 0 ∧ zrun zP a (zR 15 0 :: as) σ = some (.inr e, (M1, σ.2.1, σ.2.2 + 1)) ∧ k = cd e ∧ σ1 = (M1, σ.2.1, σ.2.2 + 1))
theorem zag_use {c m : Nat} {as : List zAV} {cd : Nat → Int32} {M : zMem} (h : zAg c m as cd M) (ρ : Int64 × Nat) : ∃ k M1 ρ1 x2 M2, zhR c as cd (M, ρ) k (M1, ρ1) ∧ zrun zP m (zR 16 0 :: as) (M1, ρ1) = zok x2 (M2, ρ1) ∧ M2 16 0 0 = k ∧ (k = 0 → ρ1.1 = x2.toInt64) ∧ zRel M2 ∧ ρ.2 ≤ ρ1.2 ∧ ρ1.2 ≤ ρ.2 + 1 := by
  rcases h ρ ρ with ⟨x, M1, M2, h1, -, -, -⟩ | ⟨e, M1, M2, he, hz, h1, -, -, -⟩
  · rcases h ρ (x.toInt64, ρ.2) with ⟨x', M1', M2, h1', h2, h3, h4⟩ | ⟨e, M1', M2, he, hz, h1', -, -, -⟩
    · have e1 := Option.some.inj (h1.symm.trans h1')
      simp only [Prod.mk.injEq, Sum.inl.injEq, Option.some.injEq] at e1
      obtain ⟨rfl, rfl, -⟩ := e1
      exact ⟨0, M1, (x.toInt64, ρ.2), x, M2, Or.inl ⟨x, M1, h1, rfl, rfl⟩, h2, h3, fun _ => rfl, h4, Nat.le_refl _, Nat.le_succ _⟩
    · exact absurd (Option.some.inj (h1.symm.trans h1')) (fun e => by cases e)
  · rcases h ρ (ρ.1, ρ.2 + 1) with ⟨x', M1', M2, h1', -, -, -⟩ | ⟨e', M1', M2, he', hz', h1', h2, h3, h4⟩
    · exact absurd (Option.some.inj (h1.symm.trans h1')) (fun e => by cases e)
    · have e1 := Option.some.inj (h1.symm.trans h1')
      simp only [Prod.mk.injEq, Sum.inr.injEq, and_true] at e1
      obtain ⟨rfl, rfl⟩ := e1
      exact ⟨cd e, M1, (ρ.1, ρ.2 + 1), 0, M2, Or.inr ⟨e, M1, he, hz, h1, rfl, rfl⟩, h2, h3, fun q => absurd q hz, h4, Nat.le_succ _, Nat.le_refl _⟩
theorem zag_none {c m : Nat} {as : List zAV} {M : zMem} (h : zAg c m as cdN M) (ρ : Int64 × Nat) : ∃ x M1 M2, zrun zP c (zR 15 0 :: as) (M, ρ) = zok x (M1, ρ) ∧ zrun zP m (zR 16 0 :: as) (M1, ρ) = zok x (M2, ρ) ∧ zRel M2 := by
  rcases h ρ ρ with ⟨x, M1, M2, h1, h2, -, h4⟩ | ⟨e, M1, M2, he, hz, -⟩
  · exact ⟨x, M1, M2, h1, h2, h4⟩
  · exact absurd rfl hz
section ZLT
variable {p : Program} {l : Launch} {e : Env} {R : Room} {s : State} {m : MethodId} {args : Array Value} {below : List Frame} {meth : Method} {c : Code} {H : Heap} {locs : List Loc} {cells slots : Nat} {Q : State → Prop}
variable {cc : ByteArray} {own : String} {pc : Nat} {ls : Array Slot} {rest st0 : List Value} {D : va_G} {g : zIds} {adr : Nat → Nat → Nat} {H0 : Heap} {σ σ1 : zSt}
theorem zl_here (hH : H0.size ≤ s.heap.size ∧ ∀ q : Nat, q < H0.size → s.heap[q]? = H0[q]?) (hP : va_P D vwCl (zwd g adr σ) H) (hS : va_S (zA H0) s.heap H locs) : zWd D g adr H0 σ H :=
  ⟨hP, Nat.le_trans hH.1 hS.1, fun q hq => (hS.2.1 q (Nat.lt_of_lt_of_le hq hH.1) (Nat.not_le.mpr hq)).trans (hH.2 q hq)⟩
/-- a method of the small machine, called from outside -/
theorem zl_virt (hx : p.tables.exec = Jvm.exec) (hb : c.code = cc) (hml : c.maxLocals = ls.size) (hown : s.vm.findClass own = some m.cls) (hts : ∀ w ∈ zTb, w.before args s = true) (hG : zGd D g adr H0 s) (hH : H0.size ≤ s.heap.size ∧ ∀ q : Nat, q < H0.size → s.heap[q]? = H0[q]?) {a i idx n : Nat} {as : List zAV} {o1 : zOut} (ha : a < 245)
    (hM : zMet l D g adr H0 (zy a) (zws a) (zrm a n) (zR (10 + zown a) i :: as) σ o1 σ1) (hi : i < zcnt (10 + zown a)) (hlk : Cond.methodLink own idx (zy a) ∈ zTb) (hst : (match zMW[a]? with
      | some q => !q.1
      | none => false) = true) (hpar : (parseMethodDescriptor (zy a).desc).map (fun d => d.parameters.length) = some as.length) (hfr : zfr a + 1 ≤ R.frames) (hlo : 8 + ((zP a).2 + 11) + zlo a ≤ R.locals)
    (hP : va_P D vwCl (zwd g adr σ) H) (hS : va_S (zA H0) s.heap H locs) (hroom : (rest.map fun v => v.category).sum ≤ 8) (hd : decode cc pc = .ok (.invokevirtual idx, 3)) (hc : cells + n ≤ R.cells) (hs : slots + 6 * n ≤ R.slots) (hstk : st0 = (as.map (zval adr)).reverse ++ .ref (adr (10 + zown a) i) :: rest) :
    vx_Run p l e R s m args below meth c H locs cells slots n (6 * n) (F0 m pc ls st0) rest (zQc D g adr H0 o1 σ1 ((zR (10 + zown a) i :: as).map (zval adr)).toArray) (zXc D g adr H0 o1 σ1) (zfree H0) := by
  obtain ⟨ho6, hocl, -⟩ := zown_ok ha
  have hw : GoodIn zTb (wsV own idx (zcn (zown a)) (zy a) (zws a)) := zGoodIn (fun w hw => by
    rcases List.mem_append.mp hw with hw | hw
    · simp only [List.mem_cons, List.not_mem_nil, or_false] at hw
      rcases hw with rfl | rfl | rfl | rfl
      · exact hlk
      · exact (zmw_virt ha hst).1
      · rw [← hocl]; exact (zmw_virt ha hst).2
      · exact zini_in ho6
    · rcases List.mem_cons.mp hw with rfl | hw
      · exact zcode_in ha
      · exact hw)
  have hrv : zval adr (zR (10 + zown a) i) = .ref (adr (10 + zown a) i) := zval_ref (by omega)
  have hav : ((zR (10 + zown a) i :: as).map (zval adr)).toArray = (Value.ref (adr (10 + zown a) i) :: as.map (zval adr)).toArray := by rw [List.map_cons, hrv]
  rw [hav]
  exact vx_runV (As := as.map (zval adr)) (C := zcn (zown a)) ⟨hx, hb, hml, hown, hts⟩ hM (cwV as.length hts hw rfl rfl rfl ⟨hocl, by rw [hocl]; exact zcn_ne.1, by rw [hocl]; exact zcn_ne.2, hpar⟩ ⟨hfr, hlo⟩) ⟨zPc_blind, va_recv (q := (zcn (zown a), zT (zown a), zNf (zown a))) hG.1 hP (zvw ho6) ((zwd_get hi σ).trans (by rw [zcell_obj ho6])), fun U hU hW => ⟨by rw [hav], zGd_warm hW hG, by rw [hU]; exact zl_here hH hP hS⟩⟩ rfl (by rw [List.length_map]) rfl hstk (lv_room hroom) hd ⟨hc, hs⟩
/-- the same, the receiver's kind by its number -/
theorem zl_v (hx : p.tables.exec = Jvm.exec) (hb : c.code = cc) (hml : c.maxLocals = ls.size) (hown : s.vm.findClass own = some m.cls) (hts : ∀ w ∈ zTb, w.before args s = true) (hG : zGd D g adr H0 s) (hH : H0.size ≤ s.heap.size ∧ ∀ q : Nat, q < H0.size → s.heap[q]? = H0[q]?) {a idx n kd : Nat} {as : List zAV} {o1 : zOut} (ha : a < 245) (ho : 10 + zown a = kd)
    (hM : zMet l D g adr H0 (zy a) (zws a) (zrm a n) (zR kd 0 :: as) σ o1 σ1) (hi : 0 < zcnt kd) (hlk : Cond.methodLink own idx (zy a) ∈ zTb) (hst : (match zMW[a]? with
      | some q => !q.1
      | none => false) = true) (hpar : (parseMethodDescriptor (zy a).desc).map (fun d => d.parameters.length) = some as.length) (hfr : zfr a + 1 ≤ R.frames) (hlo : 8 + ((zP a).2 + 11) + zlo a ≤ R.locals)
    (hP : va_P D vwCl (zwd g adr σ) H) (hS : va_S (zA H0) s.heap H locs) (hroom : (rest.map fun v => v.category).sum ≤ 8) (hd : decode cc pc = .ok (.invokevirtual idx, 3)) (hc : cells + n ≤ R.cells) (hs : slots + 6 * n ≤ R.slots) (hstk : st0 = (as.map (zval adr)).reverse ++ .ref (adr kd 0) :: rest) :
    vx_Run p l e R s m args below meth c H locs cells slots n (6 * n) (F0 m pc ls st0) rest (zQc D g adr H0 o1 σ1 ((zR kd 0 :: as).map (zval adr)).toArray) (zXc D g adr H0 o1 σ1) (zfree H0) := by
  subst ho
  exact zl_virt hx hb hml hown hts hG hH ha hM hi hlk hst hpar hfr hlo hP hS hroom hd hc hs hstk
theorem zl_lo (a n : Nat) : 8 + ((zP a).2 + 11) + zlo a ≤ (zhrm a n).locals := by
  show 8 + ((zP a).2 + 11) + zlo a ≤ 19 + (zP a).2 + zlo a
  omega
/-- behind a call that has thrown: where it may be caught -/
theorem zW_cat {mc ms : Nat} {aa : Array Value} {x1 : Nat} (hS : va_S (zA H0) s.heap H locs) (hr : vx_Run p l e R s m args below meth c H locs cells slots mc ms (F0 m pc ls st0) rest (zQc D g adr H0 (.inr x1) σ1 aa) (zXc D g adr H0 (.inr x1) σ1) (zfree H0))
    (kk : ∀ (q : Addr) (ce : Cell) (H1 : Heap) (locs1 : List Loc), va_P D vwCl (zwd g adr σ1) H1 → va_S (zA H0) s.heap H1 locs1 → H1[q]? = some ce → ce.vm = .none → s.vm.findClass (zxn x1) = some ce.cls → vx_W p l e R s m args below meth c H1 locs1 (cells + mc) (slots + ms) Q (F0 m pc ls rest) q) : W p l e R s m args below meth c H locs cells slots Q (F0 m pc ls st0) := by
  intro T hT X
  rcases hr T hT X with ⟨v, st₀, t, T', L1, h0, X', hL, e1, e2, hq, st⟩ | ⟨q, st₀, t, T', L1, E1, ce, h0, X', hL, e1, e2, ⟨hE1, hWd⟩, hce, hcv, hcl, st⟩
  · exact hq.elim
  · have hfr := vx_frame (U := T') X'.same
    have hloc : ∀ z ∈ locs ++ L1, zfree H0 z.base := fun z hz => (List.mem_append.mp hz).elim (hS.2.2 z) (hL z)
    have hS1 : va_S (zA H0) s.heap T'.heap (locs ++ L1) := ⟨hfr.1, fun q hq hA => hfr.2 q hq (fun z hz he => hA (by rw [← he]; exact hloc z hz)), hloc⟩
    obtain ⟨t', a1, b1⟩ := kk q ce T'.heap (locs ++ L1) (by rw [e1]; exact hWd.1) hS1 (by rw [e1]; exact hce) hcv (by rw [← hE1]; exact hcl) T' rfl X'
    exact ⟨t', st.trans a1, b1⟩
/-- the law's out[0] written -/
theorem zout_P {f : Nat → Int64} {y : Int64} (hf : f 0 = y) (hP : va_P D vwCl ((zwd g adr σ).set 414 (adr 41 0, .inl (g.2.2.1, 1, .inr (.inl f)))) H) : va_P D vwCl (zwd g adr (σ.1, y, σ.2.2)) H := by
  have hlen : (zwd g adr σ).length = 415 := by simp [zwd]
  intro q e he
  obtain ⟨h1, h2⟩ := zwd_at he
  subst h2
  by_cases hq : q = 414
  · subst hq
    have h3 : va_at D vwCl (adr 41 0, .inl (g.2.2.1, 1, .inr (.inl f))) H := hP 414 _ (by rw [List.getElem?_set]; rw [if_pos rfl, if_pos (by rw [hlen]; decide)])
    have h4 : H[adr 41 0]? = some (arrV g.2.2.1 1 (fun j => .long (f j))) := h3
    rw [arrV_congr (f' := fun _ => .long y) (fun j hj => by rw [show j = 0 by omega, hf])] at h4
    exact h4
  · refine hP q _ ?_
    rw [List.getElem?_set, if_neg (fun h => hq h.symm)]
    have h3 := zwd_get (g := g) (adr := adr) (zpos_inv q h1).2 σ
    rw [(zpos_inv q h1).1] at h3
    rw [h3]
    have h5 : ¬ zkd q = 41 := fun h => hq (by
      have h6 := zpos_inv q h1
      rw [h] at h6
      have h7 : zix q < 1 := h6.2
      have h8 : 414 + zix q = q := h6.1
      omega)
    unfold zcell
    rw [if_neg h5, if_neg h5]
end ZLT
/-- a helper's contract -/
def zHm (l : Launch) (D : va_G) (g : zIds) (adr : Nat → Nat → Nat) (H0 : Heap) (a : Nat) (y : MethodName) (cc : ByteArray) (mL : Nat) (hh : List (Nat × Nat × Nat × Nat)) (as : List zAV) (σ : zSt) (k : Int32) (σ1 : zSt) : Prop :=
  vx_Met l y (.codeWith y cc mL (some .int) hh :: zTb) (zhrm a (σ1.2.2 - σ.2.2)) (fun av U => zPc D g adr H0 (zR 15 0 :: as ++ [zR 41 0]) σ av U ∧ zNcs U) (zQc D g adr H0 (.inl (some (zI k))) σ1) (zXc D g adr H0 (.inl (some (zI k))) σ1) (σ1.2.2 - σ.2.2) (6 * (σ1.2.2 - σ.2.2)) (zfree H0)
theorem zhR_le {a : Nat} {as : List zAV} {cd : Nat → Int32} {σ σ1 : zSt} {k : Int32} (h : zhR a as cd σ k σ1) : σ.2.2 ≤ σ1.2.2 := by
  rcases h with ⟨x, M1, -, -, rfl⟩ | ⟨e, M1, -, -, -, -, rfl⟩
  · exact Nat.le_refl _
  · exact Nat.le_succ _
theorem zhl_13 : Cond.classLink RL 13 (zxn 1) ∈ zTb := zTb_in (i := 361) (by decide +kernel) rfl
theorem zhl_19 : Cond.classLink RL 19 (zxn 0) ∈ zTb := zTb_in (i := 689) (by decide +kernel) rfl
theorem zhl_21 : Cond.classLink RL 21 (zxn 2) ∈ zTb := zTb_in (i := 690) (by decide +kernel) rfl
theorem zl_ini : Cond.initialized RL ∈ zTb := zTb_in (i := 83) (by decide +kernel) rfl
