/-! calls -/
theorem zpopn_spec : ∀ (n : Nat) (acc st r st' : List zAV), zpopn n acc st = some (r, st') → ∃ xs : List zAV, xs.length = n ∧ st = xs ++ st' ∧ r = xs.reverse ++ acc := by
  intro n
  induction n with
  | zero =>
    intro acc st r st' h
    simp only [zpopn, Option.some.injEq, Prod.mk.injEq] at h
    exact ⟨[], rfl, by simp [h.2], by simp [h.1]⟩
  | succ n ih =>
    intro acc st r st' h
    cases st with
    | nil => simp [zpopn] at h
    | cons v st =>
      simp only [zpopn] at h
      obtain ⟨xs, h1, h2, h3⟩ := ih _ _ _ _ h
      exact ⟨v :: xs, by simp [h1], by simp [h2], by simp [h3]⟩
theorem zcat_le {adr : Nat → Nat → Nat} : ∀ (st : List zAV), ((st.map (zval adr)).map fun v => v.category).sum ≤ 2 * st.length := by
  intro st
  induction st with
  | nil => simp
  | cons v r ih =>
    simp only [List.map_cons, List.sum_cons, List.length_cons]
    have h1 : (zval adr v).category ≤ 2 := by
      cases v with
      | inl x => simp [zval, Value.category]
      | inr y =>
        cases y with
        | inl x => simp [zval, Value.category]
        | inr q =>
          obtain ⟨k, i⟩ := q
          cases k <;> simp [zval, Value.category]
    omega
section ZCL
variable {l : Launch} {D : va_G} {g : zIds} {adr : Nat → Nat → Nat} {H0 : Heap} {j : Nat} {E : zAF → zSt → zRes} {Rn : Nat → List zAV → zSt → zRes} {pc nx a b : Nat} {c : Int32} {ts : List Nat} {L st : List zAV} {σ σ' : zSt} {o : zOut}
/-- behind a call that has given something back -/
theorem zW_ret {p : Program} {e : Env} {R : Room} {s : State} {m : MethodId} {args : Array Value} {below : List Frame} {meth : Method} {cc : Code} {H : Heap} {locs : List Loc} {cells slots mc ms : Nat} {Q : State → Prop} {ls : Array Slot} {st0 rest : List Value} {aa : Array Value} {v1 : Option zAV} {σ1 : zSt}
    (hS : va_S (zA H0) s.heap H locs) (hr : vx_Run p l e R s m args below meth cc H locs cells slots mc ms (F0 m pc ls st0) rest (zQc D g adr H0 (.inl v1) σ1 aa) (zXc D g adr H0 (.inl v1) σ1) (zfree H0))
    (kk : ∀ (H1 : Heap) (locs1 : List Loc), va_P D vwCl (zwd g adr σ1) H1 → va_S (zA H0) s.heap H1 locs1 → W p l e R s m args below meth cc H1 locs1 (cells + mc) (slots + ms) Q (F0 m (pc + 3) ls ((v1.map (zval adr)).toList ++ rest))) : W p l e R s m args below meth cc H locs cells slots Q (F0 m pc ls st0) := by
  intro T hT X
  rcases hr T hT X with ⟨v, st₀, t, T', L1, h0, X', hL, e1, e2, ⟨hv, hWd⟩, st⟩ | ⟨q, st₀, t, T', L1, E1, ce, h0, X', hL, e1, e2, hx, -⟩
  · cases hv
    have hfr := vx_frame (U := T') X'.same
    have hloc : ∀ z ∈ locs ++ L1, zfree H0 z.base := fun z hz => (List.mem_append.mp hz).elim (hS.2.2 z) (hL z)
    have hS1 : va_S (zA H0) s.heap T'.heap (locs ++ L1) := ⟨hfr.1, fun q hq hA => hfr.2 q hq (fun z hz he => hA (by rw [← he]; exact hloc z hz)), hloc⟩
    obtain ⟨t', a1, b1⟩ := kk T'.heap (locs ++ L1) (by rw [e1]; exact hWd.1) hS1 T' rfl X'
    exact ⟨t', st t' a1, b1⟩
  · exact hx.elim
/-- behind a call that has thrown -/
theorem zW_thr {p : Program} {e : Env} {R : Room} {s : State} {m : MethodId} {args : Array Value} {below : List Frame} {meth : Method} {cc : Code} {H : Heap} {locs : List Loc} {cells slots mc ms mc' ms' : Nat} {ls : Array Slot} {st0 rest : List Value} {aa : Array Value} {x1 : Nat} {σ1 : zSt}
    (hC : zCtx D g adr H0 j p s m args meth cc) (hS : va_S (zA H0) s.heap H locs) (hr : vx_Run p l e R s m args below meth cc H locs cells slots mc ms (F0 m pc ls st0) rest (zQc D g adr H0 (.inr x1) σ1 aa) (zXc D g adr H0 (.inr x1) σ1) (zfree H0)) (hc : cells + mc ≤ mc') (hs : slots + ms ≤ ms') :
    W p l e R s m args below meth cc H locs cells slots (vx_MQ below (zQc D g adr H0 (.inr x1) σ1) (zXc D g adr H0 (.inr x1) σ1) args s mc' ms' (zfree H0)) (F0 m pc ls st0) := by
  intro T hT X
  rcases hr T hT X with ⟨v, st₀, t, T', L1, h0, X', hL, e1, e2, hq, st⟩ | ⟨q, st₀, t, T', L1, E1, ce, h0, X', hL, e1, e2, ⟨hE1, hWd⟩, hce, hcv, hcl, st⟩
  · exact hq.elim
  · have hloc : ∀ z ∈ locs ++ L1, zfree H0 z.base := fun z hz => (List.mem_append.mp hz).elim (hS.2.2 z) (hL z)
    obtain ⟨t', a1, b1⟩ := vx_out (pc := pc) (ls := ls) (rest := rest) (Qc := zQc D g adr H0 (.inr x1) σ1) (XC := zXc D g adr H0 (.inr x1) σ1) (free := zfree H0) (fun x hx => (hC.2.2.2.2.2.2.2.1 x hx).elim) hC.2.2.2.2.2.2.1 (by rw [← e1] at hce; exact hce) hcv hcl (fun t2 ht2 _ => ⟨hE1, by rw [ht2, e1]; exact hWd⟩) hloc hc hs T' rfl X'
    exact ⟨t', st.trans a1, b1⟩
theorem zcode_in {k : Nat} (hk : k < 245) : Cond.code (zy k) (zcc k) (zP k).2 (zret k) ∈ zTb := by
  obtain ⟨⟨i, hi⟩, -⟩ := zall k hk
  exact zTb_in hi rfl
theorem zchkM_own {k N : Nat} (h : zchkM k N = true) : zown k ≤ 6 ∧ (zy k).cls = zcn (zown k) ∧ plainName (zy k).cls = true := by
  simp only [zchkM, Bool.and_eq_true, decide_eq_true_eq] at h
  exact ⟨Nat.le_of_ble_eq_true h.1.1.1, h.1.1.2, h.1.2⟩
theorem zown_ok {k : Nat} (hk : k < 245) : zown k ≤ 6 ∧ (zy k).cls = zcn (zown k) ∧ plainName (zy k).cls = true := by
  obtain ⟨-, N, h, -⟩ := zall k hk
  exact zchkM_own h
theorem zini_in {k : Nat} (hk : k ≤ 6) : Cond.initialized (zcn k) ∈ zTb := zTb_in (zIP_ok k (by omega)) rfl
theorem zcn_ne {k : Nat} : zcn k ≠ "java/lang/invoke/MethodHandle" ∧ zcn k ≠ "java/lang/invoke/VarHandle" := by
  unfold zcn
  split <;> decide
theorem zmw_virt {k : Nat} (hk : k < 245) (h : (match zMW[k]? with
      | some q => !q.1
      | none => false) = true) : Cond.instanceMethod (zy k) ∈ zTb ∧ Cond.selects (zy k).cls (zy k) (zy k) ∈ zTb := by
  have h1 := List.all_eq_true.mp zMW_ok0 k (by simp; omega)
  cases hq : zMW[k]? with
  | none => rw [hq] at h; cases h
  | some q =>
    rw [hq] at h h1
    simp only [Bool.not_eq_true'] at h
    simp only [h, cond_false, Bool.and_eq_true, decide_eq_true_eq] at h1
    exact ⟨zTb_in h1.1 rfl, zTb_in h1.2 rfl⟩
theorem zmw_stat {k : Nat} (hk : k < 245) (h : (match zMW[k]? with
      | some q => q.1
      | none => false) = true) : Cond.static (zy k) ∈ zTb := by
  have h1 := List.all_eq_true.mp zMW_ok0 k (by simp; omega)
  cases hq : zMW[k]? with
  | none => rw [hq] at h; cases h
  | some q =>
    rw [hq] at h h1
    simp only at h
    simp only [h, cond_true, decide_eq_true_eq] at h1
    exact zTb_in h1 rfl
/-- a call: the run of the callee, then ours -/
theorem zs_call {args st' : List zAV} {rt : Nat} (ha : a < 245) (hf : zfok j (pc, L, st)) (hsub : ∀ v ∈ st', v ∈ st) (hva : ∀ v ∈ args, zvok v) (hnl : znl args = true) (hlen : args.length ≤ (zP a).2)
    (hrun : ∀ (o1 : zOut) (σ1 : zSt), σ.2.2 ≤ σ1.2.2 → zMet l D g adr H0 (zy a) (zws a) (zrm a (σ1.2.2 - σ.2.2)) args σ o1 σ1 → ∀ (p : Program) (e : Env) (k : Nat) (s : State) (m : MethodId) (av : Array Value) (below : List Frame) (meth : Method) (cc : Code) (H : Heap) (locs : List Loc) (cells slots : Nat) (ls : Array Slot), zCtx D g adr H0 j p s m av meth cc → lv_has ls (zP j).2 (zlvF adr 0 L) → va_P D vwCl (zwd g adr σ) H → va_S (zA H0) s.heap H locs → cells + (σ1.2.2 - σ.2.2) ≤ k → slots + 6 * (σ1.2.2 - σ.2.2) ≤ 6 * k →
      vx_Run p l e (zrm j k) s m av below meth cc H locs cells slots (σ1.2.2 - σ.2.2) (6 * (σ1.2.2 - σ.2.2)) (F0 m pc ls (st.map (zval adr))) (st'.map (zval adr)) (zQc D g adr H0 o1 σ1 (args.map (zval adr)).toArray) (zXc D g adr H0 o1 σ1) (zfree H0))
    (h : zcall Rn E (pc + 3) L a rt args st' σ = some (o, σ')) (hE : zGE l D g adr H0 j E) (hR : zGR l D g adr H0 Rn) : zCon l D g adr H0 j (pc, L, st) σ o σ' := by
  have hfs : zfok j (pc, L, st') := ⟨hf.1, hf.2.1, hf.2.2.1, fun v hv => hf.2.2.2 v (hsub v hv)⟩
  have thr : ∀ (x : Nat) (σ1 : zSt), Rn a args σ = some (.inr x, σ1) → zCon l D g adr H0 j (pc, L, st) σ (.inr x) σ1 := by
    intro x σ1 hq
    obtain ⟨r1, r2, r3⟩ := hR a ha args σ _ _ hq hva hnl hlen
    refine ⟨trivial, r2, ?_⟩
    intro p e s m av below meth cc H locs ls n0 hn0 hC hl hP hS
    exact zW_thr hC hS (hrun _ _ r2 r3 p e (σ1.2.2 - n0) s m av below meth cc H locs _ _ ls hC hl hP hS (by omega) (by omega)) (by omega) (by omega)
  have ret : ∀ (v : Option zAV) (σ1 : zSt), Rn a args σ = some (.inl v, σ1) → E (pc + 3, L, v.toList ++ st') σ1 = some (o, σ') → zCon l D g adr H0 j (pc, L, st) σ o σ' := by
    intro v σ1 hq he
    obtain ⟨r1, r2, r3⟩ := hR a ha args σ _ _ hq hva hnl hlen
    have hfv : zfok j (pc + 3, L, v.toList ++ st') := by
      refine ⟨hf.1, hf.2.1, hf.2.2.1, fun w hw => ?_⟩
      rcases List.mem_append.mp hw with hw | hw
      · cases v with
        | none => cases hw
        | some v => rw [List.mem_singleton.mp hw]; exact r1
      · exact hfs.2.2.2 w hw
    obtain ⟨q1, q2, q3⟩ := hE _ _ _ _ he hfv
    refine ⟨q1, Nat.le_trans r2 q2, ?_⟩
    intro p e s m av below meth cc H locs ls n0 hn0 hC hl hP hS
    refine zW_ret hS (hrun _ _ r2 r3 p e (σ'.2.2 - n0) s m av below meth cc H locs _ _ ls hC hl hP hS (by omega) (by omega)) (fun H1 locs1 hP1 hS1 => ?_)
    have h9 := q3 p e s m av below meth cc H1 locs1 ls n0 (by omega) hC hl hP1 hS1
    have e1 : σ.2.2 - n0 + (σ1.2.2 - σ.2.2) = σ1.2.2 - n0 := by omega
    have e2 : 6 * (σ.2.2 - n0) + 6 * (σ1.2.2 - σ.2.2) = 6 * (σ1.2.2 - n0) := by omega
    rw [e1, e2]
    have e3 : ((v.map (zval adr)).toList ++ st'.map (zval adr)) = (v.toList ++ st').map (zval adr) := by
      cases v <;> rfl
    rw [e3]
    exact h9
  unfold zcall at h
  split at h
  · unfold zcV at h
    split at h
    · rename_i σ1 hq
      exact ret none σ1 hq h
    · rename_i x σ1 hq
      cases h
      exact thr x _ hq
    · cases h
  · unfold zcI at h
    split at h
    · rename_i x σ1 hq
      exact ret (some (zI x)) σ1 hq h
    · rename_i x σ1 hq
      cases h
      exact thr x _ hq
    · cases h
  · unfold zcR at h
    split at h
    · rename_i k i σ1 hq
      exact ret (some (zR k i)) σ1 hq h
    · rename_i x σ1 hq
      cases h
      exact thr x _ hq
    · cases h
theorem zs_stat {idx : Nat} (hlt : Nat.ble 1000 a = false) (hk : zck j pc (.invokestatic idx) nx a b c ts = true) (hd : decode (zcc j) pc = .ok (.invokestatic idx, nx - pc)) (hf : zfok j (pc, L, st))
    (h : zstat Rn E nx L a b (ts.headD 0) st σ = some (o, σ')) (hE : zGE l D g adr H0 j E) (hR : zGR l D g adr H0 Rn) : zCon l D g adr H0 j (pc, L, st) σ o σ' := by
  simp only [zck, hlt, cond_false, Bool.and_eq_true, decide_eq_true_eq] at hk
  obtain ⟨hnx, ⟨⟨⟨⟨⟨⟨ha, hml⟩, hst⟩, hpar⟩, hfr⟩, hlo⟩, hown⟩, hbl⟩ := hk
  have hnx := Nat.eq_of_beq_eq_true hnx
  subst hnx
  rw [show pc + 3 - pc = 3 by omega] at hd
  have ha : a < 245 := Nat.le_of_ble_eq_true ha
  have hfr := Nat.le_of_ble_eq_true hfr
  have hlo := Nat.le_of_ble_eq_true hlo
  have hown : zown a = zown j := Nat.eq_of_beq_eq_true hown
  have hbl := Nat.le_of_ble_eq_true hbl
  unfold zstat at h
  split at h
  · rename_i args st' hpop
    obtain ⟨xs, x1, x2, x3⟩ := zpopn_spec _ _ _ _ _ hpop
    rw [List.append_nil] at x3
    cases hb : (Nat.ble st'.length 4 && znl args) with
    | false => rw [hb] at h; cases h
    | true =>
      rw [hb] at h
      simp only [Bool.and_eq_true] at hb
      have hb1 := Nat.le_of_ble_eq_true hb.1
      refine zs_call ha hf (fun v hv => by rw [x2]; exact List.mem_append.mpr (Or.inr hv)) (fun v hv => hf.2.2.2 v (by show v ∈ st; rw [x2]; rw [x3] at hv; exact List.mem_append.mpr (Or.inl (List.mem_reverse.mp hv)))) hb.2 (by rw [x3, List.length_reverse, x1]; exact hbl) ?_ h hE hR
      intro o1 σ1 hm hM p e k s m av below meth cc H locs cells slots ls hC hl hP hS hk1 hk2
      have hw : GoodIn zTb (wsS (zcn (zown j)) idx (zy a) (zws a)) := zGoodIn (fun w hw => by
        rcases List.mem_append.mp hw with hw | hw
        · simp only [List.mem_cons, List.not_mem_nil, or_false] at hw
          rcases hw with rfl | rfl | rfl
          · exact zmlink hml
          · exact zmw_stat ha hst
          · exact zini_in (by rw [← hown]; exact (zown_ok ha).1)
        · rcases List.mem_cons.mp hw with rfl | hw
          · exact zcode_in ha
          · exact hw)
      refine vx_runS (As := args.map (zval adr)) ⟨hC.1, hC.2.1, hC.2.2.2.1, hC.2.2.2.2.1, hC.2.2.2.2.2.1⟩ hM (cwS b hC.2.2.2.2.2.1 hw rfl rfl rfl ⟨by rw [(zown_ok ha).2.1, hown], by rw [(zown_ok ha).2.1]; exact zcn_ne.1, by rw [(zown_ok ha).2.1]; exact zcn_ne.2, hpar⟩ ⟨hfr, hlo⟩) ⟨zPc_blind, fun U hU hW => ⟨rfl, zGd_warm hW hC.2.2.2.2.2.2.2.2.1, by rw [hU]; exact zwd_here hC hP hS⟩⟩ rfl (by rw [List.length_map, x3, List.length_reverse, x1]) hl.1 ?_ (lv_room (Nat.le_trans (zcat_le st') (by omega))) hd ⟨hk1, hk2⟩
      show st.map (zval adr) = (args.map (zval adr)).reverse ++ st'.map (zval adr)
      rw [x2, x3, List.map_append, List.map_reverse, List.reverse_reverse]
  · cases h
theorem zs_virt {idx : Nat} (hlt : Nat.ble 1000 a = false) (hk : zck j pc (.invokevirtual idx) nx a b c ts = true) (hd : decode (zcc j) pc = .ok (.invokevirtual idx, nx - pc)) (hf : zfok j (pc, L, st))
    (h : zvirt Rn E nx L a b (ts.getD 1 0) (ts.headD 0) st σ = some (o, σ')) (hE : zGE l D g adr H0 j E) (hR : zGR l D g adr H0 Rn) : zCon l D g adr H0 j (pc, L, st) σ o σ' := by
  simp only [zck, hlt, cond_false, Bool.and_eq_true, decide_eq_true_eq] at hk
  obtain ⟨hnx, ⟨⟨⟨⟨⟨⟨ha, hml⟩, hst⟩, hpar⟩, hfr⟩, hlo⟩, hown⟩, hbl⟩ := hk
  have hnx := Nat.eq_of_beq_eq_true hnx
  subst hnx
  rw [show pc + 3 - pc = 3 by omega] at hd
  have ha : a < 245 := Nat.le_of_ble_eq_true ha
  have hfr := Nat.le_of_ble_eq_true hfr
  have hlo := Nat.le_of_ble_eq_true hlo
  have hown := Nat.eq_of_beq_eq_true hown
  have hbl := Nat.le_of_ble_eq_true hbl
  obtain ⟨ho6, hocl, -⟩ := zown_ok ha
  unfold zvirt at h
  split at h
  · rename_i k i args st' hpop
    obtain ⟨xs, x1, x2, x3⟩ := zpopn_spec _ _ _ _ _ hpop
    rw [List.append_nil] at x3
    cases hb : (Nat.beq k (ts.getD 1 0) && Nat.ble st'.length 4 && znl args) with
    | false => rw [hb] at h; cases h
    | true =>
      rw [hb] at h
      simp only [Bool.and_eq_true] at hb
      have hb1 := Nat.le_of_ble_eq_true hb.1.2
      have hkk : k = 10 + zown a := by rw [hown]; exact Nat.eq_of_beq_eq_true hb.1.1
      have hmem : ∀ v ∈ (Sum.inr (Sum.inr (k, i)) :: args : List zAV), v ∈ st := fun v hv => by
        rw [x2]
        rw [x3] at hv
        exact List.mem_append.mpr (Or.inl (List.mem_reverse.mp hv))
      have hval := hf.2.2.2 _ (hmem _ List.mem_cons_self)
      have hi : i < zcnt (10 + zown a) := by
        rw [← hkk]
        rcases hval with q | q | q
        · omega
        · omega
        · exact q
      have hlenx : args.length + 1 = b + 1 := by
        have := congrArg List.length x3
        simp only [List.length_cons, List.length_reverse, x1] at this
        exact this
      refine zs_call ha hf (fun v hv => by rw [x2]; exact List.mem_append.mpr (Or.inr hv)) (fun v hv => hf.2.2.2 v (hmem v hv)) hb.2 (by simp only [List.length_cons]; omega) ?_ h hE hR
      intro o1 σ1 hm hM p e k9 s m av below meth cc H locs cells slots ls hC hl hP hS hk1 hk2
      have hw : GoodIn zTb (wsV (zcn (zown j)) idx (zcn (zown a)) (zy a) (zws a)) := zGoodIn (fun w hw => by
        rcases List.mem_append.mp hw with hw | hw
        · simp only [List.mem_cons, List.not_mem_nil, or_false] at hw
          rcases hw with rfl | rfl | rfl | rfl
          · exact zmlink hml
          · exact (zmw_virt ha hst).1
          · rw [← hocl]; exact (zmw_virt ha hst).2
          · exact zini_in ho6
        · rcases List.mem_cons.mp hw with rfl | hw
          · exact zcode_in ha
          · exact hw)
      have hrv : zval adr (.inr (.inr (k, i))) = .ref (adr (10 + zown a) i) := by rw [hkk]; exact zval_ref (by omega)
      have hav : ((Sum.inr (Sum.inr (k, i)) :: args : List zAV).map (zval adr)).toArray = (Value.ref (adr (10 + zown a) i) :: args.map (zval adr)).toArray := by rw [List.map_cons, hrv]
      rw [hav]
      refine vx_runV (As := args.map (zval adr)) (C := zcn (zown a)) ⟨hC.1, hC.2.1, hC.2.2.2.1, hC.2.2.2.2.1, hC.2.2.2.2.2.1⟩ hM (cwV b hC.2.2.2.2.2.1 hw rfl rfl rfl ⟨hocl, by rw [hocl]; exact zcn_ne.1, by rw [hocl]; exact zcn_ne.2, hpar⟩ ⟨hfr, hlo⟩) ⟨zPc_blind, va_recv (q := (zcn (zown a), zT (zown a), zNf (zown a))) hC.2.2.2.2.2.2.2.2.1.1 hP (zvw ho6) ((zwd_get hi σ).trans (by rw [zcell_obj ho6])), fun U hU hW => ⟨by rw [hav], zGd_warm hW hC.2.2.2.2.2.2.2.2.1, by rw [hU]; exact zwd_here hC hP hS⟩⟩ rfl (by rw [List.length_map]; omega) hl.1 ?_ (lv_room (Nat.le_trans (zcat_le st') (by omega))) hd ⟨hk1, hk2⟩
      show st.map (zval adr) = (args.map (zval adr)).reverse ++ .ref (adr (10 + zown a) i) :: st'.map (zval adr)
      have hx : xs = (Sum.inr (Sum.inr (k, i)) :: args : List zAV).reverse := by rw [x3, List.reverse_reverse]
      rw [x2, hx, List.map_append, List.map_reverse, List.map_cons, hrv]
      simp
  · cases h
end ZCL
