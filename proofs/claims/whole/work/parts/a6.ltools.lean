/-! the law's body: what its cases share -/
/-- what holds in the law -/
def zLC (D : va_G) (g : zIds) (adr : Nat → Nat → Nat) (p : Program) (s : State) (m : MethodId) (meth : Method) (c : Code) (bS L : Nat) (xs : Nat → Int32) : Prop :=
  p.tables.exec = Jvm.exec ∧ c.code = code ∧ c.maxLocals = 7 ∧ s.vm.findClass RL = some m.cls ∧ (∀ w ∈ zTb, w.before #[Value.ref bS] s = true) ∧ zGd D g adr s.heap s ∧ zNcs s ∧ va_X bS L xs s s.heap ∧ bS < s.heap.size ∧ L ≤ 3072
abbrev zLl (adr : Nat → Nat → Nat) (bS i : Nat) : List (Nat × Value) := [(4, .int (nI i)), (3, .ref (adr 41 0)), (2, .ref (adr 16 0)), (1, .ref (adr 15 0)), (0, .ref bS)]
section ZLW
variable {p : Program} {l : Launch} {e : Env} {R : Room} {s : State} {m : MethodId} {args : Array Value} {below : List Frame} {meth : Method} {c : Code} {H : Heap} {locs : List Loc} {cells slots : Nat} {Q : State → Prop}
variable {cc : ByteArray} {own : String} {pc : Nat} {ls : Array Slot} {rest st0 : List Value} {D : va_G} {g : zIds} {adr : Nat → Nat → Nat} {H0 : Heap} {σ σ1 : zSt}
/-- a helper called -/
theorem zl_help (hx : p.tables.exec = Jvm.exec) (hb : c.code = cc) (hml : c.maxLocals = ls.size) (hown : s.vm.findClass own = some m.cls) (hts : ∀ w ∈ zTb, w.before args s = true) (hG : zGd D g adr H0 s) (hN : zNcs s) (hH : H0.size ≤ s.heap.size ∧ ∀ q : Nat, q < H0.size → s.heap[q]? = H0[q]?) {a mL idx : Nat} {y : MethodName} {bt : ByteArray} {hh : List (Nat × Nat × Nat × Nat)} {as : List zAV} {k : Int32}
    (hM : zHm l D g adr H0 a y bt mL hh as σ k σ1) (hcls : y.cls = RL) (hlk : Cond.methodLink own idx y ∈ zTb) (hst : Cond.static y ∈ zTb) (hco : Cond.codeWith y bt mL (some .int) hh ∈ zTb) (hpar : (parseMethodDescriptor y.desc).map (fun d => d.parameters.length) = some (as.length + 2)) (hfr : zfr a + 1 + 1 ≤ R.frames) (hlo : 8 + (mL + 11) + (19 + (zP a).2 + zlo a) ≤ R.locals)
    (hP : va_P D vwCl (zwd g adr σ) H) (hS : va_S (zA H0) s.heap H locs) (hroom : (rest.map fun v => v.category).sum ≤ 8) (hd : decode cc pc = .ok (.invokestatic idx, 3)) (hc : cells + (σ1.2.2 - σ.2.2) ≤ R.cells) (hs : slots + 6 * (σ1.2.2 - σ.2.2) ≤ R.slots) (hstk : st0 = ((zR 15 0 :: as ++ [zR 41 0]).map (zval adr)).reverse ++ rest) :
    vx_Run p l e R s m args below meth c H locs cells slots (σ1.2.2 - σ.2.2) (6 * (σ1.2.2 - σ.2.2)) (F0 m pc ls st0) rest (zQc D g adr H0 (.inl (some (zI k))) σ1 ((zR 15 0 :: as ++ [zR 41 0]).map (zval adr)).toArray) (zXc D g adr H0 (.inl (some (zI k))) σ1) (zfree H0) := by
  have hw : GoodIn zTb (va_wsS own idx y (.codeWith y bt mL (some .int) hh :: zTb)) := zGoodIn (fun w hw => by
    rcases List.mem_append.mp hw with hw | hw
    · simp only [List.mem_cons, List.not_mem_nil, or_false] at hw
      rcases hw with rfl | rfl | rfl
      · exact hlk
      · exact hst
      · rw [hcls]; exact zl_ini
    · rcases List.mem_cons.mp hw with rfl | hw
      · exact hco
      · exact hw)
  exact vx_runSX (As := (zR 15 0 :: as ++ [zR 41 0]).map (zval adr)) ⟨hx, hb, hml, hown, hts⟩ hM (vx_cwSW (as.length + 2) hts hw rfl rfl rfl ⟨by rw [hcls]; decide, by rw [hcls]; decide, hpar⟩ ⟨hfr, hlo⟩) ⟨fun a9 U gg mk q => ⟨zPc_blind a9 U gg mk q.1, zNcs_moved (u := U) (U := U.calling gg mk a9) (Vm.Alike.refl U.vm) q.2⟩, fun U hU hW => ⟨⟨rfl, zGd_warm hW hG, by rw [hU]; exact zl_here hH hP hS⟩, zNcs_moved hW.alike hN⟩⟩ rfl (by simp) rfl hstk (lv_room hroom) hd ⟨hc, hs⟩
theorem zbA {bS : Nat} (h : bS < s.heap.size) : ¬ zA s.heap bS := Nat.not_le.mpr h
/-- script[i + j] -/
theorem zl_arg {bS L t : Nat} {xs : Nat → Int32} (C : zLC D g adr p s m meth c bS L xs) (j : Nat) (h0 : ls[0]? = some (.val (.ref bS))) (h4 : ls[4]? = some (.val (.int (nI t)))) (hj : t + j < L) (hS : va_S (zA s.heap) s.heap H locs) {jj : Int} (hjj : Int32.ofInt jj = nI j)
    (d0 : decode code pc = .ok (.aload_n 0, 1)) (d1 : decode code (pc + 1) = .ok (.iload 4, 2)) (d3 : decode code (pc + 3) = .ok (.iconst jj, 1)) (d4 : decode code (pc + 4) = .ok (.iadd, 1)) (d5 : decode code (pc + 5) = .ok (.iaload, 1))
    (kk : W p l e R s m args below meth c H locs cells slots Q (F0 m (pc + 6) ls (.int (xs (t + j)) :: rest))) : W p l e R s m args below meth c H locs cells slots Q (F0 m pc ls rest) := by
  obtain ⟨hx, hb, -, -, -, -, -, hX, hbl, hL⟩ := C
  refine lv_aload_n hx hb d0 rfl h0 ?_
  refine lv_iload hx hb d1 h4 ?_
  refine lv_iconst (v := nI j) hx hb d3 hjj ?_
  refine lv_iadd hx hb d4 ?_
  rw [nI_add]
  refine va_sld hx hb hX hbl (zbA hbl) hS (vp_in_nI hj (by omega)) d5 ?_
  rw [nI_clamp (by omega)]
  exact kk
end ZLW
theorem zand31 (x : Int32) : ∃ v, v < 32 ∧ x &&& 31 = nI v := by
  refine ⟨(x.toBitVec &&& 31#32).toNat, ?_, ?_⟩
  · rw [BitVec.toNat_and]
    exact Nat.lt_of_le_of_lt Nat.and_le_right (by decide)
  · apply Int32.toBitVec_inj.mp
    show x.toBitVec &&& 31#32 = BitVec.ofNat 32 (x.toBitVec &&& 31#32).toNat
    rw [BitVec.ofNat_toNat, BitVec.setWidth_eq]
