/-! what the small machine does, the great one does: words of it -/
def zTb : List Cond := lw_tbl.filter goodWord
theorem zTb_in {w : Cond} {i : Nat} (h : lw_tbl[i]? = some w) (hg : goodWord w = true) : w ∈ zTb := List.mem_filter.mpr ⟨List.mem_of_getElem? h, hg⟩
theorem zTb_good : ∀ w ∈ zTb, goodWord w = true := fun w h => (List.mem_filter.mp h).2
theorem zGoodIn {ws : List Cond} (h : ∀ w ∈ ws, w ∈ zTb) : GoodIn zTb ws := fun w hw => ⟨h w hw, good_of_word (zTb_good w (h w hw))⟩
def zws (j : Nat) : List Cond := Cond.code (zy j) (zcc j) (zP j).2 (zret j) :: zTb
def zrm (j k : Nat) : Room := { frames := zfr j, cells := k, slots := 6 * k, locals := zlo j }
def zlens : List Nat := [4, 4, 3, 2, 6, 4, 5, 5, 5]
def zbyts : List (List Int32) := (List.range 9).map zstr
abbrev zfree (H0 : Heap) : Addr → Prop := fun q => H0.size ≤ q
/-- the words of the throws that are no good ones: they stay, too -/
def zXW : List Cond := [.declares (Bundle.init0 "java/lang/RuntimeException"), .declares (Bundle.init0 "java/lang/Exception"), .declares (Bundle.init0 "java/lang/Throwable"), .castable "java/util/NoSuchElementException" "java/util/NoSuchElementException", .castable "java/lang/IllegalArgumentException" "java/lang/IllegalArgumentException", .castable "java/lang/IllegalStateException" "java/lang/IllegalStateException"]
theorem zXW_warm {s U : State} (hW : s.WarmedH U.vm) (h : ∀ w ∈ zXW, va_Nw w s) : ∀ w ∈ zXW, va_Nw w U := by
  intro w hw
  have h1 := h w hw
  simp only [zXW, List.mem_cons, List.not_mem_nil, or_false] at hw
  rcases hw with rfl | rfl | rfl | rfl | rfl | rfl
  · exact va_Nw.warmD hW h1
  · exact va_Nw.warmD hW h1
  · exact va_Nw.warmD hW h1
  · exact va_Nw.warmC hW h1
  · exact va_Nw.warmC hW h1
  · exact va_Nw.warmC hW h1
theorem zXW_same {s U : State} (hv : U.vm = s.vm) (h : ∀ w ∈ zXW, va_Nw w s) : ∀ w ∈ zXW, va_Nw w U := by
  intro w hw
  have h1 := h w hw
  simp only [zXW, List.mem_cons, List.not_mem_nil, or_false] at hw
  rcases hw with rfl | rfl | rfl | rfl | rfl | rfl <;> exact va_Nw.same rfl hv.symm h1
/-- the state's tables and the old heap, as the law found them -/
def zGd (D : va_G) (g : zIds) (adr : Nat → Nat → Nat) (H0 : Heap) (U : State) : Prop :=
  va_K D vwCl (ztys g) U ∧ (∀ q ∈ zSL, vk_R (zcn q.2.1) q.2.2.1 (ztx q.2.2.2) (adr 1 q.2.2.2) U) ∧ ((∃ adV, vk_S 9 zlens zbyts (fun i => adr 1 i) adV (zA H0) U H0) ∧ va_Z "java/lang/String" "COMPACT_STRINGS" "Z" (.int 1) (zA H0) U H0 ∧ va_Zq "jdk/internal/util/Preconditions" "SIOOBE_FORMATTER" "Ljava/util/function/BiFunction;" (zA H0) U H0) ∧ vx_Zq Bundle.tN "UNASSIGNED_STACK" Bundle.steD (zA H0) U H0 ∧ vx_Zq Bundle.tN "SUPPRESSED_SENTINEL" Bundle.listD (zA H0) U H0 ∧ ∀ w ∈ zXW, va_Nw w U
/-- the memory is in the heap, the old heap is as it was -/
def zWd (D : va_G) (g : zIds) (adr : Nat → Nat → Nat) (H0 : Heap) (σ : zSt) (H : Heap) : Prop := va_P D vwCl (zwd g adr σ) H ∧ H0.size ≤ H.size ∧ ∀ q : Nat, q < H0.size → H[q]? = H0[q]?
def zPc (D : va_G) (g : zIds) (adr : Nat → Nat → Nat) (H0 : Heap) (args : List zAV) (σ : zSt) : Array Value → State → Prop := fun av U => av = (args.map (zval adr)).toArray ∧ zGd D g adr H0 U ∧ zWd D g adr H0 σ U.heap
def zQc (D : va_G) (g : zIds) (adr : Nat → Nat → Nat) (H0 : Heap) (o : zOut) (σ : zSt) : Array Value → State → Outcome → State → Prop := fun _ _ oc t => match o with
  | .inl v => oc = .returned (v.map (zval adr)) ∧ zWd D g adr H0 σ t.heap
  | .inr _ => False
def zXc (D : va_G) (g : zIds) (adr : Nat → Nat → Nat) (H0 : Heap) (o : zOut) (σ : zSt) : String → State → State → Prop := fun E _ t => match o with
  | .inl _ => False
  | .inr x => E = zxn x ∧ zWd D g adr H0 σ t.heap
/-- a contract of a method at these arguments, in this memory -/
def zMet (l : Launch) (D : va_G) (g : zIds) (adr : Nat → Nat → Nat) (H0 : Heap) (y : MethodName) (ws : List Cond) (rm : Room) (args : List zAV) (σ : zSt) (o : zOut) (σ' : zSt) : Prop :=
  vx_Met l y ws rm (zPc D g adr H0 args σ) (zQc D g adr H0 o σ') (zXc D g adr H0 o σ') rm.cells rm.slots (zfree H0)
theorem zGd_warm {D : va_G} {g : zIds} {adr : Nat → Nat → Nat} {H0 : Heap} {s U : State} (hW : s.WarmedH U.vm) (h : zGd D g adr H0 s) : zGd D g adr H0 U := by
  obtain ⟨h1, h2, ⟨⟨adV, h3⟩, hz1, hz2⟩, h4, h5, h6⟩ := h
  exact ⟨va_K.moved hW.alike h1, fun q hq => vk_R.warm hW (h2 q hq), ⟨⟨adV, vk_S.moved hW.alike h3⟩, va_Z.moved hW.alike hz1, va_Zq.moved hW.alike hz2⟩, vx_Zq.moved hW.alike h4, vx_Zq.moved hW.alike h5, zXW_warm hW h6⟩
theorem zGd_same {D : va_G} {g : zIds} {adr : Nat → Nat → Nat} {H0 : Heap} {s U : State} (hv : U.vm = s.vm) (h : zGd D g adr H0 s) : zGd D g adr H0 U := by
  have ha : s.vm.Alike U.vm := by rw [hv]; exact Vm.Alike.refl s.vm
  obtain ⟨h1, h2, ⟨⟨adV, h3⟩, hz1, hz2⟩, h4, h5, h6⟩ := h
  exact ⟨va_K.moved ha h1, fun q hq => vk_R.same hv (h2 q hq), ⟨⟨adV, vk_S.moved ha h3⟩, va_Z.moved ha hz1, va_Zq.moved ha hz2⟩, vx_Zq.moved ha h4, vx_Zq.moved ha h5, zXW_same hv h6⟩
theorem zPc_blind {D : va_G} {g : zIds} {adr : Nat → Nat → Nat} {H0 : Heap} {args : List zAV} {σ : zSt} : FrameBlind (zPc D g adr H0 args σ) := by
  intro a U gg mk ⟨h1, h2, h3⟩
  exact ⟨h1, zGd_same (s := U) (U := U.calling gg mk a) rfl h2, h3⟩
theorem zWd_S {D : va_G} {g : zIds} {adr : Nat → Nat → Nat} {H0 H : Heap} {σ : zSt} (h : zWd D g adr H0 σ H) {locs : List Loc} (hl : ∀ z ∈ locs, zfree H0 z.base) : va_S (zA H0) H0 H locs := ⟨h.2.1, fun q hq _ => h.2.2 q hq, hl⟩
theorem zWd_of {D : va_G} {g : zIds} {adr : Nat → Nat → Nat} {H0 H : Heap} {σ : zSt} (hP : va_P D vwCl (zwd g adr σ) H) {locs : List Loc} (hS : va_S (zA H0) H0 H locs) : zWd D g adr H0 σ H := ⟨hP, hS.1, fun q hq => hS.2.1 q hq (Nat.not_le.mpr hq)⟩
/-- the variables that hold something -/
def zlvF (adr : Nat → Nat → Nat) : Nat → List zAV → List (Nat × Value)
  | _, [] => []
  | i, v :: r => if v = zJunk then zlvF adr (i + 1) r else (i, zval adr v) :: zlvF adr (i + 1) r
theorem zlvF_mem {adr : Nat → Nat → Nat} : ∀ (ls : List zAV) (i : Nat) (q : Nat × Value), q ∈ zlvF adr i ls ↔ ∃ n, n < ls.length ∧ q.1 = i + n ∧ zget ls n ≠ zJunk ∧ q.2 = zval adr (zget ls n) := by
  intro ls
  induction ls with
  | nil => intro i q; simp [zlvF]
  | cons v r ih =>
    intro i q
    unfold zlvF
    constructor
    · intro h
      split at h
      · obtain ⟨n, h1, h2, h3, h4⟩ := (ih (i + 1) q).mp h
        exact ⟨n + 1, by simp; omega, by omega, h3, h4⟩
      · rename_i hv
        rcases List.mem_cons.mp h with h | h
        · exact ⟨0, by simp, by rw [h]; rfl, hv, by rw [h]; rfl⟩
        · obtain ⟨n, h1, h2, h3, h4⟩ := (ih (i + 1) q).mp h
          exact ⟨n + 1, by simp; omega, by omega, h3, h4⟩
    · rintro ⟨n, h1, h2, h3, h4⟩
      cases n with
      | zero =>
        have h3' : ¬ v = zJunk := h3
        rw [if_neg h3']
        exact List.mem_cons.mpr (Or.inl (Prod.ext h2 h4))
      | succ n =>
        have hm : q ∈ zlvF adr (i + 1) r := (ih (i + 1) q).mpr ⟨n, by simpa using h1, by omega, h3, h4⟩
        split
        · exact hm
        · exact List.mem_cons.mpr (Or.inr hm)
theorem zget_set {w : zAV} : ∀ (ls : List zAV) (a n : Nat), a < ls.length → zget (zset ls a w) n = if n = a then w else zget ls n := by
  intro ls
  induction ls with
  | nil => intro a n h; simp at h
  | cons v r ih =>
    intro a n h
    cases a with
    | zero =>
      cases n with
      | zero => simp [zset, zget]
      | succ n => simp [zset, zget]
    | succ a =>
      cases n with
      | zero => simp [zset, zget]
      | succ n =>
        simp only [zset, zget]
        rw [ih a n (by simpa using h)]
        simp
theorem zset_len {w : zAV} : ∀ (ls : List zAV) (a : Nat), (zset ls a w).length = ls.length := by
  intro ls
  induction ls with
  | nil => intro a; rfl
  | cons v r ih =>
    intro a
    cases a with
    | zero => rfl
    | succ a => simp only [zset, List.length_cons, ih]
theorem zget_out : ∀ (ls : List zAV) (n : Nat), ls.length ≤ n → zget ls n = zJunk := by
  intro ls
  induction ls with
  | nil => intro n _; rfl
  | cons v r ih =>
    intro n h
    cases n with
    | zero => simp at h
    | succ n => exact ih n (by simpa using h)
/-- a frame that is one: its variables, its stack -/
def zfok (j : Nat) (f : zAF) : Prop := f.2.1.length = (zP j).2 ∧ (∀ n, zvok (zget f.2.1 n)) ∧ (∀ n x, zget f.2.1 n = .inr (.inl x) → n = 1 ∧ zlong j = true) ∧ ∀ v ∈ f.2.2, zvok v
def zovok (o : zOut) : Prop := match o with
  | .inl (some v) => zvok v
  | _ => True
/-- what holds in a body -/
def zCtx (D : va_G) (g : zIds) (adr : Nat → Nat → Nat) (H0 : Heap) (j : Nat) (p : Program) (s : State) (m : MethodId) (args : Array Value) (meth : Method) (c : Code) : Prop :=
  p.tables.exec = Jvm.exec ∧ c.code = zcc j ∧ meth.sig.returnType = zret j ∧ c.maxLocals = (zP j).2 ∧ s.vm.findClass (zcn (zown j)) = some m.cls ∧ (∀ w ∈ zTb, w.before args s = true) ∧ meth.locks = false ∧ (∀ x ∈ c.exceptionTable.toList, False) ∧ zGd D g adr H0 s ∧ H0.size ≤ s.heap.size ∧ ∀ q : Nat, q < H0.size → s.heap[q]? = H0[q]?
/-- from this frame and memory the body comes to its end with o, σ' -/
def zW (l : Launch) (D : va_G) (g : zIds) (adr : Nat → Nat → Nat) (H0 : Heap) (j : Nat) (f : zAF) (σ : zSt) (o : zOut) (σ' : zSt) : Prop :=
  ∀ (p : Program) (e : Env) (s : State) (m : MethodId) (args : Array Value) (below : List Frame) (meth : Method) (c : Code) (H : Heap) (locs : List Loc) (ls : Array Slot) (n0 : Nat),
    n0 ≤ σ.2.2 → zCtx D g adr H0 j p s m args meth c → lv_has ls (zP j).2 (zlvF adr 0 f.2.1) → va_P D vwCl (zwd g adr σ) H → va_S (zA H0) s.heap H locs →
    W p l e (zrm j (σ'.2.2 - n0)) s m args below meth c H locs (σ.2.2 - n0) (6 * (σ.2.2 - n0)) (vx_MQ below (zQc D g adr H0 o σ') (zXc D g adr H0 o σ') args s (σ'.2.2 - n0) (6 * (σ'.2.2 - n0)) (zfree H0)) (F0 m f.1 ls (f.2.2.map (zval adr)))
def zGE (l : Launch) (D : va_G) (g : zIds) (adr : Nat → Nat → Nat) (H0 : Heap) (j : Nat) (E : zAF → zSt → zRes) : Prop :=
  ∀ f σ o σ', E f σ = some (o, σ') → zfok j f → zovok o ∧ σ.2.2 ≤ σ'.2.2 ∧ zW l D g adr H0 j f σ o σ'
def zGR (l : Launch) (D : va_G) (g : zIds) (adr : Nat → Nat → Nat) (H0 : Heap) (Rn : Nat → List zAV → zSt → zRes) : Prop :=
  ∀ j, j < 245 → ∀ args σ o σ', Rn j args σ = some (o, σ') → (∀ v ∈ args, zvok v) → znl args = true → args.length ≤ (zP j).2 → zovok o ∧ σ.2.2 ≤ σ'.2.2 ∧ zMet l D g adr H0 (zy j) (zws j) (zrm j (σ'.2.2 - σ.2.2)) args σ o σ'
section ZG
variable {l : Launch} {D : va_G} {g : zIds} {adr : Nat → Nat → Nat} {H0 : Heap} {j : Nat}
/-- a step that changes neither variables nor heap -/
theorem zW_go {pc pc' : Nat} {L : List zAV} {st st' : List zAV} {σ σ' : zSt} {o : zOut}
    (hs : ∀ {p : Program} {e : Env} {R : Room} {s : State} {m : MethodId} {args : Array Value} {below : List Frame} {meth : Method} {c : Code} {H : Heap} {locs : List Loc} {cells slots : Nat} {Q : State → Prop} {ls : Array Slot}, zCtx D g adr H0 j p s m args meth c → lv_has ls (zP j).2 (zlvF adr 0 L) → va_P D vwCl (zwd g adr σ) H → R.frames = zfr j → R.locals = zlo j → cells ≤ R.cells → slots ≤ R.slots →
      W p l e R s m args below meth c H locs cells slots Q (F0 m pc' ls (st'.map (zval adr))) → W p l e R s m args below meth c H locs cells slots Q (F0 m pc ls (st.map (zval adr))))
    (hm : σ.2.2 ≤ σ'.2.2) (ih : zW l D g adr H0 j (pc', L, st') σ o σ') : zW l D g adr H0 j (pc, L, st) σ o σ' := by
  intro p e s m args below meth c H locs ls n0 hn hC hl hP hS
  exact hs hC hl hP rfl rfl (by show σ.2.2 - n0 ≤ σ'.2.2 - n0; omega) (by show 6 * (σ.2.2 - n0) ≤ 6 * (σ'.2.2 - n0); omega) (ih p e s m args below meth c H locs ls n0 hn hC hl hP hS)
/-- a variable stored -/
theorem zlv_store {L : List zAV} {ls' : Array Slot} {a : Nat} {v : zAV} {l0 : List (Nat × Value)} (ha : a < L.length) (hlg : ∀ x, ¬ zget L (a - 1) = .inr (.inl x) ∨ a = 0) (h : lv_has ls' (zP j).2 ((a, zval adr v) :: l0.filter (fun q => !(q.1 == a) && !(q.1 + 1 == a && q.2.category == 2)))) (h0 : l0 = zlvF adr 0 L) : lv_has ls' (zP j).2 (zlvF adr 0 (zset L a v)) := by
  refine ⟨h.1, h.2.1, fun q hq => ?_⟩
  obtain ⟨n, h1, h2, h3, h4⟩ := (zlvF_mem _ _ _).mp hq
  rw [zget_set _ _ _ ha] at h3 h4
  rw [zset_len] at h1
  have h2 : q.1 = n := by omega
  by_cases hn : n = a
  · rw [if_pos hn] at h3 h4
    exact h.2.2 q (List.mem_cons.mpr (Or.inl (Prod.ext (h2.trans hn) h4)))
  · rw [if_neg hn] at h3 h4
    refine h.2.2 q (List.mem_cons.mpr (Or.inr (List.mem_filter.mpr ⟨?_, ?_⟩)))
    · rw [h0]
      exact (zlvF_mem _ _ _).mpr ⟨n, h1, by omega, h3, h4⟩
    · simp only [Bool.and_eq_true, Bool.not_eq_true', beq_eq_false_iff_ne, ne_eq, Bool.and_eq_false_iff]
      refine ⟨by omega, ?_⟩
      by_cases hq1 : q.1 + 1 = a
      · right
        rw [h4]
        have hx : n = a - 1 := by omega
        cases hv : zget L n with
        | inl x => exact fun hh => by cases hh
        | inr y =>
          cases y with
          | inl x =>
            rcases hlg x with hh | hh
            · rw [← hx] at hh; exact absurd hv hh
            · omega
          | inr r =>
            obtain ⟨k, i⟩ := r
            cases k <;> exact fun hh => by cases hh
      · left
        simpa using hq1
theorem zl_at {ls : Array Slot} {L : List zAV} {a : Nat} {v : zAV} (h : lv_has ls (zP j).2 (zlvF adr 0 L)) (hv : zget L a = v) (hj : v ≠ zJunk) : ls[a]? = some (.val (zval adr v)) := by
  have ha : a < L.length := by
    rcases Nat.lt_or_ge a L.length with q | q
    · exact q
    · exact absurd (hv.symm.trans (zget_out L a q)) hj
  exact h.2.2 (a, zval adr v) ((zlvF_mem _ _ _).mpr ⟨a, ha, by omega, by rw [hv]; exact hj, by rw [hv]⟩)
/-- a step that stores a variable -/
theorem zW_st {pc pc' a : Nat} {L : List zAV} {v : zAV} {st st' : List zAV} {σ σ' : zSt} {o : zOut}
    (hs : ∀ {p : Program} {e : Env} {R : Room} {s : State} {m : MethodId} {args : Array Value} {below : List Frame} {meth : Method} {c : Code} {H : Heap} {locs : List Loc} {cells slots : Nat} {Q : State → Prop} {ls : Array Slot}, zCtx D g adr H0 j p s m args meth c → lv_has ls (zP j).2 (zlvF adr 0 L) →
      (∀ ls' : Array Slot, lv_has ls' (zP j).2 ((a, zval adr v) :: (zlvF adr 0 L).filter (fun q => !(q.1 == a) && !(q.1 + 1 == a && q.2.category == 2))) → W p l e R s m args below meth c H locs cells slots Q (F0 m pc' ls' (st'.map (zval adr)))) → W p l e R s m args below meth c H locs cells slots Q (F0 m pc ls (st.map (zval adr))))
    (ha : a < L.length) (hlg : ∀ x, ¬ zget L (a - 1) = .inr (.inl x) ∨ a = 0) (ih : zW l D g adr H0 j (pc', zset L a v, st') σ o σ') : zW l D g adr H0 j (pc, L, st) σ o σ' := by
  intro p e s m args below meth c H locs ls n0 hn hC hl hP hS
  exact hs hC hl fun ls' hl' => ih p e s m args below meth c H locs ls' n0 hn hC (zlv_store ha hlg hl' rfl) hP hS
/-- a step that writes into one cell -/
theorem zW_mem {pc pc' k i : Nat} {L : List zAV} {st st' : List zAV} {σ σ1 σ' : zSt} {o : zOut} (hAd : zAd adr H0) (hi : i < zcnt k)
    (hs : ∀ {p : Program} {e : Env} {R : Room} {s : State} {m : MethodId} {args : Array Value} {below : List Frame} {meth : Method} {c : Code} {H : Heap} {locs : List Loc} {cells slots : Nat} {Q : State → Prop} {ls : Array Slot}, zCtx D g adr H0 j p s m args meth c → lv_has ls (zP j).2 (zlvF adr 0 L) → va_P D vwCl (zwd g adr σ) H → va_D (zA H0) (zwd g adr σ) → va_S (zA H0) s.heap H locs → R.frames = zfr j → R.locals = zlo j →
      (∀ (H1 : Heap) (locs1 : List Loc), va_P D vwCl ((zwd g adr σ).set (zoff k + i) (adr k i, zcell g adr k i σ1)) H1 → va_S (zA H0) s.heap H1 locs1 → W p l e R s m args below meth c H1 locs1 cells slots Q (F0 m pc' ls (st'.map (zval adr)))) → W p l e R s m args below meth c H locs cells slots Q (F0 m pc ls (st.map (zval adr))))
    (hne : ∀ k' i', ¬ (k' = k ∧ i' = i) → zcell g adr k' i' σ1 = zcell g adr k' i' σ) (hx : σ1.2.2 = σ.2.2) (ih : zW l D g adr H0 j (pc', L, st') σ1 o σ') : zW l D g adr H0 j (pc, L, st) σ o σ' := by
  intro p e s m args below meth c H locs ls n0 hn hC hl hP hS
  refine hs hC hl hP (zwd_D hAd σ) hS rfl rfl fun H1 locs1 hP1 hS1 => ?_
  rw [zwd_set hi hne] at hP1
  have h2 := ih p e s m args below meth c H1 locs1 ls n0 (by rw [hx]; exact hn) hC hl hP1 hS1
  rw [hx] at h2
  exact h2
theorem zfok_push {pc pc' : Nat} {L : List zAV} {st : List zAV} {v : zAV} (h : zfok j (pc, L, st)) (hv : zvok v) : zfok j (pc', L, v :: st) :=
  ⟨h.1, h.2.1, h.2.2.1, fun w hw => (List.mem_cons.mp hw).elim (fun e => by rw [e]; exact hv) (h.2.2.2 w)⟩
theorem zfok_tail {pc pc' : Nat} {L : List zAV} {st : List zAV} {v : zAV} (h : zfok j (pc, L, v :: st)) : zfok j (pc', L, st) :=
  ⟨h.1, h.2.1, h.2.2.1, fun w hw => h.2.2.2 w (List.mem_cons.mpr (Or.inr hw))⟩
theorem zfok_head {pc : Nat} {L : List zAV} {st : List zAV} {v : zAV} (h : zfok j (pc, L, v :: st)) : zvok v := h.2.2.2 v List.mem_cons_self
theorem zfok_pc {pc pc' : Nat} {L : List zAV} {st : List zAV} (h : zfok j (pc, L, st)) : zfok j (pc', L, st) := h
theorem zfok_set {pc pc' a : Nat} {L : List zAV} {st : List zAV} {v : zAV} (h : zfok j (pc, L, st)) (ha : a < L.length) (hv : zvok v) (hl : ∀ x, v = .inr (.inl x) → a = 1 ∧ zlong j = true) : zfok j (pc', zset L a v, st) := by
  refine ⟨(zset_len L a).trans h.1, fun n => ?_, fun n x hx => ?_, h.2.2.2⟩
  · show zvok (zget (zset L a v) n)
    rw [zget_set _ _ _ ha]
    split
    · exact hv
    · exact h.2.1 n
  · have hx : zget (zset L a v) n = .inr (.inl x) := hx
    rw [zget_set _ _ _ ha] at hx
    split at hx
    · rename_i hn
      rw [hn]
      exact hl x hx
    · exact h.2.2.1 n x hx
/-- the place of a store -/
theorem zst_ok {a pc : Nat} {L : List zAV} {st : List zAV} (h : zst j a = true) (hf : zfok j (pc, L, st)) : a < L.length ∧ ∀ x, ¬ zget L (a - 1) = .inr (.inl x) ∨ a = 0 := by
  unfold zst at h
  simp only [Bool.and_eq_true, Bool.not_eq_true', Bool.and_eq_false_iff, Bool.or_eq_false_iff] at h
  have h1 : a + 1 ≤ (zP j).2 := Nat.le_of_ble_eq_true h.1
  refine ⟨by have := hf.1; show a < L.length; simp only at this; omega, fun x => ?_⟩
  by_cases hx : zget L (a - 1) = .inr (.inl x)
  · obtain ⟨e1, e2⟩ := hf.2.2.1 _ _ hx
    rcases h.2 with h3 | h3
    · rw [h3] at e2; cases e2
    · have : a = 2 := by omega
      rw [this] at h3
      exact absurd h3.1 (by decide)
  · exact Or.inl hx
end ZG
