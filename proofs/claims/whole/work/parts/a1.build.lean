/-! the constructors: cells one behind the other -/
abbrev zSy := Nat × Nat × List (Option (Nat ⊕ Int32))
def zlw (b : Nat) : List va_E → va_W
  | [] => []
  | e :: es => (b, e) :: zlw (b + 1) es
theorem zlw_get : ∀ (es : List va_E) (b k : Nat), (zlw b es)[k]? = es[k]?.map (fun e => (b + k, e)) := by
  intro es
  induction es with
  | nil => intro b k; simp [zlw]
  | cons e es ih =>
    intro b k
    cases k with
    | zero => simp [zlw]
    | succ k =>
      simp only [zlw, List.getElem?_cons_succ]
      rw [ih, show b + 1 + k = b + (k + 1) by omega]
theorem zlw_set : ∀ (es : List va_E) (b k : Nat) (e : va_E), (zlw b es).set k (b + k, e) = zlw b (es.set k e) := by
  intro es
  induction es with
  | nil => intro b k e; simp [zlw]
  | cons e0 es ih =>
    intro b k e
    cases k with
    | zero => simp [zlw]
    | succ k =>
      simp only [zlw, List.set_cons_succ]
      rw [show b + (k + 1) = b + 1 + k by omega, ih]
theorem zlw_app : ∀ (es fs : List va_E) (b : Nat), zlw b (es ++ fs) = zlw b es ++ zlw (b + es.length) fs := by
  intro es
  induction es with
  | nil => intro fs b; simp [zlw]
  | cons e0 es ih =>
    intro fs b
    simp only [zlw, List.cons_append, List.length_cons]
    rw [ih, show b + 1 + es.length = b + (es.length + 1) by omega]
theorem zlw_at {es : List va_E} {b k : Nat} {q : Nat × va_E} (h : (zlw b es)[k]? = some q) : k < es.length ∧ q.1 = b + k := by
  rw [zlw_get] at h
  rcases Nat.lt_or_ge k es.length with q1 | q1
  · rw [List.getElem?_eq_getElem q1] at h
    simp only [Option.map_some, Option.some.injEq] at h
    exact ⟨q1, by rw [← h]⟩
  · rw [List.getElem?_eq_none q1] at h
    cases h
theorem zlw_D (b : Nat) (es : List va_E) : va_D (fun q => b ≤ q) (zlw b es) := by
  constructor
  · intro i j p q hi hj he
    have h1 := (zlw_at hi).2
    have h2 := (zlw_at hj).2
    omega
  · intro k q h
    have h1 := (zlw_at h).2
    show b ≤ q.1
    omega
def zfd (b : Nat) (v : Option (Nat ⊕ Int32)) : Value := match v with
  | none => .null
  | some (.inl r) => .ref (b + r)
  | some (.inr x) => .int x
/-- a cell from its sign: an object, a row of numbers, a row of objects -/
def zden (b : Nat) (g : zIds) (q : zSy) : va_E :=
  if q.1 ≤ 6 then .inr (q.1, q.2.2.map (zfd b))
  else if q.1 = 20 then .inl (g.1, q.2.1, .inl (fun _ => 0))
  else if q.1 = 27 then .inl (g.2.1, q.2.1, .inl (fun _ => 0))
  else if q.1 = 41 then .inl (g.2.2.1, q.2.1, .inr (.inl (fun _ => 0)))
  else if q.1 = 25 then .inl (g.2.2.2.1, 6, .inr (.inr (.inr (.inr (fun t => if t < q.2.1 then some (b + ((q.2.2.headD none).elim 0 (fun z => z.elim id (fun _ => 0)) + 4 * t)) else none)))))
  else .inl (g.2.2.2.2, 12, .inr (.inr (.inr (.inr (fun t => if t < q.2.1 then some (b + ((q.2.2.headD none).elim 0 (fun z => z.elim id (fun _ => 0)) + 26 * t)) else none)))))
/-- an object as 'new' leaves it -/
def zraw (ci : Nat) : zSy := (ci, 0, (List.range (zNf ci)).map (fun s => if (zrf ci s 0).isSome then none else some (.inr 0)))
theorem zraw_ok : ∀ ci, ci < 7 → ∀ j, j < zNf ci → defaultValue (zTy ci j) = vp_V ((zraw ci).2.2.map (zfd 0)) j := by decide +kernel
theorem zraw_map (ci b : Nat) : (zraw ci).2.2.map (zfd b) = (zraw ci).2.2.map (zfd 0) := by
  unfold zraw
  simp only [List.map_map]
  refine List.map_congr_left (fun s _ => ?_)
  simp only [Function.comp]
  split <;> rfl
abbrev zBw (D : va_G) (g : zIds) (b r : Nat) (sys : List zSy) (H : Heap) : Prop := va_P D vwCl (zlw (b + r) (sys.map (zden b g))) H
abbrev zBs (b r : Nat) : Nat → Prop := fun q => b + r ≤ q
def zKx (D : va_G) (g : zIds) (U : State) : Prop := va_K D vwCl (ztys g) U ∧ va_AO RX2 U ∧ va_AO RX3 U
theorem zKx_moved {D : va_G} {g : zIds} {u U : State} (hvm : u.vm.Alike U.vm) (h : zKx D g u) : zKx D g U := ⟨va_K.moved hvm h.1, va_AO.moved hvm h.2.1, va_AO.moved hvm h.2.2⟩
section ZB
variable {p : Program} {l : Launch} {e : Env} {R : Room} {s : State} {m : MethodId} {args : Array Value} {below : List Frame} {meth : Method} {c : Code} {H : Heap} {locs : List Loc} {cells slots : Nat} {Q : State → Prop}
variable {cc : ByteArray} {own : String} {pc : Nat} {ls : Array Slot} {rest : List Value} {D : va_G} {g : zIds} {b r : Nat} {sys : List zSy}
/-- the new cell lies behind all others -/
theorem zb_addr {es : List va_E} {x : va_E} {q b0 N : Nat} {T : State} (hP : va_P D vwCl (zlw b0 es ++ [(q, x)]) T.heap) (hD : va_D (fun q => b0 ≤ q) (zlw b0 es ++ [(q, x)])) (hN : T.heap.size ≤ N) (hb : N = b0 + es.length + 1) : q = b0 + es.length := by
  have hll : (zlw b0 es).length = es.length := by
    rcases Nat.lt_trichotomy (zlw b0 es).length es.length with h | h | h
    · have h1 := zlw_get es b0 (zlw b0 es).length
      rw [List.getElem?_eq_none (Nat.le_refl _), List.getElem?_eq_getElem h] at h1
      cases h1
    · exact h
    · have h1 := zlw_get es b0 es.length
      rw [List.getElem?_eq_none (Nat.le_refl es.length), List.getElem?_eq_getElem h] at h1
      cases h1
  have hlast : (zlw b0 es ++ [(q, x)])[es.length]? = some (q, x) := by
    rw [← hll, List.getElem?_append_right (Nat.le_refl _), Nat.sub_self]
    rfl
  have h1 : q < T.heap.size := (hP _ _ hlast).lt
  have h2 : b0 ≤ q := hD.2 _ _ hlast
  rcases Nat.lt_or_ge (q - b0) es.length with h3 | h3
  · exfalso
    have h4 : (zlw b0 es ++ [(q, x)])[q - b0]? = some (q, es[q - b0]) := by
      rw [List.getElem?_append_left (by rw [hll]; exact h3), zlw_get, List.getElem?_eq_getElem h3]
      simp only [Option.map_some, Option.some.injEq, Prod.mk.injEq, and_true]
      omega
    have h5 := hD.1 _ _ _ _ hlast h4 rfl
    omega
  · omega
theorem zb_push {x : va_E} {y : zSy} (hx : zden b g y = x) (hP : va_P D vwCl (zlw (b + r) (sys.map (zden b g)) ++ [(b + r + sys.length, x)]) H) : zBw D g b r (sys ++ [y]) H := by
  show va_P D vwCl (zlw (b + r) ((sys ++ [y]).map (zden b g))) H
  rw [List.map_append, zlw_app, List.length_map, List.map_cons, hx]
  exact hP
/-- new -/
theorem zb_new (hx : p.tables.exec = Jvm.exec) (hb : c.code = cc) (hown : s.vm.findClass own = some m.cls) (hts : ∀ w ∈ zTb, w.before args s = true) (hK : zKx D g s) {ci idx : Nat} (hci : ci ≤ 6) (hcl : Cond.classLink own idx (zcn ci) ∈ zTb) (hinst : Cond.instantiable (zcn ci) (zNf ci) ∈ zTb)
    (hP : zBw D g b r sys H) (hS : va_S (zBs b r) s.heap H locs) (hlo : b + r ≤ s.heap.size) (hsz : b + r + sys.length = s.heap.size + cells) (hcells : cells + 1 ≤ R.cells) (hslots : slots + zNf ci ≤ R.slots) (hdg : decode cc pc = .ok (.new idx, 3))
    (kk : ∀ H1 : Heap, zBw D g b r (sys ++ [zraw ci]) H1 → va_S (zBs b r) s.heap H1 locs → W p l e R s m args below meth c H1 locs (cells + 1) (slots + zNf ci) Q (F0 m (pc + 3) ls (.ref (b + r + sys.length) :: rest))) : W p l e R s m args below meth c H locs cells slots Q (F0 m pc ls rest) := by
  refine va_new (ci := ci) (fs := (zraw ci).2.2.map (zfd b)) hx hb hts (zcls_in hci) (zTy ci) (ztyok hci) hown (hts _ hcl) (hts _ hinst) (hts _ (zini_in hci)) hK.1 hP (zlw_D _ _) hS (fun q hq => Nat.le_trans hlo hq) (zvw hci) (fun j hj => by rw [zraw_map]; exact zraw_ok ci (by omega) j hj) hcells hslots hdg (fun q H1 hP1 hD1 hS1 => ?_)
  intro T hT X
  have hq := zb_addr (T := T) (by rw [hT]; exact hP1) hD1 X.heapSize (by rw [List.length_map]; omega)
  rw [List.length_map] at hq
  subst hq
  refine kk H1 (zb_push ?_ hP1) hS1 T hT X
  unfold zden
  rw [if_pos (show (zraw ci).1 ≤ 6 from hci)]
  rfl
/-- newarray of ints -/
theorem zb_newi (hx : p.tables.exec = Jvm.exec) (hb : c.code = cc) (hts : ∀ w ∈ zTb, w.before args s = true) (hK : zKx D g s) {n : Int32} {N : Nat} (harr : Cond.arrayClass .int ∈ zTb) (hn : ¬ n < 0) (hN : n.toNatClampNeg = N) (hbytes : N * componentBytes .int ≤ 536870912)
    (hP : zBw D g b r sys H) (hS : va_S (zBs b r) s.heap H locs) (hlo : b + r ≤ s.heap.size) (hsz : b + r + sys.length = s.heap.size + cells) (hcells : cells + 1 ≤ R.cells) (hslots : slots + N ≤ R.slots) (hdg : decode cc pc = .ok (.newarray .int, 2))
    (kk : ∀ H1 : Heap, zBw D g b r (sys ++ [(20, N, [])]) H1 → va_S (zBs b r) s.heap H1 locs → W p l e R s m args below meth c H1 locs (cells + 1) (slots + N) Q (F0 m (pc + 2) ls (.ref (b + r + sys.length) :: rest))) : W p l e R s m args below meth c H locs cells slots Q (F0 m pc ls (.int n :: rest)) := by
  refine va_newa (atype := .int) (ty := .int) (a0 := (N, .inl (fun _ => 0))) (N' := N) hx hb (hts _ harr) rfl hK.1 hP (zlw_D _ _) hS (fun q hq => Nat.le_trans hlo hq) (fun _ => rfl) hn hN hbytes hcells hslots hdg (fun q cA H1 hK1 hP1 hD1 hS1 => ?_)
  intro T hT X
  have hq := zb_addr (T := T) (by rw [hT]; exact hP1) hD1 X.heapSize (by rw [List.length_map]; omega)
  rw [List.length_map] at hq
  subst hq
  have e1 := (hK1.2 5 (cA, .int) rfl).2
  have e2 := (hK.1.2 0 (g.1, .int) rfl).2
  have e3 : cA = g.1 := Option.some.inj (e1.symm.trans e2)
  subst e3
  exact kk H1 (zb_push rfl hP1) hS1 T hT X
/-- newarray of bytes -/
theorem zb_newb (hx : p.tables.exec = Jvm.exec) (hb : c.code = cc) (hts : ∀ w ∈ zTb, w.before args s = true) (hK : zKx D g s) {n : Int32} {N : Nat} (harr : Cond.arrayClass .byte ∈ zTb) (hn : ¬ n < 0) (hN : n.toNatClampNeg = N) (hbytes : N * componentBytes .byte ≤ 536870912)
    (hP : zBw D g b r sys H) (hS : va_S (zBs b r) s.heap H locs) (hlo : b + r ≤ s.heap.size) (hsz : b + r + sys.length = s.heap.size + cells) (hcells : cells + 1 ≤ R.cells) (hslots : slots + N ≤ R.slots) (hdg : decode cc pc = .ok (.newarray .byte, 2))
    (kk : ∀ H1 : Heap, zBw D g b r (sys ++ [(27, N, [])]) H1 → va_S (zBs b r) s.heap H1 locs → W p l e R s m args below meth c H1 locs (cells + 1) (slots + N) Q (F0 m (pc + 2) ls (.ref (b + r + sys.length) :: rest))) : W p l e R s m args below meth c H locs cells slots Q (F0 m pc ls (.int n :: rest)) := by
  refine va_newa (atype := .byte) (ty := .byte) (a0 := (N, .inl (fun _ => 0))) (N' := N) hx hb (hts _ harr) rfl hK.1 hP (zlw_D _ _) hS (fun q hq => Nat.le_trans hlo hq) (fun _ => rfl) hn hN hbytes hcells hslots hdg (fun q cA H1 hK1 hP1 hD1 hS1 => ?_)
  intro T hT X
  have hq := zb_addr (T := T) (by rw [hT]; exact hP1) hD1 X.heapSize (by rw [List.length_map]; omega)
  rw [List.length_map] at hq
  subst hq
  have e1 := (hK1.2 5 (cA, .byte) rfl).2
  have e2 := (hK.1.2 1 (g.2.1, .byte) rfl).2
  have e3 : cA = g.2.1 := Option.some.inj (e1.symm.trans e2)
  subst e3
  exact kk H1 (zb_push rfl hP1) hS1 T hT X
/-- newarray of longs -/
theorem zb_newl (hx : p.tables.exec = Jvm.exec) (hb : c.code = cc) (hts : ∀ w ∈ zTb, w.before args s = true) (hK : zKx D g s) {n : Int32} {N : Nat} (harr : Cond.arrayClass .long ∈ zTb) (hn : ¬ n < 0) (hN : n.toNatClampNeg = N) (hbytes : N * componentBytes .long ≤ 536870912)
    (hP : zBw D g b r sys H) (hS : va_S (zBs b r) s.heap H locs) (hlo : b + r ≤ s.heap.size) (hsz : b + r + sys.length = s.heap.size + cells) (hcells : cells + 1 ≤ R.cells) (hslots : slots + N ≤ R.slots) (hdg : decode cc pc = .ok (.newarray .long, 2))
    (kk : ∀ H1 : Heap, zBw D g b r (sys ++ [(41, N, [])]) H1 → va_S (zBs b r) s.heap H1 locs → W p l e R s m args below meth c H1 locs (cells + 1) (slots + N) Q (F0 m (pc + 2) ls (.ref (b + r + sys.length) :: rest))) : W p l e R s m args below meth c H locs cells slots Q (F0 m pc ls (.int n :: rest)) := by
  refine va_newa (atype := .long) (ty := .long) (a0 := (N, .inr (.inl (fun _ => 0)))) (N' := N) hx hb (hts _ harr) rfl hK.1 hP (zlw_D _ _) hS (fun q hq => Nat.le_trans hlo hq) (fun _ => rfl) hn hN hbytes hcells hslots hdg (fun q cA H1 hK1 hP1 hD1 hS1 => ?_)
  intro T hT X
  have hq := zb_addr (T := T) (by rw [hT]; exact hP1) hD1 X.heapSize (by rw [List.length_map]; omega)
  rw [List.length_map] at hq
  subst hq
  have e1 := (hK1.2 5 (cA, .long) rfl).2
  have e2 := (hK.1.2 2 (g.2.2.1, .long) rfl).2
  have e3 : cA = g.2.2.1 := Option.some.inj (e1.symm.trans e2)
  subst e3
  exact kk H1 (zb_push rfl hP1) hS1 T hT X
/-- anewarray of rows -/
theorem zb_newR (st : Nat) (hx : p.tables.exec = Jvm.exec) (hb : c.code = cc) (hown : s.vm.findClass own = some m.cls) (hts : ∀ w ∈ zTb, w.before args s = true) (hK : zKx D g s) {n : Int32} {idx : Nat} (hcl : Cond.classLink own idx RX2 ∈ zTb) (hn : ¬ n < 0) (hN : n.toNatClampNeg = 6)
    (hP : zBw D g b r sys H) (hS : va_S (zBs b r) s.heap H locs) (hlo : b + r ≤ s.heap.size) (hsz : b + r + sys.length = s.heap.size + cells) (hcells : cells + 1 ≤ R.cells) (hslots : slots + 6 ≤ R.slots) (hdg : decode cc pc = .ok (.anewarray idx, 3))
    (kk : ∀ H1 : Heap, zBw D g b r (sys ++ [(25, 0, [some (.inl st)])]) H1 → va_S (zBs b r) s.heap H1 locs → W p l e R s m args below meth c H1 locs (cells + 1) (slots + 6) Q (F0 m (pc + 3) ls (.ref (b + r + sys.length) :: rest))) : W p l e R s m args below meth c H locs cells slots Q (F0 m pc ls (.int n :: rest)) := by
  refine va_newq (C := RX2) (N' := 6) hx hb hown (hts _ hcl) hK.2.1 hK.1 hP (zlw_D _ _) hS (fun q hq => Nat.le_trans hlo hq) hn hN (by decide) hcells hslots hdg (fun q cA H1 hK1 hP1 hD1 hS1 => ?_)
  intro T hT X
  have hq := zb_addr (T := T) (by rw [hT]; exact hP1) hD1 X.heapSize (by rw [List.length_map]; omega)
  rw [List.length_map] at hq
  subst hq
  obtain ⟨-, -, -, -, -, e1⟩ := (hK1.2 5 (cA, .object RX2) rfl).2
  obtain ⟨-, -, -, -, -, e2⟩ := (hK.1.2 3 (g.2.2.2.1, .object RX2) rfl).2
  have e3 : cA = g.2.2.2.1 := Option.some.inj (e1.symm.trans e2)
  subst e3
  refine kk H1 (zb_push ?_ hP1) hS1 T hT X
  simp only [zden, show ¬ (25 : Nat) ≤ 6 by decide, show ¬ (25 : Nat) = 20 by decide, show ¬ (25 : Nat) = 27 by decide, show ¬ (25 : Nat) = 41 by decide, if_false, if_true, Nat.not_lt_zero]
/-- anewarray of sheets -/
theorem zb_newS (st : Nat) (hx : p.tables.exec = Jvm.exec) (hb : c.code = cc) (hown : s.vm.findClass own = some m.cls) (hts : ∀ w ∈ zTb, w.before args s = true) (hK : zKx D g s) {n : Int32} {idx : Nat} (hcl : Cond.classLink own idx RX3 ∈ zTb) (hn : ¬ n < 0) (hN : n.toNatClampNeg = 12)
    (hP : zBw D g b r sys H) (hS : va_S (zBs b r) s.heap H locs) (hlo : b + r ≤ s.heap.size) (hsz : b + r + sys.length = s.heap.size + cells) (hcells : cells + 1 ≤ R.cells) (hslots : slots + 12 ≤ R.slots) (hdg : decode cc pc = .ok (.anewarray idx, 3))
    (kk : ∀ H1 : Heap, zBw D g b r (sys ++ [(26, 0, [some (.inl st)])]) H1 → va_S (zBs b r) s.heap H1 locs → W p l e R s m args below meth c H1 locs (cells + 1) (slots + 12) Q (F0 m (pc + 3) ls (.ref (b + r + sys.length) :: rest))) : W p l e R s m args below meth c H locs cells slots Q (F0 m pc ls (.int n :: rest)) := by
  refine va_newq (C := RX3) (N' := 12) hx hb hown (hts _ hcl) hK.2.2 hK.1 hP (zlw_D _ _) hS (fun q hq => Nat.le_trans hlo hq) hn hN (by decide) hcells hslots hdg (fun q cA H1 hK1 hP1 hD1 hS1 => ?_)
  intro T hT X
  have hq := zb_addr (T := T) (by rw [hT]; exact hP1) hD1 X.heapSize (by rw [List.length_map]; omega)
  rw [List.length_map] at hq
  subst hq
  obtain ⟨-, -, -, -, -, e1⟩ := (hK1.2 5 (cA, .object RX3) rfl).2
  obtain ⟨-, -, -, -, -, e2⟩ := (hK.1.2 4 (g.2.2.2.2, .object RX3) rfl).2
  have e3 : cA = g.2.2.2.2 := Option.some.inj (e1.symm.trans e2)
  subst e3
  refine kk H1 (zb_push ?_ hP1) hS1 T hT X
  simp only [zden, show ¬ (26 : Nat) ≤ 6 by decide, show ¬ (26 : Nat) = 20 by decide, show ¬ (26 : Nat) = 27 by decide, show ¬ (26 : Nat) = 41 by decide, show ¬ (26 : Nat) = 25 by decide, if_false, Nat.not_lt_zero]
theorem zb_at {k0 : Nat} {y : zSy} (h0 : sys[k0]? = some y) : (zlw (b + r) (sys.map (zden b g)))[k0]? = some (b + r + k0, zden b g y) := by
  rw [zlw_get, List.getElem?_map, h0]
  rfl
theorem zb_set {k0 : Nat} {y : zSy} {x : va_E} (hx : zden b g y = x) (hP : va_P D vwCl ((zlw (b + r) (sys.map (zden b g))).set k0 (b + r + k0, x)) H) : zBw D g b r (sys.set k0 y) H := by
  show va_P D vwCl (zlw (b + r) ((sys.set k0 y).map (zden b g))) H
  rw [zlw_set, ← hx, ← List.map_set] at hP
  exact hP
theorem zden_obj {ci n0 : Nat} {fs : List (Option (Nat ⊕ Int32))} (hci : ci ≤ 6) : zden b g (ci, n0, fs) = .inr (ci, fs.map (zfd b)) := by
  unfold zden
  rw [if_pos hci]
/-- putfield -/
theorem zb_put (hx : p.tables.exec = Jvm.exec) (hb : c.code = cc) {ci : Nat} (hci : ci ≤ 6) (hown : s.vm.findClass (zcn ci) = some m.cls) (hts : ∀ w ∈ zTb, w.before args s = true) (hK : zKx D g s) (hin : meth.name = "<init>") {k0 k idx n0 : Nat} {fs : List (Option (Nat ⊕ Int32))} (h0 : sys[k0]? = some (ci, n0, fs)) (hk : k < zNf ci) (hlen : fs.length = zNf ci) (hlk : Cond.fieldLink (zcn ci) idx (zcn ci) (zT ci k).2.1 (zT ci k).2.2.1 ∈ zTb)
    {v : Option (Nat ⊕ Int32)} (hn : narrow (zTy ci k) (zfd b v) = zfd b v) (hfit : fits (zTy ci k) (zfd b v) = true) (hP : zBw D g b r sys H) (hS : va_S (zBs b r) s.heap H locs) (hdg : decode cc pc = .ok (.putfield idx, 3))
    (kk : ∀ (H1 : Heap) (locs1 : List Loc), zBw D g b r (sys.set k0 (ci, n0, fs.set k v)) H1 → va_S (zBs b r) s.heap H1 locs1 → W p l e R s m args below meth c H1 locs1 cells slots Q (F0 m (pc + 3) ls rest)) : W p l e R s m args below meth c H locs cells slots Q (F0 m pc ls (zfd b v :: .ref (b + r + k0) :: rest)) := by
  have he : (zlw (b + r) (sys.map (zden b g)))[k0]? = some (b + r + k0, .inr (ci, fs.map (zfd b))) := (zb_at h0).trans (by rw [zden_obj hci])
  have hd := zdecl_all ci (by omega) k hk
  have hl : k < (fs.map (zfd b)).length := by rw [List.length_map, hlen]; exact hk
  have hset : zden b g (ci, n0, fs.set k v) = .inr (ci, (fs.map (zfd b)).set k (zfd b v)) := by rw [zden_obj hci, List.map_set]
  cases hf : (zT ci k).2.2.2 with
  | false => exact va_put hx hb hts (zcls_in hci) (zTy ci) (ztyok hci) (znmok hci) hown hK.1 hP (zlw_D _ _) hS k0 he (zvw hci) k hk (hts _ hlk) (fun x hx => by rw [hd] at hx; exact hx) hf (ztyok hci k hk) hn hfit hl hdg (fun H1 locs1 hP1 _ hS1 => kk H1 locs1 (zb_set hset hP1) hS1)
  | true => exact va_putF hx hb hts (zcls_in hci) (zTy ci) (ztyok hci) (znmok hci) hown hK.1 hP (zlw_D _ _) hS k0 he (zvw hci) k hk (hts _ hlk) (fun x hx => by rw [hd] at hx; exact hx) hf hin hd (ztyok hci k hk) hn hfit hl hdg (fun H1 locs1 hP1 _ hS1 => kk H1 locs1 (zb_set hset hP1) hS1)
/-- a reference put -/
theorem zb_putR (hx : p.tables.exec = Jvm.exec) (hb : c.code = cc) {ci : Nat} (hci : ci ≤ 6) (hown : s.vm.findClass (zcn ci) = some m.cls) (hts : ∀ w ∈ zTb, w.before args s = true) (hK : zKx D g s) (hin : meth.name = "<init>") {k idx n0 a x : Nat} {fs : List (Option (Nat ⊕ Int32))} (h0 : sys[0]? = some (ci, n0, fs)) (hk : k < zNf ci) (hlen : fs.length = zNf ci) (hlk : Cond.fieldLink (zcn ci) idx (zcn ci) (zT ci k).2.1 (zT ci k).2.2.1 ∈ zTb)
    (ha : a = b + x) (hn : ∀ q, narrow (zTy ci k) (.ref q) = .ref q) (hfit : ∀ q, fits (zTy ci k) (.ref q) = true) (hP : zBw D g b r sys H) (hS : va_S (zBs b r) s.heap H locs) (hdg : decode cc pc = .ok (.putfield idx, 3))
    (kk : ∀ (H1 : Heap) (locs1 : List Loc), zBw D g b r (sys.set 0 (ci, n0, fs.set k (some (.inl x)))) H1 → va_S (zBs b r) s.heap H1 locs1 → W p l e R s m args below meth c H1 locs1 cells slots Q (F0 m (pc + 3) ls rest)) : W p l e R s m args below meth c H locs cells slots Q (F0 m pc ls (.ref a :: .ref (b + r) :: rest)) := by
  subst ha
  exact zb_put (k0 := 0) (v := some (.inl x)) hx hb hci hown hts hK hin h0 hk hlen hlk (hn _) (hfit _) hP hS hdg kk
/-- a number put -/
theorem zb_putI (hx : p.tables.exec = Jvm.exec) (hb : c.code = cc) {ci : Nat} (hci : ci ≤ 6) (hown : s.vm.findClass (zcn ci) = some m.cls) (hts : ∀ w ∈ zTb, w.before args s = true) (hK : zKx D g s) (hin : meth.name = "<init>") {k idx n0 : Nat} {x : Int32} {fs : List (Option (Nat ⊕ Int32))} (h0 : sys[0]? = some (ci, n0, fs)) (hk : k < zNf ci) (hlen : fs.length = zNf ci) (hlk : Cond.fieldLink (zcn ci) idx (zcn ci) (zT ci k).2.1 (zT ci k).2.2.1 ∈ zTb)
    (hn : narrow (zTy ci k) (.int x) = .int x) (hfit : fits (zTy ci k) (.int x) = true) (hP : zBw D g b r sys H) (hS : va_S (zBs b r) s.heap H locs) (hdg : decode cc pc = .ok (.putfield idx, 3))
    (kk : ∀ (H1 : Heap) (locs1 : List Loc), zBw D g b r (sys.set 0 (ci, n0, fs.set k (some (.inr x)))) H1 → va_S (zBs b r) s.heap H1 locs1 → W p l e R s m args below meth c H1 locs1 cells slots Q (F0 m (pc + 3) ls rest)) : W p l e R s m args below meth c H locs cells slots Q (F0 m pc ls (.int x :: .ref (b + r) :: rest)) :=
  zb_put (k0 := 0) (v := some (.inr x)) hx hb hci hown hts hK hin h0 hk hlen hlk hn hfit hP hS hdg kk
/-- getfield -/
theorem zb_get (hx : p.tables.exec = Jvm.exec) (hb : c.code = cc) {ci : Nat} (hci : ci ≤ 6) (hown : s.vm.findClass (zcn ci) = some m.cls) (hts : ∀ w ∈ zTb, w.before args s = true) (hK : zKx D g s) {k0 k idx n0 : Nat} {fs : List (Option (Nat ⊕ Int32))} (h0 : sys[k0]? = some (ci, n0, fs)) (hk : k < zNf ci) (hlk : Cond.fieldLink (zcn ci) idx (zcn ci) (zT ci k).2.1 (zT ci k).2.2.1 ∈ zTb)
    {v : Option (Nat ⊕ Int32)} (hv : fs[k]? = some v) (hP : zBw D g b r sys H) (hdg : decode cc pc = .ok (.getfield idx, 3))
    (kk : W p l e R s m args below meth c H locs cells slots Q (F0 m (pc + 3) ls (zfd b v :: rest))) : W p l e R s m args below meth c H locs cells slots Q (F0 m pc ls (.ref (b + r + k0) :: rest)) := by
  have he : (zlw (b + r) (sys.map (zden b g)))[k0]? = some (b + r + k0, .inr (ci, fs.map (zfd b))) := (zb_at h0).trans (by rw [zden_obj hci])
  have hd := zdecl_all ci (by omega) k hk
  exact va_get hx hb hts (zcls_in hci) hown hK.1 hP k0 he (zvw hci) k hk (hts _ hlk) (fun x hx => by rw [hd] at hx; exact hx) (by rw [List.getElem?_map, hv]; rfl) hdg kk
/-- aastore of a row -/
theorem zb_astR (hx : p.tables.exec = Jvm.exec) (hb : c.code = cc) (hK : zKx D g s) {k0 qk i st n0 : Nat} {fs : List (Option (Nat ⊕ Int32))} (h0 : sys[k0]? = some (25, i, [some (.inl st)])) (h1 : sys[qk]? = some (2, n0, fs)) (hst : st + 4 * i = r + qk) (hi : i < 6)
    (hP : zBw D g b r sys H) (hS : va_S (zBs b r) s.heap H locs) (hdg : decode cc pc = .ok (.aastore, 1))
    (kk : ∀ (H1 : Heap) (locs1 : List Loc), zBw D g b r (sys.set k0 (25, i + 1, [some (.inl st)])) H1 → va_S (zBs b r) s.heap H1 locs1 → W p l e R s m args below meth c H1 locs1 cells slots Q (F0 m (pc + 1) ls rest)) : W p l e R s m args below meth c H locs cells slots Q (F0 m pc ls (.ref (b + r + qk) :: .int (nI i) :: .ref (b + r + k0) :: rest)) := by
  have hc : (nI i).toNatClampNeg = i := nI_clamp (by omega)
  have hden : ∀ j, zden b g (25, j, [some (.inl st)]) = .inl (g.2.2.2.1, 6, .inr (.inr (.inr (.inr (fun t => if t < j then some (b + (st + 4 * t)) else none))))) := fun j => rfl
  refine va_astq hx hb hK.1 hP (zlw_D _ _) hS k0 3 qk 2 (r := (RX2, TX2, 9)) ((zb_at h0).trans (by rw [hden])) rfl ((zb_at h1).trans (by rw [zden_obj (by decide)])) rfl (vp_in_nI hi (by decide)) hdg (fun H1 locs1 hP1 _ hS1 => kk H1 locs1 (zb_set ?_ hP1) hS1)
  rw [hden, hc]
  congr 7
  funext t
  unfold va_up
  by_cases h : t = i
  · subst h
    rw [if_pos (by omega), if_pos rfl, hst, Nat.add_assoc]
  · rw [if_neg h]
    by_cases h2 : t < i
    · rw [if_pos (by omega)]
      exact (if_pos h2).symm
    · rw [if_neg (by omega)]
      exact (if_neg h2).symm
/-- aastore of a sheet -/
theorem zb_astS (hx : p.tables.exec = Jvm.exec) (hb : c.code = cc) (hK : zKx D g s) {k0 qk i st n0 : Nat} {fs : List (Option (Nat ⊕ Int32))} (h0 : sys[k0]? = some (26, i, [some (.inl st)])) (h1 : sys[qk]? = some (3, n0, fs)) (hst : st + 26 * i = r + qk) (hi : i < 12)
    (hP : zBw D g b r sys H) (hS : va_S (zBs b r) s.heap H locs) (hdg : decode cc pc = .ok (.aastore, 1))
    (kk : ∀ (H1 : Heap) (locs1 : List Loc), zBw D g b r (sys.set k0 (26, i + 1, [some (.inl st)])) H1 → va_S (zBs b r) s.heap H1 locs1 → W p l e R s m args below meth c H1 locs1 cells slots Q (F0 m (pc + 1) ls rest)) : W p l e R s m args below meth c H locs cells slots Q (F0 m pc ls (.ref (b + r + qk) :: .int (nI i) :: .ref (b + r + k0) :: rest)) := by
  have hc : (nI i).toNatClampNeg = i := nI_clamp (by omega)
  have hden : ∀ j, zden b g (26, j, [some (.inl st)]) = .inl (g.2.2.2.2, 12, .inr (.inr (.inr (.inr (fun t => if t < j then some (b + (st + 26 * t)) else none))))) := fun j => rfl
  refine va_astq hx hb hK.1 hP (zlw_D _ _) hS k0 4 qk 3 (r := (RX3, TX3, 2)) ((zb_at h0).trans (by rw [hden])) rfl ((zb_at h1).trans (by rw [zden_obj (by decide)])) rfl (vp_in_nI hi (by decide)) hdg (fun H1 locs1 hP1 _ hS1 => kk H1 locs1 (zb_set ?_ hP1) hS1)
  rw [hden, hc]
  congr 7
  funext t
  unfold va_up
  by_cases h : t = i
  · subst h
    rw [if_pos (by omega), if_pos rfl, hst, Nat.add_assoc]
  · rw [if_neg h]
    by_cases h2 : t < i
    · rw [if_pos (by omega)]
      exact (if_pos h2).symm
    · rw [if_neg (by omega)]
      exact (if_neg h2).symm
end ZB
theorem zob_i : Cond.instanceMethod Lib.objectInit ∈ zTb := zTb_in (i := 109) (by decide +kernel) rfl
theorem zob_c : Cond.code Lib.objectInit ⟨#[0xb1]⟩ 1 none ∈ zTb := zTb_in (i := 110) (by decide +kernel) rfl
theorem zar_i : Cond.arrayClass .int ∈ zTb := zTb_in (i := 171) (by decide +kernel) rfl
theorem zar_b : Cond.arrayClass .byte ∈ zTb := zTb_in (i := 252) (by decide +kernel) rfl
theorem zar_l : Cond.arrayClass .long ∈ zTb := zTb_in (i := 1647) (by decide +kernel) rfl
/-- a constructor's contract: its object is the last cell; what it makes lies behind -/
def zCt (l : Launch) (D : va_G) (g : zIds) (b r ci : Nat) (y : MethodName) (cc : ByteArray) (mL : Nat) (ex : List Value) (rm : Room) (blk : List zSy) : Prop :=
  Met l y (.code y cc mL none :: zTb) rm (va_Pc (.ref (b + r) :: ex) (fun U => zKx D g U ∧ U.heap.size = b + r + 1 ∧ zBw D g b r [zraw ci] U.heap)) (va_Qv (fun _ : Unit => True) (fun _ t => zBw D g b r blk t.heap) (zBs b r)) rm.cells rm.slots (zBs b r)
section ZBC
variable {p : Program} {l : Launch} {e : Env} {R : Room} {s : State} {m : MethodId} {args : Array Value} {below : List Frame} {meth : Method} {c : Code} {H : Heap} {locs : List Loc} {cells slots : Nat} {Q : State → Prop}
variable {cc : ByteArray} {own : String} {pc : Nat} {ls : Array Slot} {rest : List Value} {D : va_G} {g : zIds} {b r : Nat} {sys : List zSy}
theorem zb_obj (hx : p.tables.exec = Jvm.exec) (hb : c.code = cc) (hown : s.vm.findClass own = some m.cls) (hts : ∀ w ∈ zTb, w.before args s = true) {idx a : Nat} (hlk : Cond.methodLink own idx Lib.objectInit ∈ zTb) (hsize : ls.size = c.maxLocals) (hd : decode cc pc = .ok (.invokespecial idx, 3)) (hfr : 1 ≤ R.frames) (hlo : 12 ≤ R.locals)
    (kk : W p l e R s m args below meth c H locs cells slots Q (F0 m (pc + 3) ls [])) : W p l e R s m args below meth c H locs cells slots Q (F0 m pc ls [.ref a]) :=
  W.objInit hx hb hown (hts _ hlk) (hts _ zob_i) (hts _ zob_c) rfl hsize rfl hd hfr (by show 2 * 0 + 0 + 12 ≤ R.locals; omega) kk
theorem zCt_blind {r1 ci : Nat} {ex : List Value} : FrameBlind (va_Pc (.ref (b + r1) :: ex) (fun U => zKx D g U ∧ U.heap.size = b + r1 + 1 ∧ zBw D g b r1 [zraw ci] U.heap)) := fun a U gg mk q => ⟨q.1, zKx_moved (u := U) (U := U.calling gg mk a) (Vm.Alike.refl U.vm) q.2.1, q.2.2⟩
/-- invokespecial of a constructor on the last cell -/
theorem zb_call (hx : p.tables.exec = Jvm.exec) (hb : c.code = cc) (hml : c.maxLocals = ls.size) (hown : s.vm.findClass own = some m.cls) (hts : ∀ w ∈ zTb, w.before args s = true) (hK : zKx D g s) {ci idx mL n : Nat} {y : MethodName} {bt : ByteArray} {rm : Room} {ex exr : List Value} {blk : List zSy}
    (hM : zCt l D g b (r + sys.length) ci y bt mL ex rm blk) (hci : ci ≤ 6) (hcls : y.cls = zcn ci) (hnm : y.name = "<init>") (hlk : Cond.methodLink own idx y ∈ zTb) (hin : Cond.instanceMethod y ∈ zTb) (hco : Cond.code y bt mL none ∈ zTb) (hdsc : (parseMethodDescriptor y.desc).map (fun d => d.parameters.length) = some n) (hex : ex.length = n) (hexr : exr = ex.reverse)
    (hfr : rm.frames + 1 ≤ R.frames) (hlo : 8 + (mL + 11) + rm.locals ≤ R.locals) (hroom : (rest.map fun v => v.category).sum ≤ 8) (hP : zBw D g b r (sys ++ [zraw ci]) H) (hS : va_S (zBs b r) s.heap H locs) (hsz : b + r + (sys.length + 1) = s.heap.size + cells) (hcells : cells + rm.cells ≤ R.cells) (hslots : slots + rm.slots ≤ R.slots) (hdg : decode cc pc = .ok (.invokespecial idx, 3))
    (kk : ∀ (H1 : Heap) (locs1 : List Loc), zBw D g b r (sys ++ blk) H1 → va_S (zBs b r) s.heap H1 locs1 → W p l e R s m args below meth c H1 locs1 (cells + rm.cells) (slots + rm.slots) Q (F0 m (pc + 3) ls rest)) : W p l e R s m args below meth c H locs cells slots Q (F0 m pc ls (exr ++ .ref (b + r + sys.length) :: rest)) := by
  have hP : va_P D vwCl (zlw (b + r) ((sys ++ [zraw ci]).map (zden b g))) H := hP
  rw [List.map_append, zlw_app, List.length_map] at hP
  have hPa : va_P D vwCl (zlw (b + r) (sys.map (zden b g))) H := fun k q hq => hP k q (by rw [List.getElem?_append_left (List.getElem?_eq_some_iff.mp hq).1]; exact hq)
  have hPb : va_P D vwCl (zlw (b + r + sys.length) ([zraw ci].map (zden b g))) H := fun k q hq => hP ((zlw (b + r) (sys.map (zden b g))).length + k) q (by rw [List.getElem?_append_right (Nat.le_add_right _ _), Nat.add_sub_cancel_left]; exact hq)
  have hlow : b + r + sys.length < H.size := (hPb 0 (b + r + sys.length, zden b g (zraw ci)) rfl).lt
  intro T hT X
  have hsize : H.size = b + (r + sys.length) + 1 := by
    have h1 := X.heapSize
    rw [hT] at h1
    omega
  revert T
  have had : b + r + sys.length = b + (r + sys.length) := Nat.add_assoc _ _ _
  rw [hexr, had]
  have hG : GoodIn zTb (Cond.code y bt mL none :: zTb) := zGoodIn (fun w hw => by
    rcases List.mem_cons.mp hw with rfl | hw
    · exact hco
    · exact hw)
  refine va_callv (va_runI (As := ex) (rest := rest) (b := b + (r + sys.length)) ⟨hx, hb, hml, hown, hts⟩ hM (cwI n hts hG rfl rfl rfl (by rw [hcls]; exact hts _ (zini_in hci)) (hts _ hlk) (hts _ hin) hnm ⟨by rw [hcls]; exact zcn_ne.1, by rw [hcls]; exact zcn_ne.2, hdsc⟩ ⟨hfr, hlo⟩) ⟨zCt_blind, fun U hU hW => ⟨rfl, zKx_moved hW.alike hK, by rw [hU]; exact hsize, by rw [hU]; show va_P D vwCl (zlw (b + (r + sys.length)) _) H; rw [← had]; exact hPb⟩⟩ rfl hex rfl rfl (lv_room hroom) hdg ⟨hcells, hslots⟩) hS (fun q _ h => Nat.le_trans (by omega) h) (fun q h => Nat.le_trans (by omega) h) (fun u t H1 locs1 ht hvm hw hB hz hk hS1 => ?_)
  refine kk H1 locs1 ?_ hS1
  show va_P D vwCl (zlw (b + r) ((sys ++ blk).map (zden b g))) H1
  rw [List.map_append, zlw_app, List.length_map]
  rw [ht] at hB
  have hB : va_P D vwCl (zlw (b + (r + sys.length)) (blk.map (zden b g))) H1 := hB
  rw [← had] at hB
  refine va_P.app (fun k q hq => ?_) hB
  have h3 := zlw_at hq
  rw [List.length_map] at h3
  exact (hPa k q hq).kept (hk _ (hPa k q hq).lt (by show ¬ b + (r + sys.length) ≤ q.1; omega))
end ZBC
