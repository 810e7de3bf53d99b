/-! what the law finds at its start -/
def zFl : List Cond := flatC (Jvm.Cond.and given_1 narrow_1)
def zTr (i : Nat) : Term := .string (zcn 1) ([56, 121, 123, 125, 127, 129, 131, 133, 135].getD i 0)
def zTo (i : Nat) : Term := .string (zcn 6) ([216, 168, 174, 176, 178, 221, 226, 231, 236].getD i 0)
def zBr (i : Nat) : Nat := [60, 68, 77, 86, 95, 109, 122, 137, 153].getD i 0
def zBo (i : Nat) : Nat := [170, 187, 205, 223, 241, 264, 286, 310, 335].getD i 0
abbrev zVt (i : Nat) : Term := .field (zTr i) "java/lang/String" "value" "[B"
abbrev zFa (n : Nat) (w : Cond) : Bool := decide (zFl[n]? = some w)
theorem zFa_use {n : Nat} {w : Cond} {args : Array Value} {s : State} (hgv : (Jvm.Cond.and given_1 narrow_1).before args s = true) (h : zFa n w = true) : w.before args s = true :=
  flat_of_before _ hgv w (List.mem_of_getElem? (of_decide_eq_true h))
set_option maxRecDepth 100000 in
theorem zst_1 : (List.range 9).all (fun i => zFa (zBr i) (.exactly (zTr i) "java/lang/String") && (zFa (zBr i + 1) (.eq (.field (zTr i) "java/lang/String" "coder" "B") (.int 0)) && (zFa (zBr i + 2) (.arrayOf (zVt i) .byte) && zFa (zBr i + 3) (.eq (.length (zVt i)) (.int (Int32.ofNat (zlens.getD i 0))))))) = true := by decide +kernel
set_option maxRecDepth 100000 in
theorem zst_2 : (List.range 9).all (fun i => (List.range (zlens.getD i 0)).all (fun j => zFa (zBr i + 4 + j) (.eq (.elem (zVt i) (.int (Int32.ofNat j))) (.int ((zbyts.getD i []).getD j 0))))) = true := by decide +kernel
set_option maxRecDepth 100000 in
theorem zst_3 : (List.range 9).all (fun i => (List.range i).all (fun j => zFa (zBr i + 4 + zlens.getD i 0 + j) (.not (.eq (zTr j) (zTr i))))) = true := by decide +kernel
set_option maxRecDepth 100000 in
theorem zst_4 : (List.range 9).all (fun i => zFa (zBo i) (.exactly (zTo i) "java/lang/String") && zFa (zBo i + 4 + zlens.getD i 0 + i) (.eq (zTr i) (zTo i))) = true := by decide +kernel
theorem zst_5 : zSL.all (fun q => Nat.ble (q.2.2.2 + 1) 9 && (decide (Term.string (zcn q.2.1) q.2.2.1 = zTr q.2.2.2) || decide (Term.string (zcn q.2.1) q.2.2.1 = zTo q.2.2.2))) = true := by decide +kernel
theorem zst_6 : (List.range 9).all (fun i => Nat.blt (zlens.getD i 0) 2147483648) = true := by decide +kernel
theorem zrg {P : Nat → Bool} {n : Nat} (h : (List.range n).all P = true) {i : Nat} (hi : i < n) : P i = true := List.all_eq_true.mp h i (List.mem_range.mpr hi)
section ZPR
variable {args : Array Value} {s : State}
theorem zold : ∀ a : Nat, a < s.heap.size → ¬ zA s.heap a := fun _ h => Nat.not_le.mpr h
/-- the nine texts -/
theorem zpr_str (hgv : (Jvm.Cond.and given_1 narrow_1).before args s = true) : ∃ adK adV : Nat → Nat, vk_S 9 zlens zbyts adK adV (zA s.heap) s s.heap ∧ (∀ i : Nat, i < 9 → (zTr i).eval args s none [] s = some (.ref (adK i))) ∧ ∀ i : Nat, i < 9 → (zTo i).eval args s none [] s = some (.ref (adK i)) := by
  have h1 : ∀ i : Nat, i < 9 → _ := fun i hi => zrg zst_1 hi
  simp only [Bool.and_eq_true] at h1
  obtain ⟨adK, adV, hS, hE⟩ := vk_Sof (args := args) (s := s) (N := 9) (tm := zTr) (len := zlens) (byt := zbyts) (A := zA s.heap) (fun i hi => by have := zrg zst_6 hi; exact Nat.le_of_ble_eq_true this) (fun i hi => zFa_use hgv (h1 i hi).1) (fun i hi => zFa_use hgv (h1 i hi).2.1) (fun i hi => zFa_use hgv (h1 i hi).2.2.1) (fun i hi => zFa_use hgv (h1 i hi).2.2.2) (fun i hi j hj => zFa_use hgv (zrg (zrg zst_2 hi) hj)) (fun i j hi hj hij => by
    rcases Nat.lt_or_gt_of_ne hij with h | h
    · exact Or.inl (zFa_use hgv (zrg (zrg zst_3 hj) h))
    · exact Or.inr (zFa_use hgv (zrg (zrg zst_3 hi) h))) zold
  refine ⟨adK, adV, hS, hE, fun i hi => ?_⟩
  have h4 := zrg zst_4 hi
  simp only [Bool.and_eq_true] at h4
  obtain ⟨a, -, -, -, q1, -⟩ := Cond.exactly_spec (args := args) (first := s) (o := none) (s := s) (idx := []) (t := zTo i) (cls := "java/lang/String") (zFa_use hgv h4.1)
  have h5 := Cond.eq_refs (args := args) (first := s) (out := none) (t := s) (idx := []) (zFa_use hgv h4.2) q1 rfl
  rw [q1, ← h5]
  exact hE i hi
theorem zXW_in : zXW.all (fun w => lw_tbl.any (fun z => decide (z = w)) && w.onTables) = true := by decide +kernel
theorem zfa_nc : (zFl.any (fun z => decide (z = Cond.not (.castable (zxn 1) (zxn 0)))) && (zFl.any (fun z => decide (z = Cond.not (.castable (zxn 2) (zxn 0)))) && zFl.any (fun z => decide (z = Cond.not (.castable (zxn 2) (zxn 1)))))) = true := by decide +kernel
theorem zfa_u : zFa 4 (.isRef (.static Bundle.tN "UNASSIGNED_STACK" Bundle.steD)) = true := by decide +kernel
theorem zfa_n : zFa 5 (.isRef (.static Bundle.tN "SUPPRESSED_SENTINEL" Bundle.listD)) = true := by decide +kernel
theorem zfa_c : zFa 6 (.eq (.static "java/lang/String" "COMPACT_STRINGS" "Z") (.int 1)) = true := by decide +kernel
theorem zfa_p : zFa 7 (.isRef (.static "jdk/internal/util/Preconditions" "SIOOBE_FORMATTER" "Ljava/util/function/BiFunction;")) = true := by decide +kernel
theorem zpl_u : lw_tbl[401]? = some (Cond.laysStatic Bundle.tN "UNASSIGNED_STACK" Bundle.steD) := by decide +kernel
theorem zpl_n : lw_tbl[403]? = some (Cond.laysStatic Bundle.tN "SUPPRESSED_SENTINEL" Bundle.listD) := by decide +kernel
theorem zpl_c : lw_tbl[481]? = some (Cond.laysStatic "java/lang/String" "COMPACT_STRINGS" "Z") := by decide +kernel
theorem zpl_p : lw_tbl[497]? = some (Cond.laysStatic "jdk/internal/util/Preconditions" "SIOOBE_FORMATTER" "Ljava/util/function/BiFunction;") := by decide +kernel
theorem zpl_it : lw_tbl[92]? = some (Cond.initialized Bundle.tN) := by decide +kernel
theorem zpl_is : lw_tbl[96]? = some (Cond.initialized "java/lang/String") := by decide +kernel
theorem zpl_ip : lw_tbl[98]? = some (Cond.initialized "jdk/internal/util/Preconditions") := by decide +kernel
theorem zpl_ao : lw_tbl[118]? = some (Cond.arrayOver (.object RX2)) := by decide +kernel
theorem zpl_as : lw_tbl[190]? = some (Cond.arrayOver (.object RX3)) := by decide +kernel
theorem zfl_any {w : Cond} (hgv : (Jvm.Cond.and given_1 narrow_1).before args s = true) (h : zFl.any (fun z => decide (z = w)) = true) : w.before args s = true := by
  obtain ⟨z, hz, h1⟩ := List.any_eq_true.mp h
  have h2 := of_decide_eq_true h1
  subst h2
  exact flat_of_before _ hgv z hz
theorem zNcs_ok (hgv : (Jvm.Cond.and given_1 narrow_1).before args s = true) : zNcs s := by
  have h := zfa_nc
  simp only [Bool.and_eq_true] at h
  exact ⟨va_Nc.of (zfl_any hgv h.1), va_Nc.of (zfl_any hgv h.2.1), va_Nc.of (zfl_any hgv h.2.2)⟩
/-- an array's class, as the tables have it -/
theorem zarr_ok {ty : FieldType} (h : (Cond.arrayClass ty).before args s = true) : ∃ cA : ClassId, ArrOfT s cA ty ∧ s.vm.findClass ("[" ++ ty.toString) = some cA := by
  obtain ⟨cA, kA, comp, h1, h2, h3⟩ := Cond.arrayClass_spec (args := args) (first := s) (o := none) (s := s) (idx := []) h
  exact ⟨cA, fun n z => ⟨fun k h => (by cases h), kA, h2, comp, h3⟩, h1⟩
theorem zarq_ok {C : String} (h : (Cond.arrayOver (.object C)).before args s = true) : ∃ cA : ClassId, ArrOfT s cA (.object C) ∧ va_RA s cA (.object C) := by
  obtain ⟨comp, cA, kA, h1, -, h3, h4, h5⟩ := Cond.arrayOver_spec (args := args) (first := s) (o := none) (s := s) (idx := []) h
  exact ⟨cA, fun n z => ⟨fun k h => (by cases h), kA, h3, comp, h4⟩, kA, comp, h3, h4, h1, h5⟩
theorem zinst_in {k : Nat} (hk : k ≤ 6) : Cond.instantiable (zcn k) (zNf k) ∈ zTb := by
  match k, hk with
  | 0, _ => exact zo_n0
  | 1, _ => exact zo_n1
  | 2, _ => exact zo_n2
  | 3, _ => exact zo_n3
  | 4, _ => exact zo_n4
  | 5, _ => exact zo_n5
  | 6, _ => exact zo_n6
/-- the classes and the arrays' classes -/
theorem zK_ok (hts : ∀ w ∈ zTb, w.before args s = true) (ho2 : (Cond.arrayOver (.object RX2)).before args s = true) (ho3 : (Cond.arrayOver (.object RX3)).before args s = true) : ∃ (D : va_G) (g : zIds), va_K D vwCl (ztys g) s := by
  have h0 : ∀ k : Nat, ∃ q : ClassId × (Nat → Nat), k ≤ 6 → u_Kn s (zcn k) (zT k) (zNf k) q.1 q.2 := by
    intro k
    by_cases hk : k ≤ 6
    · obtain ⟨cC, iS, h⟩ := u_known (C := zcn k) (T := zT k) (N := zNf k) (n := zNf k) hts (zcls_in hk) (hts _ (zinst_in hk))
      exact ⟨(cC, iS), fun _ => h⟩
    · exact ⟨(0, fun _ => 0), fun h => absurd h hk⟩
  obtain ⟨f, hf⟩ := Classical.axiomOfChoice h0
  obtain ⟨g1, a1, b1⟩ := zarr_ok (hts _ zar_i)
  obtain ⟨g2, a2, b2⟩ := zarr_ok (hts _ zar_b)
  obtain ⟨g3, a3, b3⟩ := zarr_ok (hts _ zar_l)
  obtain ⟨g4, a4, b4⟩ := zarq_ok ho2
  obtain ⟨g5, a5, b5⟩ := zarq_ok ho3
  refine ⟨(fun k => (f k).1, fun k => (f k).2), (g1, g2, g3, g4, g5), fun k q hq => ?_, fun k q hq => ?_⟩
  · have hk : k ≤ 6 := by
      have h9 := (List.getElem?_eq_some_iff.mp hq).1
      have h8 : vwCl.length = 7 := rfl
      omega
    have h1 := zvw hk
    rw [h1] at hq
    cases hq
    exact hf k hk
  · match k, hq with
    | 0, hq => cases hq; exact ⟨a1, b1⟩
    | 1, hq => cases hq; exact ⟨a2, b2⟩
    | 2, hq => cases hq; exact ⟨a3, b3⟩
    | 3, hq => cases hq; exact ⟨a4, b4⟩
    | 4, hq => cases hq; exact ⟨a5, b5⟩
    | k + 5, hq => exact absurd (List.getElem?_eq_some_iff.mp hq).1 (by show ¬ k + 5 < 5; omega)
/-- all that the small machine asks of the start -/
theorem zGd_ok (hgv : (Jvm.Cond.and given_1 narrow_1).before args s = true) (hts : ∀ w ∈ lw_tbl, w.before args s = true) : ∃ (D : va_G) (g : zIds) (aK : Nat → Nat), zGd D g (zadr s.heap.size aK) s.heap s ∧ zKx D g s ∧ zNcs s := by
  have htz : ∀ w ∈ zTb, w.before args s = true := fun w hw => hts w (List.mem_filter.mp hw).1
  have ht : ∀ {i : Nat} {w : Cond}, lw_tbl[i]? = some w → w.before args s = true := fun h => hts _ (List.mem_of_getElem? h)
  obtain ⟨D, g, hK⟩ := zK_ok htz (ht zpl_ao) (ht zpl_as)
  obtain ⟨aK, adV, hS, hr, ho⟩ := zpr_str hgv
  refine ⟨D, g, aK, ⟨hK, fun q hq => ?_, ⟨⟨adV, hS⟩, va_Zof (ht zpl_c) (ht zpl_is) (va_eqt (zFa_use hgv zfa_c)) zold, va_Zqof (ht zpl_p) (ht zpl_ip) (zFa_use hgv zfa_p) zold⟩, vx_Zqof (ht zpl_u) (ht zpl_it) (zFa_use hgv zfa_u) zold, vx_Zqof (ht zpl_n) (ht zpl_it) (zFa_use hgv zfa_n) zold, fun w hw => ?_⟩, ⟨hK, va_AO.of (ht zpl_ao), va_AO.of (ht zpl_as)⟩, zNcs_ok hgv⟩
  · have h1 := of_decide_eq_true (List.all_eq_true.mp zSL_ok q hq)
    have h2 := List.all_eq_true.mp zst_5 q hq
    simp only [Bool.and_eq_true, Bool.or_eq_true, decide_eq_true_eq] at h2
    obtain ⟨h3, h4⟩ := h2
    have h3 : q.2.2.2 < 9 := Nat.le_of_ble_eq_true h3
    refine vk_R.of (A := args) (ht h1) ?_
    show (Term.string (zcn q.2.1) q.2.2.1).eval args s none [] s = some (.ref (aK q.2.2.2))
    rcases h4 with h4 | h4
    · rw [h4]
      exact hr _ h3
    · rw [h4]
      exact ho _ h3
  · have h1 := List.all_eq_true.mp zXW_in w hw
    simp only [Bool.and_eq_true] at h1
    obtain ⟨z, hz, h2⟩ := List.any_eq_true.mp h1.1
    have h3 := of_decide_eq_true h2
    rw [h3] at hz
    exact va_Nw.of h1.2 (hts _ hz)
end ZPR
