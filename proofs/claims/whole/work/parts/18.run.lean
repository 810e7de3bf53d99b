/-! a run of the small machine is one of the great one's -/
theorem zget_pad : ∀ (args : List zAV) (N n : Nat), zget (zpad args N) n = if n < args.length then zget args n else zJunk := by
  intro args N n
  unfold zpad
  induction args generalizing n N with
  | nil =>
    simp only [List.nil_append, List.length_nil, Nat.not_lt_zero, if_false]
    generalize N - 0 = k
    induction k generalizing n with
    | zero => rfl
    | succ k ih =>
      cases n with
      | zero => rfl
      | succ n => exact ih n
  | cons v r ih =>
    cases n with
    | zero => simp [zget]
    | succ n =>
      have h := ih (N - 1) n
      have e : N - (v :: r).length = N - 1 - r.length := by simp only [List.length_cons]; omega
      rw [e]
      simp only [List.cons_append, zget, List.length_cons, Nat.add_lt_add_iff_right]
      exact h
theorem znl_get : ∀ (args : List zAV), znl args = true → ∀ n x, zget args n ≠ .inr (.inl x) := by
  intro args
  induction args with
  | nil => intro _ n x h; simp [zget, zJunk] at h
  | cons v r ih =>
    intro h n x
    have hr : znl r = true := by
      cases v with
      | inl y => exact h
      | inr y =>
        cases y with
        | inl y => cases h
        | inr y => exact h
    cases n with
    | zero =>
      cases v with
      | inl y => simp [zget]
      | inr y =>
        cases y with
        | inl y => cases h
        | inr y => simp [zget]
    | succ n => exact ih hr n x
theorem znl_cat {adr : Nat → Nat → Nat} {v : zAV} (h : ∀ x, v ≠ .inr (.inl x)) : (zval adr v).category = 1 := by
  cases v with
  | inl y => rfl
  | inr y =>
    cases y with
    | inl y => exact absurd rfl (h y)
    | inr y => exact zcat_r y
theorem znl_args {adr : Nat → Nat → Nat} : ∀ (args : List zAV) (k : Nat), znl args = true → (lg_sl (args.map (zval adr))).length = args.length ∧ ∀ n, n < args.length → (k + n, zval adr (zget args n)) ∈ lv_args k (args.map (zval adr)) := by
  intro args
  induction args with
  | nil => intro k _; exact ⟨rfl, fun n h => by simp at h⟩
  | cons v r ih =>
    intro k h
    have hv : ∀ x, v ≠ .inr (.inl x) := fun x => znl_get (v :: r) h 0 x
    have hr : znl r = true := by
      cases v with
      | inl y => exact h
      | inr y =>
        cases y with
        | inl y => cases h
        | inr y => exact h
    have hc := znl_cat (adr := adr) hv
    obtain ⟨h1, h2⟩ := ih (k + 1) hr
    constructor
    · have e : lg_sl ((v :: r).map (zval adr)) = Slot.val (zval adr v) :: lg_sl (r.map (zval adr)) := by
        unfold lg_sl
        simp [hc]
      rw [e, List.length_cons, h1, List.length_cons]
    · intro n hn
      have e : lv_args k ((v :: r).map (zval adr)) = (k, zval adr v) :: lv_args (k + 1) (r.map (zval adr)) := by
        simp [lv_args, hc]
      rw [e]
      cases n with
      | zero => exact List.mem_cons_self
      | succ n =>
        have h3 := h2 n (by simpa using hn)
        rw [show k + (n + 1) = k + 1 + n by omega]
        exact List.mem_cons.mpr (Or.inr h3)
section ZRN
variable {l : Launch} {D : va_G} {g : zIds} {adr : Nat → Nat → Nat} {H0 : Heap}
theorem zrun_of {n : Nat} (hE : ∀ j, j < 245 → zGE l D g adr H0 j ((zex zP n).1 (zP j).1)) : zGR l D g adr H0 (fun j args σ => (zex zP n).1 (zP j).1 (0, zpad args (zP j).2, []) σ) := by
  intro j hj args σ o σ' h hva hnl hlen
  have hfok : zfok j (0, zpad args (zP j).2, []) := by
    refine ⟨?_, fun n => ?_, fun n x hx => ?_, fun v hv => by cases hv⟩
    · show (zpad args (zP j).2).length = _
      unfold zpad
      rw [List.length_append, List.length_replicate]
      omega
    · show zvok (zget (zpad args (zP j).2) n)
      rw [zget_pad]
      split
      · rename_i hn
        have : ∀ (l : List zAV) (n : Nat), n < l.length → zget l n ∈ l := by
          intro l
          induction l with
          | nil => intro n h; simp at h
          | cons v r ih =>
            intro n h
            cases n with
            | zero => exact List.mem_cons_self
            | succ n => exact List.mem_cons.mpr (Or.inr (ih n (by simpa using h)))
        exact hva _ (this args n hn)
      · exact Or.inl rfl
    · have hx : zget (zpad args (zP j).2) n = .inr (.inl x) := hx
      rw [zget_pad] at hx
      split at hx
      · exact absurd hx (znl_get args hnl n x)
      · cases hx
  obtain ⟨r1, r2, r3⟩ := hE j hj _ _ _ _ h hfok
  obtain ⟨hown6, hocl, hpl⟩ := zown_ok hj
  refine ⟨r1, r2, ?_⟩
  refine vx_ofW (cc := zcc j) (maxL := (zP j).2) (ret := zret j) hpl rfl ?_
  intro p e s m args' below meth c s₁ B hml hxt hv
  obtain ⟨rfl, hGd, hWd⟩ := hv
  have hts := atoms_spec (ws := zws j) B.pre
  have hown : s.vm.findClass (zcn (zown j)) = some m.cls := by rw [← hocl]; exact findClass_of_methodNamed B.named
  obtain ⟨hsl, hmem⟩ := znl_args (adr := adr) args 0 hnl
  have hl := lv_entry (args.map (zval adr)) (n := (zP j).2) (by rw [hsl]; exact hlen)
  rw [lg_entry_eq]
  generalize (lg_sl (args.map (zval adr)) ++ List.replicate ((zP j).2 - (lg_sl (args.map (zval adr))).length) Slot.unset).toArray = ls at hl ⊢
  have h9 := r3 p e s m (args.map (zval adr)).toArray below meth c s.heap [] ls σ.2.2 (Nat.le_refl _) ⟨B.exec, B.bytes, B.returns, hml, hown, fun w hw => hts w (List.mem_cons.mpr (Or.inr hw)), B.notSynchronized, hxt, hGd, hWd.2.1, hWd.2.2⟩ ⟨hl.1, hl.2.1, fun q hq => by
    obtain ⟨n, h1, h2, h3, h4⟩ := (zlvF_mem _ _ _).mp hq
    rw [zget_pad] at h3 h4
    split at h3
    · rename_i hn
      rw [if_pos hn] at h4
      have h5 := hmem n hn
      exact hl.2.2 q (by rw [show q = (0 + n, zval adr (zget args n)) from Prod.ext h2 h4]; exact h5)
    · exact absurd rfl h3⟩ hWd.1 va_S.rf
  rw [Nat.sub_self] at h9
  exact h9
/-- SOUND -/
theorem zsound (hAd : zAd adr H0) (hJv : zJv l D g adr H0) (hNw : zNw l D g adr H0) (n : Nat) : (∀ j, j < 245 → zGE l D g adr H0 j ((zex zP n).1 (zP j).1)) ∧ zGR l D g adr H0 ((zex zP n).2) := by
  induction n with
  | zero => exact ⟨fun j hj f σ o σ' h => (by cases h), fun j hj args σ o σ' h => (by cases h)⟩
  | succ n ih => exact ⟨fun j hj => zstep hAd hJv hNw hj (ih.1 j hj) ih.2, zrun_of ih.1⟩
/-- a method's contract out of its run -/
theorem zrun_met (hAd : zAd adr H0) (hJv : zJv l D g adr H0) (hNw : zNw l D g adr H0) {j : Nat} (hj : j < 245) {args : List zAV} {σ σ' : zSt} {o : zOut} (h : zrun zP j args σ = some (o, σ')) (hva : ∀ v ∈ args, zvok v) (hnl : znl args = true) (hlen : args.length ≤ (zP j).2) : zovok o ∧ σ.2.2 ≤ σ'.2.2 ∧ zMet l D g adr H0 (zy j) (zws j) (zrm j (σ'.2.2 - σ.2.2)) args σ o σ' := by
  obtain ⟨n, hn⟩ := zrun_iff.mp h
  exact (zsound hAd hJv hNw n).2 j hj args σ o σ' hn hva hnl hlen
end ZRN
