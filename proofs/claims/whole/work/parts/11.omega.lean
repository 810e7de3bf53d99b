theorem zsetK_eq {α : Type} : ∀ (l : List zAV) (n : Nat) (w : zAV) (k : List zAV → α), zsetK α l n w k = k (zset l n w) := by
  intro l
  induction l with
  | nil => intro n w k; rfl
  | cons v r ih =>
    intro n w k
    cases n with
    | zero => rfl
    | succ n => exact ih n w (fun r' => k (v :: r'))
/-! the runs' limit: what a run comes to with steps enough -/
theorem zcI_cont {r : zRes} {rs : Nat → zRes} {k : Int32 → zSt → zRes} {ks : Nat → Int32 → zSt → zRes} (hr : ∀ o, r = some o → ∃ n, ∀ m, n ≤ m → rs m = some o) (hk : ∀ x σ o, k x σ = some o → ∃ n, ∀ m, n ≤ m → ks m x σ = some o) (o : zOut × zSt) (h : zcI r k = some o) : ∃ n, ∀ m, n ≤ m → zcI (rs m) (ks m) = some o := by
  unfold zcI at h
  split at h
  · obtain ⟨n1, h1⟩ := hr _ rfl
    obtain ⟨n2, h2⟩ := hk _ _ _ h
    exact ⟨max n1 n2, fun m hm => by rw [h1 m (by omega)]; exact h2 m (by omega)⟩
  · obtain ⟨n1, h1⟩ := hr _ rfl
    exact ⟨n1, fun m hm => by rw [h1 m hm]; exact h⟩
  · cases h
theorem zcV_cont {r : zRes} {rs : Nat → zRes} {k : zSt → zRes} {ks : Nat → zSt → zRes} (hr : ∀ o, r = some o → ∃ n, ∀ m, n ≤ m → rs m = some o) (hk : ∀ σ o, k σ = some o → ∃ n, ∀ m, n ≤ m → ks m σ = some o) (o : zOut × zSt) (h : zcV r k = some o) : ∃ n, ∀ m, n ≤ m → zcV (rs m) (ks m) = some o := by
  unfold zcV at h
  split at h
  · obtain ⟨n1, h1⟩ := hr _ rfl
    obtain ⟨n2, h2⟩ := hk _ _ h
    exact ⟨max n1 n2, fun m hm => by rw [h1 m (by omega)]; exact h2 m (by omega)⟩
  · obtain ⟨n1, h1⟩ := hr _ rfl
    exact ⟨n1, fun m hm => by rw [h1 m hm]; exact h⟩
  · cases h
theorem zcR_cont {r : zRes} {rs : Nat → zRes} {k : Nat → Nat → zSt → zRes} {ks : Nat → Nat → Nat → zSt → zRes} (hr : ∀ o, r = some o → ∃ n, ∀ m, n ≤ m → rs m = some o) (hk : ∀ x y σ o, k x y σ = some o → ∃ n, ∀ m, n ≤ m → ks m x y σ = some o) (o : zOut × zSt) (h : zcR r k = some o) : ∃ n, ∀ m, n ≤ m → zcR (rs m) (ks m) = some o := by
  unfold zcR at h
  split at h
  · obtain ⟨n1, h1⟩ := hr _ rfl
    obtain ⟨n2, h2⟩ := hk _ _ _ _ h
    exact ⟨max n1 n2, fun m hm => by rw [h1 m (by omega)]; exact h2 m (by omega)⟩
  · obtain ⟨n1, h1⟩ := hr _ rfl
    exact ⟨n1, fun m hm => by rw [h1 m hm]; exact h⟩
  · cases h
theorem zsw_cont {E : Nat → zRes} {Es : Nat → Nat → zRes} (hE : ∀ t o, E t = some o → ∃ n, ∀ m, n ≤ m → Es m t = some o) (x : Int32) (d : Nat) (o : zOut × zSt) : ∀ (ts : List Nat) (lo : Int32), zsw E x d lo ts = some o → ∃ n, ∀ m, n ≤ m → zsw (Es m) x d lo ts = some o := by
  intro ts
  induction ts with
  | nil => intro lo h; exact hE _ _ h
  | cons t r ih =>
    intro lo h
    unfold zsw at h
    by_cases hx : x = lo
    · rw [if_pos hx] at h
      obtain ⟨n, hn⟩ := hE _ _ h
      exact ⟨n, fun m hm => by unfold zsw; rw [if_pos hx]; exact hn m hm⟩
    · rw [if_neg hx] at h
      obtain ⟨n, hn⟩ := ih _ h
      exact ⟨n, fun m hm => by unfold zsw; rw [if_neg hx]; exact hn m hm⟩
section ZC
variable {C : zCode} {E : zAF → zSt → zRes} {Es : Nat → zAF → zSt → zRes} {Rn : Nat → List zAV → zSt → zRes} {Rs : Nat → Nat → List zAV → zSt → zRes}
theorem zcall_cont (hE : ∀ f σ o, E f σ = some o → ∃ n, ∀ m, n ≤ m → Es m f σ = some o) (hR : ∀ j a σ o, Rn j a σ = some o → ∃ n, ∀ m, n ≤ m → Rs m j a σ = some o) {pc : Nat} {ls : List zAV} {a rt : Nat} {args st : List zAV} {σ : zSt} (o : zOut × zSt) (h : zcall Rn E pc ls a rt args st σ = some o) : ∃ n, ∀ m, n ≤ m → zcall (Rs m) (Es m) pc ls a rt args st σ = some o := by
  unfold zcall at h ⊢
  split at h
  · exact zcV_cont (rs := fun m => Rs m a args σ) (ks := fun m σ1 => Es m (pc, ls, st) σ1) (hR a args σ) (fun σ1 o h => hE _ _ _ h) o h
  · exact zcI_cont (rs := fun m => Rs m a args σ) (ks := fun m x σ1 => Es m (pc, ls, zI x :: st) σ1) (hR a args σ) (fun x σ1 o h => hE _ _ _ h) o h
  · exact zcR_cont (rs := fun m => Rs m a args σ) (ks := fun m k i σ1 => Es m (pc, ls, zR k i :: st) σ1) (hR a args σ) (fun k i σ1 o h => hE _ _ _ h) o h
theorem zstat_cont (hE : ∀ f σ o, E f σ = some o → ∃ n, ∀ m, n ≤ m → Es m f σ = some o) (hR : ∀ j a σ o, Rn j a σ = some o → ∃ n, ∀ m, n ≤ m → Rs m j a σ = some o) {pc : Nat} {ls : List zAV} {a b rt : Nat} {st : List zAV} {σ : zSt} (o : zOut × zSt) (h : zstat Rn E pc ls a b rt st σ = some o) : ∃ n, ∀ m, n ≤ m → zstat (Rs m) (Es m) pc ls a b rt st σ = some o := by
  unfold zstat at h ⊢
  split at h
  · rename_i args st' heq
    generalize (Nat.ble st'.length 4 && znl args) = g at h ⊢
    cases g
    · cases h
    · exact zcall_cont hE hR o h
  · cases h
theorem zvirt_cont (hE : ∀ f σ o, E f σ = some o → ∃ n, ∀ m, n ≤ m → Es m f σ = some o) (hR : ∀ j a σ o, Rn j a σ = some o → ∃ n, ∀ m, n ≤ m → Rs m j a σ = some o) {pc : Nat} {ls : List zAV} {a b kd rt : Nat} {st : List zAV} {σ : zSt} (o : zOut × zSt) (h : zvirt Rn E pc ls a b kd rt st σ = some o) : ∃ n, ∀ m, n ≤ m → zvirt (Rs m) (Es m) pc ls a b kd rt st σ = some o := by
  unfold zvirt at h ⊢
  split at h
  · rename_i k i args st' heq
    generalize (Nat.beq k kd && Nat.ble st'.length 4 && znl args) = g at h ⊢
    cases g
    · cases h
    · exact zcall_cont hE hR o h
  · cases h
theorem zjdk_cont (hE : ∀ f σ o, E f σ = some o → ∃ n, ∀ m, n ≤ m → Es m f σ = some o) {pc : Nat} {ls : List zAV} {a : Nat} {st : List zAV} {σ : zSt} (o : zOut × zSt) (h : zjdk E pc ls a st σ = some o) : ∃ n, ∀ m, n ≤ m → zjdk (Es m) pc ls a st σ = some o := by
  unfold zjdk at h ⊢
  split at h
  all_goals try (exact hE _ _ _ h)
  all_goals try (cases h; done)
  all_goals
    split at h
    all_goals try (cases h; done)
    rename_i hq
    obtain ⟨n, hn⟩ := hE _ _ _ h
    refine ⟨n, fun m hm => ?_⟩
    first
    | (rw [if_pos hq]; exact hn m hm)
    | (rw [if_neg hq]; exact hn m hm)
theorem zbody_cont (hE : ∀ f σ o, E f σ = some o → ∃ n, ∀ m, n ≤ m → Es m f σ = some o) (hR : ∀ j a σ o, Rn j a σ = some o → ∃ n, ∀ m, n ≤ m → Rs m j a σ = some o) (f : zAF) (σ : zSt) (o : zOut × zSt) (h : zbody C E Rn f σ = some o) : ∃ n, ∀ m, n ≤ m → zbody C (Es m) (Rs m) f σ = some o := by
  obtain ⟨pc, ls, st⟩ := f
  unfold zbody at h ⊢
  simp only at h ⊢
  simp only [zsetK_eq] at h ⊢
  generalize C pc = q at h ⊢
  rcases q with _ | ⟨ins, nx, a, b, c, ts⟩
  · cases h
  · simp only at h ⊢
    split at h
    all_goals try (exact hE _ _ _ h)
    all_goals try (exact ⟨0, fun _ _ => h⟩)
    all_goals try (exact zsw_cont (fun t o h => hE _ _ _ h) _ _ o _ _ h)
    all_goals try (cases h; done)
    all_goals try (
      split at h
      all_goals try (cases h; done)
      all_goals rename_i hq
      all_goals
        obtain ⟨n, hn⟩ := hE _ _ _ h
        refine ⟨n, fun m hm => ?_⟩
        first
        | (rw [if_pos hq]; exact hn m hm)
        | (rw [if_neg hq]; exact hn m hm)
        | (simp only [hq]; exact hn m hm)
      done)
    all_goals try (generalize zget ls a = g at h ⊢; split at h <;> first | exact hE _ _ _ h | (cases h; done))
    all_goals try (rcases a with _ | a <;> exact hE _ _ _ h)
    all_goals try (
      generalize Nat.ble 1000 a = g at h ⊢
      cases g
      · first | exact zstat_cont hE hR o h | exact zvirt_cont hE hR o h
      · generalize Nat.ble st.length 9 = g at h ⊢
        cases g
        · cases h
        · exact zjdk_cont hE o h)
    all_goals try (
      generalize Nat.ble 1000 a = g at h ⊢
      cases g
      · first | exact zstat_cont hE hR o h | exact zvirt_cont hE hR o h
      · generalize Nat.ble st.length 5 = g at h ⊢
        cases g
        · cases h
        · exact zjdk_cont hE o h)
    all_goals try (
      rename_i k i _
      generalize Nat.beq k (10 + a) = g at h ⊢
      generalize zrf a b i = r at h ⊢
      cases g
      · cases h
      · cases r with
        | some r => first | exact hE _ _ _ h | (cases h; done)
        | none =>
          first
          | exact hE _ _ _ h
          | (simp only at h ⊢
             generalize zbl a b = g2 at h ⊢
             cases g2
             · exact hE _ _ _ h
             · simp only [cond_true] at h ⊢
               split at h
               · rename_i hq
                 obtain ⟨n, hn⟩ := hE _ _ _ h
                 exact ⟨n, fun m hm => by rw [if_pos hq]; exact hn m hm⟩
               · cases h))
    all_goals try (
      rename_i j k i _
      generalize zrows k i j.toNatClampNeg = r at h ⊢
      rcases r with _ | ⟨n, k2, i2⟩
      · cases h
      · simp only at h ⊢
        split at h
        · cases h
        · rename_i hq
          obtain ⟨n, hn⟩ := hE _ _ _ h
          exact ⟨n, fun m hm => by rw [if_neg hq]; exact hn m hm⟩)
    all_goals done
theorem zbody_mono {E' : zAF → zSt → zRes} {Rn' : Nat → List zAV → zSt → zRes} (hE : ∀ f σ o, E f σ = some o → E' f σ = some o) (hR : ∀ j a σ o, Rn j a σ = some o → Rn' j a σ = some o) (f : zAF) (σ : zSt) (o : zOut × zSt) (h : zbody C E Rn f σ = some o) : zbody C E' Rn' f σ = some o := by
  obtain ⟨n, hn⟩ := zbody_cont (Es := fun _ => E') (Rs := fun _ => Rn') (fun f σ o h => ⟨0, fun _ _ => hE f σ o h⟩) (fun j a σ o h => ⟨0, fun _ _ => hR j a σ o h⟩) f σ o h
  exact hn n (Nat.le_refl n)
end ZC
section ZW
variable {P : Nat → zCode × Nat}
theorem zex_mono1 (n : Nat) : (∀ C f σ o, (zex P n).1 C f σ = some o → (zex P (n + 1)).1 C f σ = some o) ∧ ∀ j a σ o, (zex P n).2 j a σ = some o → (zex P (n + 1)).2 j a σ = some o := by
  induction n with
  | zero => exact ⟨fun C f σ o h => (by cases h), fun j a σ o h => (by cases h)⟩
  | succ n ih =>
    exact ⟨fun C f σ o h => zbody_mono (fun f σ o h => ih.1 C f σ o h) ih.2 f σ o h, fun j a σ o h => ih.1 _ _ _ _ h⟩
theorem zex_mono {n m : Nat} (hm : n ≤ m) : (∀ C f σ o, (zex P n).1 C f σ = some o → (zex P m).1 C f σ = some o) ∧ ∀ j a σ o, (zex P n).2 j a σ = some o → (zex P m).2 j a σ = some o := by
  induction hm with
  | refl => exact ⟨fun _ _ _ _ h => h, fun _ _ _ _ h => h⟩
  | step _ ih => exact ⟨fun C f σ o h => (zex_mono1 _).1 C f σ o (ih.1 C f σ o h), fun j a σ o h => (zex_mono1 _).2 j a σ o (ih.2 j a σ o h)⟩
noncomputable def zlim (g : Nat → zRes) : zRes := @dite _ (∃ n, (g n).isSome = true) (Classical.propDecidable _) (fun h => g (Classical.choose h)) (fun _ => none)
theorem zlim_iff {g : Nat → zRes} (hm : ∀ n m o, n ≤ m → g n = some o → g m = some o) (o : zOut × zSt) : zlim g = some o ↔ ∃ n, g n = some o := by
  unfold zlim
  constructor
  · intro h
    split at h
    · exact ⟨_, h⟩
    · cases h
  · rintro ⟨n, hn⟩
    have hex : ∃ n, (g n).isSome = true := ⟨n, by rw [hn]; rfl⟩
    rw [dif_pos hex]
    have h1 := Classical.choose_spec hex
    obtain ⟨o', ho'⟩ := Option.isSome_iff_exists.mp h1
    rw [ho']
    have h2 := hm _ (max n (Classical.choose hex)) o (by omega) hn
    have h3 := hm _ (max n (Classical.choose hex)) o' (by omega) ho'
    exact h3.symm.trans h2
/-- a stretch of code, with steps enough -/
noncomputable def zX (P : Nat → zCode × Nat) (C : zCode) (f : zAF) (σ : zSt) : zRes := zlim (fun n => (zex P n).1 C f σ)
/-- a method, with steps enough -/
noncomputable def zrun (P : Nat → zCode × Nat) (j : Nat) (a : List zAV) (σ : zSt) : zRes := zlim (fun n => (zex P n).2 j a σ)
theorem zX_iff {C : zCode} {f : zAF} {σ : zSt} {o : zOut × zSt} : zX P C f σ = some o ↔ ∃ n, (zex P n).1 C f σ = some o := zlim_iff (fun n m o hm h => (zex_mono hm).1 C f σ o h) o
theorem zrun_iff {j : Nat} {a : List zAV} {σ : zSt} {o : zOut × zSt} : zrun P j a σ = some o ↔ ∃ n, (zex P n).2 j a σ = some o := zlim_iff (fun n m o hm h => (zex_mono hm).2 j a σ o h) o
theorem zopt_ext {a b : zRes} (h : ∀ o, a = some o ↔ b = some o) : a = b := by
  cases a with
  | none =>
    cases b with
    | none => rfl
    | some y => exact ((h y).mpr rfl)
  | some x => exact ((h x).mp rfl).symm
/-- ONE STEP -/
theorem zX_eq (C : zCode) (f : zAF) (σ : zSt) : zX P C f σ = zbody C (zX P C) (zrun P) f σ := by
  refine zopt_ext fun o => ?_
  rw [zX_iff]
  constructor
  · rintro ⟨n, h⟩
    cases n with
    | zero => cases h
    | succ n => exact zbody_mono (fun f σ o h => zX_iff.mpr ⟨n, h⟩) (fun j a σ o h => zrun_iff.mpr ⟨n, h⟩) f σ o h
  · intro h
    obtain ⟨n, hn⟩ := zbody_cont (Es := fun n => (zex P n).1 C) (Rs := fun n => (zex P n).2) (fun f σ o h => by
      obtain ⟨n, hn⟩ := zX_iff.mp h
      exact ⟨n, fun m hm => (zex_mono hm).1 C f σ o hn⟩) (fun j a σ o h => by
      obtain ⟨n, hn⟩ := zrun_iff.mp h
      exact ⟨n, fun m hm => (zex_mono hm).2 j a σ o hn⟩) f σ o h
    exact ⟨n + 1, hn n (Nat.le_refl n)⟩
theorem zrun_eq (j : Nat) (a : List zAV) (σ : zSt) : zrun P j a σ = zX P (P j).1 (0, zpad a (P j).2, []) σ := by
  refine zopt_ext fun o => ?_
  rw [zrun_iff, zX_iff]
  constructor
  · rintro ⟨n, h⟩
    cases n with
    | zero => cases h
    | succ n => exact ⟨n, h⟩
  · rintro ⟨n, h⟩
    exact ⟨n + 1, h⟩
/-- MANY STEPS, up to the places told in 'lb' -/
noncomputable def zun (P : Nat → zCode × Nat) (C : zCode) (lb : List Nat) : Nat → zAF → zSt → zRes
  | 0, f, σ => zX P C f σ
  | n + 1, f, σ => zbody C (fun f σ => bif zin lb f.1 then zX P C f σ else zun P C lb n f σ) (zrun P) f σ
theorem zun_eq (C : zCode) (lb : List Nat) (n : Nat) : ∀ f σ, zX P C f σ = zun P C lb n f σ := by
  induction n with
  | zero => intro f σ; rfl
  | succ n ih =>
    intro f σ
    rw [zX_eq]
    show zbody C (zX P C) (zrun P) f σ = zbody C (fun f σ => bif zin lb f.1 then zX P C f σ else zun P C lb n f σ) (zrun P) f σ
    congr 1
    funext f σ
    cases zin lb f.1 with
    | true => rfl
    | false => exact ih f σ
end ZW
