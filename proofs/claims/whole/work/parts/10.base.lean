/-- is a place among some -/
def zin : List Nat → Nat → Bool
  | [], _ => false
  | a :: r, b => bif Nat.beq a b then true else zin r b
def zget : List zAV → Nat → zAV
  | [], _ => zJunk
  | v :: _, 0 => v
  | _ :: r, n + 1 => zget r n
def zset : List zAV → Nat → zAV → List zAV
  | [], _, _ => []
  | _ :: r, 0, w => w :: r
  | v :: r, n + 1, w => v :: zset r n w
def zsetK (α : Type) : List zAV → Nat → zAV → (List zAV → α) → α
  | [], _, _, k => k []
  | _ :: r, 0, w, k => k (w :: r)
  | v :: r, n + 1, w, k => zsetK α r n w (fun r' => k (v :: r'))
def zpopn : Nat → List zAV → List zAV → Option (List zAV × List zAV)
  | 0, acc, st => some (acc, st)
  | n + 1, acc, v :: st => zpopn n (v :: acc) st
  | _ + 1, _, [] => none
/-- one slot of one cell -/
def zms (M : zMem) (k i s : Nat) (v : Int32) : zMem := fun k' i' s' => if k' = k ∧ i' = i ∧ s' = s then v else M k' i' s'
/-- a whole row -/
def zmr (M : zMem) (k i : Nat) (g : Nat → Int32) : zMem := fun k' i' s' => if k' = k ∧ i' = i then g s' else M k' i' s'
def zcI (r : zRes) (k : Int32 → zSt → zRes) : zRes := match r with
  | some (.inl (some (.inl x)), σ) => k x σ
  | some (.inr e, σ) => some (.inr e, σ)
  | _ => none
def zcV (r : zRes) (k : zSt → zRes) : zRes := match r with
  | some (.inl none, σ) => k σ
  | some (.inr e, σ) => some (.inr e, σ)
  | _ => none
def zcR (r : zRes) (k : Nat → Nat → zSt → zRes) : zRes := match r with
  | some (.inl (some (.inr (.inr (a, b)))), σ) => k a b σ
  | some (.inr e, σ) => some (.inr e, σ)
  | _ => none
def zsw (E : Nat → zRes) (x : Int32) (d : Nat) : Int32 → List Nat → zRes
  | _, [] => E d
  | lo, t :: r => if x = lo then E t else zsw E x d (lo + 1) r
def zcall (Rn : Nat → List zAV → zSt → zRes) (E : zAF → zSt → zRes) (pc : Nat) (ls : List zAV) (a rt : Nat) (args st : List zAV) (σ : zSt) : zRes := match rt with
  | 0 => zcV (Rn a args σ) (fun σ1 => E (pc, ls, st) σ1)
  | 1 => zcI (Rn a args σ) (fun x σ1 => E (pc, ls, zI x :: st) σ1)
  | _ => zcR (Rn a args σ) (fun k i σ1 => E (pc, ls, zR k i :: st) σ1)
/-- no long among them -/
def znl : List zAV → Bool
  | [] => true
  | .inr (.inl _) :: _ => false
  | _ :: r => znl r
def zstat (Rn : Nat → List zAV → zSt → zRes) (E : zAF → zSt → zRes) (pc : Nat) (ls : List zAV) (a b rt : Nat) (st : List zAV) (σ : zSt) : zRes := match zpopn b [] st with
  | some (args, st') => bif Nat.ble st'.length 4 && znl args then zcall Rn E pc ls a rt args st' σ else none
  | none => none
def zvirt (Rn : Nat → List zAV → zSt → zRes) (E : zAF → zSt → zRes) (pc : Nat) (ls : List zAV) (a b kd rt : Nat) (st : List zAV) (σ : zSt) : zRes := match zpopn (b + 1) [] st with
  | some (.inr (.inr (k, i)) :: args, st') => bif Nat.beq k kd && Nat.ble st'.length 4 && znl args then zcall Rn E pc ls a rt (.inr (.inr (k, i)) :: args) st' σ else none
  | _ => none
def zjdk (E : zAF → zSt → zRes) (pc : Nat) (ls : List zAV) (a : Nat) (st : List zAV) (σ : zSt) : zRes := match a, st with
  | 1000, .inl y :: .inl x :: st => E (pc, ls, zI (if x < y then y else x) :: st) σ
  | 1001, .inl y :: .inl x :: st => E (pc, ls, zI (if y < x then y else x) :: st) σ
  | 1002, .inl x :: st => E (pc, ls, zI (if 0 ≤ x then x else 0 - x) :: st) σ
  | 1003, .inl n :: .inl dp :: .inr (.inr (k2, i2)) :: .inl sp :: .inr (.inr (k1, i1)) :: st => if ¬ sp < 0 ∧ ¬ dp < 0 ∧ 0 < n ∧ sp.toNatClampNeg + n.toNatClampNeg ≤ zlenI k1 i1 ∧ dp.toNatClampNeg + n.toNatClampNeg ≤ zlenI k2 i2 then E (pc, ls, st) (zmr σ.1 k2 i2 (va_cpy (σ.1 k1 i1) (σ.1 k2 i2) sp.toNatClampNeg dp.toNatClampNeg n.toNatClampNeg), σ.2) else none
  | 1010, .inr (.inr (1, k)) :: st => E (pc, ls, zI (Int32.ofNat (zstr k).length) :: st) σ
  | 1011, .inl j :: .inr (.inr (1, k)) :: st => if j < 0 ∨ (zstr k).length ≤ j.toNatClampNeg then none else E (pc, ls, zI ((zstr k).getD j.toNatClampNeg 0) :: st) σ
  | _, _ => none
/-- ONE INSTRUCTION, with the rest of the run (E) and the runs of other methods (Rn) left open -/
def zbody (C : zCode) (E : zAF → zSt → zRes) (Rn : Nat → List zAV → zSt → zRes) (f : zAF) (σ : zSt) : zRes :=
  match C f.1 with
  | none => none
  | some (ins, nx, a, b, c, ts) =>
    match ins, f.2.2 with
    | .iconst _, st => E (nx, f.2.1, zI c :: st) σ
    | .bipush _, st => E (nx, f.2.1, zI c :: st) σ
    | .sipush _, st => E (nx, f.2.1, zI c :: st) σ
    | .ldc _, st => (match a with
      | 0 => E (nx, f.2.1, zI c :: st) σ
      | _ => E (nx, f.2.1, zR 1 b :: st) σ)
    | .ldc_w _, st => E (nx, f.2.1, zI c :: st) σ
    | .ldc2_w _, st => E (nx, f.2.1, zL (lN a) :: st) σ
    | .lconst _, st => E (nx, f.2.1, zL (lN a) :: st) σ
    | .aconst_null, st => E (nx, f.2.1, zNull :: st) σ
    | .iload _, st => (match zget f.2.1 a with
      | .inl x => E (nx, f.2.1, .inl x :: st) σ
      | _ => none)
    | .iload_n _, st => (match zget f.2.1 a with
      | .inl x => E (nx, f.2.1, .inl x :: st) σ
      | _ => none)
    | .lload_n _, st => (match zget f.2.1 a with
      | .inr (.inl x) => E (nx, f.2.1, .inr (.inl x) :: st) σ
      | _ => none)
    | .aload _, st => (match zget f.2.1 a with
      | .inr (.inr (k + 1, i)) => E (nx, f.2.1, .inr (.inr (k + 1, i)) :: st) σ
      | .inr (.inr (0, 0)) => E (nx, f.2.1, .inr (.inr (0, 0)) :: st) σ
      | _ => none)
    | .aload_n _, st => (match zget f.2.1 a with
      | .inr (.inr (k + 1, i)) => E (nx, f.2.1, .inr (.inr (k + 1, i)) :: st) σ
      | .inr (.inr (0, 0)) => E (nx, f.2.1, .inr (.inr (0, 0)) :: st) σ
      | _ => none)
    | .istore _, .inl x :: st => zsetK _ f.2.1 a (.inl x) (fun ls => E (nx, ls, st) σ)
    | .istore_n _, .inl x :: st => zsetK _ f.2.1 a (.inl x) (fun ls => E (nx, ls, st) σ)
    | .lstore_n _, .inr (.inl x) :: st => zsetK _ f.2.1 (a + 1) zJunk (fun ls => zsetK _ ls a (.inr (.inl x)) (fun ls => E (nx, ls, st) σ))
    | .astore _, .inr (.inr r) :: st => zsetK _ f.2.1 a (.inr (.inr r)) (fun ls => E (nx, ls, st) σ)
    | .astore_n _, .inr (.inr r) :: st => zsetK _ f.2.1 a (.inr (.inr r)) (fun ls => E (nx, ls, st) σ)
    | .iinc _ _, st => (match zget f.2.1 a with
      | .inl x => zsetK _ f.2.1 a (.inl (x + c)) (fun ls => E (nx, ls, st) σ)
      | _ => none)
    | .iadd, .inl y :: .inl x :: st => E (nx, f.2.1, zI (x + y) :: st) σ
    | .isub, .inl y :: .inl x :: st => E (nx, f.2.1, zI (x - y) :: st) σ
    | .imul, .inl y :: .inl x :: st => E (nx, f.2.1, zI (x * y) :: st) σ
    | .idiv, .inl y :: .inl x :: st => if y = 0 then none else E (nx, f.2.1, zI (x / y) :: st) σ
    | .irem, .inl y :: .inl x :: st => if y = 0 then none else E (nx, f.2.1, zI (x - x / y * y) :: st) σ
    | .iand, .inl y :: .inl x :: st => E (nx, f.2.1, zI (x &&& y) :: st) σ
    | .ior, .inl y :: .inl x :: st => E (nx, f.2.1, zI (x ||| y) :: st) σ
    | .ishl, .inl y :: .inl x :: st => E (nx, f.2.1, zI (x <<< (y &&& 31)) :: st) σ
    | .ishr, .inl y :: .inl x :: st => E (nx, f.2.1, zI (x >>> (y &&& 31)) :: st) σ
    | .ladd, .inr (.inl y) :: .inr (.inl x) :: st => E (nx, f.2.1, zL (x + y) :: st) σ
    | .lmul, .inr (.inl y) :: .inr (.inl x) :: st => E (nx, f.2.1, zL (x * y) :: st) σ
    | .lcmp, .inr (.inl y) :: .inr (.inl x) :: st => E (nx, f.2.1, zI (lg_cmp x y) :: st) σ
    | .i2l, .inl x :: st => E (nx, f.2.1, zL x.toInt64 :: st) σ
    | .i2b, .inl x :: st => E (nx, f.2.1, zI x.toInt8.toInt32 :: st) σ
    | .dup, .inl x :: st => E (nx, f.2.1, .inl x :: .inl x :: st) σ
    | .dup, .inr (.inr r) :: st => E (nx, f.2.1, .inr (.inr r) :: .inr (.inr r) :: st) σ
    | .dup2, .inl y :: .inr (.inr r) :: st => E (nx, f.2.1, .inl y :: .inr (.inr r) :: .inl y :: .inr (.inr r) :: st) σ
    | .pop, .inl _ :: st => E (nx, f.2.1, st) σ
    | .goto _, st => E (a, f.2.1, st) σ
    | .if_icmp .eq _, .inl y :: .inl x :: st => if x = y then E (a, f.2.1, st) σ else E (nx, f.2.1, st) σ
    | .if_icmp .ne _, .inl y :: .inl x :: st => if x = y then E (nx, f.2.1, st) σ else E (a, f.2.1, st) σ
    | .if_icmp .lt _, .inl y :: .inl x :: st => if x < y then E (a, f.2.1, st) σ else E (nx, f.2.1, st) σ
    | .if_icmp .ge _, .inl y :: .inl x :: st => if x < y then E (nx, f.2.1, st) σ else E (a, f.2.1, st) σ
    | .if_icmp .gt _, .inl y :: .inl x :: st => if y < x then E (a, f.2.1, st) σ else E (nx, f.2.1, st) σ
    | .if_icmp .le _, .inl y :: .inl x :: st => if y < x then E (nx, f.2.1, st) σ else E (a, f.2.1, st) σ
    | .ifCond .eq _, .inl x :: st => if x = 0 then E (a, f.2.1, st) σ else E (nx, f.2.1, st) σ
    | .ifCond .ne _, .inl x :: st => if x = 0 then E (nx, f.2.1, st) σ else E (a, f.2.1, st) σ
    | .ifCond .lt _, .inl x :: st => if x < 0 then E (a, f.2.1, st) σ else E (nx, f.2.1, st) σ
    | .ifCond .ge _, .inl x :: st => if x < 0 then E (nx, f.2.1, st) σ else E (a, f.2.1, st) σ
    | .ifCond .gt _, .inl x :: st => if 0 < x then E (a, f.2.1, st) σ else E (nx, f.2.1, st) σ
    | .ifCond .le _, .inl x :: st => if 0 < x then E (nx, f.2.1, st) σ else E (a, f.2.1, st) σ
    | .ifnonnull _, .inr (.inr (0, 0)) :: st => E (nx, f.2.1, st) σ
    | .ifnonnull _, .inr (.inr (_ + 1, _)) :: st => E (a, f.2.1, st) σ
    | .tableswitch _ _ _ _, .inl x :: st => zsw (fun t => E (t, f.2.1, st) σ) x a c ts
    | .getfield _, .inr (.inr (k, i)) :: st => bif Nat.beq k (10 + a) then (match zrf a b i with
      | some (k2, i2) => E (nx, f.2.1, zR k2 i2 :: st) σ
      | none => E (nx, f.2.1, zI (σ.1 k i b) :: st) σ) else none
    | .putfield _, .inl v :: .inr (.inr (k, i)) :: st => bif Nat.beq k (10 + a) then (match zrf a b i with
      | some _ => none
      | none => bif zbl a b then (if v = 1 then E (nx, f.2.1, st) (zms σ.1 k i b v, σ.2) else none) else E (nx, f.2.1, st) (zms σ.1 k i b v, σ.2)) else none
    | .iaload, .inl j :: .inr (.inr (k, i)) :: st => if j < 0 ∨ zlenI k i ≤ j.toNatClampNeg then none else E (nx, f.2.1, zI (σ.1 k i j.toNatClampNeg) :: st) σ
    | .baload, .inl j :: .inr (.inr (k, i)) :: st => if j < 0 ∨ zlenB k ≤ j.toNatClampNeg then none else E (nx, f.2.1, zI (σ.1 k i j.toNatClampNeg) :: st) σ
    | .iastore, .inl v :: .inl j :: .inr (.inr (k, i)) :: st => if j < 0 ∨ zlenI k i ≤ j.toNatClampNeg then none else E (nx, f.2.1, st) (zms σ.1 k i j.toNatClampNeg v, σ.2)
    | .bastore, .inl v :: .inl j :: .inr (.inr (k, i)) :: st => if j < 0 ∨ zlenB k ≤ j.toNatClampNeg then none else E (nx, f.2.1, st) (zms σ.1 k i j.toNatClampNeg v.toInt8.toInt32, σ.2)
    | .aaload, .inl j :: .inr (.inr (k, i)) :: st => (match zrows k i j.toNatClampNeg with
      | some (n, k2, i2) => if j < 0 ∨ n ≤ j.toNatClampNeg then none else E (nx, f.2.1, zR k2 i2 :: st) σ
      | none => none)
    | .arraylength, .inr (.inr (k, i)) :: st => if zlenI k i = 0 then none else E (nx, f.2.1, zI (Int32.ofNat (zlenI k i)) :: st) σ
    | .ireturn, [.inl x] => (match a with
      | 0 => some (.inl (some (.inl x)), σ)
      | _ => if x = 0 ∨ x = 1 then some (.inl (some (.inl x)), σ) else none)
    | .lreturn, [.inr (.inl x)] => some (.inl (some (.inr (.inl x))), σ)
    | .areturn, [.inr (.inr (k + 1, i))] => some (.inl (some (.inr (.inr (k + 1, i)))), σ)
    | .areturn, [.inr (.inr (0, 0))] => some (.inl (some (.inr (.inr (0, 0)))), σ)
    | .return_, [] => some (.inl none, σ)
    | .new _, [] => some (.inr a, (σ.1, σ.2.1, σ.2.2 + 1))
    | .invokestatic _, st => bif Nat.ble 1000 a then (bif Nat.ble st.length 9 then zjdk E nx f.2.1 a st σ else none) else zstat Rn E nx f.2.1 a b (ts.headD 0) st σ
    | .invokevirtual _, st => bif Nat.ble 1000 a then (bif Nat.ble st.length 5 then zjdk E nx f.2.1 a st σ else none) else zvirt Rn E nx f.2.1 a b (ts.getD 1 0) (ts.headD 0) st σ
    | _, _ => none
def zpad (l : List zAV) (n : Nat) : List zAV := l ++ List.replicate (n - l.length) zJunk
/-- runs with a bound on the steps: of a stretch of code, of a method -/
def zex (P : Nat → zCode × Nat) : Nat → (zCode → zAF → zSt → zRes) × (Nat → List zAV → zSt → zRes)
  | 0 => (fun _ _ _ => none, fun _ _ _ => none)
  | n + 1 => (fun C f σ => zbody C ((zex P n).1 C) ((zex P n).2) f σ, fun j args σ => (zex P n).1 (P j).1 (0, zpad args (P j).2, []) σ)
