set_option maxRecDepth 100000 in
theorem e_X6_thrown (i0 : Nat) (σ : zSt) : zrun zP 135 [zR 16 i0] σ = (
  some (.inl (some (zI (σ.1 16 i0 0))), σ)) := (zrun_eq _ _ _).trans ((zun_eq zK_X6_thrown [] 4 _ _).trans rfl)
set_option maxRecDepth 100000 in
theorem e_X6_isFine (i0 : Nat) (x1 : Int32) (x2 : Int32) (x3 : Int32) (σ : zSt) : zrun zP 136 [zR 16 i0, zI x1, zI x2, zI x3] σ = (
  if x1 = 0 then
  (if (σ.1 16 i0 0) = 0 then
    (if x3 < 0 ∨ 3 ≤ Int32.toNatClampNeg x3 then
      (none)
      else
      (if x3 < 0 ∨ 3 ≤ Int32.toNatClampNeg x3 then
        (none)
        else
        (if ((zms σ.1 16 i0 0 x2) 16 i0 0) = 0 then
          (some (.inl (some (zI 1)), (zms (zms σ.1 16 i0 0 x2) 30 0 (Int32.toNatClampNeg x3) ((σ.1 30 0 (Int32.toNatClampNeg x3)) + 1), σ.2)))
          else
          (some (.inl (some (zI 0)), (zms (zms σ.1 16 i0 0 x2) 30 0 (Int32.toNatClampNeg x3) ((σ.1 30 0 (Int32.toNatClampNeg x3)) + 1), σ.2))))))
    else
    (if (σ.1 16 i0 0) = 0 then
      (some (.inl (some (zI 1)), σ))
      else
      (some (.inl (some (zI 0)), σ))))
  else
  (if (σ.1 16 i0 0) = 0 then
    (some (.inl (some (zI 1)), σ))
    else
    (some (.inl (some (zI 0)), σ)))) := (zrun_eq _ _ _).trans ((zun_eq zK_X6_isFine [] 23 _ _).trans rfl)
set_option maxRecDepth 100000 in
theorem e_X6_isIn (x0 : Int32) (x1 : Int32) (x2 : Int32) (σ : zSt) : zrun zP 137 [zI x0, zI x1, zI x2] σ = (
  if x0 < x1 then
  (some (.inl (some (zI 0)), σ))
  else
  (if x2 < x0 then
    (some (.inl (some (zI 0)), σ))
    else
    (some (.inl (some (zI 1)), σ)))) := (zrun_eq _ _ _).trans ((zun_eq zK_X6_isIn [] 10 _ _).trans rfl)
set_option maxRecDepth 100000 in
theorem e_X6_tiers (i0 : Nat) (σ : zSt) : zrun zP 138 [zR 16 i0] σ = (
  if (0 : Int32) < 0 ∨ 745 ≤ Int32.toNatClampNeg 0 then
  (none)
  else
  (some (.inl (some (zI (σ.1 31 0 (Int32.toNatClampNeg 0)))), σ))) := (zrun_eq _ _ _).trans ((zun_eq zK_X6_tiers [] 6 _ _).trans rfl)
set_option maxRecDepth 100000 in
theorem e_X6_pos (x0 : Int32) (x1 : Int32) (σ : zSt) : zrun zP 139 [zI x0, zI x1] σ = (
  some (.inl (some (zI ((1 + (124 * x0)) + x1))), σ)) := (zrun_eq _ _ _).trans ((zun_eq zK_X6_pos [] 9 _ _).trans rfl)
set_option maxRecDepth 100000 in
theorem e_X6_kind (i0 : Nat) (x1 : Int32) (σ : zSt) : zrun zP 140 [zR 16 i0, zI x1] σ = (
  zcI (zrun zP 139 [zI x1, zI 0] σ) (fun r1 s1 =>
  if r1 < 0 ∨ 745 ≤ Int32.toNatClampNeg r1 then
    (none)
    else
    (some (.inl (some (zI (s1.1 31 0 (Int32.toNatClampNeg r1)))), s1)))) := (zrun_eq _ _ _).trans ((zun_eq zK_X6_kind [] 8 _ _).trans rfl)
set_option maxRecDepth 100000 in
theorem e_X6_parent (i0 : Nat) (x1 : Int32) (σ : zSt) : zrun zP 141 [zR 16 i0, zI x1] σ = (
  zcI (zrun zP 139 [zI x1, zI 1] σ) (fun r1 s1 =>
  if r1 < 0 ∨ 745 ≤ Int32.toNatClampNeg r1 then
    (none)
    else
    (some (.inl (some (zI (s1.1 31 0 (Int32.toNatClampNeg r1)))), s1)))) := (zrun_eq _ _ _).trans ((zun_eq zK_X6_parent [] 8 _ _).trans rfl)
set_option maxRecDepth 100000 in
theorem e_X6_many (i0 : Nat) (x1 : Int32) (σ : zSt) : zrun zP 142 [zR 16 i0, zI x1] σ = (
  zcI (zrun zP 139 [zI x1, zI 2] σ) (fun r1 s1 =>
  if r1 < 0 ∨ 745 ≤ Int32.toNatClampNeg r1 then
    (none)
    else
    (some (.inl (some (zI (s1.1 31 0 (Int32.toNatClampNeg r1)))), s1)))) := (zrun_eq _ _ _).trans ((zun_eq zK_X6_many [] 8 _ _).trans rfl)
set_option maxRecDepth 100000 in
theorem e_X6_cell (x0 : Int32) (x1 : Int32) (x2 : Int32) (σ : zSt) : zrun zP 143 [zI x0, zI x1, zI x2] σ = (
  some (.inl (some (zI ((((1 + (124 * x0)) + 4) + (3 * x1)) + x2))), σ)) := (zrun_eq _ _ _).trans ((zun_eq zK_X6_cell [] 15 _ _).trans rfl)
set_option maxRecDepth 100000 in
theorem e_X6_from (i0 : Nat) (x1 : Int32) (x2 : Int32) (σ : zSt) : zrun zP 144 [zR 16 i0, zI x1, zI x2] σ = (
  zcI (zrun zP 143 [zI x1, zI x2, zI 0] σ) (fun r1 s1 =>
  if r1 < 0 ∨ 745 ≤ Int32.toNatClampNeg r1 then
    (none)
    else
    (some (.inl (some (zI (s1.1 31 0 (Int32.toNatClampNeg r1)))), s1)))) := (zrun_eq _ _ _).trans ((zun_eq zK_X6_from [] 9 _ _).trans rfl)
set_option maxRecDepth 100000 in
theorem e_X6_to (i0 : Nat) (x1 : Int32) (x2 : Int32) (σ : zSt) : zrun zP 145 [zR 16 i0, zI x1, zI x2] σ = (
  zcI (zrun zP 143 [zI x1, zI x2, zI 1] σ) (fun r1 s1 =>
  if r1 < 0 ∨ 745 ≤ Int32.toNatClampNeg r1 then
    (none)
    else
    (some (.inl (some (zI (s1.1 31 0 (Int32.toNatClampNeg r1)))), s1)))) := (zrun_eq _ _ _).trans ((zun_eq zK_X6_to [] 9 _ _).trans rfl)
set_option maxRecDepth 100000 in
theorem e_X6_labelOf (i0 : Nat) (x1 : Int32) (x2 : Int32) (σ : zSt) : zrun zP 146 [zR 16 i0, zI x1, zI x2] σ = (
  zcI (zrun zP 143 [zI x1, zI x2, zI 2] σ) (fun r1 s1 =>
  if r1 < 0 ∨ 745 ≤ Int32.toNatClampNeg r1 then
    (none)
    else
    (some (.inl (some (zI (s1.1 31 0 (Int32.toNatClampNeg r1)))), s1)))) := (zrun_eq _ _ _).trans ((zun_eq zK_X6_labelOf [] 9 _ _).trans rfl)
set_option maxRecDepth 100000 in
theorem e_X6_copies_2 (k0 i0 : Nat) (k1 i1 : Nat) (x2 : Int32) (σ : zSt) : zX zP zK_X6_copies (2, [zR (k0 + 1) i0, zR (k1 + 1) i1, zI x2], []) σ = (
  if x2 < 745 then
  (if x2 < 0 ∨ zlenI (k0 + 1) i0 ≤ Int32.toNatClampNeg x2 then
    (none)
    else
    (if x2 < 0 ∨ zlenI (k1 + 1) i1 ≤ Int32.toNatClampNeg x2 then
      (none)
      else
      (zX zP zK_X6_copies (2, [zR (k0 + 1) i0, zR (k1 + 1) i1, zI (x2 + 1)], []) (zms σ.1 (k1 + 1) i1 (Int32.toNatClampNeg x2) (σ.1 (k0 + 1) i0 (Int32.toNatClampNeg x2)), σ.2))))
  else
  (some (.inl none, σ))) := (zun_eq zK_X6_copies [2] 12 _ _).trans rfl
set_option maxRecDepth 100000 in
theorem e_X6_copies (k0 i0 : Nat) (k1 i1 : Nat) (σ : zSt) : zrun zP 147 [zR (k0 + 1) i0, zR (k1 + 1) i1] σ = (
  zX zP zK_X6_copies (2, [zR (k0 + 1) i0, zR (k1 + 1) i1, zI 0], []) σ) := (zrun_eq _ _ _).trans ((zun_eq zK_X6_copies [2] 3 _ _).trans rfl)
set_option maxRecDepth 100000 in
theorem e_X6_topOf_2 (i0 : Nat) (x1 : Int32) (x2 : Int32) (σ : zSt) : zX zP zK_X6_topOf (2, [zR 16 i0, zI x1, zI x2], []) σ = (
  zcI (zrun zP 141 [zR 16 i0, zI x2] σ) (fun r1 s1 =>
  if r1 = (-1) then
    (some (.inl (some (zI x2)), s1))
    else
    (zcI (zrun zP 141 [zR 16 i0, zI x2] s1) (fun r2 s2 =>
      zX zP zK_X6_topOf (2, [zR 16 i0, zI x1, zI r2], []) s2)))) := (zun_eq zK_X6_topOf [2] 11 _ _).trans rfl
set_option maxRecDepth 100000 in
theorem e_X6_topOf (i0 : Nat) (x1 : Int32) (σ : zSt) : zrun zP 148 [zR 16 i0, zI x1] σ = (
  zX zP zK_X6_topOf (2, [zR 16 i0, zI x1, zI x1], []) σ) := (zrun_eq _ _ _).trans ((zun_eq zK_X6_topOf [2] 3 _ _).trans rfl)
set_option maxRecDepth 100000 in
theorem e_X6_depthOf_4 (i0 : Nat) (x1 : Int32) (x2 : Int32) (x3 : Int32) (σ : zSt) : zX zP zK_X6_depthOf (4, [zR 16 i0, zI x1, zI x2, zI x3], []) σ = (
  zcI (zrun zP 141 [zR 16 i0, zI x3] σ) (fun r1 s1 =>
  if r1 = (-1) then
    (some (.inl (some (zI x2)), s1))
    else
    (zcI (zrun zP 141 [zR 16 i0, zI x3] s1) (fun r2 s2 =>
      zX zP zK_X6_depthOf (4, [zR 16 i0, zI x1, zI (x2 + 1), zI r2], []) s2)))) := (zun_eq zK_X6_depthOf [4] 12 _ _).trans rfl
set_option maxRecDepth 100000 in
theorem e_X6_depthOf (i0 : Nat) (x1 : Int32) (σ : zSt) : zrun zP 149 [zR 16 i0, zI x1] σ = (
  zX zP zK_X6_depthOf (4, [zR 16 i0, zI x1, zI 0, zI x1], []) σ) := (zrun_eq _ _ _).trans ((zun_eq zK_X6_depthOf [4] 5 _ _).trans rfl)
set_option maxRecDepth 100000 in
theorem e_X6_isBelow_6 (i0 : Nat) (x1 : Int32) (x2 : Int32) (x3 : Int32) (σ : zSt) : zX zP zK_X6_isBelow (6, [zR 16 i0, zI x1, zI x2, zI x3], []) σ = (
  if x3 = (-1) then
  (some (.inl (some (zI 0)), σ))
  else
  (if x3 = x2 then
    (some (.inl (some (zI 1)), σ))
    else
    (zcI (zrun zP 141 [zR 16 i0, zI x3] σ) (fun r1 s1 =>
      zX zP zK_X6_isBelow (6, [zR 16 i0, zI x1, zI x2, zI r1], []) s1)))) := (zun_eq zK_X6_isBelow [6] 12 _ _).trans rfl
set_option maxRecDepth 100000 in
theorem e_X6_isBelow (i0 : Nat) (x1 : Int32) (x2 : Int32) (σ : zSt) : zrun zP 150 [zR 16 i0, zI x1, zI x2] σ = (
  zcI (zrun zP 141 [zR 16 i0, zI x1] σ) (fun r1 s1 =>
  zX zP zK_X6_isBelow (6, [zR 16 i0, zI x1, zI x2, zI r1], []) s1)) := (zrun_eq _ _ _).trans ((zun_eq zK_X6_isBelow [6] 5 _ _).trans rfl)
set_option maxRecDepth 100000 in
theorem e_X6_isStop_2 (i0 : Nat) (x1 : Int32) (x2 : Int32) (x3 : Int32) (v4 : zAV) (σ : zSt) : zX zP zK_X6_isStop (2, [zR 16 i0, zI x1, zI x2, zI x3, v4], []) σ = (
  zcI (zrun zP 138 [zR 16 i0] σ) (fun r1 s1 =>
  if x3 < r1 then
    (zcI (zrun zP 148 [zR 16 i0, zI x3] s1) (fun r2 s2 =>
      if r2 = x1 then
        (zX zP zK_X6_isStop (25, [zR 16 i0, zI x1, zI x2, zI x3, zI 0], []) s2)
        else
        (zX zP zK_X6_isStop (2, [zR 16 i0, zI x1, zI x2, zI (x3 + 1), v4], []) s2)))
    else
    (some (.inl (some (zI 0)), s1)))) := (zun_eq zK_X6_isStop [2, 25] 13 _ _).trans rfl
set_option maxRecDepth 100000 in
theorem e_X6_isStop_25 (i0 : Nat) (x1 : Int32) (x2 : Int32) (x3 : Int32) (x4 : Int32) (σ : zSt) : zX zP zK_X6_isStop (25, [zR 16 i0, zI x1, zI x2, zI x3, zI x4], []) σ = (
  zcI (zrun zP 142 [zR 16 i0, zI x3] σ) (fun r1 s1 =>
  if x4 < r1 then
    (zcI (zrun zP 144 [zR 16 i0, zI x3, zI x4] s1) (fun r2 s2 =>
      if r2 = x2 then
        (some (.inl (some (zI 1)), s2))
        else
        (zcI (zrun zP 145 [zR 16 i0, zI x3, zI x4] s2) (fun r3 s3 =>
          if r3 = x2 then
            (some (.inl (some (zI 1)), s3))
            else
            (zX zP zK_X6_isStop (25, [zR 16 i0, zI x1, zI x2, zI x3, zI (x4 + 1)], []) s3)))))
    else
    (zX zP zK_X6_isStop (2, [zR 16 i0, zI x1, zI x2, zI (x3 + 1), zI x4], []) s1))) := (zun_eq zK_X6_isStop [2, 25] 20 _ _).trans rfl
set_option maxRecDepth 100000 in
theorem e_X6_isStop (i0 : Nat) (x1 : Int32) (x2 : Int32) (σ : zSt) : zrun zP 151 [zR 16 i0, zI x1, zI x2] σ = (
  zX zP zK_X6_isStop (2, [zR 16 i0, zI x1, zI x2, zI 0, zJunk], []) σ) := (zrun_eq _ _ _).trans ((zun_eq zK_X6_isStop [2, 25] 3 _ _).trans rfl)
set_option maxRecDepth 100000 in
theorem e_X6_around_3 (i0 : Nat) (x1 : Int32) (x2 : Int32) (x3 : Int32) (x4 : Int32) (σ : zSt) : zX zP zK_X6_around (3, [zR 16 i0, zI x1, zI x2, zI x3, zI x4], []) σ = (
  zcI (zrun zP 142 [zR 16 i0, zI x1] σ) (fun r1 s1 =>
  if x4 < r1 then
    (zcI (zrun zP 144 [zR 16 i0, zI x1, zI x4] s1) (fun r2 s2 =>
      if x2 < r2 then
        (zX zP zK_X6_around (3, [zR 16 i0, zI x1, zI x2, zI x3, zI (x4 + 1)], []) s2)
        else
        (zcI (zrun zP 145 [zR 16 i0, zI x1, zI x4] s2) (fun r3 s3 =>
          if r3 < x3 then
            (zX zP zK_X6_around (3, [zR 16 i0, zI x1, zI x2, zI x3, zI (x4 + 1)], []) s3)
            else
            (some (.inl (some (zI x4)), s3))))))
    else
    (some (.inl (some (zI (-1))), s1)))) := (zun_eq zK_X6_around [3] 20 _ _).trans rfl
set_option maxRecDepth 100000 in
theorem e_X6_around (i0 : Nat) (x1 : Int32) (x2 : Int32) (x3 : Int32) (σ : zSt) : zrun zP 152 [zR 16 i0, zI x1, zI x2, zI x3] σ = (
  zX zP zK_X6_around (3, [zR 16 i0, zI x1, zI x2, zI x3, zI 0], []) σ) := (zrun_eq _ _ _).trans ((zun_eq zK_X6_around [3] 3 _ _).trans rfl)
set_option maxRecDepth 100000 in
theorem e_X6_inserts_7 (i0 : Nat) (x1 : Int32) (x2 : Int32) (x3 : Int32) (x4 : Int32) (x5 : Int32) (v6 : zAV) (σ : zSt) : zX zP zK_X6_inserts (7, [zR 16 i0, zI x1, zI x2, zI x3, zI x4, zI x5, v6], []) σ = (
  if (0 : Int32) < x5 then
  (zcI (zrun zP 144 [zR 16 i0, zI x1, zI (x5 - 1)] σ) (fun r1 s1 =>
    if x2 < r1 then
      (zX zP zK_X6_inserts (28, [zR 16 i0, zI x1, zI x2, zI x3, zI x4, zI x5, zI 0], []) s1)
      else
      (zcI (zrun zP 143 [zI x1, zI x5, zI 0] s1) (fun r2 s2 =>
        if r2 < 0 ∨ 745 ≤ Int32.toNatClampNeg r2 then
          (none)
          else
          (zcI (zrun zP 143 [zI x1, zI x5, zI 1] (zms s2.1 31 0 (Int32.toNatClampNeg r2) x2, s2.2)) (fun r3 s3 =>
            if r3 < 0 ∨ 745 ≤ Int32.toNatClampNeg r3 then
              (none)
              else
              (zcI (zrun zP 143 [zI x1, zI x5, zI 2] (zms s3.1 31 0 (Int32.toNatClampNeg r3) x3, s3.2)) (fun r4 s4 =>
                if r4 < 0 ∨ 745 ≤ Int32.toNatClampNeg r4 then
                  (none)
                  else
                  (zcI (zrun zP 139 [zI x1, zI 2] (zms s4.1 31 0 (Int32.toNatClampNeg r4) x4, s4.2)) (fun r5 s5 =>
                    if r5 < 0 ∨ 745 ≤ Int32.toNatClampNeg r5 then
                      (none)
                      else
                      (if r5 < 0 ∨ 745 ≤ Int32.toNatClampNeg r5 then
                        (none)
                        else
                        (some (.inl (some (zI x5)), (zms s5.1 31 0 (Int32.toNatClampNeg r5) ((s5.1 31 0 (Int32.toNatClampNeg r5)) + 1), s5.2))))))))))))))
  else
  (zcI (zrun zP 143 [zI x1, zI x5, zI 0] σ) (fun r6 s6 =>
    if r6 < 0 ∨ 745 ≤ Int32.toNatClampNeg r6 then
      (none)
      else
      (zcI (zrun zP 143 [zI x1, zI x5, zI 1] (zms s6.1 31 0 (Int32.toNatClampNeg r6) x2, s6.2)) (fun r7 s7 =>
        if r7 < 0 ∨ 745 ≤ Int32.toNatClampNeg r7 then
          (none)
          else
          (zcI (zrun zP 143 [zI x1, zI x5, zI 2] (zms s7.1 31 0 (Int32.toNatClampNeg r7) x3, s7.2)) (fun r8 s8 =>
            if r8 < 0 ∨ 745 ≤ Int32.toNatClampNeg r8 then
              (none)
              else
              (zcI (zrun zP 139 [zI x1, zI 2] (zms s8.1 31 0 (Int32.toNatClampNeg r8) x4, s8.2)) (fun r9 s9 =>
                if r9 < 0 ∨ 745 ≤ Int32.toNatClampNeg r9 then
                  (none)
                  else
                  (if r9 < 0 ∨ 745 ≤ Int32.toNatClampNeg r9 then
                    (none)
                    else
                    (some (.inl (some (zI x5)), (zms s9.1 31 0 (Int32.toNatClampNeg r9) ((s9.1 31 0 (Int32.toNatClampNeg r9)) + 1), s9.2))))))))))))) := (zun_eq zK_X6_inserts [7, 28] 47 _ _).trans rfl
set_option maxRecDepth 100000 in
theorem e_X6_inserts_28 (i0 : Nat) (x1 : Int32) (x2 : Int32) (x3 : Int32) (x4 : Int32) (x5 : Int32) (x6 : Int32) (σ : zSt) : zX zP zK_X6_inserts (28, [zR 16 i0, zI x1, zI x2, zI x3, zI x4, zI x5, zI x6], []) σ = (
  if x6 < 3 then
  (zcI (zrun zP 143 [zI x1, zI x5, zI x6] σ) (fun r1 s1 =>
    zcI (zrun zP 143 [zI x1, zI (x5 - 1), zI x6] s1) (fun r2 s2 =>
      if r2 < 0 ∨ 745 ≤ Int32.toNatClampNeg r2 then
        (none)
        else
        (if r1 < 0 ∨ 745 ≤ Int32.toNatClampNeg r1 then
          (none)
          else
          (zX zP zK_X6_inserts (28, [zR 16 i0, zI x1, zI x2, zI x3, zI x4, zI x5, zI (x6 + 1)], []) (zms s2.1 31 0 (Int32.toNatClampNeg r1) (s2.1 31 0 (Int32.toNatClampNeg r2)), s2.2))))))
  else
  (zX zP zK_X6_inserts (7, [zR 16 i0, zI x1, zI x2, zI x3, zI x4, zI (x5 + (-1)), zI x6], []) σ)) := (zun_eq zK_X6_inserts [7, 28] 22 _ _).trans rfl
set_option maxRecDepth 100000 in
theorem e_X6_inserts (i0 : Nat) (x1 : Int32) (x2 : Int32) (x3 : Int32) (x4 : Int32) (σ : zSt) : zrun zP 153 [zR 16 i0, zI x1, zI x2, zI x3, zI x4] σ = (
  zcI (zrun zP 142 [zR 16 i0, zI x1] σ) (fun r1 s1 =>
  zX zP zK_X6_inserts (7, [zR 16 i0, zI x1, zI x2, zI x3, zI x4, zI r1, zJunk], []) s1)) := (zrun_eq _ _ _).trans ((zun_eq zK_X6_inserts [7, 28] 5 _ _).trans rfl)
set_option maxRecDepth 100000 in
theorem e_X6_removes_7 (i0 : Nat) (x1 : Int32) (x2 : Int32) (x3 : Int32) (σ : zSt) : zX zP zK_X6_removes (7, [zR 16 i0, zI x1, zI x2, zI x3], []) σ = (
  zcI (zrun zP 142 [zR 16 i0, zI x1] σ) (fun r1 s1 =>
  zcI (zrun zP 143 [zI x1, zI (r1 - 1), zI 0] s1) (fun r2 s2 =>
    if x3 < r2 then
      (if (x3 + 3) < 0 ∨ 745 ≤ Int32.toNatClampNeg (x3 + 3) then
        (none)
        else
        (if x3 < 0 ∨ 745 ≤ Int32.toNatClampNeg x3 then
          (none)
          else
          (zX zP zK_X6_removes (7, [zR 16 i0, zI x1, zI x2, zI (x3 + 1)], []) (zms s2.1 31 0 (Int32.toNatClampNeg x3) (s2.1 31 0 (Int32.toNatClampNeg (x3 + 3))), s2.2))))
      else
      (zcI (zrun zP 139 [zI x1, zI 2] s2) (fun r3 s3 =>
        if r3 < 0 ∨ 745 ≤ Int32.toNatClampNeg r3 then
          (none)
          else
          (if r3 < 0 ∨ 745 ≤ Int32.toNatClampNeg r3 then
            (none)
            else
            (some (.inl none, (zms s3.1 31 0 (Int32.toNatClampNeg r3) ((s3.1 31 0 (Int32.toNatClampNeg r3)) - 1), s3.2))))))))) := (zun_eq zK_X6_removes [7] 23 _ _).trans rfl
set_option maxRecDepth 100000 in
theorem e_X6_removes (i0 : Nat) (x1 : Int32) (x2 : Int32) (σ : zSt) : zrun zP 154 [zR 16 i0, zI x1, zI x2] σ = (
  zcI (zrun zP 143 [zI x1, zI x2, zI 0] σ) (fun r1 s1 =>
  zX zP zK_X6_removes (7, [zR 16 i0, zI x1, zI x2, zI r1], []) s1)) := (zrun_eq _ _ _).trans ((zun_eq zK_X6_removes [7] 6 _ _).trans rfl)
set_option maxRecDepth 100000 in
theorem e_X6_isClear_3 (i0 : Nat) (x1 : Int32) (x2 : Int32) (x3 : Int32) (x4 : Int32) (σ : zSt) : zX zP zK_X6_isClear (3, [zR 16 i0, zI x1, zI x2, zI x3, zI x4], []) σ = (
  zcI (zrun zP 142 [zR 16 i0, zI x1] σ) (fun r1 s1 =>
  if x4 < r1 then
    (zcI (zrun zP 144 [zR 16 i0, zI x1, zI x4] s1) (fun r2 s2 =>
      if r2 < x3 then
        (zcI (zrun zP 145 [zR 16 i0, zI x1, zI x4] s2) (fun r3 s3 =>
          if x2 < r3 then
            (some (.inl (some (zI 0)), s3))
            else
            (zX zP zK_X6_isClear (3, [zR 16 i0, zI x1, zI x2, zI x3, zI (x4 + 1)], []) s3)))
        else
        (zX zP zK_X6_isClear (3, [zR 16 i0, zI x1, zI x2, zI x3, zI (x4 + 1)], []) s2)))
    else
    (some (.inl (some (zI 1)), s1)))) := (zun_eq zK_X6_isClear [3] 20 _ _).trans rfl
set_option maxRecDepth 100000 in
theorem e_X6_isClear (i0 : Nat) (x1 : Int32) (x2 : Int32) (x3 : Int32) (σ : zSt) : zrun zP 155 [zR 16 i0, zI x1, zI x2, zI x3] σ = (
  zX zP zK_X6_isClear (3, [zR 16 i0, zI x1, zI x2, zI x3, zI 0], []) σ) := (zrun_eq _ _ _).trans ((zun_eq zK_X6_isClear [3] 3 _ _).trans rfl)
set_option maxRecDepth 100000 in
theorem e_X6_mayPut (i0 : Nat) (x1 : Int32) (x2 : Int32) (x3 : Int32) (σ : zSt) : zrun zP 156 [zR 16 i0, zI x1, zI x2, zI x3] σ = (
  zcI (zrun zP 140 [zR 16 i0, zI x1] σ) (fun r1 s1 =>
  if r1 = 0 then
    (zcI (zrun zP 155 [zR 16 i0, zI x1, zI x2, zI x3] s1) (fun r2 s2 =>
      if r2 = 0 then
        (some (.inl (some (zI 0)), s2))
        else
        (zcI (zrun zP 140 [zR 16 i0, zI x1] s2) (fun r3 s3 =>
          if r3 = 0 then
            (some (.inl (some (zI 1)), s3))
            else
            (zcI (zrun zP 141 [zR 16 i0, zI x1] s3) (fun r4 s4 =>
              zcI (zrun zP 152 [zR 16 i0, zI r4, zI x2, zI x3] s4) (fun r5 s5 =>
                if r5 = (-1) then
                  (some (.inl (some (zI 0)), s5))
                  else
                  (some (.inl (some (zI 1)), s5)))))))))
    else
    (zcI (zrun zP 140 [zR 16 i0, zI x1] s1) (fun r6 s6 =>
      if r6 = 2 then
        (zcI (zrun zP 155 [zR 16 i0, zI x1, zI x2, zI x3] s6) (fun r7 s7 =>
          if r7 = 0 then
            (some (.inl (some (zI 0)), s7))
            else
            (zcI (zrun zP 140 [zR 16 i0, zI x1] s7) (fun r8 s8 =>
              if r8 = 0 then
                (some (.inl (some (zI 1)), s8))
                else
                (zcI (zrun zP 141 [zR 16 i0, zI x1] s8) (fun r9 s9 =>
                  zcI (zrun zP 152 [zR 16 i0, zI r9, zI x2, zI x3] s9) (fun r10 s10 =>
                    if r10 = (-1) then
                      (some (.inl (some (zI 0)), s10))
                      else
                      (some (.inl (some (zI 1)), s10)))))))))
        else
        (some (.inl (some (zI 0)), s6)))))) := (zrun_eq _ _ _).trans ((zun_eq zK_X6_mayPut [] 32 _ _).trans rfl)
set_option maxRecDepth 100000 in
theorem e_X6_isCutFrom_2 (i0 : Nat) (x1 : Int32) (x2 : Int32) (x3 : Int32) (σ : zSt) : zX zP zK_X6_isCutFrom (2, [zR 16 i0, zI x1, zI x2, zI x3], []) σ = (
  if x3 = x2 then
  (if x3 = x2 then
    (some (.inl (some (zI 1)), σ))
    else
    (some (.inl (some (zI 0)), σ)))
  else
  (if x3 = (-1) then
    (if x3 = x2 then
      (some (.inl (some (zI 1)), σ))
      else
      (some (.inl (some (zI 0)), σ)))
    else
    (zcI (zrun zP 140 [zR 16 i0, zI x3] σ) (fun r1 s1 =>
      if r1 = 1 then
        (zcI (zrun zP 141 [zR 16 i0, zI x3] s1) (fun r2 s2 =>
          zX zP zK_X6_isCutFrom (2, [zR 16 i0, zI x1, zI x2, zI r2], []) s2))
        else
        (if x3 = x2 then
          (some (.inl (some (zI 1)), s1))
          else
          (some (.inl (some (zI 0)), s1))))))) := (zun_eq zK_X6_isCutFrom [2] 18 _ _).trans rfl
set_option maxRecDepth 100000 in
theorem e_X6_isCutFrom (i0 : Nat) (x1 : Int32) (x2 : Int32) (σ : zSt) : zrun zP 157 [zR 16 i0, zI x1, zI x2] σ = (
  zX zP zK_X6_isCutFrom (2, [zR 16 i0, zI x1, zI x2, zI x1], []) σ) := (zrun_eq _ _ _).trans ((zun_eq zK_X6_isCutFrom [2] 3 _ _).trans rfl)
set_option maxRecDepth 100000 in
theorem e_X6_hasRoom_2 (i0 : Nat) (x1 : Int32) (x2 : Int32) (σ : zSt) : zX zP zK_X6_hasRoom (2, [zR 16 i0, zI x1, zI x2], []) σ = (
  zcI (zrun zP 138 [zR 16 i0] σ) (fun r1 s1 =>
  if x2 < r1 then
    (zcI (zrun zP 157 [zR 16 i0, zI x2, zI x1] s1) (fun r2 s2 =>
      if r2 = 0 then
        (zX zP zK_X6_hasRoom (2, [zR 16 i0, zI x1, zI (x2 + 1)], []) s2)
        else
        (zcI (zrun zP 142 [zR 16 i0, zI x2] s2) (fun r3 s3 =>
          if r3 = 40 then
            (some (.inl (some (zI 0)), s3))
            else
            (zX zP zK_X6_hasRoom (2, [zR 16 i0, zI x1, zI (x2 + 1)], []) s3)))))
    else
    (some (.inl (some (zI 1)), s1)))) := (zun_eq zK_X6_hasRoom [2] 17 _ _).trans rfl
set_option maxRecDepth 100000 in
theorem e_X6_hasRoom (i0 : Nat) (x1 : Int32) (σ : zSt) : zrun zP 158 [zR 16 i0, zI x1] σ = (
  zX zP zK_X6_hasRoom (2, [zR 16 i0, zI x1, zI 0], []) σ) := (zrun_eq _ _ _).trans ((zun_eq zK_X6_hasRoom [2] 3 _ _).trans rfl)
set_option maxRecDepth 100000 in
theorem e_X6_puts_14 (i0 : Nat) (x1 : Int32) (x2 : Int32) (x3 : Int32) (x4 : Int32) (x5 : Int32) (x6 : Int32) (σ : zSt) : zX zP zK_X6_puts (14, [zR 16 i0, zI x1, zI x2, zI x3, zI x4, zI x5, zI x6], []) σ = (
  zcI (zrun zP 138 [zR 16 i0] σ) (fun r1 s1 =>
  if x6 < r1 then
    (if x6 = x1 then
      (zX zP zK_X6_puts (14, [zR 16 i0, zI x1, zI x2, zI x3, zI x4, zI x5, zI (x6 + 1)], []) s1)
      else
      (zcI (zrun zP 157 [zR 16 i0, zI x6, zI x1] s1) (fun r2 s2 =>
        if r2 = 0 then
          (zX zP zK_X6_puts (14, [zR 16 i0, zI x1, zI x2, zI x3, zI x4, zI x5, zI (x6 + 1)], []) s2)
          else
          (zcI (zrun zP 153 [zR 16 i0, zI x6, zI x2, zI x3, zI 0] s2) (fun r3 s3 =>
            zX zP zK_X6_puts (14, [zR 16 i0, zI x1, zI x2, zI x3, zI x4, zI x5, zI (x6 + 1)], []) s3)))))
    else
    (some (.inl (some (zI x5)), s1)))) := (zun_eq zK_X6_puts [14] 22 _ _).trans rfl
set_option maxRecDepth 100000 in
theorem e_X6_puts (i0 : Nat) (x1 : Int32) (x2 : Int32) (x3 : Int32) (x4 : Int32) (σ : zSt) : zrun zP 159 [zR 16 i0, zI x1, zI x2, zI x3, zI x4] σ = (
  zcI (zrun zP 153 [zR 16 i0, zI x1, zI x2, zI x3, zI x4] σ) (fun r1 s1 =>
  zX zP zK_X6_puts (14, [zR 16 i0, zI x1, zI x2, zI x3, zI x4, zI r1, zI 0], []) s1)) := (zrun_eq _ _ _).trans ((zun_eq zK_X6_puts [14] 10 _ _).trans rfl)
set_option maxRecDepth 100000 in
theorem e_X6_mayPoint_13 (i0 : Nat) (x1 : Int32) (x2 : Int32) (x3 : Int32) (σ : zSt) : zX zP zK_X6_mayPoint (13, [zR 16 i0, zI x1, zI x2, zI x3], []) σ = (
  zcI (zrun zP 142 [zR 16 i0, zI x1] σ) (fun r1 s1 =>
  if x3 < r1 then
    (zcI (zrun zP 144 [zR 16 i0, zI x1, zI x3] s1) (fun r2 s2 =>
      if r2 = x2 then
        (some (.inl (some (zI 0)), s2))
        else
        (zX zP zK_X6_mayPoint (13, [zR 16 i0, zI x1, zI x2, zI (x3 + 1)], []) s2)))
    else
    (zcI (zrun zP 141 [zR 16 i0, zI x1] s1) (fun r3 s3 =>
      if r3 = (-1) then
        (some (.inl (some (zI 1)), s3))
        else
        (zcI (zrun zP 141 [zR 16 i0, zI x1] s3) (fun r4 s4 =>
          zcI (zrun zP 152 [zR 16 i0, zI r4, zI x2, zI x2] s4) (fun r5 s5 =>
            if r5 = (-1) then
              (some (.inl (some (zI 0)), s5))
              else
              (some (.inl (some (zI 1)), s5))))))))) := (zun_eq zK_X6_mayPoint [13] 23 _ _).trans rfl
set_option maxRecDepth 100000 in
theorem e_X6_mayPoint (i0 : Nat) (x1 : Int32) (x2 : Int32) (σ : zSt) : zrun zP 160 [zR 16 i0, zI x1, zI x2] σ = (
  zcI (zrun zP 140 [zR 16 i0, zI x1] σ) (fun r1 s1 =>
  if r1 = 3 then
    (zX zP zK_X6_mayPoint (13, [zR 16 i0, zI x1, zI x2, zI 0], []) s1)
    else
    (some (.inl (some (zI 0)), s1)))) := (zrun_eq _ _ _).trans ((zun_eq zK_X6_mayPoint [13] 8 _ _).trans rfl)
set_option maxRecDepth 100000 in
theorem e_X6_maySplit_2 (i0 : Nat) (x1 : Int32) (x2 : Int32) (x3 : Int32) (v4 : zAV) (σ : zSt) : zX zP zK_X6_maySplit (2, [zR 16 i0, zI x1, zI x2, zI x3, v4], []) σ = (
  zcI (zrun zP 138 [zR 16 i0] σ) (fun r1 s1 =>
  if x3 < r1 then
    (zcI (zrun zP 140 [zR 16 i0, zI x3] s1) (fun r2 s2 =>
      if r2 = 2 then
        (zcI (zrun zP 150 [zR 16 i0, zI x3, zI x1] s2) (fun r3 s3 =>
          if r3 = 0 then
            (zX zP zK_X6_maySplit (2, [zR 16 i0, zI x1, zI x2, zI (x3 + 1), v4], []) s3)
            else
            (zX zP zK_X6_maySplit (34, [zR 16 i0, zI x1, zI x2, zI x3, zI 0], []) s3)))
        else
        (zX zP zK_X6_maySplit (2, [zR 16 i0, zI x1, zI x2, zI (x3 + 1), v4], []) s2)))
    else
    (some (.inl (some (zI 1)), s1)))) := (zun_eq zK_X6_maySplit [2, 34] 18 _ _).trans rfl
set_option maxRecDepth 100000 in
theorem e_X6_maySplit_34 (i0 : Nat) (x1 : Int32) (x2 : Int32) (x3 : Int32) (x4 : Int32) (σ : zSt) : zX zP zK_X6_maySplit (34, [zR 16 i0, zI x1, zI x2, zI x3, zI x4], []) σ = (
  zcI (zrun zP 142 [zR 16 i0, zI x3] σ) (fun r1 s1 =>
  if x4 < r1 then
    (zcI (zrun zP 144 [zR 16 i0, zI x3, zI x4] s1) (fun r2 s2 =>
      if r2 < x2 then
        (zcI (zrun zP 145 [zR 16 i0, zI x3, zI x4] s2) (fun r3 s3 =>
          if x2 < r3 then
            (some (.inl (some (zI 0)), s3))
            else
            (zX zP zK_X6_maySplit (34, [zR 16 i0, zI x1, zI x2, zI x3, zI (x4 + 1)], []) s3)))
        else
        (zX zP zK_X6_maySplit (34, [zR 16 i0, zI x1, zI x2, zI x3, zI (x4 + 1)], []) s2)))
    else
    (zX zP zK_X6_maySplit (2, [zR 16 i0, zI x1, zI x2, zI (x3 + 1), zI x4], []) s1))) := (zun_eq zK_X6_maySplit [2, 34] 20 _ _).trans rfl
set_option maxRecDepth 100000 in
theorem e_X6_maySplit (i0 : Nat) (x1 : Int32) (x2 : Int32) (σ : zSt) : zrun zP 161 [zR 16 i0, zI x1, zI x2] σ = (
  zX zP zK_X6_maySplit (2, [zR 16 i0, zI x1, zI x2, zI 0, zJunk], []) σ) := (zrun_eq _ _ _).trans ((zun_eq zK_X6_maySplit [2, 34] 3 _ _).trans rfl)
set_option maxRecDepth 100000 in
theorem e_X6_markWith_2 (i0 : Nat) (x1 : Int32) (x2 : Int32) (x3 : Int32) (σ : zSt) : zX zP zK_X6_markWith (2, [zR 16 i0, zI x1, zI x2, zI x3], []) σ = (
  zcI (zrun zP 142 [zR 16 i0, zI x1] σ) (fun r1 s1 =>
  if x3 < r1 then
    (zcI (zrun zP 144 [zR 16 i0, zI x1, zI x3] s1) (fun r2 s2 =>
      if r2 < x2 then
        (zcI (zrun zP 145 [zR 16 i0, zI x1, zI x3] s2) (fun r3 s3 =>
          if x2 < r3 then
            (some (.inl (some (zI x3)), s3))
            else
            (zX zP zK_X6_markWith (2, [zR 16 i0, zI x1, zI x2, zI (x3 + 1)], []) s3)))
        else
        (zX zP zK_X6_markWith (2, [zR 16 i0, zI x1, zI x2, zI (x3 + 1)], []) s2)))
    else
    (some (.inl (some (zI (-1))), s1)))) := (zun_eq zK_X6_markWith [2] 20 _ _).trans rfl
set_option maxRecDepth 100000 in
theorem e_X6_markWith (i0 : Nat) (x1 : Int32) (x2 : Int32) (σ : zSt) : zrun zP 162 [zR 16 i0, zI x1, zI x2] σ = (
  zX zP zK_X6_markWith (2, [zR 16 i0, zI x1, zI x2, zI 0], []) σ) := (zrun_eq _ _ _).trans ((zun_eq zK_X6_markWith [2] 3 _ _).trans rfl)
set_option maxRecDepth 100000 in
theorem e_X6_hasRoomToSplit_2 (i0 : Nat) (x1 : Int32) (x2 : Int32) (x3 : Int32) (σ : zSt) : zX zP zK_X6_hasRoomToSplit (2, [zR 16 i0, zI x1, zI x2, zI x3], []) σ = (
  zcI (zrun zP 138 [zR 16 i0] σ) (fun r1 s1 =>
  if x3 < r1 then
    (if x3 = x1 then
      (zcI (zrun zP 162 [zR 16 i0, zI x3, zI x2] s1) (fun r2 s2 =>
        if r2 = (-1) then
          (zX zP zK_X6_hasRoomToSplit (2, [zR 16 i0, zI x1, zI x2, zI (x3 + 1)], []) s2)
          else
          (zcI (zrun zP 142 [zR 16 i0, zI x3] s2) (fun r3 s3 =>
            if r3 = 40 then
              (some (.inl (some (zI 0)), s3))
              else
              (zX zP zK_X6_hasRoomToSplit (2, [zR 16 i0, zI x1, zI x2, zI (x3 + 1)], []) s3)))))
      else
      (zcI (zrun zP 140 [zR 16 i0, zI x3] s1) (fun r4 s4 =>
        if r4 = 1 then
          (zcI (zrun zP 150 [zR 16 i0, zI x3, zI x1] s4) (fun r5 s5 =>
            if r5 = 0 then
              (zX zP zK_X6_hasRoomToSplit (2, [zR 16 i0, zI x1, zI x2, zI (x3 + 1)], []) s5)
              else
              (zcI (zrun zP 162 [zR 16 i0, zI x3, zI x2] s5) (fun r6 s6 =>
                if r6 = (-1) then
                  (zX zP zK_X6_hasRoomToSplit (2, [zR 16 i0, zI x1, zI x2, zI (x3 + 1)], []) s6)
                  else
                  (zcI (zrun zP 142 [zR 16 i0, zI x3] s6) (fun r7 s7 =>
                    if r7 = 40 then
                      (some (.inl (some (zI 0)), s7))
                      else
                      (zX zP zK_X6_hasRoomToSplit (2, [zR 16 i0, zI x1, zI x2, zI (x3 + 1)], []) s7)))))))
          else
          (zX zP zK_X6_hasRoomToSplit (2, [zR 16 i0, zI x1, zI x2, zI (x3 + 1)], []) s4))))
    else
    (some (.inl (some (zI 1)), s1)))) := (zun_eq zK_X6_hasRoomToSplit [2] 31 _ _).trans rfl
set_option maxRecDepth 100000 in
theorem e_X6_hasRoomToSplit (i0 : Nat) (x1 : Int32) (x2 : Int32) (σ : zSt) : zrun zP 163 [zR 16 i0, zI x1, zI x2] σ = (
  zX zP zK_X6_hasRoomToSplit (2, [zR 16 i0, zI x1, zI x2, zI 0], []) σ) := (zrun_eq _ _ _).trans ((zun_eq zK_X6_hasRoomToSplit [2] 3 _ _).trans rfl)
set_option maxRecDepth 100000 in
theorem e_X6_splitsOne (i0 : Nat) (x1 : Int32) (x2 : Int32) (σ : zSt) : zrun zP 164 [zR 16 i0, zI x1, zI x2] σ = (
  zcI (zrun zP 162 [zR 16 i0, zI x1, zI x2] σ) (fun r1 s1 =>
  if r1 = (-1) then
    (some (.inl (some (zI 0)), s1))
    else
    (zcI (zrun zP 145 [zR 16 i0, zI x1, zI r1] s1) (fun r2 s2 =>
      zcI (zrun zP 143 [zI x1, zI r1, zI 1] s2) (fun r3 s3 =>
        if r3 < 0 ∨ 745 ≤ Int32.toNatClampNeg r3 then
          (none)
          else
          (zcI (zrun zP 146 [zR 16 i0, zI x1, zI r1] (zms s3.1 31 0 (Int32.toNatClampNeg r3) x2, s3.2)) (fun r4 s4 =>
            zcI (zrun zP 153 [zR 16 i0, zI x1, zI x2, zI r2, zI r4] s4) (fun r5 s5 =>
              some (.inl (some (zI 1)), s5))))))))) := (zrun_eq _ _ _).trans ((zun_eq zK_X6_splitsOne [] 34 _ _).trans rfl)
set_option maxRecDepth 100000 in
theorem e_X6_splits_10 (i0 : Nat) (x1 : Int32) (x2 : Int32) (x3 : Int32) (x4 : Int32) (σ : zSt) : zX zP zK_X6_splits (10, [zR 16 i0, zI x1, zI x2, zI x3, zI x4], []) σ = (
  zcI (zrun zP 138 [zR 16 i0] σ) (fun r1 s1 =>
  if x4 < r1 then
    (zcI (zrun zP 140 [zR 16 i0, zI x4] s1) (fun r2 s2 =>
      if r2 = 1 then
        (zcI (zrun zP 150 [zR 16 i0, zI x4, zI x1] s2) (fun r3 s3 =>
          if r3 = 0 then
            (zX zP zK_X6_splits (10, [zR 16 i0, zI x1, zI x2, zI x3, zI (x4 + 1)], []) s3)
            else
            (zcI (zrun zP 164 [zR 16 i0, zI x4, zI x2] s3) (fun r4 s4 =>
              zX zP zK_X6_splits (10, [zR 16 i0, zI x1, zI x2, zI (x3 + r4), zI (x4 + 1)], []) s4))))
        else
        (zX zP zK_X6_splits (10, [zR 16 i0, zI x1, zI x2, zI x3, zI (x4 + 1)], []) s2)))
    else
    (some (.inl (some (zI x3)), s1)))) := (zun_eq zK_X6_splits [10] 24 _ _).trans rfl
set_option maxRecDepth 100000 in
theorem e_X6_splits (i0 : Nat) (x1 : Int32) (x2 : Int32) (σ : zSt) : zrun zP 165 [zR 16 i0, zI x1, zI x2] σ = (
  zcI (zrun zP 164 [zR 16 i0, zI x1, zI x2] σ) (fun r1 s1 =>
  zX zP zK_X6_splits (10, [zR 16 i0, zI x1, zI x2, zI r1, zI 0], []) s1)) := (zrun_eq _ _ _).trans ((zun_eq zK_X6_splits [10] 8 _ _).trans rfl)
set_option maxRecDepth 100000 in
theorem e_X6_feed (i0 : Nat) (x1 : Int32) (x2 : Int32) (x3 : Int32) (x4 : Int32) (x5 : Int32) (σ : zSt) : zrun zP 166 [zR 16 i0, zI x1, zI x2, zI x3, zI x4, zI x5] σ = (
  if (400 : Int32) < (((zms σ.1 16 i0 0 0) 16 i0 10) + 20) then
  (some (.inl (some (zI (-1))), (zms σ.1 16 i0 0 0, σ.2)))
  else
  (zcV (zrun zP 167 [zR 16 i0, zI x1] (zms σ.1 16 i0 0 0, σ.2)) (fun s1 =>
    zcV (zrun zP 167 [zR 16 i0, zI x2] s1) (fun s2 =>
      zcV (zrun zP 167 [zR 16 i0, zI x3] s2) (fun s3 =>
        zcV (zrun zP 167 [zR 16 i0, zI x4] s3) (fun s4 =>
          zcV (zrun zP 167 [zR 16 i0, zI x5] s4) (fun s5 =>
            some (.inl (some (zI (s5.1 16 i0 10))), s5)))))))) := (zrun_eq _ _ _).trans ((zun_eq zK_X6_feed [] 28 _ _).trans rfl)
set_option maxRecDepth 100000 in
theorem e_X6_puts__3 (i0 : Nat) (x1 : Int32) (x2 : Int32) (σ : zSt) : zX zP zK_X6_puts_ (3, [zR 16 i0, zI x1, zI x2], []) σ = (
  if x2 < 0 then
  (some (.inl none, σ))
  else
  (if (σ.1 16 i0 10) < 0 ∨ 400 ≤ Int32.toNatClampNeg (σ.1 16 i0 10) then
    (none)
    else
    (zX zP zK_X6_puts_ (3, [zR 16 i0, zI x1, zI (x2 + (-8))], []) (zms (zms σ.1 35 0 (Int32.toNatClampNeg (σ.1 16 i0 10)) (Int8.toInt32 (Int32.toInt8 (Int8.toInt32 (Int32.toInt8 (x1 >>> (x2 &&& 31))))))) 16 i0 10 ((σ.1 16 i0 10) + 1), σ.2)))) := (zun_eq zK_X6_puts_ [3] 20 _ _).trans rfl
set_option maxRecDepth 100000 in
theorem e_X6_puts_ (i0 : Nat) (x1 : Int32) (σ : zSt) : zrun zP 167 [zR 16 i0, zI x1] σ = (
  zX zP zK_X6_puts_ (3, [zR 16 i0, zI x1, zI 24], []) σ) := (zrun_eq _ _ _).trans ((zun_eq zK_X6_puts_ [3] 3 _ _).trans rfl)
set_option maxRecDepth 100000 in
theorem e_X6_wrong (i0 : Nat) (x1 : Int32) (x2 : Int32) (σ : zSt) : zrun zP 168 [zR 16 i0, zI x1, zI x2] σ = (
  if (0 : Int32) < (σ.1 16 i0 14) then
  (some (.inl none, σ))
  else
  (some (.inl none, (zms (zms σ.1 16 i0 14 x1) 16 i0 15 x2, σ.2)))) := (zrun_eq _ _ _).trans ((zun_eq zK_X6_wrong [] 11 _ _).trans rfl)
set_option maxRecDepth 100000 in
theorem e_X6_sign_0 (i0 : Nat) (σ : zSt) : zX zP zK_X6_sign (0, [zR 16 i0], []) σ = (
  if (σ.1 16 i0 12) < (σ.1 16 i0 11) then
  (if (σ.1 16 i0 12) < 0 ∨ 400 ≤ Int32.toNatClampNeg (σ.1 16 i0 12) then
    (none)
    else
    (if (σ.1 36 0 (Int32.toNatClampNeg (σ.1 16 i0 12))) = 32 then
      (zX zP zK_X6_sign (0, [zR 16 i0], []) (zms σ.1 16 i0 12 ((σ.1 16 i0 12) + 1), σ.2))
      else
      (if (σ.1 16 i0 12) < (σ.1 16 i0 11) then
        (if (σ.1 16 i0 12) < 0 ∨ 400 ≤ Int32.toNatClampNeg (σ.1 16 i0 12) then
          (none)
          else
          (some (.inl (some (zI (σ.1 36 0 (Int32.toNatClampNeg (σ.1 16 i0 12))))), σ)))
        else
        (some (.inl (some (zI 0)), σ)))))
  else
  (if (σ.1 16 i0 12) < (σ.1 16 i0 11) then
    (if (σ.1 16 i0 12) < 0 ∨ 400 ≤ Int32.toNatClampNeg (σ.1 16 i0 12) then
      (none)
      else
      (some (.inl (some (zI (σ.1 36 0 (Int32.toNatClampNeg (σ.1 16 i0 12))))), σ)))
    else
    (some (.inl (some (zI 0)), σ)))) := (zun_eq zK_X6_sign [0] 25 _ _).trans rfl
set_option maxRecDepth 100000 in
theorem e_X6_sign (i0 : Nat) (σ : zSt) : zrun zP 169 [zR 16 i0] σ = (
  if (σ.1 16 i0 12) < (σ.1 16 i0 11) then
  (if (σ.1 16 i0 12) < 0 ∨ 400 ≤ Int32.toNatClampNeg (σ.1 16 i0 12) then
    (none)
    else
    (if (σ.1 36 0 (Int32.toNatClampNeg (σ.1 16 i0 12))) = 32 then
      (zX zP zK_X6_sign (0, [zR 16 i0], []) (zms σ.1 16 i0 12 ((σ.1 16 i0 12) + 1), σ.2))
      else
      (if (σ.1 16 i0 12) < (σ.1 16 i0 11) then
        (if (σ.1 16 i0 12) < 0 ∨ 400 ≤ Int32.toNatClampNeg (σ.1 16 i0 12) then
          (none)
          else
          (some (.inl (some (zI (σ.1 36 0 (Int32.toNatClampNeg (σ.1 16 i0 12))))), σ)))
        else
        (some (.inl (some (zI 0)), σ)))))
  else
  (if (σ.1 16 i0 12) < (σ.1 16 i0 11) then
    (if (σ.1 16 i0 12) < 0 ∨ 400 ≤ Int32.toNatClampNeg (σ.1 16 i0 12) then
      (none)
      else
      (some (.inl (some (zI (σ.1 36 0 (Int32.toNatClampNeg (σ.1 16 i0 12))))), σ)))
    else
    (some (.inl (some (zI 0)), σ)))) := (zrun_eq _ _ _).trans ((zun_eq zK_X6_sign [0] 25 _ _).trans rfl)
set_option maxRecDepth 100000 in
theorem e_X6_isSmall (i0 : Nat) (x1 : Int32) (σ : zSt) : zrun zP 170 [zR 16 i0, zI x1] σ = (
  if x1 < (σ.1 16 i0 11) then
  (if x1 < 0 ∨ 400 ≤ Int32.toNatClampNeg x1 then
    (none)
    else
    (if (σ.1 36 0 (Int32.toNatClampNeg x1)) < 97 then
      (some (.inl (some (zI 0)), σ))
      else
      (if x1 < 0 ∨ 400 ≤ Int32.toNatClampNeg x1 then
        (none)
        else
        (if (122 : Int32) < (σ.1 36 0 (Int32.toNatClampNeg x1)) then
          (some (.inl (some (zI 0)), σ))
          else
          (some (.inl (some (zI 1)), σ))))))
  else
  (some (.inl (some (zI 0)), σ))) := (zrun_eq _ _ _).trans ((zun_eq zK_X6_isSmall [] 20 _ _).trans rfl)
set_option maxRecDepth 100000 in
theorem e_X6_passes_7 (i0 : Nat) (i1 : Nat) (x2 : Int32) (σ : zSt) : zX zP zK_X6_passes (7, [zR 16 i0, zR 1 i1, zI x2], []) σ = (
  if x2 < (Int32.ofNat (zstr i1).length) then
  (zcI (zrun zP 170 [zR 16 i0, zI ((σ.1 16 i0 12) + x2)] σ) (fun r1 s1 =>
    if r1 = 0 then
      (some (.inl (some (zI 0)), s1))
      else
      (if ((s1.1 16 i0 12) + x2) < 0 ∨ 400 ≤ Int32.toNatClampNeg ((s1.1 16 i0 12) + x2) then
        (none)
        else
        (if x2 < 0 ∨ (zstr i1).length ≤ Int32.toNatClampNeg x2 then
          (none)
          else
          (if (s1.1 36 0 (Int32.toNatClampNeg ((s1.1 16 i0 12) + x2))) = ((zstr i1).getD (Int32.toNatClampNeg x2) 0) then
            (zX zP zK_X6_passes (7, [zR 16 i0, zR 1 i1, zI (x2 + 1)], []) s1)
            else
            (some (.inl (some (zI 0)), s1)))))))
  else
  (zcI (zrun zP 170 [zR 16 i0, zI ((σ.1 16 i0 12) + (Int32.ofNat (zstr i1).length))] σ) (fun r2 s2 =>
    if r2 = 0 then
      (some (.inl (some (zI 1)), (zms (zms s2.1 16 i0 13 (s2.1 16 i0 12)) 16 i0 12 (((zms s2.1 16 i0 13 (s2.1 16 i0 12)) 16 i0 12) + (Int32.ofNat (zstr i1).length)), s2.2)))
      else
      (some (.inl (some (zI 0)), s2))))) := (zun_eq zK_X6_passes [7] 26 _ _).trans rfl
set_option maxRecDepth 100000 in
theorem e_X6_passes (i0 : Nat) (i1 : Nat) (σ : zSt) : zrun zP 171 [zR 16 i0, zR 1 i1] σ = (
  zcI (zrun zP 169 [zR 16 i0] σ) (fun r1 s1 =>
  zX zP zK_X6_passes (7, [zR 16 i0, zR 1 i1, zI 0], []) s1)) := (zrun_eq _ _ _).trans ((zun_eq zK_X6_passes [7] 6 _ _).trans rfl)
set_option maxRecDepth 100000 in
theorem e_X6_word_18 (i0 : Nat) (x1 : Int32) (x2 : Int32) (x3 : Int32) (x4 : Int32) (v5 : zAV) (σ : zSt) : zX zP zK_X6_word (18, [zR 16 i0, zI x1, zI x2, zI x3, zI x4, v5], []) σ = (
  zcI (zrun zP 170 [zR 16 i0, zI ((σ.1 16 i0 12) + x3)] σ) (fun r1 s1 =>
  if r1 = 0 then
    (if x3 = 0 then
      (zcV (zrun zP 168 [zR 16 i0, zI 1, zI (s1.1 16 i0 13)] s1) (fun s2 =>
        zX zP zK_X6_word (102, [zR 16 i0, zI x1, zI x2, zI x3, zI x4, zI x3], []) (zms s2.1 16 i0 12 ((s2.1 16 i0 12) + x3), s2.2)))
      else
      (if x1 < x3 then
        (zcV (zrun zP 168 [zR 16 i0, zI 1, zI (s1.1 16 i0 13)] s1) (fun s3 =>
          zX zP zK_X6_word (102, [zR 16 i0, zI x1, zI x2, zI x3, zI x4, zI x3], []) (zms s3.1 16 i0 12 ((s3.1 16 i0 12) + x3), s3.2)))
        else
        (zX zP zK_X6_word (102, [zR 16 i0, zI x1, zI x2, zI x3, zI x4, zI x3], []) (zms s1.1 16 i0 12 ((s1.1 16 i0 12) + x3), s1.2))))
    else
    (if x3 < x1 then
      (if ((s1.1 16 i0 12) + x3) < 0 ∨ 400 ≤ Int32.toNatClampNeg ((s1.1 16 i0 12) + x3) then
        (none)
        else
        (zX zP zK_X6_word (18, [zR 16 i0, zI x1, zI x2, zI (x3 + 1), zI ((((32 * x4) + (s1.1 36 0 (Int32.toNatClampNeg ((s1.1 16 i0 12) + x3)))) - 97) + 1), v5], []) s1))
      else
      (zX zP zK_X6_word (18, [zR 16 i0, zI x1, zI x2, zI (x3 + 1), zI x4, v5], []) s1)))) := (zun_eq zK_X6_word [18, 102] 30 _ _).trans rfl
set_option maxRecDepth 100000 in
theorem e_X6_word_102 (i0 : Nat) (x1 : Int32) (x2 : Int32) (x3 : Int32) (x4 : Int32) (x5 : Int32) (σ : zSt) : zX zP zK_X6_word (102, [zR 16 i0, zI x1, zI x2, zI x3, zI x4, zI x5], []) σ = (
  if x2 = 0 then
  (some (.inl (some (zI x4)), σ))
  else
  (if x5 < x1 then
    (zX zP zK_X6_word (102, [zR 16 i0, zI x1, zI x2, zI x3, zI (x4 * 32), zI (x5 + 1)], []) σ)
    else
    (some (.inl (some (zI x4)), σ)))) := (zun_eq zK_X6_word [18, 102] 12 _ _).trans rfl
set_option maxRecDepth 100000 in
theorem e_X6_word (i0 : Nat) (x1 : Int32) (x2 : Int32) (σ : zSt) : zrun zP 172 [zR 16 i0, zI x1, zI x2] σ = (
  zcI (zrun zP 169 [zR 16 i0] σ) (fun r1 s1 =>
  zX zP zK_X6_word (18, [zR 16 i0, zI x1, zI x2, zI 0, zI 0, zJunk], []) (zms s1.1 16 i0 13 (s1.1 16 i0 12), s1.2))) := (zrun_eq _ _ _).trans ((zun_eq zK_X6_word [18, 102] 12 _ _).trans rfl)
set_option maxRecDepth 100000 in
theorem e_X6_isWordHere (i0 : Nat) (σ : zSt) : zrun zP 173 [zR 16 i0] σ = (
  zcI (zrun zP 169 [zR 16 i0] σ) (fun r1 s1 =>
  if (s1.1 16 i0 14) = 0 then
    (zcI (zrun zP 170 [zR 16 i0, zI (s1.1 16 i0 12)] s1) (fun r2 s2 =>
      if r2 = 0 then
        (some (.inl (some (zI 0)), s2))
        else
        (some (.inl (some (zI 1)), s2))))
    else
    (some (.inl (some (zI 0)), s1)))) := (zrun_eq _ _ _).trans ((zun_eq zK_X6_isWordHere [] 15 _ _).trans rfl)
set_option maxRecDepth 100000 in
theorem e_X6_number_50 (i0 : Nat) (x1 : Int32) (x2 : Int32) (x3 : Int32) (x4 : Int32) (σ : zSt) : zX zP zK_X6_number (50, [zR 16 i0, zI x1, zI x2, zI x3, zI x4], []) σ = (
  if (σ.1 16 i0 12) < (σ.1 16 i0 11) then
  (if (σ.1 16 i0 12) < 0 ∨ 400 ≤ Int32.toNatClampNeg (σ.1 16 i0 12) then
    (none)
    else
    (if (σ.1 36 0 (Int32.toNatClampNeg (σ.1 16 i0 12))) < 48 then
      (zcI (zrun zP 137 [zI x4, zI x1, zI 999] σ) (fun r1 s1 =>
        if r1 = 0 then
          (zcV (zrun zP 168 [zR 16 i0, zI 2, zI x3] s1) (fun s2 =>
            some (.inl (some (zI x4)), s2)))
          else
          (some (.inl (some (zI x4)), s1))))
      else
      (if (σ.1 16 i0 12) < 0 ∨ 400 ≤ Int32.toNatClampNeg (σ.1 16 i0 12) then
        (none)
        else
        (if (57 : Int32) < (σ.1 36 0 (Int32.toNatClampNeg (σ.1 16 i0 12))) then
          (zcI (zrun zP 137 [zI x4, zI x1, zI 999] σ) (fun r3 s3 =>
            if r3 = 0 then
              (zcV (zrun zP 168 [zR 16 i0, zI 2, zI x3] s3) (fun s4 =>
                some (.inl (some (zI x4)), s4)))
              else
              (some (.inl (some (zI x4)), s3))))
          else
          (if (σ.1 16 i0 12) < 0 ∨ 400 ≤ Int32.toNatClampNeg (σ.1 16 i0 12) then
            (none)
            else
            (zX zP zK_X6_number (50, [zR 16 i0, zI x1, zI x2, zI x3, zI (if 100000 < (((10 * x4) + (σ.1 36 0 (Int32.toNatClampNeg (σ.1 16 i0 12)))) - 48) then 100000 else (((10 * x4) + (σ.1 36 0 (Int32.toNatClampNeg (σ.1 16 i0 12)))) - 48))], []) (zms σ.1 16 i0 12 ((σ.1 16 i0 12) + 1), σ.2)))))))
  else
  (zcI (zrun zP 137 [zI x4, zI x1, zI 999] σ) (fun r5 s5 =>
    if r5 = 0 then
      (zcV (zrun zP 168 [zR 16 i0, zI 2, zI x3] s5) (fun s6 =>
        some (.inl (some (zI x4)), s6)))
      else
      (some (.inl (some (zI x4)), s5))))) := (zun_eq zK_X6_number [50] 41 _ _).trans rfl
set_option maxRecDepth 100000 in
theorem e_X6_number (i0 : Nat) (x1 : Int32) (σ : zSt) : zrun zP 174 [zR 16 i0, zI x1] σ = (
  zcI (zrun zP 169 [zR 16 i0] σ) (fun r1 s1 =>
  if (s1.1 16 i0 14) = 0 then
    (if r1 < 48 then
      (zcV (zrun zP 168 [zR 16 i0, zI 1, zI (s1.1 16 i0 12)] s1) (fun s2 =>
        if (0 : Int32) < (s2.1 16 i0 14) then
          (some (.inl (some (zI 0)), s2))
          else
          (zX zP zK_X6_number (50, [zR 16 i0, zI x1, zI r1, zI (s2.1 16 i0 12), zI 0], []) s2)))
      else
      (if (57 : Int32) < r1 then
        (zcV (zrun zP 168 [zR 16 i0, zI 1, zI (s1.1 16 i0 12)] s1) (fun s3 =>
          if (0 : Int32) < (s3.1 16 i0 14) then
            (some (.inl (some (zI 0)), s3))
            else
            (zX zP zK_X6_number (50, [zR 16 i0, zI x1, zI r1, zI (s3.1 16 i0 12), zI 0], []) s3)))
        else
        (if (0 : Int32) < (s1.1 16 i0 14) then
          (some (.inl (some (zI 0)), s1))
          else
          (zX zP zK_X6_number (50, [zR 16 i0, zI x1, zI r1, zI (s1.1 16 i0 12), zI 0], []) s1))))
    else
    (if (0 : Int32) < (s1.1 16 i0 14) then
      (some (.inl (some (zI 0)), s1))
      else
      (zX zP zK_X6_number (50, [zR 16 i0, zI x1, zI r1, zI (s1.1 16 i0 12), zI 0], []) s1)))) := (zrun_eq _ _ _).trans ((zun_eq zK_X6_number [50] 26 _ _).trans rfl)
set_option maxRecDepth 100000 in
theorem e_X6_tierNamed_2 (i0 : Nat) (k1 i1 : Nat) (x2 : Int32) (x3 : Int32) (σ : zSt) : zX zP zK_X6_tierNamed (2, [zR 16 i0, zR (k1 + 1) i1, zI x2, zI x3], []) σ = (
  if (0 : Int32) < 0 ∨ zlenI (k1 + 1) i1 ≤ Int32.toNatClampNeg 0 then
  (none)
  else
  (if x3 < (σ.1 (k1 + 1) i1 (Int32.toNatClampNeg 0)) then
    (zcI (zrun zP 139 [zI x3, zI 3] σ) (fun r1 s1 =>
      if r1 < 0 ∨ zlenI (k1 + 1) i1 ≤ Int32.toNatClampNeg r1 then
        (none)
        else
        (if (s1.1 (k1 + 1) i1 (Int32.toNatClampNeg r1)) = x2 then
          (some (.inl (some (zI x3)), s1))
          else
          (zX zP zK_X6_tierNamed (2, [zR 16 i0, zR (k1 + 1) i1, zI x2, zI (x3 + 1)], []) s1))))
    else
    (some (.inl (some (zI (-1))), σ)))) := (zun_eq zK_X6_tierNamed [2] 15 _ _).trans rfl
set_option maxRecDepth 100000 in
theorem e_X6_tierNamed (i0 : Nat) (k1 i1 : Nat) (x2 : Int32) (σ : zSt) : zrun zP 175 [zR 16 i0, zR (k1 + 1) i1, zI x2] σ = (
  zX zP zK_X6_tierNamed (2, [zR 16 i0, zR (k1 + 1) i1, zI x2, zI 0], []) σ) := (zrun_eq _ _ _).trans ((zun_eq zK_X6_tierNamed [2] 3 _ _).trans rfl)
set_option maxRecDepth 100000 in
theorem e_X6_known (i0 : Nat) (σ : zSt) : zrun zP 176 [zR 16 i0] σ = (
  zcI (zrun zP 172 [zR 16 i0, zI 6, zI 1] σ) (fun r1 s1 =>
  if (s1.1 16 i0 14) = 0 then
    (zcI (zrun zP 175 [zR 16 i0, zR 31 0, zI r1] s1) (fun r2 s2 =>
      if r2 = (-1) then
        (zcV (zrun zP 168 [zR 16 i0, zI 5, zI (s2.1 16 i0 13)] s2) (fun s3 =>
          if (s3.1 16 i0 14) = 0 then
            (some (.inl (some (zI r2)), s3))
            else
            (some (.inl (some (zI 0)), s3))))
        else
        (if (s2.1 16 i0 14) = 0 then
          (some (.inl (some (zI r2)), s2))
          else
          (some (.inl (some (zI 0)), s2)))))
    else
    (if (0 : Int32) = (-1) then
      (zcV (zrun zP 168 [zR 16 i0, zI 5, zI (s1.1 16 i0 13)] s1) (fun s4 =>
        if (s4.1 16 i0 14) = 0 then
          (some (.inl (some (zI 0)), s4))
          else
          (some (.inl (some (zI 0)), s4))))
      else
      (if (s1.1 16 i0 14) = 0 then
        (some (.inl (some (zI 0)), s1))
        else
        (some (.inl (some (zI 0)), s1)))))) := (zrun_eq _ _ _).trans ((zun_eq zK_X6_known [] 30 _ _).trans rfl)
set_option maxRecDepth 100000 in
theorem e_X6_tierTold_15 (i0 : Nat) (x1 : Int32) (v2 : zAV) (v3 : zAV) (v4 : zAV) (v5 : zAV) (v6 : zAV) (σ : zSt) : zX zP zK_X6_tierTold (15, [zR 16 i0, zI x1, v2, v3, v4, v5, v6], []) σ = (
  if (0 : Int32) < (σ.1 16 i0 14) then
  (some (.inl none, σ))
  else
  (zcI (zrun zP 172 [zR 16 i0, zI 6, zI 1] σ) (fun r1 s1 =>
    if (s1.1 16 i0 14) = 0 then
      (zcI (zrun zP 175 [zR 16 i0, zR 31 0, zI r1] s1) (fun r2 s2 =>
        if r2 = (-1) then
          (zX zP zK_X6_tierTold (60, [zR 16 i0, zI x1, zI r1, v3, v4, v5, v6], []) s2)
          else
          (zcV (zrun zP 168 [zR 16 i0, zI 4, zI (s2.1 16 i0 13)] s2) (fun s3 =>
            zX zP zK_X6_tierTold (60, [zR 16 i0, zI x1, zI r1, v3, v4, v5, v6], []) s3))))
      else
      (zX zP zK_X6_tierTold (60, [zR 16 i0, zI x1, zI r1, v3, v4, v5, v6], []) s1)))) := (zun_eq zK_X6_tierTold [15, 60, 122, 139, 200, 276] 24 _ _).trans rfl
set_option maxRecDepth 100000 in
theorem e_X6_tierTold_60 (i0 : Nat) (x1 : Int32) (x2 : Int32) (v3 : zAV) (v4 : zAV) (v5 : zAV) (v6 : zAV) (σ : zSt) : zX zP zK_X6_tierTold (60, [zR 16 i0, zI x1, zI x2, v3, v4, v5, v6], []) σ = (
  if (0 : Int32) < (σ.1 16 i0 14) then
  (some (.inl none, σ))
  else
  (zcI (zrun zP 171 [zR 16 i0, zR 1 1] σ) (fun r1 s1 =>
    if r1 = 0 then
      (zcI (zrun zP 171 [zR 16 i0, zR 1 2] s1) (fun r2 s2 =>
        if r2 = 0 then
          (zcI (zrun zP 171 [zR 16 i0, zR 1 3] s2) (fun r3 s3 =>
            if r3 = 0 then
              (zcI (zrun zP 171 [zR 16 i0, zR 1 4] s3) (fun r4 s4 =>
                if r4 = 0 then
                  (zX zP zK_X6_tierTold (122, [zR 16 i0, zI x1, zI x2, zI (-1), v4, v5, v6], []) s4)
                  else
                  (zX zP zK_X6_tierTold (122, [zR 16 i0, zI x1, zI x2, zI 3, v4, v5, v6], []) s4)))
              else
              (zX zP zK_X6_tierTold (122, [zR 16 i0, zI x1, zI x2, zI 2, v4, v5, v6], []) s3)))
          else
          (zX zP zK_X6_tierTold (122, [zR 16 i0, zI x1, zI x2, zI 1, v4, v5, v6], []) s2)))
      else
      (zX zP zK_X6_tierTold (122, [zR 16 i0, zI x1, zI x2, zI 0, v4, v5, v6], []) s1)))) := (zun_eq zK_X6_tierTold [15, 60, 122, 139, 200, 276] 23 _ _).trans rfl
set_option maxRecDepth 100000 in
theorem e_X6_tierTold_122 (i0 : Nat) (x1 : Int32) (x2 : Int32) (x3 : Int32) (v4 : zAV) (v5 : zAV) (v6 : zAV) (σ : zSt) : zX zP zK_X6_tierTold (122, [zR 16 i0, zI x1, zI x2, zI x3, v4, v5, v6], []) σ = (
  if x3 = (-1) then
  (zcV (zrun zP 168 [zR 16 i0, zI 1, zI (σ.1 16 i0 12)] σ) (fun s1 =>
    zX zP zK_X6_tierTold (139, [zR 16 i0, zI x1, zI x2, zI x3, zI (-1), v5, v6], []) s1))
  else
  (zX zP zK_X6_tierTold (139, [zR 16 i0, zI x1, zI x2, zI x3, zI (-1), v5, v6], []) σ)) := (zun_eq zK_X6_tierTold [15, 60, 122, 139, 200, 276] 11 _ _).trans rfl
set_option maxRecDepth 100000 in
theorem e_X6_tierTold_139 (i0 : Nat) (x1 : Int32) (x2 : Int32) (x3 : Int32) (x4 : Int32) (v5 : zAV) (v6 : zAV) (σ : zSt) : zX zP zK_X6_tierTold (139, [zR 16 i0, zI x1, zI x2, zI x3, zI x4, v5, v6], []) σ = (
  if (σ.1 16 i0 14) = 0 then
  (if x3 = 1 then
    (zcI (zrun zP 176 [zR 16 i0] σ) (fun r1 s1 =>
      if (s1.1 16 i0 14) = 0 then
        (zcI (zrun zP 140 [zR 16 i0, zI r1] s1) (fun r2 s2 =>
          if r2 = 3 then
            (zcV (zrun zP 168 [zR 16 i0, zI 5, zI (s2.1 16 i0 13)] s2) (fun s3 =>
              zX zP zK_X6_tierTold (200, [zR 16 i0, zI x1, zI x2, zI x3, zI r1, v5, v6], []) s3))
            else
            (zX zP zK_X6_tierTold (200, [zR 16 i0, zI x1, zI x2, zI x3, zI r1, v5, v6], []) s2)))
        else
        (zX zP zK_X6_tierTold (200, [zR 16 i0, zI x1, zI x2, zI x3, zI r1, v5, v6], []) s1)))
    else
    (if x3 = 2 then
      (zcI (zrun zP 176 [zR 16 i0] σ) (fun r4 s4 =>
        if (s4.1 16 i0 14) = 0 then
          (zcI (zrun zP 140 [zR 16 i0, zI r4] s4) (fun r5 s5 =>
            if r5 = 3 then
              (zcV (zrun zP 168 [zR 16 i0, zI 5, zI (s5.1 16 i0 13)] s5) (fun s6 =>
                zX zP zK_X6_tierTold (200, [zR 16 i0, zI x1, zI x2, zI x3, zI r4, v5, v6], []) s6))
              else
              (zX zP zK_X6_tierTold (200, [zR 16 i0, zI x1, zI x2, zI x3, zI r4, v5, v6], []) s5)))
          else
          (zX zP zK_X6_tierTold (200, [zR 16 i0, zI x1, zI x2, zI x3, zI r4, v5, v6], []) s4)))
      else
      (if x3 = 3 then
        (zcI (zrun zP 173 [zR 16 i0] σ) (fun r7 s7 =>
          if r7 = 0 then
            (zX zP zK_X6_tierTold (200, [zR 16 i0, zI x1, zI x2, zI x3, zI x4, v5, v6], []) s7)
            else
            (zcI (zrun zP 176 [zR 16 i0] s7) (fun r8 s8 =>
              if (s8.1 16 i0 14) = 0 then
                (zcI (zrun zP 140 [zR 16 i0, zI r8] s8) (fun r9 s9 =>
                  if r9 = 3 then
                    (zcV (zrun zP 168 [zR 16 i0, zI 5, zI (s9.1 16 i0 13)] s9) (fun s10 =>
                      zX zP zK_X6_tierTold (200, [zR 16 i0, zI x1, zI x2, zI x3, zI r8, v5, v6], []) s10))
                    else
                    (zX zP zK_X6_tierTold (200, [zR 16 i0, zI x1, zI x2, zI x3, zI r8, v5, v6], []) s9)))
                else
                (zX zP zK_X6_tierTold (200, [zR 16 i0, zI x1, zI x2, zI x3, zI r8, v5, v6], []) s8)))))
        else
        (zX zP zK_X6_tierTold (200, [zR 16 i0, zI x1, zI x2, zI x3, zI x4, v5, v6], []) σ))))
  else
  (zX zP zK_X6_tierTold (200, [zR 16 i0, zI x1, zI x2, zI x3, zI x4, v5, v6], []) σ)) := (zun_eq zK_X6_tierTold [15, 60, 122, 139, 200, 276] 32 _ _).trans rfl
set_option maxRecDepth 100000 in
theorem e_X6_tierTold_200 (i0 : Nat) (x1 : Int32) (x2 : Int32) (x3 : Int32) (x4 : Int32) (v5 : zAV) (v6 : zAV) (σ : zSt) : zX zP zK_X6_tierTold (200, [zR 16 i0, zI x1, zI x2, zI x3, zI x4, v5, v6], []) σ = (
  if (0 : Int32) < (σ.1 16 i0 14) then
  (some (.inl none, σ))
  else
  (zcI (zrun zP 138 [zR 16 i0] σ) (fun r1 s1 =>
    zcI (zrun zP 139 [zI r1, zI 0] s1) (fun r2 s2 =>
      if r2 < 0 ∨ 745 ≤ Int32.toNatClampNeg r2 then
        (none)
        else
        (zcI (zrun zP 139 [zI r1, zI 1] (zms s2.1 31 0 (Int32.toNatClampNeg r2) x3, s2.2)) (fun r3 s3 =>
          if r3 < 0 ∨ 745 ≤ Int32.toNatClampNeg r3 then
            (none)
            else
            (zcI (zrun zP 139 [zI r1, zI 2] (zms s3.1 31 0 (Int32.toNatClampNeg r3) x4, s3.2)) (fun r4 s4 =>
              if r4 < 0 ∨ 745 ≤ Int32.toNatClampNeg r4 then
                (none)
                else
                (zcI (zrun zP 139 [zI r1, zI 3] (zms s4.1 31 0 (Int32.toNatClampNeg r4) 0, s4.2)) (fun r5 s5 =>
                  if r5 < 0 ∨ 745 ≤ Int32.toNatClampNeg r5 then
                    (none)
                    else
                    (if (0 : Int32) < 0 ∨ 745 ≤ Int32.toNatClampNeg 0 then
                      (none)
                      else
                      (if (0 : Int32) < 0 ∨ 745 ≤ Int32.toNatClampNeg 0 then
                        (none)
                        else
                        (zX zP zK_X6_tierTold (276, [zR 16 i0, zI x1, zI x2, zI x3, zI x4, zI r1, zI 0], []) (zms (zms s5.1 31 0 (Int32.toNatClampNeg r5) x2) 31 0 (Int32.toNatClampNeg 0) (((zms s5.1 31 0 (Int32.toNatClampNeg r5) x2) 31 0 (Int32.toNatClampNeg 0)) + 1), s5.2)))))))))))))) := (zun_eq zK_X6_tierTold [15, 60, 122, 139, 200, 276] 45 _ _).trans rfl
set_option maxRecDepth 100000 in
theorem e_X6_tierTold_276 (i0 : Nat) (x1 : Int32) (x2 : Int32) (x3 : Int32) (x4 : Int32) (x5 : Int32) (x6 : Int32) (σ : zSt) : zX zP zK_X6_tierTold (276, [zR 16 i0, zI x1, zI x2, zI x3, zI x4, zI x5, zI x6], []) σ = (
  if x3 = 1 then
  (zcI (zrun zP 142 [zR 16 i0, zI x4] σ) (fun r1 s1 =>
    if x6 < r1 then
      (zcI (zrun zP 144 [zR 16 i0, zI x4, zI x6] s1) (fun r2 s2 =>
        zcI (zrun zP 145 [zR 16 i0, zI x4, zI x6] s2) (fun r3 s3 =>
          zcI (zrun zP 153 [zR 16 i0, zI x5, zI r2, zI r3, zI 0] s3) (fun r4 s4 =>
            zX zP zK_X6_tierTold (276, [zR 16 i0, zI x1, zI x2, zI x3, zI x4, zI x5, zI (x6 + 1)], []) s4))))
      else
      (some (.inl none, s1))))
  else
  (some (.inl none, σ))) := (zun_eq zK_X6_tierTold [15, 60, 122, 139, 200, 276] 24 _ _).trans rfl
set_option maxRecDepth 100000 in
theorem e_X6_tierTold (i0 : Nat) (x1 : Int32) (σ : zSt) : zrun zP 177 [zR 16 i0, zI x1] σ = (
  zcI (zrun zP 138 [zR 16 i0] σ) (fun r1 s1 =>
  if r1 = 6 then
    (zcV (zrun zP 168 [zR 16 i0, zI 3, zI x1] s1) (fun s2 =>
      zX zP zK_X6_tierTold (15, [zR 16 i0, zI x1, zJunk, zJunk, zJunk, zJunk, zJunk], []) s2))
    else
    (zX zP zK_X6_tierTold (15, [zR 16 i0, zI x1, zJunk, zJunk, zJunk, zJunk, zJunk], []) s1))) := (zrun_eq _ _ _).trans ((zun_eq zK_X6_tierTold [15, 60, 122, 139, 200, 276] 9 _ _).trans rfl)
set_option maxRecDepth 100000 in
theorem e_X6_labelHere (i0 : Nat) (σ : zSt) : zrun zP 178 [zR 16 i0] σ = (
  zcI (zrun zP 173 [zR 16 i0] σ) (fun r1 s1 =>
  if r1 = 0 then
    (some (.inl (some (zI 0)), s1))
    else
    (zcI (zrun zP 172 [zR 16 i0, zI 4, zI 0] s1) (fun r2 s2 =>
      some (.inl (some (zI r2)), s2))))) := (zrun_eq _ _ _).trans ((zun_eq zK_X6_labelHere [] 10 _ _).trans rfl)
set_option maxRecDepth 100000 in
theorem e_X6_markTold (i0 : Nat) (σ : zSt) : zrun zP 179 [zR 16 i0] σ = (
  zcI (zrun zP 176 [zR 16 i0] σ) (fun r1 s1 =>
  zcI (zrun zP 174 [zR 16 i0, zI 0] s1) (fun r2 s2 =>
    if (s2.1 16 i0 14) = 0 then
      (zcI (zrun zP 174 [zR 16 i0, zI (r2 + 1)] s2) (fun r3 s3 =>
        if (s3.1 16 i0 14) = 0 then
          (zcI (zrun zP 156 [zR 16 i0, zI r1, zI r2, zI r3] s3) (fun r4 s4 =>
            if r4 = 0 then
              (zcV (zrun zP 168 [zR 16 i0, zI 6, zI (s1.1 16 i0 13)] s4) (fun s5 =>
                if (s5.1 16 i0 14) = 0 then
                  (zcI (zrun zP 158 [zR 16 i0, zI r1] s5) (fun r6 s6 =>
                    if r6 = 0 then
                      (zcV (zrun zP 168 [zR 16 i0, zI 3, zI (s1.1 16 i0 13)] s6) (fun s7 =>
                        zcI (zrun zP 178 [zR 16 i0] s7) (fun r8 s8 =>
                          if (s8.1 16 i0 14) = 0 then
                            (zcI (zrun zP 159 [zR 16 i0, zI r1, zI r2, zI r3, zI r8] s8) (fun r9 s9 =>
                              some (.inl none, s9)))
                            else
                            (some (.inl none, s8)))))
                      else
                      (zcI (zrun zP 178 [zR 16 i0] s6) (fun r10 s10 =>
                        if (s10.1 16 i0 14) = 0 then
                          (zcI (zrun zP 159 [zR 16 i0, zI r1, zI r2, zI r3, zI r10] s10) (fun r11 s11 =>
                            some (.inl none, s11)))
                          else
                          (some (.inl none, s10))))))
                  else
                  (zcI (zrun zP 178 [zR 16 i0] s5) (fun r12 s12 =>
                    if (s12.1 16 i0 14) = 0 then
                      (zcI (zrun zP 159 [zR 16 i0, zI r1, zI r2, zI r3, zI r12] s12) (fun r13 s13 =>
                        some (.inl none, s13)))
                      else
                      (some (.inl none, s12))))))
              else
              (if (s4.1 16 i0 14) = 0 then
                (zcI (zrun zP 158 [zR 16 i0, zI r1] s4) (fun r14 s14 =>
                  if r14 = 0 then
                    (zcV (zrun zP 168 [zR 16 i0, zI 3, zI (s1.1 16 i0 13)] s14) (fun s15 =>
                      zcI (zrun zP 178 [zR 16 i0] s15) (fun r16 s16 =>
                        if (s16.1 16 i0 14) = 0 then
                          (zcI (zrun zP 159 [zR 16 i0, zI r1, zI r2, zI r3, zI r16] s16) (fun r17 s17 =>
                            some (.inl none, s17)))
                          else
                          (some (.inl none, s16)))))
                    else
                    (zcI (zrun zP 178 [zR 16 i0] s14) (fun r18 s18 =>
                      if (s18.1 16 i0 14) = 0 then
                        (zcI (zrun zP 159 [zR 16 i0, zI r1, zI r2, zI r3, zI r18] s18) (fun r19 s19 =>
                          some (.inl none, s19)))
                        else
                        (some (.inl none, s18))))))
                else
                (zcI (zrun zP 178 [zR 16 i0] s4) (fun r20 s20 =>
                  if (s20.1 16 i0 14) = 0 then
                    (zcI (zrun zP 159 [zR 16 i0, zI r1, zI r2, zI r3, zI r20] s20) (fun r21 s21 =>
                      some (.inl none, s21)))
                    else
                    (some (.inl none, s20)))))))
          else
          (if (s3.1 16 i0 14) = 0 then
            (zcI (zrun zP 158 [zR 16 i0, zI r1] s3) (fun r22 s22 =>
              if r22 = 0 then
                (zcV (zrun zP 168 [zR 16 i0, zI 3, zI (s1.1 16 i0 13)] s22) (fun s23 =>
                  zcI (zrun zP 178 [zR 16 i0] s23) (fun r24 s24 =>
                    if (s24.1 16 i0 14) = 0 then
                      (zcI (zrun zP 159 [zR 16 i0, zI r1, zI r2, zI r3, zI r24] s24) (fun r25 s25 =>
                        some (.inl none, s25)))
                      else
                      (some (.inl none, s24)))))
                else
                (zcI (zrun zP 178 [zR 16 i0] s22) (fun r26 s26 =>
                  if (s26.1 16 i0 14) = 0 then
                    (zcI (zrun zP 159 [zR 16 i0, zI r1, zI r2, zI r3, zI r26] s26) (fun r27 s27 =>
                      some (.inl none, s27)))
                    else
                    (some (.inl none, s26))))))
            else
            (zcI (zrun zP 178 [zR 16 i0] s3) (fun r28 s28 =>
              if (s28.1 16 i0 14) = 0 then
                (zcI (zrun zP 159 [zR 16 i0, zI r1, zI r2, zI r3, zI r28] s28) (fun r29 s29 =>
                  some (.inl none, s29)))
                else
                (some (.inl none, s28)))))))
      else
      (zcI (zrun zP 174 [zR 16 i0, zI 0] s2) (fun r30 s30 =>
        if (s30.1 16 i0 14) = 0 then
          (zcI (zrun zP 156 [zR 16 i0, zI r1, zI r2, zI r30] s30) (fun r31 s31 =>
            if r31 = 0 then
              (zcV (zrun zP 168 [zR 16 i0, zI 6, zI (s1.1 16 i0 13)] s31) (fun s32 =>
                if (s32.1 16 i0 14) = 0 then
                  (zcI (zrun zP 158 [zR 16 i0, zI r1] s32) (fun r33 s33 =>
                    if r33 = 0 then
                      (zcV (zrun zP 168 [zR 16 i0, zI 3, zI (s1.1 16 i0 13)] s33) (fun s34 =>
                        zcI (zrun zP 178 [zR 16 i0] s34) (fun r35 s35 =>
                          if (s35.1 16 i0 14) = 0 then
                            (zcI (zrun zP 159 [zR 16 i0, zI r1, zI r2, zI r30, zI r35] s35) (fun r36 s36 =>
                              some (.inl none, s36)))
                            else
                            (some (.inl none, s35)))))
                      else
                      (zcI (zrun zP 178 [zR 16 i0] s33) (fun r37 s37 =>
                        if (s37.1 16 i0 14) = 0 then
                          (zcI (zrun zP 159 [zR 16 i0, zI r1, zI r2, zI r30, zI r37] s37) (fun r38 s38 =>
                            some (.inl none, s38)))
                          else
                          (some (.inl none, s37))))))
                  else
                  (zcI (zrun zP 178 [zR 16 i0] s32) (fun r39 s39 =>
                    if (s39.1 16 i0 14) = 0 then
                      (zcI (zrun zP 159 [zR 16 i0, zI r1, zI r2, zI r30, zI r39] s39) (fun r40 s40 =>
                        some (.inl none, s40)))
                      else
                      (some (.inl none, s39))))))
              else
              (if (s31.1 16 i0 14) = 0 then
                (zcI (zrun zP 158 [zR 16 i0, zI r1] s31) (fun r41 s41 =>
                  if r41 = 0 then
                    (zcV (zrun zP 168 [zR 16 i0, zI 3, zI (s1.1 16 i0 13)] s41) (fun s42 =>
                      zcI (zrun zP 178 [zR 16 i0] s42) (fun r43 s43 =>
                        if (s43.1 16 i0 14) = 0 then
                          (zcI (zrun zP 159 [zR 16 i0, zI r1, zI r2, zI r30, zI r43] s43) (fun r44 s44 =>
                            some (.inl none, s44)))
                          else
                          (some (.inl none, s43)))))
                    else
                    (zcI (zrun zP 178 [zR 16 i0] s41) (fun r45 s45 =>
                      if (s45.1 16 i0 14) = 0 then
                        (zcI (zrun zP 159 [zR 16 i0, zI r1, zI r2, zI r30, zI r45] s45) (fun r46 s46 =>
                          some (.inl none, s46)))
                        else
                        (some (.inl none, s45))))))
                else
                (zcI (zrun zP 178 [zR 16 i0] s31) (fun r47 s47 =>
                  if (s47.1 16 i0 14) = 0 then
                    (zcI (zrun zP 159 [zR 16 i0, zI r1, zI r2, zI r30, zI r47] s47) (fun r48 s48 =>
                      some (.inl none, s48)))
                    else
                    (some (.inl none, s47)))))))
          else
          (if (s30.1 16 i0 14) = 0 then
            (zcI (zrun zP 158 [zR 16 i0, zI r1] s30) (fun r49 s49 =>
              if r49 = 0 then
                (zcV (zrun zP 168 [zR 16 i0, zI 3, zI (s1.1 16 i0 13)] s49) (fun s50 =>
                  zcI (zrun zP 178 [zR 16 i0] s50) (fun r51 s51 =>
                    if (s51.1 16 i0 14) = 0 then
                      (zcI (zrun zP 159 [zR 16 i0, zI r1, zI r2, zI r30, zI r51] s51) (fun r52 s52 =>
                        some (.inl none, s52)))
                      else
                      (some (.inl none, s51)))))
                else
                (zcI (zrun zP 178 [zR 16 i0] s49) (fun r53 s53 =>
                  if (s53.1 16 i0 14) = 0 then
                    (zcI (zrun zP 159 [zR 16 i0, zI r1, zI r2, zI r30, zI r53] s53) (fun r54 s54 =>
                      some (.inl none, s54)))
                    else
                    (some (.inl none, s53))))))
            else
            (zcI (zrun zP 178 [zR 16 i0] s30) (fun r55 s55 =>
              if (s55.1 16 i0 14) = 0 then
                (zcI (zrun zP 159 [zR 16 i0, zI r1, zI r2, zI r30, zI r55] s55) (fun r56 s56 =>
                  some (.inl none, s56)))
                else
                (some (.inl none, s55)))))))))) := (zrun_eq _ _ _).trans ((zun_eq zK_X6_markTold [] 59 _ _).trans rfl)
set_option maxRecDepth 100000 in
theorem e_X6_pointTold (i0 : Nat) (σ : zSt) : zrun zP 180 [zR 16 i0] σ = (
  zcI (zrun zP 176 [zR 16 i0] σ) (fun r1 s1 =>
  zcI (zrun zP 174 [zR 16 i0, zI 0] s1) (fun r2 s2 =>
    if (s2.1 16 i0 14) = 0 then
      (zcI (zrun zP 160 [zR 16 i0, zI r1, zI r2] s2) (fun r3 s3 =>
        if r3 = 0 then
          (zcV (zrun zP 168 [zR 16 i0, zI 6, zI (s1.1 16 i0 13)] s3) (fun s4 =>
            if (s4.1 16 i0 14) = 0 then
              (zcI (zrun zP 142 [zR 16 i0, zI r1] s4) (fun r5 s5 =>
                if r5 = 40 then
                  (zcV (zrun zP 168 [zR 16 i0, zI 3, zI (s1.1 16 i0 13)] s5) (fun s6 =>
                    zcI (zrun zP 178 [zR 16 i0] s6) (fun r7 s7 =>
                      if (s7.1 16 i0 14) = 0 then
                        (zcI (zrun zP 153 [zR 16 i0, zI r1, zI r2, zI r2, zI r7] s7) (fun r8 s8 =>
                          some (.inl none, s8)))
                        else
                        (some (.inl none, s7)))))
                  else
                  (zcI (zrun zP 178 [zR 16 i0] s5) (fun r9 s9 =>
                    if (s9.1 16 i0 14) = 0 then
                      (zcI (zrun zP 153 [zR 16 i0, zI r1, zI r2, zI r2, zI r9] s9) (fun r10 s10 =>
                        some (.inl none, s10)))
                      else
                      (some (.inl none, s9))))))
              else
              (zcI (zrun zP 178 [zR 16 i0] s4) (fun r11 s11 =>
                if (s11.1 16 i0 14) = 0 then
                  (zcI (zrun zP 153 [zR 16 i0, zI r1, zI r2, zI r2, zI r11] s11) (fun r12 s12 =>
                    some (.inl none, s12)))
                  else
                  (some (.inl none, s11))))))
          else
          (if (s3.1 16 i0 14) = 0 then
            (zcI (zrun zP 142 [zR 16 i0, zI r1] s3) (fun r13 s13 =>
              if r13 = 40 then
                (zcV (zrun zP 168 [zR 16 i0, zI 3, zI (s1.1 16 i0 13)] s13) (fun s14 =>
                  zcI (zrun zP 178 [zR 16 i0] s14) (fun r15 s15 =>
                    if (s15.1 16 i0 14) = 0 then
                      (zcI (zrun zP 153 [zR 16 i0, zI r1, zI r2, zI r2, zI r15] s15) (fun r16 s16 =>
                        some (.inl none, s16)))
                      else
                      (some (.inl none, s15)))))
                else
                (zcI (zrun zP 178 [zR 16 i0] s13) (fun r17 s17 =>
                  if (s17.1 16 i0 14) = 0 then
                    (zcI (zrun zP 153 [zR 16 i0, zI r1, zI r2, zI r2, zI r17] s17) (fun r18 s18 =>
                      some (.inl none, s18)))
                    else
                    (some (.inl none, s17))))))
            else
            (zcI (zrun zP 178 [zR 16 i0] s3) (fun r19 s19 =>
              if (s19.1 16 i0 14) = 0 then
                (zcI (zrun zP 153 [zR 16 i0, zI r1, zI r2, zI r2, zI r19] s19) (fun r20 s20 =>
                  some (.inl none, s20)))
                else
                (some (.inl none, s19)))))))
      else
      (if (s2.1 16 i0 14) = 0 then
        (zcI (zrun zP 142 [zR 16 i0, zI r1] s2) (fun r21 s21 =>
          if r21 = 40 then
            (zcV (zrun zP 168 [zR 16 i0, zI 3, zI (s1.1 16 i0 13)] s21) (fun s22 =>
              zcI (zrun zP 178 [zR 16 i0] s22) (fun r23 s23 =>
                if (s23.1 16 i0 14) = 0 then
                  (zcI (zrun zP 153 [zR 16 i0, zI r1, zI r2, zI r2, zI r23] s23) (fun r24 s24 =>
                    some (.inl none, s24)))
                  else
                  (some (.inl none, s23)))))
            else
            (zcI (zrun zP 178 [zR 16 i0] s21) (fun r25 s25 =>
              if (s25.1 16 i0 14) = 0 then
                (zcI (zrun zP 153 [zR 16 i0, zI r1, zI r2, zI r2, zI r25] s25) (fun r26 s26 =>
                  some (.inl none, s26)))
                else
                (some (.inl none, s25))))))
        else
        (zcI (zrun zP 178 [zR 16 i0] s2) (fun r27 s27 =>
          if (s27.1 16 i0 14) = 0 then
            (zcI (zrun zP 153 [zR 16 i0, zI r1, zI r2, zI r2, zI r27] s27) (fun r28 s28 =>
              some (.inl none, s28)))
            else
            (some (.inl none, s27)))))))) := (zrun_eq _ _ _).trans ((zun_eq zK_X6_pointTold [] 49 _ _).trans rfl)
set_option maxRecDepth 100000 in
theorem e_X6_splitTold (i0 : Nat) (σ : zSt) : zrun zP 181 [zR 16 i0] σ = (
  zcI (zrun zP 176 [zR 16 i0] σ) (fun r1 s1 =>
  zcI (zrun zP 174 [zR 16 i0, zI 0] s1) (fun r2 s2 =>
    if (s2.1 16 i0 14) = 0 then
      (zcI (zrun zP 140 [zR 16 i0, zI r1] s2) (fun r3 s3 =>
        if r3 = 3 then
          (zcV (zrun zP 168 [zR 16 i0, zI 6, zI (s1.1 16 i0 13)] s3) (fun s4 =>
            if (s4.1 16 i0 14) = 0 then
              (zcI (zrun zP 163 [zR 16 i0, zI r1, zI r2] s4) (fun r5 s5 =>
                if r5 = 0 then
                  (zcV (zrun zP 168 [zR 16 i0, zI 3, zI (s1.1 16 i0 13)] s5) (fun s6 =>
                    zcI (zrun zP 173 [zR 16 i0] s6) (fun r7 s7 =>
                      zcI (zrun zP 178 [zR 16 i0] s7) (fun r8 s8 =>
                        if (0 : Int32) < (s8.1 16 i0 14) then
                          (some (.inl none, s8))
                          else
                          (zcI (zrun zP 162 [zR 16 i0, zI r1, zI r2] s8) (fun r9 s9 =>
                            zcI (zrun zP 165 [zR 16 i0, zI r1, zI r2] s9) (fun r10 s10 =>
                              if r7 = 0 then
                                (some (.inl none, s10))
                                else
                                (zcI (zrun zP 143 [zI r1, zI (r9 + 1), zI 2] s10) (fun r11 s11 =>
                                  if r11 < 0 ∨ 745 ≤ Int32.toNatClampNeg r11 then
                                    (none)
                                    else
                                    (some (.inl none, (zms s11.1 31 0 (Int32.toNatClampNeg r11) r8, s11.2))))))))))))
                  else
                  (zcI (zrun zP 173 [zR 16 i0] s5) (fun r12 s12 =>
                    zcI (zrun zP 178 [zR 16 i0] s12) (fun r13 s13 =>
                      if (0 : Int32) < (s13.1 16 i0 14) then
                        (some (.inl none, s13))
                        else
                        (zcI (zrun zP 162 [zR 16 i0, zI r1, zI r2] s13) (fun r14 s14 =>
                          zcI (zrun zP 165 [zR 16 i0, zI r1, zI r2] s14) (fun r15 s15 =>
                            if r12 = 0 then
                              (some (.inl none, s15))
                              else
                              (zcI (zrun zP 143 [zI r1, zI (r14 + 1), zI 2] s15) (fun r16 s16 =>
                                if r16 < 0 ∨ 745 ≤ Int32.toNatClampNeg r16 then
                                  (none)
                                  else
                                  (some (.inl none, (zms s16.1 31 0 (Int32.toNatClampNeg r16) r13, s16.2)))))))))))))
              else
              (zcI (zrun zP 173 [zR 16 i0] s4) (fun r17 s17 =>
                zcI (zrun zP 178 [zR 16 i0] s17) (fun r18 s18 =>
                  if (0 : Int32) < (s18.1 16 i0 14) then
                    (some (.inl none, s18))
                    else
                    (zcI (zrun zP 162 [zR 16 i0, zI r1, zI r2] s18) (fun r19 s19 =>
                      zcI (zrun zP 165 [zR 16 i0, zI r1, zI r2] s19) (fun r20 s20 =>
                        if r17 = 0 then
                          (some (.inl none, s20))
                          else
                          (zcI (zrun zP 143 [zI r1, zI (r19 + 1), zI 2] s20) (fun r21 s21 =>
                            if r21 < 0 ∨ 745 ≤ Int32.toNatClampNeg r21 then
                              (none)
                              else
                              (some (.inl none, (zms s21.1 31 0 (Int32.toNatClampNeg r21) r18, s21.2)))))))))))))
          else
          (zcI (zrun zP 162 [zR 16 i0, zI r1, zI r2] s3) (fun r22 s22 =>
            if r22 = (-1) then
              (zcV (zrun zP 168 [zR 16 i0, zI 6, zI (s1.1 16 i0 13)] s22) (fun s23 =>
                if (s23.1 16 i0 14) = 0 then
                  (zcI (zrun zP 163 [zR 16 i0, zI r1, zI r2] s23) (fun r24 s24 =>
                    if r24 = 0 then
                      (zcV (zrun zP 168 [zR 16 i0, zI 3, zI (s1.1 16 i0 13)] s24) (fun s25 =>
                        zcI (zrun zP 173 [zR 16 i0] s25) (fun r26 s26 =>
                          zcI (zrun zP 178 [zR 16 i0] s26) (fun r27 s27 =>
                            if (0 : Int32) < (s27.1 16 i0 14) then
                              (some (.inl none, s27))
                              else
                              (zcI (zrun zP 162 [zR 16 i0, zI r1, zI r2] s27) (fun r28 s28 =>
                                zcI (zrun zP 165 [zR 16 i0, zI r1, zI r2] s28) (fun r29 s29 =>
                                  if r26 = 0 then
                                    (some (.inl none, s29))
                                    else
                                    (zcI (zrun zP 143 [zI r1, zI (r28 + 1), zI 2] s29) (fun r30 s30 =>
                                      if r30 < 0 ∨ 745 ≤ Int32.toNatClampNeg r30 then
                                        (none)
                                        else
                                        (some (.inl none, (zms s30.1 31 0 (Int32.toNatClampNeg r30) r27, s30.2))))))))))))
                      else
                      (zcI (zrun zP 173 [zR 16 i0] s24) (fun r31 s31 =>
                        zcI (zrun zP 178 [zR 16 i0] s31) (fun r32 s32 =>
                          if (0 : Int32) < (s32.1 16 i0 14) then
                            (some (.inl none, s32))
                            else
                            (zcI (zrun zP 162 [zR 16 i0, zI r1, zI r2] s32) (fun r33 s33 =>
                              zcI (zrun zP 165 [zR 16 i0, zI r1, zI r2] s33) (fun r34 s34 =>
                                if r31 = 0 then
                                  (some (.inl none, s34))
                                  else
                                  (zcI (zrun zP 143 [zI r1, zI (r33 + 1), zI 2] s34) (fun r35 s35 =>
                                    if r35 < 0 ∨ 745 ≤ Int32.toNatClampNeg r35 then
                                      (none)
                                      else
                                      (some (.inl none, (zms s35.1 31 0 (Int32.toNatClampNeg r35) r32, s35.2)))))))))))))
                  else
                  (zcI (zrun zP 173 [zR 16 i0] s23) (fun r36 s36 =>
                    zcI (zrun zP 178 [zR 16 i0] s36) (fun r37 s37 =>
                      if (0 : Int32) < (s37.1 16 i0 14) then
                        (some (.inl none, s37))
                        else
                        (zcI (zrun zP 162 [zR 16 i0, zI r1, zI r2] s37) (fun r38 s38 =>
                          zcI (zrun zP 165 [zR 16 i0, zI r1, zI r2] s38) (fun r39 s39 =>
                            if r36 = 0 then
                              (some (.inl none, s39))
                              else
                              (zcI (zrun zP 143 [zI r1, zI (r38 + 1), zI 2] s39) (fun r40 s40 =>
                                if r40 < 0 ∨ 745 ≤ Int32.toNatClampNeg r40 then
                                  (none)
                                  else
                                  (some (.inl none, (zms s40.1 31 0 (Int32.toNatClampNeg r40) r37, s40.2)))))))))))))
              else
              (zcI (zrun zP 161 [zR 16 i0, zI r1, zI r2] s22) (fun r41 s41 =>
                if r41 = 0 then
                  (zcV (zrun zP 168 [zR 16 i0, zI 6, zI (s1.1 16 i0 13)] s41) (fun s42 =>
                    if (s42.1 16 i0 14) = 0 then
                      (zcI (zrun zP 163 [zR 16 i0, zI r1, zI r2] s42) (fun r43 s43 =>
                        if r43 = 0 then
                          (zcV (zrun zP 168 [zR 16 i0, zI 3, zI (s1.1 16 i0 13)] s43) (fun s44 =>
                            zcI (zrun zP 173 [zR 16 i0] s44) (fun r45 s45 =>
                              zcI (zrun zP 178 [zR 16 i0] s45) (fun r46 s46 =>
                                if (0 : Int32) < (s46.1 16 i0 14) then
                                  (some (.inl none, s46))
                                  else
                                  (zcI (zrun zP 162 [zR 16 i0, zI r1, zI r2] s46) (fun r47 s47 =>
                                    zcI (zrun zP 165 [zR 16 i0, zI r1, zI r2] s47) (fun r48 s48 =>
                                      if r45 = 0 then
                                        (some (.inl none, s48))
                                        else
                                        (zcI (zrun zP 143 [zI r1, zI (r47 + 1), zI 2] s48) (fun r49 s49 =>
                                          if r49 < 0 ∨ 745 ≤ Int32.toNatClampNeg r49 then
                                            (none)
                                            else
                                            (some (.inl none, (zms s49.1 31 0 (Int32.toNatClampNeg r49) r46, s49.2))))))))))))
                          else
                          (zcI (zrun zP 173 [zR 16 i0] s43) (fun r50 s50 =>
                            zcI (zrun zP 178 [zR 16 i0] s50) (fun r51 s51 =>
                              if (0 : Int32) < (s51.1 16 i0 14) then
                                (some (.inl none, s51))
                                else
                                (zcI (zrun zP 162 [zR 16 i0, zI r1, zI r2] s51) (fun r52 s52 =>
                                  zcI (zrun zP 165 [zR 16 i0, zI r1, zI r2] s52) (fun r53 s53 =>
                                    if r50 = 0 then
                                      (some (.inl none, s53))
                                      else
                                      (zcI (zrun zP 143 [zI r1, zI (r52 + 1), zI 2] s53) (fun r54 s54 =>
                                        if r54 < 0 ∨ 745 ≤ Int32.toNatClampNeg r54 then
                                          (none)
                                          else
                                          (some (.inl none, (zms s54.1 31 0 (Int32.toNatClampNeg r54) r51, s54.2)))))))))))))
                      else
                      (zcI (zrun zP 173 [zR 16 i0] s42) (fun r55 s55 =>
                        zcI (zrun zP 178 [zR 16 i0] s55) (fun r56 s56 =>
                          if (0 : Int32) < (s56.1 16 i0 14) then
                            (some (.inl none, s56))
                            else
                            (zcI (zrun zP 162 [zR 16 i0, zI r1, zI r2] s56) (fun r57 s57 =>
                              zcI (zrun zP 165 [zR 16 i0, zI r1, zI r2] s57) (fun r58 s58 =>
                                if r55 = 0 then
                                  (some (.inl none, s58))
                                  else
                                  (zcI (zrun zP 143 [zI r1, zI (r57 + 1), zI 2] s58) (fun r59 s59 =>
                                    if r59 < 0 ∨ 745 ≤ Int32.toNatClampNeg r59 then
                                      (none)
                                      else
                                      (some (.inl none, (zms s59.1 31 0 (Int32.toNatClampNeg r59) r56, s59.2)))))))))))))
                  else
                  (if (s41.1 16 i0 14) = 0 then
                    (zcI (zrun zP 163 [zR 16 i0, zI r1, zI r2] s41) (fun r60 s60 =>
                      if r60 = 0 then
                        (zcV (zrun zP 168 [zR 16 i0, zI 3, zI (s1.1 16 i0 13)] s60) (fun s61 =>
                          zcI (zrun zP 173 [zR 16 i0] s61) (fun r62 s62 =>
                            zcI (zrun zP 178 [zR 16 i0] s62) (fun r63 s63 =>
                              if (0 : Int32) < (s63.1 16 i0 14) then
                                (some (.inl none, s63))
                                else
                                (zcI (zrun zP 162 [zR 16 i0, zI r1, zI r2] s63) (fun r64 s64 =>
                                  zcI (zrun zP 165 [zR 16 i0, zI r1, zI r2] s64) (fun r65 s65 =>
                                    if r62 = 0 then
                                      (some (.inl none, s65))
                                      else
                                      (zcI (zrun zP 143 [zI r1, zI (r64 + 1), zI 2] s65) (fun r66 s66 =>
                                        if r66 < 0 ∨ 745 ≤ Int32.toNatClampNeg r66 then
                                          (none)
                                          else
                                          (some (.inl none, (zms s66.1 31 0 (Int32.toNatClampNeg r66) r63, s66.2))))))))))))
                        else
                        (zcI (zrun zP 173 [zR 16 i0] s60) (fun r67 s67 =>
                          zcI (zrun zP 178 [zR 16 i0] s67) (fun r68 s68 =>
                            if (0 : Int32) < (s68.1 16 i0 14) then
                              (some (.inl none, s68))
                              else
                              (zcI (zrun zP 162 [zR 16 i0, zI r1, zI r2] s68) (fun r69 s69 =>
                                zcI (zrun zP 165 [zR 16 i0, zI r1, zI r2] s69) (fun r70 s70 =>
                                  if r67 = 0 then
                                    (some (.inl none, s70))
                                    else
                                    (zcI (zrun zP 143 [zI r1, zI (r69 + 1), zI 2] s70) (fun r71 s71 =>
                                      if r71 < 0 ∨ 745 ≤ Int32.toNatClampNeg r71 then
                                        (none)
                                        else
                                        (some (.inl none, (zms s71.1 31 0 (Int32.toNatClampNeg r71) r68, s71.2)))))))))))))
                    else
                    (zcI (zrun zP 173 [zR 16 i0] s41) (fun r72 s72 =>
                      zcI (zrun zP 178 [zR 16 i0] s72) (fun r73 s73 =>
                        if (0 : Int32) < (s73.1 16 i0 14) then
                          (some (.inl none, s73))
                          else
                          (zcI (zrun zP 162 [zR 16 i0, zI r1, zI r2] s73) (fun r74 s74 =>
                            zcI (zrun zP 165 [zR 16 i0, zI r1, zI r2] s74) (fun r75 s75 =>
                              if r72 = 0 then
                                (some (.inl none, s75))
                                else
                                (zcI (zrun zP 143 [zI r1, zI (r74 + 1), zI 2] s75) (fun r76 s76 =>
                                  if r76 < 0 ∨ 745 ≤ Int32.toNatClampNeg r76 then
                                    (none)
                                    else
                                    (some (.inl none, (zms s76.1 31 0 (Int32.toNatClampNeg r76) r73, s76.2))))))))))))))))))
      else
      (if (s2.1 16 i0 14) = 0 then
        (zcI (zrun zP 163 [zR 16 i0, zI r1, zI r2] s2) (fun r77 s77 =>
          if r77 = 0 then
            (zcV (zrun zP 168 [zR 16 i0, zI 3, zI (s1.1 16 i0 13)] s77) (fun s78 =>
              zcI (zrun zP 173 [zR 16 i0] s78) (fun r79 s79 =>
                zcI (zrun zP 178 [zR 16 i0] s79) (fun r80 s80 =>
                  if (0 : Int32) < (s80.1 16 i0 14) then
                    (some (.inl none, s80))
                    else
                    (zcI (zrun zP 162 [zR 16 i0, zI r1, zI r2] s80) (fun r81 s81 =>
                      zcI (zrun zP 165 [zR 16 i0, zI r1, zI r2] s81) (fun r82 s82 =>
                        if r79 = 0 then
                          (some (.inl none, s82))
                          else
                          (zcI (zrun zP 143 [zI r1, zI (r81 + 1), zI 2] s82) (fun r83 s83 =>
                            if r83 < 0 ∨ 745 ≤ Int32.toNatClampNeg r83 then
                              (none)
                              else
                              (some (.inl none, (zms s83.1 31 0 (Int32.toNatClampNeg r83) r80, s83.2))))))))))))
            else
            (zcI (zrun zP 173 [zR 16 i0] s77) (fun r84 s84 =>
              zcI (zrun zP 178 [zR 16 i0] s84) (fun r85 s85 =>
                if (0 : Int32) < (s85.1 16 i0 14) then
                  (some (.inl none, s85))
                  else
                  (zcI (zrun zP 162 [zR 16 i0, zI r1, zI r2] s85) (fun r86 s86 =>
                    zcI (zrun zP 165 [zR 16 i0, zI r1, zI r2] s86) (fun r87 s87 =>
                      if r84 = 0 then
                        (some (.inl none, s87))
                        else
                        (zcI (zrun zP 143 [zI r1, zI (r86 + 1), zI 2] s87) (fun r88 s88 =>
                          if r88 < 0 ∨ 745 ≤ Int32.toNatClampNeg r88 then
                            (none)
                            else
                            (some (.inl none, (zms s88.1 31 0 (Int32.toNatClampNeg r88) r85, s88.2)))))))))))))
        else
        (zcI (zrun zP 173 [zR 16 i0] s2) (fun r89 s89 =>
          zcI (zrun zP 178 [zR 16 i0] s89) (fun r90 s90 =>
            if (0 : Int32) < (s90.1 16 i0 14) then
              (some (.inl none, s90))
              else
              (zcI (zrun zP 162 [zR 16 i0, zI r1, zI r2] s90) (fun r91 s91 =>
                zcI (zrun zP 165 [zR 16 i0, zI r1, zI r2] s91) (fun r92 s92 =>
                  if r89 = 0 then
                    (some (.inl none, s92))
                    else
                    (zcI (zrun zP 143 [zI r1, zI (r91 + 1), zI 2] s92) (fun r93 s93 =>
                      if r93 < 0 ∨ 745 ≤ Int32.toNatClampNeg r93 then
                        (none)
                        else
                        (some (.inl none, (zms s93.1 31 0 (Int32.toNatClampNeg r93) r90, s93.2))))))))))))))) := (zrun_eq _ _ _).trans ((zun_eq zK_X6_splitTold [] 78 _ _).trans rfl)
set_option maxRecDepth 100000 in
theorem e_X6_markAt_2 (i0 : Nat) (x1 : Int32) (x2 : Int32) (x3 : Int32) (σ : zSt) : zX zP zK_X6_markAt (2, [zR 16 i0, zI x1, zI x2, zI x3], []) σ = (
  zcI (zrun zP 142 [zR 16 i0, zI x1] σ) (fun r1 s1 =>
  if x3 < r1 then
    (zcI (zrun zP 144 [zR 16 i0, zI x1, zI x3] s1) (fun r2 s2 =>
      if r2 = x2 then
        (some (.inl (some (zI x3)), s2))
        else
        (zcI (zrun zP 144 [zR 16 i0, zI x1, zI x3] s2) (fun r3 s3 =>
          if r3 < x2 then
            (zcI (zrun zP 145 [zR 16 i0, zI x1, zI x3] s3) (fun r4 s4 =>
              if x2 < r4 then
                (some (.inl (some (zI x3)), s4))
                else
                (zX zP zK_X6_markAt (2, [zR 16 i0, zI x1, zI x2, zI (x3 + 1)], []) s4)))
            else
            (zX zP zK_X6_markAt (2, [zR 16 i0, zI x1, zI x2, zI (x3 + 1)], []) s3)))))
    else
    (some (.inl (some (zI (-1))), s1)))) := (zun_eq zK_X6_markAt [2] 26 _ _).trans rfl
set_option maxRecDepth 100000 in
theorem e_X6_markAt (i0 : Nat) (x1 : Int32) (x2 : Int32) (σ : zSt) : zrun zP 182 [zR 16 i0, zI x1, zI x2] σ = (
  zX zP zK_X6_markAt (2, [zR 16 i0, zI x1, zI x2, zI 0], []) σ) := (zrun_eq _ _ _).trans ((zun_eq zK_X6_markAt [2] 3 _ _).trans rfl)
set_option maxRecDepth 100000 in
theorem e_X6_labelTold (i0 : Nat) (σ : zSt) : zrun zP 183 [zR 16 i0] σ = (
  zcI (zrun zP 176 [zR 16 i0] σ) (fun r1 s1 =>
  zcI (zrun zP 174 [zR 16 i0, zI 0] s1) (fun r2 s2 =>
    if (s2.1 16 i0 14) = 0 then
      (zcI (zrun zP 182 [zR 16 i0, zI r1, zI r2] s2) (fun r3 s3 =>
        if r3 = (-1) then
          (zcV (zrun zP 168 [zR 16 i0, zI 6, zI (s1.1 16 i0 13)] s3) (fun s4 =>
            if (s4.1 16 i0 14) = 0 then
              (zcI (zrun zP 172 [zR 16 i0, zI 4, zI 0] s4) (fun r5 s5 =>
                if (s5.1 16 i0 14) = 0 then
                  (zcI (zrun zP 182 [zR 16 i0, zI r1, zI r2] s5) (fun r6 s6 =>
                    zcI (zrun zP 143 [zI r1, zI r6, zI 2] s6) (fun r7 s7 =>
                      if r7 < 0 ∨ 745 ≤ Int32.toNatClampNeg r7 then
                        (none)
                        else
                        (some (.inl none, (zms s7.1 31 0 (Int32.toNatClampNeg r7) r5, s7.2))))))
                  else
                  (some (.inl none, s5))))
              else
              (if (s4.1 16 i0 14) = 0 then
                (zcI (zrun zP 182 [zR 16 i0, zI r1, zI r2] s4) (fun r8 s8 =>
                  zcI (zrun zP 143 [zI r1, zI r8, zI 2] s8) (fun r9 s9 =>
                    if r9 < 0 ∨ 745 ≤ Int32.toNatClampNeg r9 then
                      (none)
                      else
                      (some (.inl none, (zms s9.1 31 0 (Int32.toNatClampNeg r9) 0, s9.2))))))
                else
                (some (.inl none, s4)))))
          else
          (if (s3.1 16 i0 14) = 0 then
            (zcI (zrun zP 172 [zR 16 i0, zI 4, zI 0] s3) (fun r10 s10 =>
              if (s10.1 16 i0 14) = 0 then
                (zcI (zrun zP 182 [zR 16 i0, zI r1, zI r2] s10) (fun r11 s11 =>
                  zcI (zrun zP 143 [zI r1, zI r11, zI 2] s11) (fun r12 s12 =>
                    if r12 < 0 ∨ 745 ≤ Int32.toNatClampNeg r12 then
                      (none)
                      else
                      (some (.inl none, (zms s12.1 31 0 (Int32.toNatClampNeg r12) r10, s12.2))))))
                else
                (some (.inl none, s10))))
            else
            (if (s3.1 16 i0 14) = 0 then
              (zcI (zrun zP 182 [zR 16 i0, zI r1, zI r2] s3) (fun r13 s13 =>
                zcI (zrun zP 143 [zI r1, zI r13, zI 2] s13) (fun r14 s14 =>
                  if r14 < 0 ∨ 745 ≤ Int32.toNatClampNeg r14 then
                    (none)
                    else
                    (some (.inl none, (zms s14.1 31 0 (Int32.toNatClampNeg r14) 0, s14.2))))))
              else
              (some (.inl none, s3))))))
      else
      (if (s2.1 16 i0 14) = 0 then
        (zcI (zrun zP 172 [zR 16 i0, zI 4, zI 0] s2) (fun r15 s15 =>
          if (s15.1 16 i0 14) = 0 then
            (zcI (zrun zP 182 [zR 16 i0, zI r1, zI r2] s15) (fun r16 s16 =>
              zcI (zrun zP 143 [zI r1, zI r16, zI 2] s16) (fun r17 s17 =>
                if r17 < 0 ∨ 745 ≤ Int32.toNatClampNeg r17 then
                  (none)
                  else
                  (some (.inl none, (zms s17.1 31 0 (Int32.toNatClampNeg r17) r15, s17.2))))))
            else
            (some (.inl none, s15))))
        else
        (if (s2.1 16 i0 14) = 0 then
          (zcI (zrun zP 182 [zR 16 i0, zI r1, zI r2] s2) (fun r18 s18 =>
            zcI (zrun zP 143 [zI r1, zI r18, zI 2] s18) (fun r19 s19 =>
              if r19 < 0 ∨ 745 ≤ Int32.toNatClampNeg r19 then
                (none)
                else
                (some (.inl none, (zms s19.1 31 0 (Int32.toNatClampNeg r19) 0, s19.2))))))
          else
          (some (.inl none, s2))))))) := (zrun_eq _ _ _).trans ((zun_eq zK_X6_labelTold [] 48 _ _).trans rfl)
set_option maxRecDepth 100000 in
theorem e_X6_oneLine (i0 : Nat) (σ : zSt) : zrun zP 184 [zR 16 i0] σ = (
  zcI (zrun zP 171 [zR 16 i0, zR 1 0] σ) (fun r1 s1 =>
  if r1 = 0 then
    (zcI (zrun zP 171 [zR 16 i0, zR 1 5] s1) (fun r2 s2 =>
      if r2 = 0 then
        (zcI (zrun zP 171 [zR 16 i0, zR 1 6] s2) (fun r3 s3 =>
          if r3 = 0 then
            (zcI (zrun zP 171 [zR 16 i0, zR 1 7] s3) (fun r4 s4 =>
              if r4 = 0 then
                (zcI (zrun zP 171 [zR 16 i0, zR 1 8] s4) (fun r5 s5 =>
                  if r5 = 0 then
                    (zcV (zrun zP 168 [zR 16 i0, zI 1, zI (s5.1 16 i0 12)] s5) (fun s6 =>
                      if (s6.1 16 i0 14) = 0 then
                        (zcI (zrun zP 169 [zR 16 i0] s6) (fun r7 s7 =>
                          if r7 = 59 then
                            (if (s7.1 16 i0 12) = (s7.1 16 i0 11) then
                              (zcV (zrun zP 168 [zR 16 i0, zI 1, zI (s7.1 16 i0 12)] s7) (fun s8 =>
                                some (.inl none, (zms s8.1 16 i0 12 ((s8.1 16 i0 12) + 1), s8.2))))
                              else
                              (some (.inl none, (zms s7.1 16 i0 12 ((s7.1 16 i0 12) + 1), s7.2))))
                            else
                            (zcV (zrun zP 168 [zR 16 i0, zI 1, zI (s7.1 16 i0 12)] s7) (fun s9 =>
                              some (.inl none, (zms s9.1 16 i0 12 ((s9.1 16 i0 12) + 1), s9.2))))))
                        else
                        (some (.inl none, (zms s6.1 16 i0 12 ((s6.1 16 i0 12) + 1), s6.2)))))
                    else
                    (zcV (zrun zP 183 [zR 16 i0] s5) (fun s10 =>
                      if (s10.1 16 i0 14) = 0 then
                        (zcI (zrun zP 169 [zR 16 i0] s10) (fun r11 s11 =>
                          if r11 = 59 then
                            (if (s11.1 16 i0 12) = (s11.1 16 i0 11) then
                              (zcV (zrun zP 168 [zR 16 i0, zI 1, zI (s11.1 16 i0 12)] s11) (fun s12 =>
                                some (.inl none, (zms s12.1 16 i0 12 ((s12.1 16 i0 12) + 1), s12.2))))
                              else
                              (some (.inl none, (zms s11.1 16 i0 12 ((s11.1 16 i0 12) + 1), s11.2))))
                            else
                            (zcV (zrun zP 168 [zR 16 i0, zI 1, zI (s11.1 16 i0 12)] s11) (fun s13 =>
                              some (.inl none, (zms s13.1 16 i0 12 ((s13.1 16 i0 12) + 1), s13.2))))))
                        else
                        (some (.inl none, (zms s10.1 16 i0 12 ((s10.1 16 i0 12) + 1), s10.2)))))))
                else
                (zcV (zrun zP 181 [zR 16 i0] s4) (fun s14 =>
                  if (s14.1 16 i0 14) = 0 then
                    (zcI (zrun zP 169 [zR 16 i0] s14) (fun r15 s15 =>
                      if r15 = 59 then
                        (if (s15.1 16 i0 12) = (s15.1 16 i0 11) then
                          (zcV (zrun zP 168 [zR 16 i0, zI 1, zI (s15.1 16 i0 12)] s15) (fun s16 =>
                            some (.inl none, (zms s16.1 16 i0 12 ((s16.1 16 i0 12) + 1), s16.2))))
                          else
                          (some (.inl none, (zms s15.1 16 i0 12 ((s15.1 16 i0 12) + 1), s15.2))))
                        else
                        (zcV (zrun zP 168 [zR 16 i0, zI 1, zI (s15.1 16 i0 12)] s15) (fun s17 =>
                          some (.inl none, (zms s17.1 16 i0 12 ((s17.1 16 i0 12) + 1), s17.2))))))
                    else
                    (some (.inl none, (zms s14.1 16 i0 12 ((s14.1 16 i0 12) + 1), s14.2)))))))
            else
            (zcV (zrun zP 180 [zR 16 i0] s3) (fun s18 =>
              if (s18.1 16 i0 14) = 0 then
                (zcI (zrun zP 169 [zR 16 i0] s18) (fun r19 s19 =>
                  if r19 = 59 then
                    (if (s19.1 16 i0 12) = (s19.1 16 i0 11) then
                      (zcV (zrun zP 168 [zR 16 i0, zI 1, zI (s19.1 16 i0 12)] s19) (fun s20 =>
                        some (.inl none, (zms s20.1 16 i0 12 ((s20.1 16 i0 12) + 1), s20.2))))
                      else
                      (some (.inl none, (zms s19.1 16 i0 12 ((s19.1 16 i0 12) + 1), s19.2))))
                    else
                    (zcV (zrun zP 168 [zR 16 i0, zI 1, zI (s19.1 16 i0 12)] s19) (fun s21 =>
                      some (.inl none, (zms s21.1 16 i0 12 ((s21.1 16 i0 12) + 1), s21.2))))))
                else
                (some (.inl none, (zms s18.1 16 i0 12 ((s18.1 16 i0 12) + 1), s18.2)))))))
        else
        (zcV (zrun zP 179 [zR 16 i0] s2) (fun s22 =>
          if (s22.1 16 i0 14) = 0 then
            (zcI (zrun zP 169 [zR 16 i0] s22) (fun r23 s23 =>
              if r23 = 59 then
                (if (s23.1 16 i0 12) = (s23.1 16 i0 11) then
                  (zcV (zrun zP 168 [zR 16 i0, zI 1, zI (s23.1 16 i0 12)] s23) (fun s24 =>
                    some (.inl none, (zms s24.1 16 i0 12 ((s24.1 16 i0 12) + 1), s24.2))))
                  else
                  (some (.inl none, (zms s23.1 16 i0 12 ((s23.1 16 i0 12) + 1), s23.2))))
                else
                (zcV (zrun zP 168 [zR 16 i0, zI 1, zI (s23.1 16 i0 12)] s23) (fun s25 =>
                  some (.inl none, (zms s25.1 16 i0 12 ((s25.1 16 i0 12) + 1), s25.2))))))
            else
            (some (.inl none, (zms s22.1 16 i0 12 ((s22.1 16 i0 12) + 1), s22.2)))))))
    else
    (zcV (zrun zP 177 [zR 16 i0, zI (s1.1 16 i0 13)] s1) (fun s26 =>
      if (s26.1 16 i0 14) = 0 then
        (zcI (zrun zP 169 [zR 16 i0] s26) (fun r27 s27 =>
          if r27 = 59 then
            (if (s27.1 16 i0 12) = (s27.1 16 i0 11) then
              (zcV (zrun zP 168 [zR 16 i0, zI 1, zI (s27.1 16 i0 12)] s27) (fun s28 =>
                some (.inl none, (zms s28.1 16 i0 12 ((s28.1 16 i0 12) + 1), s28.2))))
              else
              (some (.inl none, (zms s27.1 16 i0 12 ((s27.1 16 i0 12) + 1), s27.2))))
            else
            (zcV (zrun zP 168 [zR 16 i0, zI 1, zI (s27.1 16 i0 12)] s27) (fun s29 =>
              some (.inl none, (zms s29.1 16 i0 12 ((s29.1 16 i0 12) + 1), s29.2))))))
        else
        (some (.inl none, (zms s26.1 16 i0 12 ((s26.1 16 i0 12) + 1), s26.2))))))) := (zrun_eq _ _ _).trans ((zun_eq zK_X6_oneLine [] 50 _ _).trans rfl)
set_option maxRecDepth 100000 in
theorem e_X6_allMarks_4 (i0 : Nat) (k1 i1 : Nat) (x2 : Int32) (x3 : Int32) (σ : zSt) : zX zP zK_X6_allMarks (4, [zR 16 i0, zR (k1 + 1) i1, zI x2, zI x3], []) σ = (
  if (0 : Int32) < 0 ∨ zlenI (k1 + 1) i1 ≤ Int32.toNatClampNeg 0 then
  (none)
  else
  (if x3 < (σ.1 (k1 + 1) i1 (Int32.toNatClampNeg 0)) then
    (zcI (zrun zP 139 [zI x3, zI 2] σ) (fun r1 s1 =>
      if r1 < 0 ∨ zlenI (k1 + 1) i1 ≤ Int32.toNatClampNeg r1 then
        (none)
        else
        (zX zP zK_X6_allMarks (4, [zR 16 i0, zR (k1 + 1) i1, zI (x2 + (s1.1 (k1 + 1) i1 (Int32.toNatClampNeg r1))), zI (x3 + 1)], []) s1)))
    else
    (some (.inl (some (zI x2)), σ)))) := (zun_eq zK_X6_allMarks [4] 16 _ _).trans rfl
set_option maxRecDepth 100000 in
theorem e_X6_allMarks (i0 : Nat) (k1 i1 : Nat) (σ : zSt) : zrun zP 185 [zR 16 i0, zR (k1 + 1) i1] σ = (
  zX zP zK_X6_allMarks (4, [zR 16 i0, zR (k1 + 1) i1, zI 0, zI 0], []) σ) := (zrun_eq _ _ _).trans ((zun_eq zK_X6_allMarks [4] 5 _ _).trans rfl)
set_option maxRecDepth 100000 in
theorem e_X6_text_27 (i0 : Nat) (x1 : Int32) (x2 : Int32) (σ : zSt) : zX zP zK_X6_text (27, [zR 16 i0, zI x1, zI x2], []) σ = (
  if x2 < x1 then
  (if x2 < 0 ∨ 400 ≤ Int32.toNatClampNeg x2 then
    (none)
    else
    (if x2 < 0 ∨ 400 ≤ Int32.toNatClampNeg x2 then
      (none)
      else
      (zX zP zK_X6_text (27, [zR 16 i0, zI x1, zI (x2 + 1)], []) (zms σ.1 36 0 (Int32.toNatClampNeg x2) (Int8.toInt32 (Int32.toInt8 (σ.1 35 0 (Int32.toNatClampNeg x2)))), σ.2))))
  else
  (zcV (zrun zP 147 [zR 31 0, zR 33 0] (zms (zms (zms (zms σ.1 16 i0 10 0) 16 i0 11 x1) 16 i0 12 0) 16 i0 14 0, σ.2)) (fun s1 =>
    zX zP zK_X6_text (83, [zR 16 i0, zI x1, zI 0], []) s1))) := (zun_eq zK_X6_text [27, 83, 103] 23 _ _).trans rfl
set_option maxRecDepth 100000 in
theorem e_X6_text_83 (i0 : Nat) (x1 : Int32) (x2 : Int32) (σ : zSt) : zX zP zK_X6_text (83, [zR 16 i0, zI x1, zI x2], []) σ = (
  if x2 < 745 then
  (if x2 < 0 ∨ 745 ≤ Int32.toNatClampNeg x2 then
    (none)
    else
    (zX zP zK_X6_text (83, [zR 16 i0, zI x1, zI (x2 + 1)], []) (zms σ.1 31 0 (Int32.toNatClampNeg x2) 0, σ.2)))
  else
  (zX zP zK_X6_text (103, [zR 16 i0, zI x1, zI x2], []) σ)) := (zun_eq zK_X6_text [27, 83, 103] 11 _ _).trans rfl
set_option maxRecDepth 100000 in
theorem e_X6_text_103 (i0 : Nat) (x1 : Int32) (x2 : Int32) (σ : zSt) : zX zP zK_X6_text (103, [zR 16 i0, zI x1, zI x2], []) σ = (
  if (σ.1 16 i0 14) = 0 then
  (zcI (zrun zP 169 [zR 16 i0] σ) (fun r1 s1 =>
    if r1 = 0 then
      (if (s1.1 16 i0 12) < (s1.1 16 i0 11) then
        (zcV (zrun zP 184 [zR 16 i0] s1) (fun s2 =>
          zX zP zK_X6_text (103, [zR 16 i0, zI x1, zI x2], []) s2))
        else
        (if (0 : Int32) < (s1.1 16 i0 14) then
          (if (0 : Int32) < ((zms s1.1 16 i0 16 (s1.1 16 i0 15)) 16 i0 14) then
            (zcV (zrun zP 147 [zR 33 0, zR 31 0] (zms s1.1 16 i0 16 (s1.1 16 i0 15), s1.2)) (fun s3 =>
              some (.inl (some (zI ((s3.1 16 i0 14) - 10))), s3)))
            else
            (zcI (zrun zP 185 [zR 16 i0, zR 31 0] (zms (zms s1.1 16 i0 16 (s1.1 16 i0 15)) 16 i0 6 0, s1.2)) (fun r4 s4 =>
              some (.inl (some (zI r4)), s4))))
          else
          (if (0 : Int32) < ((zms s1.1 16 i0 16 (-1)) 16 i0 14) then
            (zcV (zrun zP 147 [zR 33 0, zR 31 0] (zms s1.1 16 i0 16 (-1), s1.2)) (fun s5 =>
              some (.inl (some (zI ((s5.1 16 i0 14) - 10))), s5)))
            else
            (zcI (zrun zP 185 [zR 16 i0, zR 31 0] (zms (zms s1.1 16 i0 16 (-1)) 16 i0 6 0, s1.2)) (fun r6 s6 =>
              some (.inl (some (zI r6)), s6))))))
      else
      (zcV (zrun zP 184 [zR 16 i0] s1) (fun s7 =>
        zX zP zK_X6_text (103, [zR 16 i0, zI x1, zI x2], []) s7))))
  else
  (if (0 : Int32) < (σ.1 16 i0 14) then
    (if (0 : Int32) < ((zms σ.1 16 i0 16 (σ.1 16 i0 15)) 16 i0 14) then
      (zcV (zrun zP 147 [zR 33 0, zR 31 0] (zms σ.1 16 i0 16 (σ.1 16 i0 15), σ.2)) (fun s8 =>
        some (.inl (some (zI ((s8.1 16 i0 14) - 10))), s8)))
      else
      (zcI (zrun zP 185 [zR 16 i0, zR 31 0] (zms (zms σ.1 16 i0 16 (σ.1 16 i0 15)) 16 i0 6 0, σ.2)) (fun r9 s9 =>
        some (.inl (some (zI r9)), s9))))
    else
    (if (0 : Int32) < ((zms σ.1 16 i0 16 (-1)) 16 i0 14) then
      (zcV (zrun zP 147 [zR 33 0, zR 31 0] (zms σ.1 16 i0 16 (-1), σ.2)) (fun s10 =>
        some (.inl (some (zI ((s10.1 16 i0 14) - 10))), s10)))
      else
      (zcI (zrun zP 185 [zR 16 i0, zR 31 0] (zms (zms σ.1 16 i0 16 (-1)) 16 i0 6 0, σ.2)) (fun r11 s11 =>
        some (.inl (some (zI r11)), s11)))))) := (zun_eq zK_X6_text [27, 83, 103] 33 _ _).trans rfl
set_option maxRecDepth 100000 in
theorem e_X6_text (i0 : Nat) (x1 : Int32) (σ : zSt) : zrun zP 186 [zR 16 i0, zI x1] σ = (
  zcI (zrun zP 137 [zI x1, zI 0, zI ((zms σ.1 16 i0 0 0) 16 i0 10)] (zms σ.1 16 i0 0 0, σ.2)) (fun r1 s1 =>
  zcI (zrun zP 136 [zR 16 i0, zI r1, zI 1, zI 1] s1) (fun r2 s2 =>
    if r2 = 0 then
      (some (.inl (some (zI 0)), s2))
      else
      (zX zP zK_X6_text (27, [zR 16 i0, zI x1, zI 0], []) s2)))) := (zrun_eq _ _ _).trans ((zun_eq zK_X6_text [27, 83, 103] 16 _ _).trans rfl)
set_option maxRecDepth 100000 in
theorem e_X6_fault (i0 : Nat) (σ : zSt) : zrun zP 187 [zR 16 i0] σ = (
  some (.inl (some (zI ((zms σ.1 16 i0 0 0) 16 i0 16))), (zms σ.1 16 i0 0 0, σ.2))) := (zrun_eq _ _ _).trans ((zun_eq zK_X6_fault [] 7 _ _).trans rfl)
set_option maxRecDepth 100000 in
theorem e_X6_keeps_11 (i0 : Nat) (x1 : Int32) (σ : zSt) : zX zP zK_X6_keeps (11, [zR 16 i0, zI x1], []) σ = (
  if x1 < 8195 then
  (if (x1 + 745) < 0 ∨ 8940 ≤ Int32.toNatClampNeg (x1 + 745) then
    (none)
    else
    (if x1 < 0 ∨ 8940 ≤ Int32.toNatClampNeg x1 then
      (none)
      else
      (zX zP zK_X6_keeps (11, [zR 16 i0, zI (x1 + 1)], []) (zms σ.1 34 0 (Int32.toNatClampNeg x1) (σ.1 34 0 (Int32.toNatClampNeg (x1 + 745))), σ.2))))
  else
  (zX zP zK_X6_keeps (52, [zR 16 i0, zI 0], []) (zms σ.1 16 i0 6 ((σ.1 16 i0 6) - 1), σ.2))) := (zun_eq zK_X6_keeps [11, 52] 16 _ _).trans rfl
set_option maxRecDepth 100000 in
theorem e_X6_keeps_52 (i0 : Nat) (x1 : Int32) (σ : zSt) : zX zP zK_X6_keeps (52, [zR 16 i0, zI x1], []) σ = (
  if x1 < 745 then
  (if x1 < 0 ∨ 745 ≤ Int32.toNatClampNeg x1 then
    (none)
    else
    (if ((745 * (σ.1 16 i0 6)) + x1) < 0 ∨ 8940 ≤ Int32.toNatClampNeg ((745 * (σ.1 16 i0 6)) + x1) then
      (none)
      else
      (zX zP zK_X6_keeps (52, [zR 16 i0, zI (x1 + 1)], []) (zms σ.1 34 0 (Int32.toNatClampNeg ((745 * (σ.1 16 i0 6)) + x1)) (σ.1 31 0 (Int32.toNatClampNeg x1)), σ.2))))
  else
  (some (.inl none, (zms σ.1 16 i0 6 ((σ.1 16 i0 6) + 1), σ.2)))) := (zun_eq zK_X6_keeps [11, 52] 19 _ _).trans rfl
set_option maxRecDepth 100000 in
theorem e_X6_keeps (i0 : Nat) (σ : zSt) : zrun zP 188 [zR 16 i0] σ = (
  if (σ.1 16 i0 6) = 12 then
  (zX zP zK_X6_keeps (11, [zR 16 i0, zI 0], []) σ)
  else
  (zX zP zK_X6_keeps (52, [zR 16 i0, zI 0], []) σ)) := (zrun_eq _ _ _).trans ((zun_eq zK_X6_keeps [11, 52] 7 _ _).trans rfl)
set_option maxRecDepth 100000 in
theorem e_X6_isTier (i0 : Nat) (x1 : Int32) (σ : zSt) : zrun zP 189 [zR 16 i0, zI x1] σ = (
  zcI (zrun zP 138 [zR 16 i0] σ) (fun r1 s1 =>
  zcI (zrun zP 137 [zI x1, zI 0, zI (r1 - 1)] s1) (fun r2 s2 =>
    zcI (zrun zP 136 [zR 16 i0, zI r2, zI 1, zI 0] s2) (fun r3 s3 =>
      if r3 = 0 ∨ r3 = 1 then
        (some (.inl (some (zI r3)), s3))
        else
        (none))))) := (zrun_eq _ _ _).trans ((zun_eq zK_X6_isTier [] 13 _ _).trans rfl)
set_option maxRecDepth 100000 in
theorem e_X6_isMark (i0 : Nat) (x1 : Int32) (x2 : Int32) (σ : zSt) : zrun zP 190 [zR 16 i0, zI x1, zI x2] σ = (
  zcI (zrun zP 138 [zR 16 i0] σ) (fun r1 s1 =>
  zcI (zrun zP 137 [zI x1, zI 0, zI (r1 - 1)] s1) (fun r2 s2 =>
    if r2 = 0 then
      (zcI (zrun zP 136 [zR 16 i0, zI 0, zI 1, zI 0] s2) (fun r3 s3 =>
        if r3 = 0 ∨ r3 = 1 then
          (some (.inl (some (zI r3)), s3))
          else
          (none)))
      else
      (zcI (zrun zP 142 [zR 16 i0, zI x1] s2) (fun r4 s4 =>
        zcI (zrun zP 137 [zI x2, zI 0, zI (r4 - 1)] s4) (fun r5 s5 =>
          if r5 = 0 then
            (zcI (zrun zP 136 [zR 16 i0, zI 0, zI 1, zI 0] s5) (fun r6 s6 =>
              if r6 = 0 ∨ r6 = 1 then
                (some (.inl (some (zI r6)), s6))
                else
                (none)))
            else
            (zcI (zrun zP 136 [zR 16 i0, zI 1, zI 1, zI 0] s5) (fun r7 s7 =>
              if r7 = 0 ∨ r7 = 1 then
                (some (.inl (some (zI r7)), s7))
                else
                (none))))))))) := (zrun_eq _ _ _).trans ((zun_eq zK_X6_isMark [] 25 _ _).trans rfl)
set_option maxRecDepth 100000 in
theorem e_X6_put (i0 : Nat) (x1 : Int32) (x2 : Int32) (x3 : Int32) (σ : zSt) : zrun zP 191 [zR 16 i0, zI x1, zI x2, zI x3] σ = (
  zcI (zrun zP 189 [zR 16 i0, zI x1] (zms σ.1 16 i0 0 0, σ.2)) (fun r1 s1 =>
  if r1 = 0 then
    (some (.inl (some (zI 0)), s1))
    else
    (zcI (zrun zP 137 [zI x2, zI 0, zI 999] s1) (fun r2 s2 =>
      if r2 = 0 then
        (zcI (zrun zP 136 [zR 16 i0, zI 0, zI 2, zI 1] s2) (fun r3 s3 =>
          if r3 = 0 then
            (some (.inl (some (zI 0)), s3))
            else
            (zcI (zrun zP 156 [zR 16 i0, zI x1, zI x2, zI x3] s3) (fun r4 s4 =>
              if r4 = 0 then
                (zcI (zrun zP 136 [zR 16 i0, zI 0, zI 3, zI 2] s4) (fun r5 s5 =>
                  if r5 = 0 then
                    (some (.inl (some (zI 0)), s5))
                    else
                    (zcV (zrun zP 188 [zR 16 i0] s5) (fun s6 =>
                      zcI (zrun zP 159 [zR 16 i0, zI x1, zI x2, zI x3, zI 0] s6) (fun r7 s7 =>
                        some (.inl (some (zI r7)), s7))))))
                else
                (zcI (zrun zP 158 [zR 16 i0, zI x1] s4) (fun r8 s8 =>
                  if r8 = 0 then
                    (zcI (zrun zP 136 [zR 16 i0, zI 0, zI 3, zI 2] s8) (fun r9 s9 =>
                      if r9 = 0 then
                        (some (.inl (some (zI 0)), s9))
                        else
                        (zcV (zrun zP 188 [zR 16 i0] s9) (fun s10 =>
                          zcI (zrun zP 159 [zR 16 i0, zI x1, zI x2, zI x3, zI 0] s10) (fun r11 s11 =>
                            some (.inl (some (zI r11)), s11))))))
                    else
                    (zcI (zrun zP 136 [zR 16 i0, zI 1, zI 3, zI 2] s8) (fun r12 s12 =>
                      if r12 = 0 then
                        (some (.inl (some (zI 0)), s12))
                        else
                        (zcV (zrun zP 188 [zR 16 i0] s12) (fun s13 =>
                          zcI (zrun zP 159 [zR 16 i0, zI x1, zI x2, zI x3, zI 0] s13) (fun r14 s14 =>
                            some (.inl (some (zI r14)), s14))))))))))))
        else
        (zcI (zrun zP 137 [zI x3, zI (x2 + 1), zI 999] s2) (fun r15 s15 =>
          if r15 = 0 then
            (zcI (zrun zP 136 [zR 16 i0, zI 0, zI 2, zI 1] s15) (fun r16 s16 =>
              if r16 = 0 then
                (some (.inl (some (zI 0)), s16))
                else
                (zcI (zrun zP 156 [zR 16 i0, zI x1, zI x2, zI x3] s16) (fun r17 s17 =>
                  if r17 = 0 then
                    (zcI (zrun zP 136 [zR 16 i0, zI 0, zI 3, zI 2] s17) (fun r18 s18 =>
                      if r18 = 0 then
                        (some (.inl (some (zI 0)), s18))
                        else
                        (zcV (zrun zP 188 [zR 16 i0] s18) (fun s19 =>
                          zcI (zrun zP 159 [zR 16 i0, zI x1, zI x2, zI x3, zI 0] s19) (fun r20 s20 =>
                            some (.inl (some (zI r20)), s20))))))
                    else
                    (zcI (zrun zP 158 [zR 16 i0, zI x1] s17) (fun r21 s21 =>
                      if r21 = 0 then
                        (zcI (zrun zP 136 [zR 16 i0, zI 0, zI 3, zI 2] s21) (fun r22 s22 =>
                          if r22 = 0 then
                            (some (.inl (some (zI 0)), s22))
                            else
                            (zcV (zrun zP 188 [zR 16 i0] s22) (fun s23 =>
                              zcI (zrun zP 159 [zR 16 i0, zI x1, zI x2, zI x3, zI 0] s23) (fun r24 s24 =>
                                some (.inl (some (zI r24)), s24))))))
                        else
                        (zcI (zrun zP 136 [zR 16 i0, zI 1, zI 3, zI 2] s21) (fun r25 s25 =>
                          if r25 = 0 then
                            (some (.inl (some (zI 0)), s25))
                            else
                            (zcV (zrun zP 188 [zR 16 i0] s25) (fun s26 =>
                              zcI (zrun zP 159 [zR 16 i0, zI x1, zI x2, zI x3, zI 0] s26) (fun r27 s27 =>
                                some (.inl (some (zI r27)), s27))))))))))))
            else
            (zcI (zrun zP 136 [zR 16 i0, zI 1, zI 2, zI 1] s15) (fun r28 s28 =>
              if r28 = 0 then
                (some (.inl (some (zI 0)), s28))
                else
                (zcI (zrun zP 156 [zR 16 i0, zI x1, zI x2, zI x3] s28) (fun r29 s29 =>
                  if r29 = 0 then
                    (zcI (zrun zP 136 [zR 16 i0, zI 0, zI 3, zI 2] s29) (fun r30 s30 =>
                      if r30 = 0 then
                        (some (.inl (some (zI 0)), s30))
                        else
                        (zcV (zrun zP 188 [zR 16 i0] s30) (fun s31 =>
                          zcI (zrun zP 159 [zR 16 i0, zI x1, zI x2, zI x3, zI 0] s31) (fun r32 s32 =>
                            some (.inl (some (zI r32)), s32))))))
                    else
                    (zcI (zrun zP 158 [zR 16 i0, zI x1] s29) (fun r33 s33 =>
                      if r33 = 0 then
                        (zcI (zrun zP 136 [zR 16 i0, zI 0, zI 3, zI 2] s33) (fun r34 s34 =>
                          if r34 = 0 then
                            (some (.inl (some (zI 0)), s34))
                            else
                            (zcV (zrun zP 188 [zR 16 i0] s34) (fun s35 =>
                              zcI (zrun zP 159 [zR 16 i0, zI x1, zI x2, zI x3, zI 0] s35) (fun r36 s36 =>
                                some (.inl (some (zI r36)), s36))))))
                        else
                        (zcI (zrun zP 136 [zR 16 i0, zI 1, zI 3, zI 2] s33) (fun r37 s37 =>
                          if r37 = 0 then
                            (some (.inl (some (zI 0)), s37))
                            else
                            (zcV (zrun zP 188 [zR 16 i0] s37) (fun s38 =>
                              zcI (zrun zP 159 [zR 16 i0, zI x1, zI x2, zI x3, zI 0] s38) (fun r39 s39 =>
                                some (.inl (some (zI r39)), s39)))))))))))))))))) := (zrun_eq _ _ _).trans ((zun_eq zK_X6_put [] 53 _ _).trans rfl)
set_option maxRecDepth 100000 in
theorem e_X6_point (i0 : Nat) (x1 : Int32) (x2 : Int32) (σ : zSt) : zrun zP 192 [zR 16 i0, zI x1, zI x2] σ = (
  zcI (zrun zP 189 [zR 16 i0, zI x1] (zms σ.1 16 i0 0 0, σ.2)) (fun r1 s1 =>
  if r1 = 0 then
    (some (.inl (some (zI 0)), s1))
    else
    (zcI (zrun zP 137 [zI x2, zI 0, zI 999] s1) (fun r2 s2 =>
      zcI (zrun zP 136 [zR 16 i0, zI r2, zI 2, zI 1] s2) (fun r3 s3 =>
        if r3 = 0 then
          (some (.inl (some (zI 0)), s3))
          else
          (zcI (zrun zP 160 [zR 16 i0, zI x1, zI x2] s3) (fun r4 s4 =>
            if r4 = 0 then
              (zcI (zrun zP 136 [zR 16 i0, zI 0, zI 3, zI 2] s4) (fun r5 s5 =>
                if r5 = 0 then
                  (some (.inl (some (zI 0)), s5))
                  else
                  (zcV (zrun zP 188 [zR 16 i0] s5) (fun s6 =>
                    zcI (zrun zP 153 [zR 16 i0, zI x1, zI x2, zI x2, zI 0] s6) (fun r7 s7 =>
                      some (.inl (some (zI r7)), s7))))))
              else
              (zcI (zrun zP 142 [zR 16 i0, zI x1] s4) (fun r8 s8 =>
                if r8 < 40 then
                  (zcI (zrun zP 136 [zR 16 i0, zI 1, zI 3, zI 2] s8) (fun r9 s9 =>
                    if r9 = 0 then
                      (some (.inl (some (zI 0)), s9))
                      else
                      (zcV (zrun zP 188 [zR 16 i0] s9) (fun s10 =>
                        zcI (zrun zP 153 [zR 16 i0, zI x1, zI x2, zI x2, zI 0] s10) (fun r11 s11 =>
                          some (.inl (some (zI r11)), s11))))))
                  else
                  (zcI (zrun zP 136 [zR 16 i0, zI 0, zI 3, zI 2] s8) (fun r12 s12 =>
                    if r12 = 0 then
                      (some (.inl (some (zI 0)), s12))
                      else
                      (zcV (zrun zP 188 [zR 16 i0] s12) (fun s13 =>
                        zcI (zrun zP 153 [zR 16 i0, zI x1, zI x2, zI x2, zI 0] s13) (fun r14 s14 =>
                          some (.inl (some (zI r14)), s14))))))))))))))) := (zrun_eq _ _ _).trans ((zun_eq zK_X6_point [] 43 _ _).trans rfl)
set_option maxRecDepth 100000 in
theorem e_X6_beside (i0 : Nat) (x1 : Int32) (x2 : Int32) (x3 : Int32) (σ : zSt) : zrun zP 193 [zR 16 i0, zI x1, zI x2, zI x3] σ = (
  zcI (zrun zP 142 [zR 16 i0, zI x1] σ) (fun r1 s1 =>
  zcI (zrun zP 137 [zI (x2 + x3), zI 0, zI (r1 - 1)] s1) (fun r2 s2 =>
    if r2 = 0 then
      (some (.inl (some (zI (-1))), s2))
      else
      (zcI (zrun zP 194 [zR 16 i0, zI x1, zI (x2 + x3)] s2) (fun r3 s3 =>
        zcI (zrun zP 194 [zR 16 i0, zI x1, zI x2] s3) (fun r4 s4 =>
          if r3 = r4 then
            (some (.inl (some (zI (x2 + x3))), s4))
            else
            (some (.inl (some (zI (-1))), s4)))))))) := (zrun_eq _ _ _).trans ((zun_eq zK_X6_beside [] 26 _ _).trans rfl)
set_option maxRecDepth 100000 in
theorem e_X6_parentsOf (i0 : Nat) (x1 : Int32) (x2 : Int32) (σ : zSt) : zrun zP 194 [zR 16 i0, zI x1, zI x2] σ = (
  zcI (zrun zP 141 [zR 16 i0, zI x1] σ) (fun r1 s1 =>
  if r1 = (-1) then
    (some (.inl (some (zI (-1))), s1))
    else
    (zcI (zrun zP 141 [zR 16 i0, zI x1] s1) (fun r2 s2 =>
      zcI (zrun zP 144 [zR 16 i0, zI x1, zI x2] s2) (fun r3 s3 =>
        zcI (zrun zP 145 [zR 16 i0, zI x1, zI x2] s3) (fun r4 s4 =>
          zcI (zrun zP 152 [zR 16 i0, zI r2, zI r3, zI r4] s4) (fun r5 s5 =>
            some (.inl (some (zI r5)), s5)))))))) := (zrun_eq _ _ _).trans ((zun_eq zK_X6_parentsOf [] 20 _ _).trans rfl)
set_option maxRecDepth 100000 in
theorem e_X6_clears_12 (i0 : Nat) (x1 : Int32) (x2 : Int32) (x3 : Int32) (x4 : Int32) (x5 : Int32) (σ : zSt) : zX zP zK_X6_clears (12, [zR 16 i0, zI x1, zI x2, zI x3, zI x4, zI x5], []) σ = (
  if x5 < 0 then
  (some (.inl (some (zI x4)), σ))
  else
  (zcI (zrun zP 144 [zR 16 i0, zI x1, zI x5] σ) (fun r1 s1 =>
    if r1 < x2 then
      (zX zP zK_X6_clears (12, [zR 16 i0, zI x1, zI x2, zI x3, zI x4, zI (x5 + (-1))], []) s1)
      else
      (zcI (zrun zP 145 [zR 16 i0, zI x1, zI x5] s1) (fun r2 s2 =>
        if x3 < r2 then
          (zX zP zK_X6_clears (12, [zR 16 i0, zI x1, zI x2, zI x3, zI x4, zI (x5 + (-1))], []) s2)
          else
          (zcV (zrun zP 154 [zR 16 i0, zI x1, zI x5] s2) (fun s3 =>
            zX zP zK_X6_clears (12, [zR 16 i0, zI x1, zI x2, zI x3, zI (x4 + 1), zI (x5 + (-1))], []) s3))))))) := (zun_eq zK_X6_clears [12] 22 _ _).trans rfl
set_option maxRecDepth 100000 in
theorem e_X6_clears (i0 : Nat) (x1 : Int32) (x2 : Int32) (x3 : Int32) (σ : zSt) : zrun zP 195 [zR 16 i0, zI x1, zI x2, zI x3] σ = (
  zcI (zrun zP 142 [zR 16 i0, zI x1] σ) (fun r1 s1 =>
  zX zP zK_X6_clears (12, [zR 16 i0, zI x1, zI x2, zI x3, zI 0, zI (r1 - 1)], []) s1)) := (zrun_eq _ _ _).trans ((zun_eq zK_X6_clears [12] 9 _ _).trans rfl)
set_option maxRecDepth 100000 in
theorem e_X6_takesAll_27 (i0 : Nat) (x1 : Int32) (x2 : Int32) (x3 : Int32) (x4 : Int32) (x5 : Int32) (x6 : Int32) (v7 : zAV) (σ : zSt) : zX zP zK_X6_takesAll (27, [zR 16 i0, zI x1, zI x2, zI x3, zI x4, zI x5, zI x6, v7], []) σ = (
  zcI (zrun zP 138 [zR 16 i0] σ) (fun r1 s1 =>
  if x6 < r1 then
    (zcI (zrun zP 150 [zR 16 i0, zI x6, zI x1] s1) (fun r2 s2 =>
      if r2 = 0 then
        (zX zP zK_X6_takesAll (27, [zR 16 i0, zI x1, zI x2, zI x3, zI x4, zI x5, zI (x6 + 1), v7], []) s2)
        else
        (zcI (zrun zP 140 [zR 16 i0, zI x6] s2) (fun r3 s3 =>
          if r3 = 3 then
            (zX zP zK_X6_takesAll (27, [zR 16 i0, zI x1, zI x2, zI x3, zI x4, zI x5, zI (x6 + 1), v7], []) s3)
            else
            (zcI (zrun zP 195 [zR 16 i0, zI x6, zI x3, zI x4] s3) (fun r4 s4 =>
              zX zP zK_X6_takesAll (27, [zR 16 i0, zI x1, zI x2, zI x3, zI x4, zI (x5 + r4), zI (x6 + 1), v7], []) s4))))))
    else
    (zX zP zK_X6_takesAll (79, [zR 16 i0, zI x1, zI x2, zI x3, zI x4, zI x5, zI 0, v7], []) s1))) := (zun_eq zK_X6_takesAll [27, 79, 121] 25 _ _).trans rfl
set_option maxRecDepth 100000 in
theorem e_X6_takesAll_79 (i0 : Nat) (x1 : Int32) (x2 : Int32) (x3 : Int32) (x4 : Int32) (x5 : Int32) (x6 : Int32) (v7 : zAV) (σ : zSt) : zX zP zK_X6_takesAll (79, [zR 16 i0, zI x1, zI x2, zI x3, zI x4, zI x5, zI x6, v7], []) σ = (
  zcI (zrun zP 138 [zR 16 i0] σ) (fun r1 s1 =>
  if x6 < r1 then
    (zcI (zrun zP 150 [zR 16 i0, zI x6, zI x1] s1) (fun r2 s2 =>
      if r2 = 0 then
        (zX zP zK_X6_takesAll (79, [zR 16 i0, zI x1, zI x2, zI x3, zI x4, zI x5, zI (x6 + 1), v7], []) s2)
        else
        (zcI (zrun zP 140 [zR 16 i0, zI x6] s2) (fun r3 s3 =>
          if r3 = 3 then
            (zcI (zrun zP 142 [zR 16 i0, zI x6] s3) (fun r4 s4 =>
              zX zP zK_X6_takesAll (121, [zR 16 i0, zI x1, zI x2, zI x3, zI x4, zI x5, zI x6, zI (r4 - 1)], []) s4))
            else
            (zX zP zK_X6_takesAll (79, [zR 16 i0, zI x1, zI x2, zI x3, zI x4, zI x5, zI (x6 + 1), v7], []) s3)))))
    else
    (some (.inl (some (zI (x5 + 1))), s1)))) := (zun_eq zK_X6_takesAll [27, 79, 121] 21 _ _).trans rfl
set_option maxRecDepth 100000 in
theorem e_X6_takesAll_121 (i0 : Nat) (x1 : Int32) (x2 : Int32) (x3 : Int32) (x4 : Int32) (x5 : Int32) (x6 : Int32) (x7 : Int32) (σ : zSt) : zX zP zK_X6_takesAll (121, [zR 16 i0, zI x1, zI x2, zI x3, zI x4, zI x5, zI x6, zI x7], []) σ = (
  if x7 < 0 then
  (zX zP zK_X6_takesAll (79, [zR 16 i0, zI x1, zI x2, zI x3, zI x4, zI x5, zI (x6 + 1), zI x7], []) σ)
  else
  (zcI (zrun zP 141 [zR 16 i0, zI x6] σ) (fun r1 s1 =>
    zcI (zrun zP 144 [zR 16 i0, zI x6, zI x7] s1) (fun r2 s2 =>
      zcI (zrun zP 144 [zR 16 i0, zI x6, zI x7] s2) (fun r3 s3 =>
        zcI (zrun zP 152 [zR 16 i0, zI r1, zI r2, zI r3] s3) (fun r4 s4 =>
          if r4 = (-1) then
            (zcV (zrun zP 154 [zR 16 i0, zI x6, zI x7] s4) (fun s5 =>
              zX zP zK_X6_takesAll (121, [zR 16 i0, zI x1, zI x2, zI x3, zI x4, zI (x5 + 1), zI x6, zI (x7 + (-1))], []) s5))
            else
            (zX zP zK_X6_takesAll (121, [zR 16 i0, zI x1, zI x2, zI x3, zI x4, zI x5, zI x6, zI (x7 + (-1))], []) s4))))))) := (zun_eq zK_X6_takesAll [27, 79, 121] 25 _ _).trans rfl
set_option maxRecDepth 100000 in
theorem e_X6_takesAll (i0 : Nat) (x1 : Int32) (x2 : Int32) (σ : zSt) : zrun zP 196 [zR 16 i0, zI x1, zI x2] σ = (
  zcI (zrun zP 144 [zR 16 i0, zI x1, zI x2] σ) (fun r1 s1 =>
  zcI (zrun zP 145 [zR 16 i0, zI x1, zI x2] s1) (fun r2 s2 =>
    zcV (zrun zP 154 [zR 16 i0, zI x1, zI x2] s2) (fun s3 =>
      zX zP zK_X6_takesAll (27, [zR 16 i0, zI x1, zI x2, zI r1, zI r2, zI 0, zI 0, zJunk], []) s3)))) := (zrun_eq _ _ _).trans ((zun_eq zK_X6_takesAll [27, 79, 121] 19 _ _).trans rfl)
set_option maxRecDepth 100000 in
theorem e_X6_takesCut (i0 : Nat) (x1 : Int32) (x2 : Int32) (σ : zSt) : zrun zP 197 [zR 16 i0, zI x1, zI x2] σ = (
  zcI (zrun zP 193 [zR 16 i0, zI x1, zI x2, zI (-1)] σ) (fun r1 s1 =>
  zcI (zrun zP 193 [zR 16 i0, zI x1, zI x2, zI 1] s1) (fun r2 s2 =>
    if r1 = (-1) then
      (zcI (zrun zP 143 [zI x1, zI r2, zI 0] s2) (fun r3 s3 =>
        zcI (zrun zP 144 [zR 16 i0, zI x1, zI x2] s3) (fun r4 s4 =>
          if r3 < 0 ∨ 745 ≤ Int32.toNatClampNeg r3 then
            (none)
            else
            (zcV (zrun zP 154 [zR 16 i0, zI x1, zI x2] (zms s4.1 31 0 (Int32.toNatClampNeg r3) r4, s4.2)) (fun s5 =>
              some (.inl (some (zI 1)), s5))))))
      else
      (zcI (zrun zP 143 [zI x1, zI r1, zI 1] s2) (fun r6 s6 =>
        zcI (zrun zP 145 [zR 16 i0, zI x1, zI x2] s6) (fun r7 s7 =>
          if r6 < 0 ∨ 745 ≤ Int32.toNatClampNeg r6 then
            (none)
            else
            (zcV (zrun zP 154 [zR 16 i0, zI x1, zI x2] (zms s7.1 31 0 (Int32.toNatClampNeg r6) r7, s7.2)) (fun s8 =>
              some (.inl (some (zI 1)), s8))))))))) := (zrun_eq _ _ _).trans ((zun_eq zK_X6_takesCut [] 34 _ _).trans rfl)
set_option maxRecDepth 100000 in
theorem e_X6_take (i0 : Nat) (x1 : Int32) (x2 : Int32) (σ : zSt) : zrun zP 198 [zR 16 i0, zI x1, zI x2] σ = (
  zcI (zrun zP 190 [zR 16 i0, zI x1, zI x2] (zms σ.1 16 i0 0 0, σ.2)) (fun r1 s1 =>
  if r1 = 0 then
    (some (.inl (some (zI 0)), s1))
    else
    (zcI (zrun zP 140 [zR 16 i0, zI x1] s1) (fun r2 s2 =>
      if r2 = 1 then
        (zcI (zrun zP 193 [zR 16 i0, zI x1, zI x2, zI (-1)] s2) (fun r3 s3 =>
          if r3 = (-1) then
            (zcI (zrun zP 193 [zR 16 i0, zI x1, zI x2, zI 1] s3) (fun r4 s4 =>
              if r4 = (-1) then
                (zcI (zrun zP 136 [zR 16 i0, zI 0, zI 2, zI 2] s4) (fun r5 s5 =>
                  if r5 = 0 then
                    (some (.inl (some (zI 0)), s5))
                    else
                    (zcV (zrun zP 188 [zR 16 i0] s5) (fun s6 =>
                      zcI (zrun zP 140 [zR 16 i0, zI x1] s6) (fun r7 s7 =>
                        if r7 = 1 then
                          (zcI (zrun zP 197 [zR 16 i0, zI x1, zI x2] s7) (fun r8 s8 =>
                            some (.inl (some (zI r8)), s8)))
                          else
                          (zcI (zrun zP 140 [zR 16 i0, zI x1] s7) (fun r9 s9 =>
                            if r9 = 3 then
                              (zcV (zrun zP 154 [zR 16 i0, zI x1, zI x2] s9) (fun s10 =>
                                some (.inl (some (zI 1)), s10)))
                              else
                              (zcI (zrun zP 196 [zR 16 i0, zI x1, zI x2] s9) (fun r11 s11 =>
                                some (.inl (some (zI r11)), s11))))))))))
                else
                (zcI (zrun zP 136 [zR 16 i0, zI 1, zI 2, zI 2] s4) (fun r12 s12 =>
                  if r12 = 0 then
                    (some (.inl (some (zI 0)), s12))
                    else
                    (zcV (zrun zP 188 [zR 16 i0] s12) (fun s13 =>
                      zcI (zrun zP 140 [zR 16 i0, zI x1] s13) (fun r14 s14 =>
                        if r14 = 1 then
                          (zcI (zrun zP 197 [zR 16 i0, zI x1, zI x2] s14) (fun r15 s15 =>
                            some (.inl (some (zI r15)), s15)))
                          else
                          (zcI (zrun zP 140 [zR 16 i0, zI x1] s14) (fun r16 s16 =>
                            if r16 = 3 then
                              (zcV (zrun zP 154 [zR 16 i0, zI x1, zI x2] s16) (fun s17 =>
                                some (.inl (some (zI 1)), s17)))
                              else
                              (zcI (zrun zP 196 [zR 16 i0, zI x1, zI x2] s16) (fun r18 s18 =>
                                some (.inl (some (zI r18)), s18))))))))))))
            else
            (zcI (zrun zP 136 [zR 16 i0, zI 1, zI 2, zI 2] s3) (fun r19 s19 =>
              if r19 = 0 then
                (some (.inl (some (zI 0)), s19))
                else
                (zcV (zrun zP 188 [zR 16 i0] s19) (fun s20 =>
                  zcI (zrun zP 140 [zR 16 i0, zI x1] s20) (fun r21 s21 =>
                    if r21 = 1 then
                      (zcI (zrun zP 197 [zR 16 i0, zI x1, zI x2] s21) (fun r22 s22 =>
                        some (.inl (some (zI r22)), s22)))
                      else
                      (zcI (zrun zP 140 [zR 16 i0, zI x1] s21) (fun r23 s23 =>
                        if r23 = 3 then
                          (zcV (zrun zP 154 [zR 16 i0, zI x1, zI x2] s23) (fun s24 =>
                            some (.inl (some (zI 1)), s24)))
                          else
                          (zcI (zrun zP 196 [zR 16 i0, zI x1, zI x2] s23) (fun r25 s25 =>
                            some (.inl (some (zI r25)), s25))))))))))))
        else
        (zcI (zrun zP 136 [zR 16 i0, zI 1, zI 2, zI 2] s2) (fun r26 s26 =>
          if r26 = 0 then
            (some (.inl (some (zI 0)), s26))
            else
            (zcV (zrun zP 188 [zR 16 i0] s26) (fun s27 =>
              zcI (zrun zP 140 [zR 16 i0, zI x1] s27) (fun r28 s28 =>
                if r28 = 1 then
                  (zcI (zrun zP 197 [zR 16 i0, zI x1, zI x2] s28) (fun r29 s29 =>
                    some (.inl (some (zI r29)), s29)))
                  else
                  (zcI (zrun zP 140 [zR 16 i0, zI x1] s28) (fun r30 s30 =>
                    if r30 = 3 then
                      (zcV (zrun zP 154 [zR 16 i0, zI x1, zI x2] s30) (fun s31 =>
                        some (.inl (some (zI 1)), s31)))
                      else
                      (zcI (zrun zP 196 [zR 16 i0, zI x1, zI x2] s30) (fun r32 s32 =>
                        some (.inl (some (zI r32)), s32)))))))))))))) := (zrun_eq _ _ _).trans ((zun_eq zK_X6_take [] 53 _ _).trans rfl)
set_option maxRecDepth 100000 in
theorem e_X6_split (i0 : Nat) (x1 : Int32) (x2 : Int32) (x3 : Int32) (σ : zSt) : zrun zP 199 [zR 16 i0, zI x1, zI x2, zI x3] σ = (
  zcI (zrun zP 190 [zR 16 i0, zI x1, zI x2] (zms σ.1 16 i0 0 0, σ.2)) (fun r1 s1 =>
  if r1 = 0 then
    (some (.inl (some (zI 0)), s1))
    else
    (zcI (zrun zP 140 [zR 16 i0, zI x1] s1) (fun r2 s2 =>
      if r2 = 3 then
        (zcI (zrun zP 136 [zR 16 i0, zI 1, zI 2, zI 1] s2) (fun r3 s3 =>
          if r3 = 0 then
            (some (.inl (some (zI 0)), s3))
            else
            (zcI (zrun zP 140 [zR 16 i0, zI x1] s3) (fun r4 s4 =>
              if r4 = 3 then
                (zcI (zrun zP 136 [zR 16 i0, zI 0, zI 3, zI 2] s4) (fun r5 s5 =>
                  if r5 = 0 then
                    (some (.inl (some (zI 0)), s5))
                    else
                    (zcV (zrun zP 188 [zR 16 i0] s5) (fun s6 =>
                      zcI (zrun zP 165 [zR 16 i0, zI x1, zI x3] s6) (fun r7 s7 =>
                        some (.inl (some (zI r7)), s7))))))
                else
                (zcI (zrun zP 161 [zR 16 i0, zI x1, zI x3] s4) (fun r8 s8 =>
                  if r8 = 0 then
                    (zcI (zrun zP 136 [zR 16 i0, zI 0, zI 3, zI 2] s8) (fun r9 s9 =>
                      if r9 = 0 then
                        (some (.inl (some (zI 0)), s9))
                        else
                        (zcV (zrun zP 188 [zR 16 i0] s9) (fun s10 =>
                          zcI (zrun zP 165 [zR 16 i0, zI x1, zI x3] s10) (fun r11 s11 =>
                            some (.inl (some (zI r11)), s11))))))
                    else
                    (zcI (zrun zP 163 [zR 16 i0, zI x1, zI x3] s8) (fun r12 s12 =>
                      if r12 = 0 then
                        (zcI (zrun zP 136 [zR 16 i0, zI 0, zI 3, zI 2] s12) (fun r13 s13 =>
                          if r13 = 0 then
                            (some (.inl (some (zI 0)), s13))
                            else
                            (zcV (zrun zP 188 [zR 16 i0] s13) (fun s14 =>
                              zcI (zrun zP 165 [zR 16 i0, zI x1, zI x3] s14) (fun r15 s15 =>
                                some (.inl (some (zI r15)), s15))))))
                        else
                        (zcI (zrun zP 136 [zR 16 i0, zI 1, zI 3, zI 2] s12) (fun r16 s16 =>
                          if r16 = 0 then
                            (some (.inl (some (zI 0)), s16))
                            else
                            (zcV (zrun zP 188 [zR 16 i0] s16) (fun s17 =>
                              zcI (zrun zP 165 [zR 16 i0, zI x1, zI x3] s17) (fun r18 s18 =>
                                some (.inl (some (zI r18)), s18))))))))))))))
        else
        (zcI (zrun zP 144 [zR 16 i0, zI x1, zI x2] s2) (fun r19 s19 =>
          if r19 < x3 then
            (zcI (zrun zP 145 [zR 16 i0, zI x1, zI x2] s19) (fun r20 s20 =>
              if x3 < r20 then
                (zcI (zrun zP 136 [zR 16 i0, zI 1, zI 2, zI 1] s20) (fun r21 s21 =>
                  if r21 = 0 then
                    (some (.inl (some (zI 0)), s21))
                    else
                    (zcI (zrun zP 140 [zR 16 i0, zI x1] s21) (fun r22 s22 =>
                      if r22 = 3 then
                        (zcI (zrun zP 136 [zR 16 i0, zI 0, zI 3, zI 2] s22) (fun r23 s23 =>
                          if r23 = 0 then
                            (some (.inl (some (zI 0)), s23))
                            else
                            (zcV (zrun zP 188 [zR 16 i0] s23) (fun s24 =>
                              zcI (zrun zP 165 [zR 16 i0, zI x1, zI x3] s24) (fun r25 s25 =>
                                some (.inl (some (zI r25)), s25))))))
                        else
                        (zcI (zrun zP 161 [zR 16 i0, zI x1, zI x3] s22) (fun r26 s26 =>
                          if r26 = 0 then
                            (zcI (zrun zP 136 [zR 16 i0, zI 0, zI 3, zI 2] s26) (fun r27 s27 =>
                              if r27 = 0 then
                                (some (.inl (some (zI 0)), s27))
                                else
                                (zcV (zrun zP 188 [zR 16 i0] s27) (fun s28 =>
                                  zcI (zrun zP 165 [zR 16 i0, zI x1, zI x3] s28) (fun r29 s29 =>
                                    some (.inl (some (zI r29)), s29))))))
                            else
                            (zcI (zrun zP 163 [zR 16 i0, zI x1, zI x3] s26) (fun r30 s30 =>
                              if r30 = 0 then
                                (zcI (zrun zP 136 [zR 16 i0, zI 0, zI 3, zI 2] s30) (fun r31 s31 =>
                                  if r31 = 0 then
                                    (some (.inl (some (zI 0)), s31))
                                    else
                                    (zcV (zrun zP 188 [zR 16 i0] s31) (fun s32 =>
                                      zcI (zrun zP 165 [zR 16 i0, zI x1, zI x3] s32) (fun r33 s33 =>
                                        some (.inl (some (zI r33)), s33))))))
                                else
                                (zcI (zrun zP 136 [zR 16 i0, zI 1, zI 3, zI 2] s30) (fun r34 s34 =>
                                  if r34 = 0 then
                                    (some (.inl (some (zI 0)), s34))
                                    else
                                    (zcV (zrun zP 188 [zR 16 i0] s34) (fun s35 =>
                                      zcI (zrun zP 165 [zR 16 i0, zI x1, zI x3] s35) (fun r36 s36 =>
                                        some (.inl (some (zI r36)), s36))))))))))))))
                else
                (zcI (zrun zP 136 [zR 16 i0, zI 0, zI 2, zI 1] s20) (fun r37 s37 =>
                  if r37 = 0 then
                    (some (.inl (some (zI 0)), s37))
                    else
                    (zcI (zrun zP 140 [zR 16 i0, zI x1] s37) (fun r38 s38 =>
                      if r38 = 3 then
                        (zcI (zrun zP 136 [zR 16 i0, zI 0, zI 3, zI 2] s38) (fun r39 s39 =>
                          if r39 = 0 then
                            (some (.inl (some (zI 0)), s39))
                            else
                            (zcV (zrun zP 188 [zR 16 i0] s39) (fun s40 =>
                              zcI (zrun zP 165 [zR 16 i0, zI x1, zI x3] s40) (fun r41 s41 =>
                                some (.inl (some (zI r41)), s41))))))
                        else
                        (zcI (zrun zP 161 [zR 16 i0, zI x1, zI x3] s38) (fun r42 s42 =>
                          if r42 = 0 then
                            (zcI (zrun zP 136 [zR 16 i0, zI 0, zI 3, zI 2] s42) (fun r43 s43 =>
                              if r43 = 0 then
                                (some (.inl (some (zI 0)), s43))
                                else
                                (zcV (zrun zP 188 [zR 16 i0] s43) (fun s44 =>
                                  zcI (zrun zP 165 [zR 16 i0, zI x1, zI x3] s44) (fun r45 s45 =>
                                    some (.inl (some (zI r45)), s45))))))
                            else
                            (zcI (zrun zP 163 [zR 16 i0, zI x1, zI x3] s42) (fun r46 s46 =>
                              if r46 = 0 then
                                (zcI (zrun zP 136 [zR 16 i0, zI 0, zI 3, zI 2] s46) (fun r47 s47 =>
                                  if r47 = 0 then
                                    (some (.inl (some (zI 0)), s47))
                                    else
                                    (zcV (zrun zP 188 [zR 16 i0] s47) (fun s48 =>
                                      zcI (zrun zP 165 [zR 16 i0, zI x1, zI x3] s48) (fun r49 s49 =>
                                        some (.inl (some (zI r49)), s49))))))
                                else
                                (zcI (zrun zP 136 [zR 16 i0, zI 1, zI 3, zI 2] s46) (fun r50 s50 =>
                                  if r50 = 0 then
                                    (some (.inl (some (zI 0)), s50))
                                    else
                                    (zcV (zrun zP 188 [zR 16 i0] s50) (fun s51 =>
                                      zcI (zrun zP 165 [zR 16 i0, zI x1, zI x3] s51) (fun r52 s52 =>
                                        some (.inl (some (zI r52)), s52))))))))))))))))
            else
            (zcI (zrun zP 136 [zR 16 i0, zI 0, zI 2, zI 1] s19) (fun r53 s53 =>
              if r53 = 0 then
                (some (.inl (some (zI 0)), s53))
                else
                (zcI (zrun zP 140 [zR 16 i0, zI x1] s53) (fun r54 s54 =>
                  if r54 = 3 then
                    (zcI (zrun zP 136 [zR 16 i0, zI 0, zI 3, zI 2] s54) (fun r55 s55 =>
                      if r55 = 0 then
                        (some (.inl (some (zI 0)), s55))
                        else
                        (zcV (zrun zP 188 [zR 16 i0] s55) (fun s56 =>
                          zcI (zrun zP 165 [zR 16 i0, zI x1, zI x3] s56) (fun r57 s57 =>
                            some (.inl (some (zI r57)), s57))))))
                    else
                    (zcI (zrun zP 161 [zR 16 i0, zI x1, zI x3] s54) (fun r58 s58 =>
                      if r58 = 0 then
                        (zcI (zrun zP 136 [zR 16 i0, zI 0, zI 3, zI 2] s58) (fun r59 s59 =>
                          if r59 = 0 then
                            (some (.inl (some (zI 0)), s59))
                            else
                            (zcV (zrun zP 188 [zR 16 i0] s59) (fun s60 =>
                              zcI (zrun zP 165 [zR 16 i0, zI x1, zI x3] s60) (fun r61 s61 =>
                                some (.inl (some (zI r61)), s61))))))
                        else
                        (zcI (zrun zP 163 [zR 16 i0, zI x1, zI x3] s58) (fun r62 s62 =>
                          if r62 = 0 then
                            (zcI (zrun zP 136 [zR 16 i0, zI 0, zI 3, zI 2] s62) (fun r63 s63 =>
                              if r63 = 0 then
                                (some (.inl (some (zI 0)), s63))
                                else
                                (zcV (zrun zP 188 [zR 16 i0] s63) (fun s64 =>
                                  zcI (zrun zP 165 [zR 16 i0, zI x1, zI x3] s64) (fun r65 s65 =>
                                    some (.inl (some (zI r65)), s65))))))
                            else
                            (zcI (zrun zP 136 [zR 16 i0, zI 1, zI 3, zI 2] s62) (fun r66 s66 =>
                              if r66 = 0 then
                                (some (.inl (some (zI 0)), s66))
                                else
                                (zcV (zrun zP 188 [zR 16 i0] s66) (fun s67 =>
                                  zcI (zrun zP 165 [zR 16 i0, zI x1, zI x3] s67) (fun r68 s68 =>
                                    some (.inl (some (zI r68)), s68)))))))))))))))))))) := (zrun_eq _ _ _).trans ((zun_eq zK_X6_split [] 62 _ _).trans rfl)
set_option maxRecDepth 100000 in
theorem e_X6_join (i0 : Nat) (x1 : Int32) (x2 : Int32) (σ : zSt) : zrun zP 200 [zR 16 i0, zI x1, zI x2] σ = (
  zcI (zrun zP 190 [zR 16 i0, zI x1, zI x2] (zms σ.1 16 i0 0 0, σ.2)) (fun r1 s1 =>
  if r1 = 0 then
    (some (.inl (some (zI 0)), s1))
    else
    (zcI (zrun zP 140 [zR 16 i0, zI x1] s1) (fun r2 s2 =>
      if r2 = 3 then
        (zcI (zrun zP 136 [zR 16 i0, zI 0, zI 2, zI 2] s2) (fun r3 s3 =>
          if r3 = 0 then
            (some (.inl (some (zI 0)), s3))
            else
            (zcV (zrun zP 188 [zR 16 i0] s3) (fun s4 =>
              zcI (zrun zP 143 [zI x1, zI x2, zI 1] s4) (fun r5 s5 =>
                zcI (zrun zP 145 [zR 16 i0, zI x1, zI (x2 + 1)] s5) (fun r6 s6 =>
                  if r5 < 0 ∨ 745 ≤ Int32.toNatClampNeg r5 then
                    (none)
                    else
                    (zcV (zrun zP 154 [zR 16 i0, zI x1, zI (x2 + 1)] (zms s6.1 31 0 (Int32.toNatClampNeg r5) r6, s6.2)) (fun s7 =>
                      zcI (zrun zP 145 [zR 16 i0, zI x1, zI x2] s7) (fun r8 s8 =>
                        some (.inl (some (zI r8)), s8))))))))))
        else
        (zcI (zrun zP 142 [zR 16 i0, zI x1] s2) (fun r9 s9 =>
          if (x2 + 1) < r9 then
            (zcI (zrun zP 144 [zR 16 i0, zI x1, zI (x2 + 1)] s9) (fun r10 s10 =>
              zcI (zrun zP 145 [zR 16 i0, zI x1, zI x2] s10) (fun r11 s11 =>
                if r10 = r11 then
                  (zcI (zrun zP 194 [zR 16 i0, zI x1, zI x2] s11) (fun r12 s12 =>
                    zcI (zrun zP 194 [zR 16 i0, zI x1, zI (x2 + 1)] s12) (fun r13 s13 =>
                      if r12 = r13 then
                        (zcI (zrun zP 136 [zR 16 i0, zI 1, zI 2, zI 2] s13) (fun r14 s14 =>
                          if r14 = 0 then
                            (some (.inl (some (zI 0)), s14))
                            else
                            (zcV (zrun zP 188 [zR 16 i0] s14) (fun s15 =>
                              zcI (zrun zP 143 [zI x1, zI x2, zI 1] s15) (fun r16 s16 =>
                                zcI (zrun zP 145 [zR 16 i0, zI x1, zI (x2 + 1)] s16) (fun r17 s17 =>
                                  if r16 < 0 ∨ 745 ≤ Int32.toNatClampNeg r16 then
                                    (none)
                                    else
                                    (zcV (zrun zP 154 [zR 16 i0, zI x1, zI (x2 + 1)] (zms s17.1 31 0 (Int32.toNatClampNeg r16) r17, s17.2)) (fun s18 =>
                                      zcI (zrun zP 145 [zR 16 i0, zI x1, zI x2] s18) (fun r19 s19 =>
                                        some (.inl (some (zI r19)), s19))))))))))
                        else
                        (zcI (zrun zP 136 [zR 16 i0, zI 0, zI 2, zI 2] s13) (fun r20 s20 =>
                          if r20 = 0 then
                            (some (.inl (some (zI 0)), s20))
                            else
                            (zcV (zrun zP 188 [zR 16 i0] s20) (fun s21 =>
                              zcI (zrun zP 143 [zI x1, zI x2, zI 1] s21) (fun r22 s22 =>
                                zcI (zrun zP 145 [zR 16 i0, zI x1, zI (x2 + 1)] s22) (fun r23 s23 =>
                                  if r22 < 0 ∨ 745 ≤ Int32.toNatClampNeg r22 then
                                    (none)
                                    else
                                    (zcV (zrun zP 154 [zR 16 i0, zI x1, zI (x2 + 1)] (zms s23.1 31 0 (Int32.toNatClampNeg r22) r23, s23.2)) (fun s24 =>
                                      zcI (zrun zP 145 [zR 16 i0, zI x1, zI x2] s24) (fun r25 s25 =>
                                        some (.inl (some (zI r25)), s25)))))))))))))
                  else
                  (zcI (zrun zP 136 [zR 16 i0, zI 0, zI 2, zI 2] s11) (fun r26 s26 =>
                    if r26 = 0 then
                      (some (.inl (some (zI 0)), s26))
                      else
                      (zcV (zrun zP 188 [zR 16 i0] s26) (fun s27 =>
                        zcI (zrun zP 143 [zI x1, zI x2, zI 1] s27) (fun r28 s28 =>
                          zcI (zrun zP 145 [zR 16 i0, zI x1, zI (x2 + 1)] s28) (fun r29 s29 =>
                            if r28 < 0 ∨ 745 ≤ Int32.toNatClampNeg r28 then
                              (none)
                              else
                              (zcV (zrun zP 154 [zR 16 i0, zI x1, zI (x2 + 1)] (zms s29.1 31 0 (Int32.toNatClampNeg r28) r29, s29.2)) (fun s30 =>
                                zcI (zrun zP 145 [zR 16 i0, zI x1, zI x2] s30) (fun r31 s31 =>
                                  some (.inl (some (zI r31)), s31)))))))))))))
            else
            (zcI (zrun zP 136 [zR 16 i0, zI 0, zI 2, zI 2] s9) (fun r32 s32 =>
              if r32 = 0 then
                (some (.inl (some (zI 0)), s32))
                else
                (zcV (zrun zP 188 [zR 16 i0] s32) (fun s33 =>
                  zcI (zrun zP 143 [zI x1, zI x2, zI 1] s33) (fun r34 s34 =>
                    zcI (zrun zP 145 [zR 16 i0, zI x1, zI (x2 + 1)] s34) (fun r35 s35 =>
                      if r34 < 0 ∨ 745 ≤ Int32.toNatClampNeg r34 then
                        (none)
                        else
                        (zcV (zrun zP 154 [zR 16 i0, zI x1, zI (x2 + 1)] (zms s35.1 31 0 (Int32.toNatClampNeg r34) r35, s35.2)) (fun s36 =>
                          zcI (zrun zP 145 [zR 16 i0, zI x1, zI x2] s36) (fun r37 s37 =>
                            some (.inl (some (zI r37)), s37)))))))))))))))) := (zrun_eq _ _ _).trans ((zun_eq zK_X6_join [] 78 _ _).trans rfl)
set_option maxRecDepth 100000 in
theorem e_X6_stopAhead_4 (i0 : Nat) (x1 : Int32) (x2 : Int32) (x3 : Int32) (σ : zSt) : zX zP zK_X6_stopAhead (4, [zR 16 i0, zI x1, zI x2, zI x3], []) σ = (
  if x3 < 0 then
  (some (.inl (some (zI (-1))), σ))
  else
  (zcI (zrun zP 151 [zR 16 i0, zI x1, zI x3] σ) (fun r1 s1 =>
    if r1 = 0 then
      (zX zP zK_X6_stopAhead (4, [zR 16 i0, zI x1, zI x2, zI (x3 + (-1))], []) s1)
      else
      (some (.inl (some (zI x3)), s1))))) := (zun_eq zK_X6_stopAhead [4] 10 _ _).trans rfl
set_option maxRecDepth 100000 in
theorem e_X6_stopAhead (i0 : Nat) (x1 : Int32) (x2 : Int32) (σ : zSt) : zrun zP 201 [zR 16 i0, zI x1, zI x2] σ = (
  zX zP zK_X6_stopAhead (4, [zR 16 i0, zI x1, zI x2, zI (x2 - 1)], []) σ) := (zrun_eq _ _ _).trans ((zun_eq zK_X6_stopAhead [4] 5 _ _).trans rfl)
set_option maxRecDepth 100000 in
theorem e_X6_stopBehind_4 (i0 : Nat) (x1 : Int32) (x2 : Int32) (x3 : Int32) (σ : zSt) : zX zP zK_X6_stopBehind (4, [zR 16 i0, zI x1, zI x2, zI x3], []) σ = (
  if (999 : Int32) < x3 then
  (some (.inl (some (zI 1000)), σ))
  else
  (zcI (zrun zP 151 [zR 16 i0, zI x1, zI x3] σ) (fun r1 s1 =>
    if r1 = 0 then
      (zX zP zK_X6_stopBehind (4, [zR 16 i0, zI x1, zI x2, zI (x3 + 1)], []) s1)
      else
      (some (.inl (some (zI x3)), s1))))) := (zun_eq zK_X6_stopBehind [4] 11 _ _).trans rfl
set_option maxRecDepth 100000 in
theorem e_X6_stopBehind (i0 : Nat) (x1 : Int32) (x2 : Int32) (σ : zSt) : zrun zP 202 [zR 16 i0, zI x1, zI x2] σ = (
  zX zP zK_X6_stopBehind (4, [zR 16 i0, zI x1, zI x2, zI (x2 + 1)], []) σ) := (zrun_eq _ _ _).trans ((zun_eq zK_X6_stopBehind [4] 5 _ _).trans rfl)
set_option maxRecDepth 100000 in
theorem e_X6_isStopOf (i0 : Nat) (x1 : Int32) (x2 : Int32) (σ : zSt) : zrun zP 203 [zR 16 i0, zI x1, zI x2] σ = (
  zcI (zrun zP 138 [zR 16 i0] σ) (fun r1 s1 =>
  zcI (zrun zP 137 [zI x1, zI 0, zI (r1 - 1)] s1) (fun r2 s2 =>
    if r2 = 0 then
      (zcI (zrun zP 136 [zR 16 i0, zI 0, zI 1, zI 0] s2) (fun r3 s3 =>
        if r3 = 0 ∨ r3 = 1 then
          (some (.inl (some (zI r3)), s3))
          else
          (none)))
      else
      (zcI (zrun zP 148 [zR 16 i0, zI x1] s2) (fun r4 s4 =>
        zcI (zrun zP 151 [zR 16 i0, zI r4, zI x2] s4) (fun r5 s5 =>
          if r5 = 0 then
            (zcI (zrun zP 136 [zR 16 i0, zI 0, zI 1, zI 0] s5) (fun r6 s6 =>
              if r6 = 0 ∨ r6 = 1 then
                (some (.inl (some (zI r6)), s6))
                else
                (none)))
            else
            (zcI (zrun zP 136 [zR 16 i0, zI 1, zI 1, zI 0] s5) (fun r7 s7 =>
              if r7 = 0 ∨ r7 = 1 then
                (some (.inl (some (zI r7)), s7))
                else
                (none))))))))) := (zrun_eq _ _ _).trans ((zun_eq zK_X6_isStopOf [] 23 _ _).trans rfl)
set_option maxRecDepth 100000 in
theorem e_X6_endsAt_5 (i0 : Nat) (x1 : Int32) (x2 : Int32) (x3 : Int32) (x4 : Int32) (v5 : zAV) (σ : zSt) : zX zP zK_X6_endsAt (5, [zR 16 i0, zI x1, zI x2, zI x3, zI x4, v5], []) σ = (
  zcI (zrun zP 138 [zR 16 i0] σ) (fun r1 s1 =>
  if x4 < r1 then
    (zcI (zrun zP 148 [zR 16 i0, zI x4] s1) (fun r2 s2 =>
      if r2 = x1 then
        (zX zP zK_X6_endsAt (30, [zR 16 i0, zI x1, zI x2, zI x3, zI x4, zI 0], []) s2)
        else
        (zX zP zK_X6_endsAt (5, [zR 16 i0, zI x1, zI x2, zI x3, zI (x4 + 1), v5], []) s2)))
    else
    (some (.inl (some (zI x3)), s1)))) := (zun_eq zK_X6_endsAt [5, 30] 13 _ _).trans rfl
set_option maxRecDepth 100000 in
theorem e_X6_endsAt_30 (i0 : Nat) (x1 : Int32) (x2 : Int32) (x3 : Int32) (x4 : Int32) (x5 : Int32) (σ : zSt) : zX zP zK_X6_endsAt (30, [zR 16 i0, zI x1, zI x2, zI x3, zI x4, zI x5], []) σ = (
  zcI (zrun zP 142 [zR 16 i0, zI x4] σ) (fun r1 s1 =>
  if x5 < r1 then
    (zcI (zrun zP 144 [zR 16 i0, zI x4, zI x5] s1) (fun r2 s2 =>
      if r2 = x2 then
        (zcI (zrun zP 140 [zR 16 i0, zI x4] s2) (fun r3 s3 =>
          if r3 = 3 then
            (zX zP zK_X6_endsAt (30, [zR 16 i0, zI x1, zI x2, zI (x3 + (1 + 0)), zI x4, zI (x5 + 1)], []) s3)
            else
            (zcI (zrun zP 145 [zR 16 i0, zI x4, zI x5] s3) (fun r4 s4 =>
              if r4 = x2 then
                (zX zP zK_X6_endsAt (30, [zR 16 i0, zI x1, zI x2, zI (x3 + (1 + 1)), zI x4, zI (x5 + 1)], []) s4)
                else
                (zX zP zK_X6_endsAt (30, [zR 16 i0, zI x1, zI x2, zI (x3 + (1 + 0)), zI x4, zI (x5 + 1)], []) s4)))))
        else
        (zcI (zrun zP 140 [zR 16 i0, zI x4] s2) (fun r5 s5 =>
          if r5 = 3 then
            (zX zP zK_X6_endsAt (30, [zR 16 i0, zI x1, zI x2, zI (x3 + (0 + 0)), zI x4, zI (x5 + 1)], []) s5)
            else
            (zcI (zrun zP 145 [zR 16 i0, zI x4, zI x5] s5) (fun r6 s6 =>
              if r6 = x2 then
                (zX zP zK_X6_endsAt (30, [zR 16 i0, zI x1, zI x2, zI (x3 + (0 + 1)), zI x4, zI (x5 + 1)], []) s6)
                else
                (zX zP zK_X6_endsAt (30, [zR 16 i0, zI x1, zI x2, zI (x3 + (0 + 0)), zI x4, zI (x5 + 1)], []) s6)))))))
    else
    (zX zP zK_X6_endsAt (5, [zR 16 i0, zI x1, zI x2, zI x3, zI (x4 + 1), zI x5], []) s1))) := (zun_eq zK_X6_endsAt [5, 30] 33 _ _).trans rfl
set_option maxRecDepth 100000 in
theorem e_X6_endsAt (i0 : Nat) (x1 : Int32) (x2 : Int32) (σ : zSt) : zrun zP 204 [zR 16 i0, zI x1, zI x2] σ = (
  zX zP zK_X6_endsAt (5, [zR 16 i0, zI x1, zI x2, zI 0, zI 0, zJunk], []) σ) := (zrun_eq _ _ _).trans ((zun_eq zK_X6_endsAt [5, 30] 5 _ _).trans rfl)
set_option maxRecDepth 100000 in
theorem e_X6_move (i0 : Nat) (x1 : Int32) (x2 : Int32) (x3 : Int32) (σ : zSt) : zrun zP 205 [zR 16 i0, zI x1, zI x2, zI x3] σ = (
  zcI (zrun zP 203 [zR 16 i0, zI x1, zI x2] (zms σ.1 16 i0 0 0, σ.2)) (fun r1 s1 =>
  if r1 = 0 then
    (some (.inl (some (zI 0)), s1))
    else
    (zcI (zrun zP 137 [zI x3, zI 0, zI 999] s1) (fun r2 s2 =>
      zcI (zrun zP 136 [zR 16 i0, zI r2, zI 2, zI 1] s2) (fun r3 s3 =>
        if r3 = 0 then
          (some (.inl (some (zI 0)), s3))
          else
          (zcI (zrun zP 148 [zR 16 i0, zI x1] s3) (fun r4 s4 =>
            zcI (zrun zP 213 [zR 16 i0, zI r4, zI x2, zI x3] s4) (fun r5 s5 =>
              zcI (zrun zP 136 [zR 16 i0, zI r5, zI 3, zI 2] s5) (fun r6 s6 =>
                if r6 = 0 then
                  (some (.inl (some (zI 0)), s6))
                  else
                  (zcI (zrun zP 204 [zR 16 i0, zI r4, zI x2] s6) (fun r7 s7 =>
                    zcV (zrun zP 188 [zR 16 i0] s7) (fun s8 =>
                      zcV (zrun zP 214 [zR 16 i0, zI r4, zI x2, zI x3] s8) (fun s9 =>
                        some (.inl (some (zI r7)), s9)))))))))))))) := (zrun_eq _ _ _).trans ((zun_eq zK_X6_move [] 46 _ _).trans rfl)
set_option maxRecDepth 100000 in
theorem e_X6_stopsFrom_4 (i0 : Nat) (x1 : Int32) (x2 : Int32) (x3 : Int32) (v4 : zAV) (σ : zSt) : zX zP zK_X6_stopsFrom (4, [zR 16 i0, zI x1, zI x2, zI x3, v4], []) σ = (
  zcI (zrun zP 138 [zR 16 i0] σ) (fun r1 s1 =>
  if x3 < r1 then
    (zX zP zK_X6_stopsFrom (15, [zR 16 i0, zI x1, zI x2, zI x3, zI x1], []) s1)
    else
    (some (.inl (some (zI x2)), s1)))) := (zun_eq zK_X6_stopsFrom [4, 15] 7 _ _).trans rfl
set_option maxRecDepth 100000 in
theorem e_X6_stopsFrom_15 (i0 : Nat) (x1 : Int32) (x2 : Int32) (x3 : Int32) (x4 : Int32) (σ : zSt) : zX zP zK_X6_stopsFrom (15, [zR 16 i0, zI x1, zI x2, zI x3, zI x4], []) σ = (
  if (999 : Int32) < x4 then
  (zX zP zK_X6_stopsFrom (4, [zR 16 i0, zI x1, zI x2, zI (x3 + 1), zI x4], []) σ)
  else
  (zcI (zrun zP 148 [zR 16 i0, zI x3] σ) (fun r1 s1 =>
    if r1 = x3 then
      (zcI (zrun zP 151 [zR 16 i0, zI x3, zI x4] s1) (fun r2 s2 =>
        if r2 = 0 then
          (zX zP zK_X6_stopsFrom (15, [zR 16 i0, zI x1, zI (x2 + 0), zI x3, zI (x4 + 1)], []) s2)
          else
          (zX zP zK_X6_stopsFrom (15, [zR 16 i0, zI x1, zI (x2 + 1), zI x3, zI (x4 + 1)], []) s2)))
      else
      (zX zP zK_X6_stopsFrom (15, [zR 16 i0, zI x1, zI (x2 + 0), zI x3, zI (x4 + 1)], []) s1)))) := (zun_eq zK_X6_stopsFrom [4, 15] 21 _ _).trans rfl
set_option maxRecDepth 100000 in
theorem e_X6_stopsFrom (i0 : Nat) (x1 : Int32) (σ : zSt) : zrun zP 206 [zR 16 i0, zI x1] σ = (
  zX zP zK_X6_stopsFrom (4, [zR 16 i0, zI x1, zI 0, zI 0, zJunk], []) σ) := (zrun_eq _ _ _).trans ((zun_eq zK_X6_stopsFrom [4, 15] 5 _ _).trans rfl)
set_option maxRecDepth 100000 in
theorem e_X6_latest_4 (i0 : Nat) (x1 : Int32) (x2 : Int32) (v3 : zAV) (σ : zSt) : zX zP zK_X6_latest (4, [zR 16 i0, zI x1, zI x2, v3], []) σ = (
  zcI (zrun zP 138 [zR 16 i0] σ) (fun r1 s1 =>
  if x2 < r1 then
    (zX zP zK_X6_latest (14, [zR 16 i0, zI x1, zI x2, zI 0], []) s1)
    else
    (some (.inl (some (zI x1)), s1)))) := (zun_eq zK_X6_latest [4, 14] 7 _ _).trans rfl
set_option maxRecDepth 100000 in
theorem e_X6_latest_14 (i0 : Nat) (x1 : Int32) (x2 : Int32) (x3 : Int32) (σ : zSt) : zX zP zK_X6_latest (14, [zR 16 i0, zI x1, zI x2, zI x3], []) σ = (
  zcI (zrun zP 142 [zR 16 i0, zI x2] σ) (fun r1 s1 =>
  if x3 < r1 then
    (zcI (zrun zP 145 [zR 16 i0, zI x2, zI x3] s1) (fun r2 s2 =>
      zX zP zK_X6_latest (14, [zR 16 i0, zI (if x1 < r2 then r2 else x1), zI x2, zI (x3 + 1)], []) s2))
    else
    (zX zP zK_X6_latest (4, [zR 16 i0, zI x1, zI (x2 + 1), zI x3], []) s1))) := (zun_eq zK_X6_latest [4, 14] 15 _ _).trans rfl
set_option maxRecDepth 100000 in
theorem e_X6_latest (i0 : Nat) (σ : zSt) : zrun zP 207 [zR 16 i0] σ = (
  zX zP zK_X6_latest (4, [zR 16 i0, zI (-1), zI 0, zJunk], []) σ) := (zrun_eq _ _ _).trans ((zun_eq zK_X6_latest [4, 14] 5 _ _).trans rfl)
set_option maxRecDepth 100000 in
theorem e_X6_silence_92 (i0 : Nat) (x1 : Int32) (x2 : Int32) (x3 : Int32) (x4 : Int32) (v5 : zAV) (σ : zSt) : zX zP zK_X6_silence (92, [zR 16 i0, zI x1, zI x2, zI x3, zI x4, v5], []) σ = (
  zcI (zrun zP 138 [zR 16 i0] σ) (fun r1 s1 =>
  if x4 < r1 then
    (zX zP zK_X6_silence (104, [zR 16 i0, zI x1, zI x2, zI x3, zI x4, zI 0], []) s1)
    else
    (some (.inl (some (zI x3)), s1)))) := (zun_eq zK_X6_silence [92, 104] 7 _ _).trans rfl
set_option maxRecDepth 100000 in
theorem e_X6_silence_104 (i0 : Nat) (x1 : Int32) (x2 : Int32) (x3 : Int32) (x4 : Int32) (x5 : Int32) (σ : zSt) : zX zP zK_X6_silence (104, [zR 16 i0, zI x1, zI x2, zI x3, zI x4, zI x5], []) σ = (
  zcI (zrun zP 142 [zR 16 i0, zI x4] σ) (fun r1 s1 =>
  if x5 < r1 then
    (zcI (zrun zP 144 [zR 16 i0, zI x4, zI x5] s1) (fun r2 s2 =>
      if x1 < r2 then
        (zcI (zrun zP 143 [zI x4, zI x5, zI 0] s2) (fun r3 s3 =>
          if r3 < 0 ∨ 745 ≤ Int32.toNatClampNeg r3 then
            (none)
            else
            (if r3 < 0 ∨ 745 ≤ Int32.toNatClampNeg r3 then
              (none)
              else
              (zcI (zrun zP 145 [zR 16 i0, zI x4, zI x5] (zms s3.1 31 0 (Int32.toNatClampNeg r3) ((s3.1 31 0 (Int32.toNatClampNeg r3)) + x2), s3.2)) (fun r4 s4 =>
                if x1 < r4 then
                  (zcI (zrun zP 143 [zI x4, zI x5, zI 1] s4) (fun r5 s5 =>
                    if r5 < 0 ∨ 745 ≤ Int32.toNatClampNeg r5 then
                      (none)
                      else
                      (if r5 < 0 ∨ 745 ≤ Int32.toNatClampNeg r5 then
                        (none)
                        else
                        (zX zP zK_X6_silence (104, [zR 16 i0, zI x1, zI x2, zI x3, zI x4, zI (x5 + 1)], []) (zms s5.1 31 0 (Int32.toNatClampNeg r5) ((s5.1 31 0 (Int32.toNatClampNeg r5)) + x2), s5.2)))))
                  else
                  (zX zP zK_X6_silence (104, [zR 16 i0, zI x1, zI x2, zI x3, zI x4, zI (x5 + 1)], []) s4))))))
        else
        (zcI (zrun zP 145 [zR 16 i0, zI x4, zI x5] s2) (fun r6 s6 =>
          if x1 < r6 then
            (zcI (zrun zP 143 [zI x4, zI x5, zI 1] s6) (fun r7 s7 =>
              if r7 < 0 ∨ 745 ≤ Int32.toNatClampNeg r7 then
                (none)
                else
                (if r7 < 0 ∨ 745 ≤ Int32.toNatClampNeg r7 then
                  (none)
                  else
                  (zX zP zK_X6_silence (104, [zR 16 i0, zI x1, zI x2, zI x3, zI x4, zI (x5 + 1)], []) (zms s7.1 31 0 (Int32.toNatClampNeg r7) ((s7.1 31 0 (Int32.toNatClampNeg r7)) + x2), s7.2)))))
            else
            (zX zP zK_X6_silence (104, [zR 16 i0, zI x1, zI x2, zI x3, zI x4, zI (x5 + 1)], []) s6)))))
    else
    (zX zP zK_X6_silence (92, [zR 16 i0, zI x1, zI x2, zI x3, zI (x4 + 1), zI x5], []) s1))) := (zun_eq zK_X6_silence [92, 104] 42 _ _).trans rfl
set_option maxRecDepth 100000 in
theorem e_X6_silence (i0 : Nat) (x1 : Int32) (x2 : Int32) (σ : zSt) : zrun zP 208 [zR 16 i0, zI x1, zI x2] σ = (
  zcI (zrun zP 137 [zI x1, zI 0, zI 999] (zms σ.1 16 i0 0 0, σ.2)) (fun r1 s1 =>
  if r1 = 0 then
    (zcI (zrun zP 136 [zR 16 i0, zI 0, zI 1, zI 1] s1) (fun r2 s2 =>
      if r2 = 0 then
        (some (.inl (some (zI 0)), s2))
        else
        (zcI (zrun zP 207 [zR 16 i0] s2) (fun r3 s3 =>
          if x1 < r3 then
            (zcI (zrun zP 207 [zR 16 i0] s3) (fun r4 s4 =>
              if (999 : Int32) < (r4 + x2) then
                (zcI (zrun zP 136 [zR 16 i0, zI 0, zI 2, zI 2] s4) (fun r5 s5 =>
                  if r5 = 0 then
                    (some (.inl (some (zI 0)), s5))
                    else
                    (zcI (zrun zP 206 [zR 16 i0, zI (x1 + 1)] s5) (fun r6 s6 =>
                      zcV (zrun zP 188 [zR 16 i0] s6) (fun s7 =>
                        zX zP zK_X6_silence (92, [zR 16 i0, zI x1, zI x2, zI r6, zI 0, zJunk], []) s7)))))
                else
                (zcI (zrun zP 136 [zR 16 i0, zI 1, zI 2, zI 2] s4) (fun r8 s8 =>
                  if r8 = 0 then
                    (some (.inl (some (zI 0)), s8))
                    else
                    (zcI (zrun zP 206 [zR 16 i0, zI (x1 + 1)] s8) (fun r9 s9 =>
                      zcV (zrun zP 188 [zR 16 i0] s9) (fun s10 =>
                        zX zP zK_X6_silence (92, [zR 16 i0, zI x1, zI x2, zI r9, zI 0, zJunk], []) s10)))))))
            else
            (zcI (zrun zP 136 [zR 16 i0, zI 1, zI 2, zI 2] s3) (fun r11 s11 =>
              if r11 = 0 then
                (some (.inl (some (zI 0)), s11))
                else
                (zcI (zrun zP 206 [zR 16 i0, zI (x1 + 1)] s11) (fun r12 s12 =>
                  zcV (zrun zP 188 [zR 16 i0] s12) (fun s13 =>
                    zX zP zK_X6_silence (92, [zR 16 i0, zI x1, zI x2, zI r12, zI 0, zJunk], []) s13)))))))))
    else
    (zcI (zrun zP 137 [zI x2, zI 1, zI 999] s1) (fun r14 s14 =>
      if r14 = 0 then
        (zcI (zrun zP 136 [zR 16 i0, zI 0, zI 1, zI 1] s14) (fun r15 s15 =>
          if r15 = 0 then
            (some (.inl (some (zI 0)), s15))
            else
            (zcI (zrun zP 207 [zR 16 i0] s15) (fun r16 s16 =>
              if x1 < r16 then
                (zcI (zrun zP 207 [zR 16 i0] s16) (fun r17 s17 =>
                  if (999 : Int32) < (r17 + x2) then
                    (zcI (zrun zP 136 [zR 16 i0, zI 0, zI 2, zI 2] s17) (fun r18 s18 =>
                      if r18 = 0 then
                        (some (.inl (some (zI 0)), s18))
                        else
                        (zcI (zrun zP 206 [zR 16 i0, zI (x1 + 1)] s18) (fun r19 s19 =>
                          zcV (zrun zP 188 [zR 16 i0] s19) (fun s20 =>
                            zX zP zK_X6_silence (92, [zR 16 i0, zI x1, zI x2, zI r19, zI 0, zJunk], []) s20)))))
                    else
                    (zcI (zrun zP 136 [zR 16 i0, zI 1, zI 2, zI 2] s17) (fun r21 s21 =>
                      if r21 = 0 then
                        (some (.inl (some (zI 0)), s21))
                        else
                        (zcI (zrun zP 206 [zR 16 i0, zI (x1 + 1)] s21) (fun r22 s22 =>
                          zcV (zrun zP 188 [zR 16 i0] s22) (fun s23 =>
                            zX zP zK_X6_silence (92, [zR 16 i0, zI x1, zI x2, zI r22, zI 0, zJunk], []) s23)))))))
                else
                (zcI (zrun zP 136 [zR 16 i0, zI 1, zI 2, zI 2] s16) (fun r24 s24 =>
                  if r24 = 0 then
                    (some (.inl (some (zI 0)), s24))
                    else
                    (zcI (zrun zP 206 [zR 16 i0, zI (x1 + 1)] s24) (fun r25 s25 =>
                      zcV (zrun zP 188 [zR 16 i0] s25) (fun s26 =>
                        zX zP zK_X6_silence (92, [zR 16 i0, zI x1, zI x2, zI r25, zI 0, zJunk], []) s26)))))))))
        else
        (zcI (zrun zP 136 [zR 16 i0, zI 1, zI 1, zI 1] s14) (fun r27 s27 =>
          if r27 = 0 then
            (some (.inl (some (zI 0)), s27))
            else
            (zcI (zrun zP 207 [zR 16 i0] s27) (fun r28 s28 =>
              if x1 < r28 then
                (zcI (zrun zP 207 [zR 16 i0] s28) (fun r29 s29 =>
                  if (999 : Int32) < (r29 + x2) then
                    (zcI (zrun zP 136 [zR 16 i0, zI 0, zI 2, zI 2] s29) (fun r30 s30 =>
                      if r30 = 0 then
                        (some (.inl (some (zI 0)), s30))
                        else
                        (zcI (zrun zP 206 [zR 16 i0, zI (x1 + 1)] s30) (fun r31 s31 =>
                          zcV (zrun zP 188 [zR 16 i0] s31) (fun s32 =>
                            zX zP zK_X6_silence (92, [zR 16 i0, zI x1, zI x2, zI r31, zI 0, zJunk], []) s32)))))
                    else
                    (zcI (zrun zP 136 [zR 16 i0, zI 1, zI 2, zI 2] s29) (fun r33 s33 =>
                      if r33 = 0 then
                        (some (.inl (some (zI 0)), s33))
                        else
                        (zcI (zrun zP 206 [zR 16 i0, zI (x1 + 1)] s33) (fun r34 s34 =>
                          zcV (zrun zP 188 [zR 16 i0] s34) (fun s35 =>
                            zX zP zK_X6_silence (92, [zR 16 i0, zI x1, zI x2, zI r34, zI 0, zJunk], []) s35)))))))
                else
                (zcI (zrun zP 136 [zR 16 i0, zI 1, zI 2, zI 2] s28) (fun r36 s36 =>
                  if r36 = 0 then
                    (some (.inl (some (zI 0)), s36))
                    else
                    (zcI (zrun zP 206 [zR 16 i0, zI (x1 + 1)] s36) (fun r37 s37 =>
                      zcV (zrun zP 188 [zR 16 i0] s37) (fun s38 =>
                        zX zP zK_X6_silence (92, [zR 16 i0, zI x1, zI x2, zI r37, zI 0, zJunk], []) s38))))))))))))) := (zrun_eq _ _ _).trans ((zun_eq zK_X6_silence [92, 104] 48 _ _).trans rfl)
set_option maxRecDepth 100000 in
theorem e_X6_areLetters_4 (x0 : Int32) (x1 : Int32) (x2 : Int32) (σ : zSt) : zX zP zK_X6_areLetters (4, [zI x0, zI x1, zI x2], []) σ = (
  if (0 : Int32) < x1 then
  (if (32 : Int32) = 0 then
    (none)
    else
    (zcI (zrun zP 137 [zI (x1 - x1 / 32 * 32), zI 1, zI 26] σ) (fun r1 s1 =>
      if r1 = 0 then
        (some (.inl (some (zI 0)), s1))
        else
        (if (32 : Int32) = 0 then
          (none)
          else
          (zX zP zK_X6_areLetters (4, [zI x0, zI (x1 / 32), zI (x2 + 1)], []) s1)))))
  else
  (if x0 < 0 then
    (some (.inl (some (zI 0)), σ))
    else
    (if (4 : Int32) < x2 then
      (some (.inl (some (zI 0)), σ))
      else
      (some (.inl (some (zI 1)), σ))))) := (zun_eq zK_X6_areLetters [4] 16 _ _).trans rfl
set_option maxRecDepth 100000 in
theorem e_X6_areLetters (x0 : Int32) (σ : zSt) : zrun zP 209 [zI x0] σ = (
  zX zP zK_X6_areLetters (4, [zI x0, zI x0, zI 0], []) σ) := (zrun_eq _ _ _).trans ((zun_eq zK_X6_areLetters [4] 5 _ _).trans rfl)
set_option maxRecDepth 100000 in
theorem e_X6_label (i0 : Nat) (x1 : Int32) (x2 : Int32) (x3 : Int32) (σ : zSt) : zrun zP 210 [zR 16 i0, zI x1, zI x2, zI x3] σ = (
  zcI (zrun zP 190 [zR 16 i0, zI x1, zI x2] (zms σ.1 16 i0 0 0, σ.2)) (fun r1 s1 =>
  if r1 = 0 then
    (some (.inl (some (zI 0)), s1))
    else
    (zcI (zrun zP 209 [zI x3] s1) (fun r2 s2 =>
      zcI (zrun zP 136 [zR 16 i0, zI r2, zI 2, zI 1] s2) (fun r3 s3 =>
        if r3 = 0 then
          (some (.inl (some (zI 0)), s3))
          else
          (zcV (zrun zP 188 [zR 16 i0] s3) (fun s4 =>
            zcI (zrun zP 146 [zR 16 i0, zI x1, zI x2] s4) (fun r5 s5 =>
              zcI (zrun zP 143 [zI x1, zI x2, zI 2] s5) (fun r6 s6 =>
                if r6 < 0 ∨ 745 ≤ Int32.toNatClampNeg r6 then
                  (none)
                  else
                  (some (.inl (some (zI r5)), (zms s6.1 31 0 (Int32.toNatClampNeg r6) x3, s6.2)))))))))))) := (zrun_eq _ _ _).trans ((zun_eq zK_X6_label [] 33 _ _).trans rfl)
set_option maxRecDepth 100000 in
theorem e_X6_adopt_33 (i0 : Nat) (x1 : Int32) (x2 : Int32) (x3 : Int32) (x4 : Int32) (σ : zSt) : zX zP zK_X6_adopt (33, [zR 16 i0, zI x1, zI x2, zI x3, zI x4], []) σ = (
  zcI (zrun zP 142 [zR 16 i0, zI x1] σ) (fun r1 s1 =>
  if x4 < r1 then
    (zcI (zrun zP 212 [zR 16 i0, zI x1, zI x4, zI x2] s1) (fun r2 s2 =>
      if (0 : Int32) < r2 then
        (zX zP zK_X6_adopt (33, [zR 16 i0, zI x1, zI x2, zI (x3 + 1), zI (x4 + 1)], []) s2)
        else
        (zX zP zK_X6_adopt (33, [zR 16 i0, zI x1, zI x2, zI (x3 + 0), zI (x4 + 1)], []) s2)))
    else
    (if x3 = 0 then
      (some (.inl (some (zI 0)), s1))
      else
      (zcV (zrun zP 188 [zR 16 i0] s1) (fun s3 =>
        zX zP zK_X6_adopt (81, [zR 16 i0, zI x1, zI x2, zI x3, zI 0], []) s3))))) := (zun_eq zK_X6_adopt [33, 81] 19 _ _).trans rfl
set_option maxRecDepth 100000 in
theorem e_X6_adopt_81 (i0 : Nat) (x1 : Int32) (x2 : Int32) (x3 : Int32) (x4 : Int32) (σ : zSt) : zX zP zK_X6_adopt (81, [zR 16 i0, zI x1, zI x2, zI x3, zI x4], []) σ = (
  zcI (zrun zP 142 [zR 16 i0, zI x1] σ) (fun r1 s1 =>
  if x4 < r1 then
    (zcI (zrun zP 212 [zR 16 i0, zI x1, zI x4, zI x2] s1) (fun r2 s2 =>
      if (0 : Int32) < r2 then
        (zcI (zrun zP 143 [zI x1, zI x4, zI 2] s2) (fun r3 s3 =>
          zcI (zrun zP 212 [zR 16 i0, zI x1, zI x4, zI x2] s3) (fun r4 s4 =>
            if r3 < 0 ∨ 745 ≤ Int32.toNatClampNeg r3 then
              (none)
              else
              (zX zP zK_X6_adopt (81, [zR 16 i0, zI x1, zI x2, zI x3, zI (x4 + 1)], []) (zms s4.1 31 0 (Int32.toNatClampNeg r3) r4, s4.2)))))
        else
        (zX zP zK_X6_adopt (81, [zR 16 i0, zI x1, zI x2, zI x3, zI (x4 + 1)], []) s2)))
    else
    (some (.inl (some (zI x3)), s1)))) := (zun_eq zK_X6_adopt [33, 81] 26 _ _).trans rfl
set_option maxRecDepth 100000 in
theorem e_X6_adopt (i0 : Nat) (x1 : Int32) (σ : zSt) : zrun zP 211 [zR 16 i0, zI x1] σ = (
  zcI (zrun zP 189 [zR 16 i0, zI x1] (zms σ.1 16 i0 0 0, σ.2)) (fun r1 s1 =>
  if r1 = 0 then
    (some (.inl (some (zI 0)), s1))
    else
    (zcI (zrun zP 236 [zR 16 i0, zI x1] s1) (fun r2 s2 =>
      if r2 = (-1) then
        (some (.inl (some (zI (-1))), s2))
        else
        (zX zP zK_X6_adopt (33, [zR 16 i0, zI x1, zI r2, zI 0, zI 0], []) s2))))) := (zrun_eq _ _ _).trans ((zun_eq zK_X6_adopt [33, 81] 19 _ _).trans rfl)
set_option maxRecDepth 100000 in
theorem e_X6_adopted_14 (i0 : Nat) (x1 : Int32) (x2 : Int32) (x3 : Int32) (x4 : Int32) (σ : zSt) : zX zP zK_X6_adopted (14, [zR 16 i0, zI x1, zI x2, zI x3, zI x4], []) σ = (
  zcI (zrun zP 139 [zI x3, zI 2] σ) (fun r1 s1 =>
  if r1 < 0 ∨ 745 ≤ Int32.toNatClampNeg r1 then
    (none)
    else
    (if x4 < (s1.1 32 0 (Int32.toNatClampNeg r1)) then
      (zcI (zrun zP 143 [zI x3, zI x4, zI 0] s1) (fun r2 s2 =>
        if r2 < 0 ∨ 745 ≤ Int32.toNatClampNeg r2 then
          (none)
          else
          (zcI (zrun zP 144 [zR 16 i0, zI x1, zI x2] s2) (fun r3 s3 =>
            if (s2.1 32 0 (Int32.toNatClampNeg r2)) = r3 then
              (zcI (zrun zP 143 [zI x3, zI x4, zI 1] s3) (fun r4 s4 =>
                if r4 < 0 ∨ 745 ≤ Int32.toNatClampNeg r4 then
                  (none)
                  else
                  (zcI (zrun zP 145 [zR 16 i0, zI x1, zI x2] s4) (fun r5 s5 =>
                    if (s4.1 32 0 (Int32.toNatClampNeg r4)) = r5 then
                      (zcI (zrun zP 143 [zI x3, zI x4, zI 2] s5) (fun r6 s6 =>
                        if r6 < 0 ∨ 745 ≤ Int32.toNatClampNeg r6 then
                          (none)
                          else
                          (some (.inl (some (zI (s6.1 32 0 (Int32.toNatClampNeg r6)))), s6))))
                      else
                      (zX zP zK_X6_adopted (14, [zR 16 i0, zI x1, zI x2, zI x3, zI (x4 + 1)], []) s5)))))
              else
              (zX zP zK_X6_adopted (14, [zR 16 i0, zI x1, zI x2, zI x3, zI (x4 + 1)], []) s3)))))
      else
      (some (.inl (some (zI 0)), s1))))) := (zun_eq zK_X6_adopted [14] 41 _ _).trans rfl
set_option maxRecDepth 100000 in
theorem e_X6_adopted (i0 : Nat) (x1 : Int32) (x2 : Int32) (x3 : Int32) (σ : zSt) : zrun zP 212 [zR 16 i0, zI x1, zI x2, zI x3] σ = (
  zcI (zrun zP 146 [zR 16 i0, zI x1, zI x2] σ) (fun r1 s1 =>
  if r1 = 0 then
    (zX zP zK_X6_adopted (14, [zR 16 i0, zI x1, zI x2, zI x3, zI 0], []) s1)
    else
    (some (.inl (some (zI 0)), s1)))) := (zrun_eq _ _ _).trans ((zun_eq zK_X6_adopted [14] 8 _ _).trans rfl)
set_option maxRecDepth 100000 in
theorem e_X6_mayMove (i0 : Nat) (x1 : Int32) (x2 : Int32) (x3 : Int32) (σ : zSt) : zrun zP 213 [zR 16 i0, zI x1, zI x2, zI x3] σ = (
  zcI (zrun zP 201 [zR 16 i0, zI x1, zI x2] σ) (fun r1 s1 =>
  if r1 < x3 then
    (zcI (zrun zP 202 [zR 16 i0, zI x1, zI x2] s1) (fun r2 s2 =>
      if x3 < r2 then
        (some (.inl (some (zI 1)), s2))
        else
        (some (.inl (some (zI 0)), s2))))
    else
    (some (.inl (some (zI 0)), s1)))) := (zrun_eq _ _ _).trans ((zun_eq zK_X6_mayMove [] 16 _ _).trans rfl)
set_option maxRecDepth 100000 in
theorem e_X6_moves_3 (i0 : Nat) (x1 : Int32) (x2 : Int32) (x3 : Int32) (x4 : Int32) (v5 : zAV) (σ : zSt) : zX zP zK_X6_moves (3, [zR 16 i0, zI x1, zI x2, zI x3, zI x4, v5], []) σ = (
  zcI (zrun zP 138 [zR 16 i0] σ) (fun r1 s1 =>
  if x4 < r1 then
    (zcI (zrun zP 148 [zR 16 i0, zI x4] s1) (fun r2 s2 =>
      if r2 = x1 then
        (zX zP zK_X6_moves (28, [zR 16 i0, zI x1, zI x2, zI x3, zI x4, zI 0], []) s2)
        else
        (zX zP zK_X6_moves (3, [zR 16 i0, zI x1, zI x2, zI x3, zI (x4 + 1), v5], []) s2)))
    else
    (some (.inl none, s1)))) := (zun_eq zK_X6_moves [3, 28] 13 _ _).trans rfl
set_option maxRecDepth 100000 in
theorem e_X6_moves_28 (i0 : Nat) (x1 : Int32) (x2 : Int32) (x3 : Int32) (x4 : Int32) (x5 : Int32) (σ : zSt) : zX zP zK_X6_moves (28, [zR 16 i0, zI x1, zI x2, zI x3, zI x4, zI x5], []) σ = (
  zcI (zrun zP 142 [zR 16 i0, zI x4] σ) (fun r1 s1 =>
  if x5 < r1 then
    (zcI (zrun zP 144 [zR 16 i0, zI x4, zI x5] s1) (fun r2 s2 =>
      if r2 = x2 then
        (zcI (zrun zP 143 [zI x4, zI x5, zI 0] s2) (fun r3 s3 =>
          if r3 < 0 ∨ 745 ≤ Int32.toNatClampNeg r3 then
            (none)
            else
            (zcI (zrun zP 145 [zR 16 i0, zI x4, zI x5] (zms s3.1 31 0 (Int32.toNatClampNeg r3) x3, s3.2)) (fun r4 s4 =>
              if r4 = x2 then
                (zcI (zrun zP 143 [zI x4, zI x5, zI 1] s4) (fun r5 s5 =>
                  if r5 < 0 ∨ 745 ≤ Int32.toNatClampNeg r5 then
                    (none)
                    else
                    (zX zP zK_X6_moves (28, [zR 16 i0, zI x1, zI x2, zI x3, zI x4, zI (x5 + 1)], []) (zms s5.1 31 0 (Int32.toNatClampNeg r5) x3, s5.2))))
                else
                (zX zP zK_X6_moves (28, [zR 16 i0, zI x1, zI x2, zI x3, zI x4, zI (x5 + 1)], []) s4)))))
        else
        (zcI (zrun zP 145 [zR 16 i0, zI x4, zI x5] s2) (fun r6 s6 =>
          if r6 = x2 then
            (zcI (zrun zP 143 [zI x4, zI x5, zI 1] s6) (fun r7 s7 =>
              if r7 < 0 ∨ 745 ≤ Int32.toNatClampNeg r7 then
                (none)
                else
                (zX zP zK_X6_moves (28, [zR 16 i0, zI x1, zI x2, zI x3, zI x4, zI (x5 + 1)], []) (zms s7.1 31 0 (Int32.toNatClampNeg r7) x3, s7.2))))
            else
            (zX zP zK_X6_moves (28, [zR 16 i0, zI x1, zI x2, zI x3, zI x4, zI (x5 + 1)], []) s6)))))
    else
    (zX zP zK_X6_moves (3, [zR 16 i0, zI x1, zI x2, zI x3, zI (x4 + 1), zI x5], []) s1))) := (zun_eq zK_X6_moves [3, 28] 36 _ _).trans rfl
set_option maxRecDepth 100000 in
theorem e_X6_moves (i0 : Nat) (x1 : Int32) (x2 : Int32) (x3 : Int32) (σ : zSt) : zrun zP 214 [zR 16 i0, zI x1, zI x2, zI x3] σ = (
  zX zP zK_X6_moves (3, [zR 16 i0, zI x1, zI x2, zI x3, zI 0, zJunk], []) σ) := (zrun_eq _ _ _).trans ((zun_eq zK_X6_moves [3, 28] 3 _ _).trans rfl)
set_option maxRecDepth 100000 in
theorem e_X6_nearest_5 (k0 i0 : Nat) (x1 : Int32) (x2 : Int32) (x3 : Int32) (x4 : Int32) (σ : zSt) : zX zP zK_X6_nearest (5, [zR (k0 + 1) i0, zI x1, zI x2, zI x3, zI x4], []) σ = (
  if x4 < x1 then
  (if x3 = (-1) then
    (if x4 < 0 ∨ zlenI (k0 + 1) i0 ≤ Int32.toNatClampNeg x4 then
      (none)
      else
      (zX zP zK_X6_nearest (5, [zR (k0 + 1) i0, zI x1, zI x2, zI (σ.1 (k0 + 1) i0 (Int32.toNatClampNeg x4)), zI (x4 + 1)], []) σ))
    else
    (if x4 < 0 ∨ zlenI (k0 + 1) i0 ≤ Int32.toNatClampNeg x4 then
      (none)
      else
      (if (if 0 ≤ ((σ.1 (k0 + 1) i0 (Int32.toNatClampNeg x4)) - x2) then ((σ.1 (k0 + 1) i0 (Int32.toNatClampNeg x4)) - x2) else 0 - ((σ.1 (k0 + 1) i0 (Int32.toNatClampNeg x4)) - x2)) < (if 0 ≤ (x3 - x2) then (x3 - x2) else 0 - (x3 - x2)) then
        (if x4 < 0 ∨ zlenI (k0 + 1) i0 ≤ Int32.toNatClampNeg x4 then
          (none)
          else
          (zX zP zK_X6_nearest (5, [zR (k0 + 1) i0, zI x1, zI x2, zI (σ.1 (k0 + 1) i0 (Int32.toNatClampNeg x4)), zI (x4 + 1)], []) σ))
        else
        (zX zP zK_X6_nearest (5, [zR (k0 + 1) i0, zI x1, zI x2, zI x3, zI (x4 + 1)], []) σ))))
  else
  (some (.inl (some (zI x3)), σ))) := (zun_eq zK_X6_nearest [5] 24 _ _).trans rfl
set_option maxRecDepth 100000 in
theorem e_X6_nearest (k0 i0 : Nat) (x1 : Int32) (x2 : Int32) (σ : zSt) : zrun zP 215 [zR (k0 + 1) i0, zI x1, zI x2] σ = (
  zX zP zK_X6_nearest (5, [zR (k0 + 1) i0, zI x1, zI x2, zI (-1), zI 0], []) σ) := (zrun_eq _ _ _).trans ((zun_eq zK_X6_nearest [5] 5 _ _).trans rfl)
set_option maxRecDepth 100000 in
theorem e_X6_snap_90 (i0 : Nat) (x1 : Int32) (x2 : Int32) (x3 : Int32) (x4 : Int32) (x5 : Int32) (x6 : Int32) (x7 : Int32) (v8 : zAV) (σ : zSt) : zX zP zK_X6_snap (90, [zR 16 i0, zI x1, zI x2, zI x3, zI x4, zI x5, zI x6, zI x7, v8], []) σ = (
  if x7 < x4 then
  (if x7 < 0 ∨ 80 ≤ Int32.toNatClampNeg x7 then
    (none)
    else
    (zcI (zrun zP 215 [zR 38 0, zI x5, zI (σ.1 37 0 (Int32.toNatClampNeg x7))] σ) (fun r1 s1 =>
      if r1 = (-1) then
        (zX zP zK_X6_snap (90, [zR 16 i0, zI x1, zI x2, zI x3, zI x4, zI x5, zI x6, zI (x7 + 1), zI r1], []) s1)
        else
        (if x7 < 0 ∨ 80 ≤ Int32.toNatClampNeg x7 then
          (none)
          else
          (if r1 = (s1.1 37 0 (Int32.toNatClampNeg x7)) then
            (zX zP zK_X6_snap (90, [zR 16 i0, zI x1, zI x2, zI x3, zI x4, zI x5, zI x6, zI (x7 + 1), zI r1], []) s1)
            else
            (if x7 < 0 ∨ 80 ≤ Int32.toNatClampNeg x7 then
              (none)
              else
              (if x2 < (if 0 ≤ (r1 - (s1.1 37 0 (Int32.toNatClampNeg x7))) then (r1 - (s1.1 37 0 (Int32.toNatClampNeg x7))) else 0 - (r1 - (s1.1 37 0 (Int32.toNatClampNeg x7)))) then
                (zX zP zK_X6_snap (90, [zR 16 i0, zI x1, zI x2, zI x3, zI x4, zI x5, zI x6, zI (x7 + 1), zI r1], []) s1)
                else
                (zcI (zrun zP 148 [zR 16 i0, zI x1] s1) (fun r2 s2 =>
                  if x7 < 0 ∨ 80 ≤ Int32.toNatClampNeg x7 then
                    (none)
                    else
                    (zcI (zrun zP 213 [zR 16 i0, zI r2, zI (s2.1 37 0 (Int32.toNatClampNeg x7)), zI r1] s2) (fun r3 s3 =>
                      if r3 = 0 then
                        (zX zP zK_X6_snap (90, [zR 16 i0, zI x1, zI x2, zI x3, zI x4, zI x5, zI x6, zI (x7 + 1), zI r1], []) s3)
                        else
                        (zcI (zrun zP 148 [zR 16 i0, zI x1] s3) (fun r4 s4 =>
                          if x7 < 0 ∨ 80 ≤ Int32.toNatClampNeg x7 then
                            (none)
                            else
                            (zcV (zrun zP 214 [zR 16 i0, zI r4, zI (s4.1 37 0 (Int32.toNatClampNeg x7)), zI r1] s4) (fun s5 =>
                              zX zP zK_X6_snap (90, [zR 16 i0, zI x1, zI x2, zI x3, zI x4, zI x5, zI (x6 + 1), zI (x7 + 1), zI r1], []) s5)))))))))))))))
  else
  (if x6 = 0 then
    (some (.inl (some (zI 0)), σ))
    else
    (zcV (zrun zP 188 [zR 16 i0] σ) (fun s6 =>
      zX zP zK_X6_snap (215, [zR 16 i0, zI x1, zI x2, zI x3, zI x4, zI x5, zI x6, zI 0, v8], []) s6)))) := (zun_eq zK_X6_snap [90, 215] 55 _ _).trans rfl
set_option maxRecDepth 100000 in
theorem e_X6_snap_215 (i0 : Nat) (x1 : Int32) (x2 : Int32) (x3 : Int32) (x4 : Int32) (x5 : Int32) (x6 : Int32) (x7 : Int32) (v8 : zAV) (σ : zSt) : zX zP zK_X6_snap (215, [zR 16 i0, zI x1, zI x2, zI x3, zI x4, zI x5, zI x6, zI x7, v8], []) σ = (
  if x7 < 745 then
  (if x7 < 0 ∨ 745 ≤ Int32.toNatClampNeg x7 then
    (none)
    else
    (if ((745 * ((σ.1 16 i0 6) - 1)) + x7) < 0 ∨ 8940 ≤ Int32.toNatClampNeg ((745 * ((σ.1 16 i0 6) - 1)) + x7) then
      (none)
      else
      (zX zP zK_X6_snap (215, [zR 16 i0, zI x1, zI x2, zI x3, zI x4, zI x5, zI x6, zI (x7 + 1), v8], []) (zms σ.1 34 0 (Int32.toNatClampNeg ((745 * ((σ.1 16 i0 6) - 1)) + x7)) (σ.1 33 0 (Int32.toNatClampNeg x7)), σ.2))))
  else
  (some (.inl (some (zI x6)), σ))) := (zun_eq zK_X6_snap [90, 215] 21 _ _).trans rfl
set_option maxRecDepth 100000 in
theorem e_X6_snap (i0 : Nat) (x1 : Int32) (x2 : Int32) (σ : zSt) : zrun zP 216 [zR 16 i0, zI x1, zI x2] σ = (
  zcI (zrun zP 189 [zR 16 i0, zI x1] (zms σ.1 16 i0 0 0, σ.2)) (fun r1 s1 =>
  if r1 = 0 then
    (some (.inl (some (zI 0)), s1))
    else
    (zcI (zrun zP 137 [zI x2, zI 1, zI 999] s1) (fun r2 s2 =>
      zcI (zrun zP 136 [zR 16 i0, zI r2, zI 2, zI 1] s2) (fun r3 s3 =>
        if r3 = 0 then
          (some (.inl (some (zI 0)), s3))
          else
          (zcI (zrun zP 236 [zR 16 i0, zI x1] s3) (fun r4 s4 =>
            if r4 = (-1) then
              (some (.inl (some (zI (-1))), s4))
              else
              (zcI (zrun zP 239 [zR 31 0, zI x1, zR 37 0] s4) (fun r5 s5 =>
                zcI (zrun zP 239 [zR 32 0, zI r4, zR 38 0] s5) (fun r6 s6 =>
                  zcV (zrun zP 147 [zR 31 0, zR 33 0] s6) (fun s7 =>
                    zX zP zK_X6_snap (90, [zR 16 i0, zI x1, zI x2, zI r4, zI r5, zI r6, zI 0, zI 0, zJunk], []) s7))))))))))) := (zrun_eq _ _ _).trans ((zun_eq zK_X6_snap [90, 215] 47 _ _).trans rfl)
set_option maxRecDepth 100000 in
theorem e_X6_gaps_44 (i0 : Nat) (x1 : Int32) (x2 : Int32) (x3 : Int32) (x4 : Int32) (x5 : Int32) (x6 : Int32) (x7 : Int32) (v8 : zAV) (σ : zSt) : zX zP zK_X6_gaps (44, [zR 16 i0, zI x1, zI x2, zI x3, zI x4, zI x5, zI x6, zI x7, v8], []) σ = (
  zcI (zrun zP 142 [zR 16 i0, zI x1] σ) (fun r1 s1 =>
  if (x7 + 1) < r1 then
    (zcI (zrun zP 140 [zR 16 i0, zI x1] s1) (fun r2 s2 =>
      if r2 = 3 then
        (if x2 = 0 then
          (some (.inl (some (zI x3)), s2))
          else
          (if x2 = 1 then
            (some (.inl (some (zI x4)), s2))
            else
            (if x2 = 2 then
              (some (.inl (some (zI x5)), s2))
              else
              (some (.inl (some (zI x6)), s2)))))
        else
        (zcI (zrun zP 144 [zR 16 i0, zI x1, zI (x7 + 1)] s2) (fun r3 s3 =>
          zcI (zrun zP 145 [zR 16 i0, zI x1, zI x7] s3) (fun r4 s4 =>
            if (r3 - r4) = 0 then
              (zX zP zK_X6_gaps (44, [zR 16 i0, zI x1, zI x2, zI x3, zI x4, zI x5, zI x6, zI (x7 + 1), zI (r3 - r4)], []) s4)
              else
              (zcI (zrun zP 194 [zR 16 i0, zI x1, zI x7] s4) (fun r5 s5 =>
                zcI (zrun zP 194 [zR 16 i0, zI x1, zI (x7 + 1)] s5) (fun r6 s6 =>
                  if r5 = r6 then
                    (if x5 < (r3 - r4) then
                      (zX zP zK_X6_gaps (44, [zR 16 i0, zI x1, zI x2, zI (x3 + 1), zI x7, zI (r3 - r4), zI (x6 + (r3 - r4)), zI (x7 + 1), zI (r3 - r4)], []) s6)
                      else
                      (zX zP zK_X6_gaps (44, [zR 16 i0, zI x1, zI x2, zI (x3 + 1), zI x4, zI x5, zI (x6 + (r3 - r4)), zI (x7 + 1), zI (r3 - r4)], []) s6))
                    else
                    (zX zP zK_X6_gaps (44, [zR 16 i0, zI x1, zI x2, zI x3, zI x4, zI x5, zI x6, zI (x7 + 1), zI (r3 - r4)], []) s6)))))))))
    else
    (if x2 = 0 then
      (some (.inl (some (zI x3)), s1))
      else
      (if x2 = 1 then
        (some (.inl (some (zI x4)), s1))
        else
        (if x2 = 2 then
          (some (.inl (some (zI x5)), s1))
          else
          (some (.inl (some (zI x6)), s1))))))) := (zun_eq zK_X6_gaps [44] 52 _ _).trans rfl
set_option maxRecDepth 100000 in
theorem e_X6_gaps (i0 : Nat) (x1 : Int32) (x2 : Int32) (σ : zSt) : zrun zP 217 [zR 16 i0, zI x1, zI x2] σ = (
  zcI (zrun zP 189 [zR 16 i0, zI x1] (zms σ.1 16 i0 0 0, σ.2)) (fun r1 s1 =>
  if r1 = 0 then
    (some (.inl (some (zI 0)), s1))
    else
    (zcI (zrun zP 137 [zI x2, zI 0, zI 3] s1) (fun r2 s2 =>
      zcI (zrun zP 136 [zR 16 i0, zI r2, zI 2, zI 1] s2) (fun r3 s3 =>
        if r3 = 0 then
          (some (.inl (some (zI 0)), s3))
          else
          (zX zP zK_X6_gaps (44, [zR 16 i0, zI x1, zI x2, zI 0, zI (-1), zI 0, zI 0, zI 0, zJunk], []) s3)))))) := (zrun_eq _ _ _).trans ((zun_eq zK_X6_gaps [44] 27 _ _).trans rfl)
set_option maxRecDepth 100000 in
theorem e_X6_undo_26 (i0 : Nat) (x1 : Int32) (σ : zSt) : zX zP zK_X6_undo (26, [zR 16 i0, zI x1], []) σ = (
  if x1 < 745 then
  (if ((745 * (σ.1 16 i0 6)) + x1) < 0 ∨ 8940 ≤ Int32.toNatClampNeg ((745 * (σ.1 16 i0 6)) + x1) then
    (none)
    else
    (if x1 < 0 ∨ 745 ≤ Int32.toNatClampNeg x1 then
      (none)
      else
      (zX zP zK_X6_undo (26, [zR 16 i0, zI (x1 + 1)], []) (zms σ.1 31 0 (Int32.toNatClampNeg x1) (σ.1 34 0 (Int32.toNatClampNeg ((745 * (σ.1 16 i0 6)) + x1))), σ.2))))
  else
  (some (.inl (some (zI (σ.1 16 i0 6))), σ))) := (zun_eq zK_X6_undo [26] 19 _ _).trans rfl
set_option maxRecDepth 100000 in
theorem e_X6_undo (i0 : Nat) (σ : zSt) : zrun zP 218 [zR 16 i0] σ = (
  if ((zms σ.1 16 i0 0 0) 16 i0 6) = 0 then
  (some (.inl (some (zI (-1))), (zms σ.1 16 i0 0 0, σ.2)))
  else
  (zX zP zK_X6_undo (26, [zR 16 i0, zI 0], []) (zms (zms σ.1 16 i0 0 0) 16 i0 6 (((zms σ.1 16 i0 0 0) 16 i0 6) - 1), σ.2))) := (zrun_eq _ _ _).trans ((zun_eq zK_X6_undo [26] 15 _ _).trans rfl)
set_option maxRecDepth 100000 in
theorem e_X6_keep (i0 : Nat) (σ : zSt) : zrun zP 219 [zR 16 i0] σ = (
  zcV (zrun zP 147 [zR 31 0, zR 32 0] (zms σ.1 16 i0 0 0, σ.2)) (fun s1 =>
  zcI (zrun zP 185 [zR 16 i0, zR 31 0] (zms s1.1 16 i0 7 1, s1.2)) (fun r2 s2 =>
    some (.inl (some (zI r2)), s2)))) := (zrun_eq _ _ _).trans ((zun_eq zK_X6_keep [] 17 _ _).trans rfl)
set_option maxRecDepth 100000 in
theorem e_X6_families_4 (i0 : Nat) (x1 : Int32) (x2 : Int32) (σ : zSt) : zX zP zK_X6_families (4, [zR 16 i0, zI x1, zI x2], []) σ = (
  zcI (zrun zP 138 [zR 16 i0] σ) (fun r1 s1 =>
  if x2 < r1 then
    (zcI (zrun zP 141 [zR 16 i0, zI x2] s1) (fun r2 s2 =>
      if r2 = (-1) then
        (zX zP zK_X6_families (4, [zR 16 i0, zI (x1 + 1), zI (x2 + 1)], []) s2)
        else
        (zX zP zK_X6_families (4, [zR 16 i0, zI (x1 + 0), zI (x2 + 1)], []) s2)))
    else
    (some (.inl (some (zI x1)), s1)))) := (zun_eq zK_X6_families [4] 17 _ _).trans rfl
set_option maxRecDepth 100000 in
theorem e_X6_families (i0 : Nat) (σ : zSt) : zrun zP 220 [zR 16 i0] σ = (
  zX zP zK_X6_families (4, [zR 16 i0, zI 0, zI 0], []) σ) := (zrun_eq _ _ _).trans ((zun_eq zK_X6_families [4] 5 _ _).trans rfl)
set_option maxRecDepth 100000 in
theorem e_X6_told (i0 : Nat) (x1 : Int32) (σ : zSt) : zrun zP 221 [zR 16 i0, zI x1] σ = (
  zcI (zrun zP 137 [zI x1, zI 0, zI 5] (zms σ.1 16 i0 0 0, σ.2)) (fun r1 s1 =>
  zcI (zrun zP 136 [zR 16 i0, zI r1, zI 1, zI 1] s1) (fun r2 s2 =>
    if r2 = 0 then
      (some (.inl (some (zI 0)), s2))
      else
      (if x1 = 0 then
        (zcI (zrun zP 138 [zR 16 i0] s2) (fun r6 s6 =>
          some (.inl (some (zI r6)), s6)))
        else
        (if x1 = (0 + 1) then
        (zcI (zrun zP 185 [zR 16 i0, zR 31 0] s2) (fun r5 s5 =>
          some (.inl (some (zI r5)), s5)))
        else
        (if x1 = ((0 + 1) + 1) then
        (zcI (zrun zP 220 [zR 16 i0] s2) (fun r4 s4 =>
          some (.inl (some (zI r4)), s4)))
        else
        (if x1 = (((0 + 1) + 1) + 1) then
        (some (.inl (some (zI (s2.1 16 i0 6))), s2))
        else
        (if x1 = ((((0 + 1) + 1) + 1) + 1) then
        (some (.inl (some (zI (s2.1 16 i0 10))), s2))
        else
        (if (s2.1 16 i0 7) = 0 then
          (some (.inl (some (zI (-1))), s2))
          else
          (zcI (zrun zP 185 [zR 16 i0, zR 32 0] s2) (fun r3 s3 =>
            some (.inl (some (zI r3)), s3)))))))))))) := (zrun_eq _ _ _).trans ((zun_eq zK_X6_told [] 24 _ _).trans rfl)
set_option maxRecDepth 100000 in
theorem e_X6_timeOf_4 (i0 : Nat) (x1 : Int32) (x2 : Int32) (x3 : Int32) (σ : zSt) : zX zP zK_X6_timeOf (4, [zR 16 i0, zI x1, zI x2, zI x3], []) σ = (
  zcI (zrun zP 142 [zR 16 i0, zI x1] σ) (fun r1 s1 =>
  if x3 < r1 then
    (zcI (zrun zP 145 [zR 16 i0, zI x1, zI x3] s1) (fun r2 s2 =>
      zcI (zrun zP 144 [zR 16 i0, zI x1, zI x3] s2) (fun r3 s3 =>
        zX zP zK_X6_timeOf (4, [zR 16 i0, zI x1, zI (x2 + (r2 - r3)), zI (x3 + 1)], []) s3)))
    else
    (some (.inl (some (zI x2)), s1)))) := (zun_eq zK_X6_timeOf [4] 20 _ _).trans rfl
set_option maxRecDepth 100000 in
theorem e_X6_timeOf (i0 : Nat) (x1 : Int32) (σ : zSt) : zrun zP 222 [zR 16 i0, zI x1] σ = (
  zX zP zK_X6_timeOf (4, [zR 16 i0, zI x1, zI 0, zI 0], []) σ) := (zrun_eq _ _ _).trans ((zun_eq zK_X6_timeOf [4] 5 _ _).trans rfl)
set_option maxRecDepth 100000 in
theorem e_X6_childMany_4 (i0 : Nat) (x1 : Int32) (x2 : Int32) (x3 : Int32) (σ : zSt) : zX zP zK_X6_childMany (4, [zR 16 i0, zI x1, zI x2, zI x3], []) σ = (
  zcI (zrun zP 138 [zR 16 i0] σ) (fun r1 s1 =>
  if x3 < r1 then
    (zcI (zrun zP 141 [zR 16 i0, zI x3] s1) (fun r2 s2 =>
      if r2 = x1 then
        (zX zP zK_X6_childMany (4, [zR 16 i0, zI x1, zI (x2 + 1), zI (x3 + 1)], []) s2)
        else
        (zX zP zK_X6_childMany (4, [zR 16 i0, zI x1, zI (x2 + 0), zI (x3 + 1)], []) s2)))
    else
    (some (.inl (some (zI x2)), s1)))) := (zun_eq zK_X6_childMany [4] 17 _ _).trans rfl
set_option maxRecDepth 100000 in
theorem e_X6_childMany (i0 : Nat) (x1 : Int32) (σ : zSt) : zrun zP 223 [zR 16 i0, zI x1] σ = (
  zX zP zK_X6_childMany (4, [zR 16 i0, zI x1, zI 0, zI 0], []) σ) := (zrun_eq _ _ _).trans ((zun_eq zK_X6_childMany [4] 5 _ _).trans rfl)
set_option maxRecDepth 100000 in
theorem e_X6_stopMany_4 (i0 : Nat) (x1 : Int32) (x2 : Int32) (x3 : Int32) (σ : zSt) : zX zP zK_X6_stopMany (4, [zR 16 i0, zI x1, zI x2, zI x3], []) σ = (
  if (999 : Int32) < x3 then
  (some (.inl (some (zI x2)), σ))
  else
  (zcI (zrun zP 151 [zR 16 i0, zI x1, zI x3] σ) (fun r1 s1 =>
    if r1 = 0 then
      (zX zP zK_X6_stopMany (4, [zR 16 i0, zI x1, zI (x2 + 0), zI (x3 + 1)], []) s1)
      else
      (zX zP zK_X6_stopMany (4, [zR 16 i0, zI x1, zI (x2 + 1), zI (x3 + 1)], []) s1)))) := (zun_eq zK_X6_stopMany [4] 16 _ _).trans rfl
set_option maxRecDepth 100000 in
theorem e_X6_stopMany (i0 : Nat) (x1 : Int32) (σ : zSt) : zrun zP 224 [zR 16 i0, zI x1] σ = (
  zX zP zK_X6_stopMany (4, [zR 16 i0, zI x1, zI 0, zI 0], []) σ) := (zrun_eq _ _ _).trans ((zun_eq zK_X6_stopMany [4] 5 _ _).trans rfl)
set_option maxRecDepth 100000 in
theorem e_X6_tier (i0 : Nat) (x1 : Int32) (x2 : Int32) (σ : zSt) : zrun zP 225 [zR 16 i0, zI x1, zI x2] σ = (
  zcI (zrun zP 189 [zR 16 i0, zI x1] (zms σ.1 16 i0 0 0, σ.2)) (fun r1 s1 =>
  if r1 = 0 then
    (some (.inl (some (zI 0)), s1))
    else
    (zcI (zrun zP 137 [zI x2, zI 0, zI 8] s1) (fun r2 s2 =>
      zcI (zrun zP 136 [zR 16 i0, zI r2, zI 2, zI 1] s2) (fun r3 s3 =>
        if r3 = 0 then
          (some (.inl (some (zI 0)), s3))
          else
          (if x2 = 0 then
            (zcI (zrun zP 140 [zR 16 i0, zI x1] s3) (fun r13 s13 =>
              some (.inl (some (zI r13)), s13)))
            else
            (if x2 = (0 + 1) then
            (zcI (zrun zP 141 [zR 16 i0, zI x1] s3) (fun r12 s12 =>
              some (.inl (some (zI r12)), s12)))
            else
            (if x2 = ((0 + 1) + 1) then
            (zcI (zrun zP 142 [zR 16 i0, zI x1] s3) (fun r11 s11 =>
              some (.inl (some (zI r11)), s11)))
            else
            (if x2 = (((0 + 1) + 1) + 1) then
            (zcI (zrun zP 149 [zR 16 i0, zI x1] s3) (fun r10 s10 =>
              some (.inl (some (zI r10)), s10)))
            else
            (if x2 = ((((0 + 1) + 1) + 1) + 1) then
            (zcI (zrun zP 148 [zR 16 i0, zI x1] s3) (fun r9 s9 =>
              some (.inl (some (zI r9)), s9)))
            else
            (if x2 = (((((0 + 1) + 1) + 1) + 1) + 1) then
            (zcI (zrun zP 222 [zR 16 i0, zI x1] s3) (fun r8 s8 =>
              some (.inl (some (zI r8)), s8)))
            else
            (if x2 = ((((((0 + 1) + 1) + 1) + 1) + 1) + 1) then
            (zcI (zrun zP 223 [zR 16 i0, zI x1] s3) (fun r7 s7 =>
              some (.inl (some (zI r7)), s7)))
            else
            (if x2 = (((((((0 + 1) + 1) + 1) + 1) + 1) + 1) + 1) then
            (zcI (zrun zP 148 [zR 16 i0, zI x1] s3) (fun r5 s5 =>
              zcI (zrun zP 224 [zR 16 i0, zI r5] s5) (fun r6 s6 =>
                some (.inl (some (zI r6)), s6))))
            else
            (zcI (zrun zP 139 [zI x1, zI 3] s3) (fun r4 s4 =>
              if r4 < 0 ∨ 745 ≤ Int32.toNatClampNeg r4 then
                (none)
                else
                (some (.inl (some (zI (s4.1 31 0 (Int32.toNatClampNeg r4)))), s4))))))))))))))))) := (zrun_eq _ _ _).trans ((zun_eq zK_X6_tier [] 26 _ _).trans rfl)
set_option maxRecDepth 100000 in
theorem e_X6_lieIn_5 (i0 : Nat) (x1 : Int32) (x2 : Int32) (x3 : Int32) (x4 : Int32) (v5 : zAV) (σ : zSt) : zX zP zK_X6_lieIn (5, [zR 16 i0, zI x1, zI x2, zI x3, zI x4, v5], []) σ = (
  zcI (zrun zP 138 [zR 16 i0] σ) (fun r1 s1 =>
  if x4 < r1 then
    (zcI (zrun zP 141 [zR 16 i0, zI x4] s1) (fun r2 s2 =>
      if r2 = x1 then
        (zX zP zK_X6_lieIn (30, [zR 16 i0, zI x1, zI x2, zI x3, zI x4, zI 0], []) s2)
        else
        (zX zP zK_X6_lieIn (5, [zR 16 i0, zI x1, zI x2, zI x3, zI (x4 + 1), v5], []) s2)))
    else
    (some (.inl (some (zI x3)), s1)))) := (zun_eq zK_X6_lieIn [5, 30] 13 _ _).trans rfl
set_option maxRecDepth 100000 in
theorem e_X6_lieIn_30 (i0 : Nat) (x1 : Int32) (x2 : Int32) (x3 : Int32) (x4 : Int32) (x5 : Int32) (σ : zSt) : zX zP zK_X6_lieIn (30, [zR 16 i0, zI x1, zI x2, zI x3, zI x4, zI x5], []) σ = (
  zcI (zrun zP 142 [zR 16 i0, zI x4] σ) (fun r1 s1 =>
  if x5 < r1 then
    (zcI (zrun zP 194 [zR 16 i0, zI x4, zI x5] s1) (fun r2 s2 =>
      if r2 = x2 then
        (zX zP zK_X6_lieIn (30, [zR 16 i0, zI x1, zI x2, zI (x3 + 1), zI x4, zI (x5 + 1)], []) s2)
        else
        (zX zP zK_X6_lieIn (30, [zR 16 i0, zI x1, zI x2, zI (x3 + 0), zI x4, zI (x5 + 1)], []) s2)))
    else
    (zX zP zK_X6_lieIn (5, [zR 16 i0, zI x1, zI x2, zI x3, zI (x4 + 1), zI x5], []) s1))) := (zun_eq zK_X6_lieIn [5, 30] 19 _ _).trans rfl
set_option maxRecDepth 100000 in
theorem e_X6_lieIn (i0 : Nat) (x1 : Int32) (x2 : Int32) (σ : zSt) : zrun zP 226 [zR 16 i0, zI x1, zI x2] σ = (
  zX zP zK_X6_lieIn (5, [zR 16 i0, zI x1, zI x2, zI 0, zI 0, zJunk], []) σ) := (zrun_eq _ _ _).trans ((zun_eq zK_X6_lieIn [5, 30] 5 _ _).trans rfl)
set_option maxRecDepth 100000 in
theorem e_X6_mark (i0 : Nat) (x1 : Int32) (x2 : Int32) (x3 : Int32) (σ : zSt) : zrun zP 227 [zR 16 i0, zI x1, zI x2, zI x3] σ = (
  zcI (zrun zP 190 [zR 16 i0, zI x1, zI x2] (zms σ.1 16 i0 0 0, σ.2)) (fun r1 s1 =>
  if r1 = 0 then
    (some (.inl (some (zI 0)), s1))
    else
    (zcI (zrun zP 137 [zI x3, zI 0, zI 6] s1) (fun r2 s2 =>
      zcI (zrun zP 136 [zR 16 i0, zI r2, zI 2, zI 1] s2) (fun r3 s3 =>
        if r3 = 0 then
          (some (.inl (some (zI 0)), s3))
          else
          (if x3 = 0 then
            (zcI (zrun zP 144 [zR 16 i0, zI x1, zI x2] s3) (fun r14 s14 =>
              some (.inl (some (zI r14)), s14)))
            else
            (if x3 = (0 + 1) then
            (zcI (zrun zP 145 [zR 16 i0, zI x1, zI x2] s3) (fun r13 s13 =>
              some (.inl (some (zI r13)), s13)))
            else
            (if x3 = ((0 + 1) + 1) then
            (zcI (zrun zP 146 [zR 16 i0, zI x1, zI x2] s3) (fun r12 s12 =>
              some (.inl (some (zI r12)), s12)))
            else
            (if x3 = (((0 + 1) + 1) + 1) then
            (zcI (zrun zP 194 [zR 16 i0, zI x1, zI x2] s3) (fun r11 s11 =>
              some (.inl (some (zI r11)), s11)))
            else
            (if x3 = ((((0 + 1) + 1) + 1) + 1) then
            (zcI (zrun zP 226 [zR 16 i0, zI x1, zI x2] s3) (fun r10 s10 =>
              some (.inl (some (zI r10)), s10)))
            else
            (if x3 = (((((0 + 1) + 1) + 1) + 1) + 1) then
            (zcI (zrun zP 148 [zR 16 i0, zI x1] s3) (fun r7 s7 =>
              zcI (zrun zP 144 [zR 16 i0, zI x1, zI x2] s7) (fun r8 s8 =>
                zcI (zrun zP 204 [zR 16 i0, zI r7, zI r8] s8) (fun r9 s9 =>
                  some (.inl (some (zI r9)), s9)))))
            else
            (zcI (zrun zP 148 [zR 16 i0, zI x1] s3) (fun r4 s4 =>
              zcI (zrun zP 145 [zR 16 i0, zI x1, zI x2] s4) (fun r5 s5 =>
                zcI (zrun zP 204 [zR 16 i0, zI r4, zI r5] s5) (fun r6 s6 =>
                  some (.inl (some (zI r6)), s6)))))))))))))))) := (zrun_eq _ _ _).trans ((zun_eq zK_X6_mark [] 30 _ _).trans rfl)
set_option maxRecDepth 100000 in
theorem e_X6_at (i0 : Nat) (x1 : Int32) (x2 : Int32) (σ : zSt) : zrun zP 228 [zR 16 i0, zI x1, zI x2] σ = (
  zcI (zrun zP 189 [zR 16 i0, zI x1] (zms σ.1 16 i0 0 0, σ.2)) (fun r1 s1 =>
  if r1 = 0 then
    (some (.inl (some (zI 0)), s1))
    else
    (zcI (zrun zP 137 [zI x2, zI 0, zI 999] s1) (fun r2 s2 =>
      zcI (zrun zP 136 [zR 16 i0, zI r2, zI 2, zI 1] s2) (fun r3 s3 =>
        if r3 = 0 then
          (some (.inl (some (zI 0)), s3))
          else
          (zcI (zrun zP 182 [zR 16 i0, zI x1, zI x2] s3) (fun r4 s4 =>
            some (.inl (some (zI r4)), s4)))))))) := (zrun_eq _ _ _).trans ((zun_eq zK_X6_at [] 23 _ _).trans rfl)
set_option maxRecDepth 100000 in
theorem e_X6_over_78 (i0 : Nat) (x1 : Int32) (x2 : Int32) (x3 : Int32) (x4 : Int32) (x5 : Int32) (x6 : Int32) (x7 : Int32) (x8 : Int32) (v9 : zAV) (σ : zSt) : zX zP zK_X6_over (78, [zR 16 i0, zI x1, zI x2, zI x3, zI x4, zI x5, zI x6, zI x7, zI x8, v9], []) σ = (
  zcI (zrun zP 142 [zR 16 i0, zI x1] σ) (fun r1 s1 =>
  if x8 < r1 then
    (zcI (zrun zP 140 [zR 16 i0, zI x1] s1) (fun r2 s2 =>
      if r2 = 3 then
        (zcI (zrun zP 144 [zR 16 i0, zI x1, zI x8] s2) (fun r3 s3 =>
          if r3 < x2 then
            (if (0 : Int32) = 0 then
              (zX zP zK_X6_over (78, [zR 16 i0, zI x1, zI x2, zI x3, zI x4, zI x5, zI x6, zI x7, zI (x8 + 1), zI 0], []) s3)
              else
              (if x5 = 0 then
                (zcI (zrun zP 145 [zR 16 i0, zI x1, zI x8] s3) (fun r4 s4 =>
                  zcI (zrun zP 144 [zR 16 i0, zI x1, zI x8] s4) (fun r5 s5 =>
                    zX zP zK_X6_over (78, [zR 16 i0, zI x1, zI x2, zI x3, zI x4, zI (x5 + 1), zI x8, zI (x7 + ((if r4 < x3 then r4 else x3) - (if x2 < r5 then r5 else x2))), zI (x8 + 1), zI 0], []) s5)))
                else
                (zcI (zrun zP 145 [zR 16 i0, zI x1, zI x8] s3) (fun r6 s6 =>
                  zcI (zrun zP 144 [zR 16 i0, zI x1, zI x8] s6) (fun r7 s7 =>
                    zX zP zK_X6_over (78, [zR 16 i0, zI x1, zI x2, zI x3, zI x4, zI (x5 + 1), zI x6, zI (x7 + ((if r6 < x3 then r6 else x3) - (if x2 < r7 then r7 else x2))), zI (x8 + 1), zI 0], []) s7)))))
            else
            (zcI (zrun zP 144 [zR 16 i0, zI x1, zI x8] s3) (fun r8 s8 =>
              if r8 < x3 then
                (if (1 : Int32) = 0 then
                  (zX zP zK_X6_over (78, [zR 16 i0, zI x1, zI x2, zI x3, zI x4, zI x5, zI x6, zI x7, zI (x8 + 1), zI 1], []) s8)
                  else
                  (if x5 = 0 then
                    (zcI (zrun zP 145 [zR 16 i0, zI x1, zI x8] s8) (fun r9 s9 =>
                      zcI (zrun zP 144 [zR 16 i0, zI x1, zI x8] s9) (fun r10 s10 =>
                        zX zP zK_X6_over (78, [zR 16 i0, zI x1, zI x2, zI x3, zI x4, zI (x5 + 1), zI x8, zI (x7 + ((if r9 < x3 then r9 else x3) - (if x2 < r10 then r10 else x2))), zI (x8 + 1), zI 1], []) s10)))
                    else
                    (zcI (zrun zP 145 [zR 16 i0, zI x1, zI x8] s8) (fun r11 s11 =>
                      zcI (zrun zP 144 [zR 16 i0, zI x1, zI x8] s11) (fun r12 s12 =>
                        zX zP zK_X6_over (78, [zR 16 i0, zI x1, zI x2, zI x3, zI x4, zI (x5 + 1), zI x6, zI (x7 + ((if r11 < x3 then r11 else x3) - (if x2 < r12 then r12 else x2))), zI (x8 + 1), zI 1], []) s12)))))
                else
                (if (0 : Int32) = 0 then
                  (zX zP zK_X6_over (78, [zR 16 i0, zI x1, zI x2, zI x3, zI x4, zI x5, zI x6, zI x7, zI (x8 + 1), zI 0], []) s8)
                  else
                  (if x5 = 0 then
                    (zcI (zrun zP 145 [zR 16 i0, zI x1, zI x8] s8) (fun r13 s13 =>
                      zcI (zrun zP 144 [zR 16 i0, zI x1, zI x8] s13) (fun r14 s14 =>
                        zX zP zK_X6_over (78, [zR 16 i0, zI x1, zI x2, zI x3, zI x4, zI (x5 + 1), zI x8, zI (x7 + ((if r13 < x3 then r13 else x3) - (if x2 < r14 then r14 else x2))), zI (x8 + 1), zI 0], []) s14)))
                    else
                    (zcI (zrun zP 145 [zR 16 i0, zI x1, zI x8] s8) (fun r15 s15 =>
                      zcI (zrun zP 144 [zR 16 i0, zI x1, zI x8] s15) (fun r16 s16 =>
                        zX zP zK_X6_over (78, [zR 16 i0, zI x1, zI x2, zI x3, zI x4, zI (x5 + 1), zI x6, zI (x7 + ((if r15 < x3 then r15 else x3) - (if x2 < r16 then r16 else x2))), zI (x8 + 1), zI 0], []) s16)))))))))
        else
        (zcI (zrun zP 144 [zR 16 i0, zI x1, zI x8] s2) (fun r17 s17 =>
          if r17 < x3 then
            (zcI (zrun zP 145 [zR 16 i0, zI x1, zI x8] s17) (fun r18 s18 =>
              if x2 < r18 then
                (if (1 : Int32) = 0 then
                  (zX zP zK_X6_over (78, [zR 16 i0, zI x1, zI x2, zI x3, zI x4, zI x5, zI x6, zI x7, zI (x8 + 1), zI 1], []) s18)
                  else
                  (if x5 = 0 then
                    (zcI (zrun zP 145 [zR 16 i0, zI x1, zI x8] s18) (fun r19 s19 =>
                      zcI (zrun zP 144 [zR 16 i0, zI x1, zI x8] s19) (fun r20 s20 =>
                        zX zP zK_X6_over (78, [zR 16 i0, zI x1, zI x2, zI x3, zI x4, zI (x5 + 1), zI x8, zI (x7 + ((if r19 < x3 then r19 else x3) - (if x2 < r20 then r20 else x2))), zI (x8 + 1), zI 1], []) s20)))
                    else
                    (zcI (zrun zP 145 [zR 16 i0, zI x1, zI x8] s18) (fun r21 s21 =>
                      zcI (zrun zP 144 [zR 16 i0, zI x1, zI x8] s21) (fun r22 s22 =>
                        zX zP zK_X6_over (78, [zR 16 i0, zI x1, zI x2, zI x3, zI x4, zI (x5 + 1), zI x6, zI (x7 + ((if r21 < x3 then r21 else x3) - (if x2 < r22 then r22 else x2))), zI (x8 + 1), zI 1], []) s22)))))
                else
                (if (0 : Int32) = 0 then
                  (zX zP zK_X6_over (78, [zR 16 i0, zI x1, zI x2, zI x3, zI x4, zI x5, zI x6, zI x7, zI (x8 + 1), zI 0], []) s18)
                  else
                  (if x5 = 0 then
                    (zcI (zrun zP 145 [zR 16 i0, zI x1, zI x8] s18) (fun r23 s23 =>
                      zcI (zrun zP 144 [zR 16 i0, zI x1, zI x8] s23) (fun r24 s24 =>
                        zX zP zK_X6_over (78, [zR 16 i0, zI x1, zI x2, zI x3, zI x4, zI (x5 + 1), zI x8, zI (x7 + ((if r23 < x3 then r23 else x3) - (if x2 < r24 then r24 else x2))), zI (x8 + 1), zI 0], []) s24)))
                    else
                    (zcI (zrun zP 145 [zR 16 i0, zI x1, zI x8] s18) (fun r25 s25 =>
                      zcI (zrun zP 144 [zR 16 i0, zI x1, zI x8] s25) (fun r26 s26 =>
                        zX zP zK_X6_over (78, [zR 16 i0, zI x1, zI x2, zI x3, zI x4, zI (x5 + 1), zI x6, zI (x7 + ((if r25 < x3 then r25 else x3) - (if x2 < r26 then r26 else x2))), zI (x8 + 1), zI 0], []) s26)))))))
            else
            (if (0 : Int32) = 0 then
              (zX zP zK_X6_over (78, [zR 16 i0, zI x1, zI x2, zI x3, zI x4, zI x5, zI x6, zI x7, zI (x8 + 1), zI 0], []) s17)
              else
              (if x5 = 0 then
                (zcI (zrun zP 145 [zR 16 i0, zI x1, zI x8] s17) (fun r27 s27 =>
                  zcI (zrun zP 144 [zR 16 i0, zI x1, zI x8] s27) (fun r28 s28 =>
                    zX zP zK_X6_over (78, [zR 16 i0, zI x1, zI x2, zI x3, zI x4, zI (x5 + 1), zI x8, zI (x7 + ((if r27 < x3 then r27 else x3) - (if x2 < r28 then r28 else x2))), zI (x8 + 1), zI 0], []) s28)))
                else
                (zcI (zrun zP 145 [zR 16 i0, zI x1, zI x8] s17) (fun r29 s29 =>
                  zcI (zrun zP 144 [zR 16 i0, zI x1, zI x8] s29) (fun r30 s30 =>
                    zX zP zK_X6_over (78, [zR 16 i0, zI x1, zI x2, zI x3, zI x4, zI (x5 + 1), zI x6, zI (x7 + ((if r29 < x3 then r29 else x3) - (if x2 < r30 then r30 else x2))), zI (x8 + 1), zI 0], []) s30)))))))))
    else
    (if x4 = 0 then
      (some (.inl (some (zI x5)), s1))
      else
      (if x4 = 1 then
        (some (.inl (some (zI x6)), s1))
        else
        (some (.inl (some (zI x7)), s1)))))) := (zun_eq zK_X6_over [78] 52 _ _).trans rfl
set_option maxRecDepth 100000 in
theorem e_X6_over (i0 : Nat) (x1 : Int32) (x2 : Int32) (x3 : Int32) (x4 : Int32) (σ : zSt) : zrun zP 229 [zR 16 i0, zI x1, zI x2, zI x3, zI x4] σ = (
  zcI (zrun zP 189 [zR 16 i0, zI x1] (zms σ.1 16 i0 0 0, σ.2)) (fun r1 s1 =>
  if r1 = 0 then
    (some (.inl (some (zI 0)), s1))
    else
    (zcI (zrun zP 137 [zI x2, zI 0, zI 999] s1) (fun r2 s2 =>
      if r2 = 0 then
        (zcI (zrun zP 136 [zR 16 i0, zI 0, zI 2, zI 1] s2) (fun r3 s3 =>
          if r3 = 0 then
            (some (.inl (some (zI 0)), s3))
            else
            (zX zP zK_X6_over (78, [zR 16 i0, zI x1, zI x2, zI x3, zI x4, zI 0, zI (-1), zI 0, zI 0, zJunk], []) s3)))
        else
        (zcI (zrun zP 137 [zI x3, zI 0, zI 999] s2) (fun r4 s4 =>
          if r4 = 0 then
            (zcI (zrun zP 136 [zR 16 i0, zI 0, zI 2, zI 1] s4) (fun r5 s5 =>
              if r5 = 0 then
                (some (.inl (some (zI 0)), s5))
                else
                (zX zP zK_X6_over (78, [zR 16 i0, zI x1, zI x2, zI x3, zI x4, zI 0, zI (-1), zI 0, zI 0, zJunk], []) s5)))
            else
            (if x2 < x3 then
              (zcI (zrun zP 137 [zI x4, zI 0, zI 2] s4) (fun r6 s6 =>
                if r6 = 0 then
                  (zcI (zrun zP 136 [zR 16 i0, zI 0, zI 2, zI 1] s6) (fun r7 s7 =>
                    if r7 = 0 then
                      (some (.inl (some (zI 0)), s7))
                      else
                      (zX zP zK_X6_over (78, [zR 16 i0, zI x1, zI x2, zI x3, zI x4, zI 0, zI (-1), zI 0, zI 0, zJunk], []) s7)))
                  else
                  (zcI (zrun zP 136 [zR 16 i0, zI 1, zI 2, zI 1] s6) (fun r8 s8 =>
                    if r8 = 0 then
                      (some (.inl (some (zI 0)), s8))
                      else
                      (zX zP zK_X6_over (78, [zR 16 i0, zI x1, zI x2, zI x3, zI x4, zI 0, zI (-1), zI 0, zI 0, zJunk], []) s8)))))
              else
              (zcI (zrun zP 136 [zR 16 i0, zI 0, zI 2, zI 1] s4) (fun r9 s9 =>
                if r9 = 0 then
                  (some (.inl (some (zI 0)), s9))
                  else
                  (zX zP zK_X6_over (78, [zR 16 i0, zI x1, zI x2, zI x3, zI x4, zI 0, zI (-1), zI 0, zI 0, zJunk], []) s9)))))))))) := (zrun_eq _ _ _).trans ((zun_eq zK_X6_over [78] 41 _ _).trans rfl)
set_option maxRecDepth 100000 in
theorem e_X6_within_92 (i0 : Nat) (x1 : Int32) (x2 : Int32) (x3 : Int32) (x4 : Int32) (x5 : Int32) (x6 : Int32) (x7 : Int32) (x8 : Int32) (σ : zSt) : zX zP zK_X6_within (92, [zR 16 i0, zI x1, zI x2, zI x3, zI x4, zI x5, zI x6, zI x7, zI x8], []) σ = (
  zcI (zrun zP 142 [zR 16 i0, zI x3] σ) (fun r1 s1 =>
  if x8 < r1 then
    (zcI (zrun zP 144 [zR 16 i0, zI x3, zI x8] s1) (fun r2 s2 =>
      zcI (zrun zP 144 [zR 16 i0, zI x1, zI x2] s2) (fun r3 s3 =>
        if r2 < r3 then
          (zX zP zK_X6_within (92, [zR 16 i0, zI x1, zI x2, zI x3, zI x4, zI x5, zI x6, zI x7, zI (x8 + 1)], []) s3)
          else
          (zcI (zrun zP 145 [zR 16 i0, zI x3, zI x8] s3) (fun r4 s4 =>
            zcI (zrun zP 145 [zR 16 i0, zI x1, zI x2] s4) (fun r5 s5 =>
              if r5 < r4 then
                (zX zP zK_X6_within (92, [zR 16 i0, zI x1, zI x2, zI x3, zI x4, zI x5, zI x6, zI x7, zI (x8 + 1)], []) s5)
                else
                (if x5 = 0 then
                  (zcI (zrun zP 145 [zR 16 i0, zI x3, zI x8] s5) (fun r6 s6 =>
                    zcI (zrun zP 144 [zR 16 i0, zI x3, zI x8] s6) (fun r7 s7 =>
                      zX zP zK_X6_within (92, [zR 16 i0, zI x1, zI x2, zI x3, zI x4, zI (x5 + 1), zI x8, zI (x7 + (r6 - r7)), zI (x8 + 1)], []) s7)))
                  else
                  (zcI (zrun zP 145 [zR 16 i0, zI x3, zI x8] s5) (fun r8 s8 =>
                    zcI (zrun zP 144 [zR 16 i0, zI x3, zI x8] s8) (fun r9 s9 =>
                      zX zP zK_X6_within (92, [zR 16 i0, zI x1, zI x2, zI x3, zI x4, zI (x5 + 1), zI x6, zI (x7 + (r8 - r9)), zI (x8 + 1)], []) s9))))))))))
    else
    (if x4 = 0 then
      (some (.inl (some (zI x5)), s1))
      else
      (if x4 = 1 then
        (some (.inl (some (zI x6)), s1))
        else
        (some (.inl (some (zI x7)), s1)))))) := (zun_eq zK_X6_within [92] 44 _ _).trans rfl
set_option maxRecDepth 100000 in
theorem e_X6_within (i0 : Nat) (x1 : Int32) (x2 : Int32) (x3 : Int32) (x4 : Int32) (σ : zSt) : zrun zP 230 [zR 16 i0, zI x1, zI x2, zI x3, zI x4] σ = (
  zcI (zrun zP 138 [zR 16 i0] (zms σ.1 16 i0 0 0, σ.2)) (fun r1 s1 =>
  zcI (zrun zP 137 [zI x1, zI 0, zI (r1 - 1)] s1) (fun r2 s2 =>
    if r2 = 0 then
      (zcI (zrun zP 136 [zR 16 i0, zI 0, zI 1, zI 0] s2) (fun r3 s3 =>
        if r3 = 0 then
          (some (.inl (some (zI 0)), s3))
          else
          (zcI (zrun zP 137 [zI x4, zI 0, zI 2] s3) (fun r4 s4 =>
            zcI (zrun zP 136 [zR 16 i0, zI r4, zI 2, zI 1] s4) (fun r5 s5 =>
              if r5 = 0 then
                (some (.inl (some (zI 0)), s5))
                else
                (zX zP zK_X6_within (92, [zR 16 i0, zI x1, zI x2, zI x3, zI x4, zI 0, zI (-1), zI 0, zI 0], []) s5))))))
      else
      (zcI (zrun zP 138 [zR 16 i0] s2) (fun r6 s6 =>
        zcI (zrun zP 137 [zI x3, zI 0, zI (r6 - 1)] s6) (fun r7 s7 =>
          if r7 = 0 then
            (zcI (zrun zP 136 [zR 16 i0, zI 0, zI 1, zI 0] s7) (fun r8 s8 =>
              if r8 = 0 then
                (some (.inl (some (zI 0)), s8))
                else
                (zcI (zrun zP 137 [zI x4, zI 0, zI 2] s8) (fun r9 s9 =>
                  zcI (zrun zP 136 [zR 16 i0, zI r9, zI 2, zI 1] s9) (fun r10 s10 =>
                    if r10 = 0 then
                      (some (.inl (some (zI 0)), s10))
                      else
                      (zX zP zK_X6_within (92, [zR 16 i0, zI x1, zI x2, zI x3, zI x4, zI 0, zI (-1), zI 0, zI 0], []) s10))))))
            else
            (zcI (zrun zP 142 [zR 16 i0, zI x1] s7) (fun r11 s11 =>
              zcI (zrun zP 137 [zI x2, zI 0, zI (r11 - 1)] s11) (fun r12 s12 =>
                if r12 = 0 then
                  (zcI (zrun zP 136 [zR 16 i0, zI 0, zI 1, zI 0] s12) (fun r13 s13 =>
                    if r13 = 0 then
                      (some (.inl (some (zI 0)), s13))
                      else
                      (zcI (zrun zP 137 [zI x4, zI 0, zI 2] s13) (fun r14 s14 =>
                        zcI (zrun zP 136 [zR 16 i0, zI r14, zI 2, zI 1] s14) (fun r15 s15 =>
                          if r15 = 0 then
                            (some (.inl (some (zI 0)), s15))
                            else
                            (zX zP zK_X6_within (92, [zR 16 i0, zI x1, zI x2, zI x3, zI x4, zI 0, zI (-1), zI 0, zI 0], []) s15))))))
                  else
                  (zcI (zrun zP 136 [zR 16 i0, zI 1, zI 1, zI 0] s12) (fun r16 s16 =>
                    if r16 = 0 then
                      (some (.inl (some (zI 0)), s16))
                      else
                      (zcI (zrun zP 137 [zI x4, zI 0, zI 2] s16) (fun r17 s17 =>
                        zcI (zrun zP 136 [zR 16 i0, zI r17, zI 2, zI 1] s17) (fun r18 s18 =>
                          if r18 = 0 then
                            (some (.inl (some (zI 0)), s18))
                            else
                            (zX zP zK_X6_within (92, [zR 16 i0, zI x1, zI x2, zI x3, zI x4, zI 0, zI (-1), zI 0, zI 0], []) s18))))))))))))))) := (zrun_eq _ _ _).trans ((zun_eq zK_X6_within [92] 53 _ _).trans rfl)
set_option maxRecDepth 100000 in
theorem e_X6_find_21 (i0 : Nat) (x1 : Int32) (x2 : Int32) (x3 : Int32) (x4 : Int32) (x5 : Int32) (σ : zSt) : zX zP zK_X6_find (21, [zR 16 i0, zI x1, zI x2, zI x3, zI x4, zI x5], []) σ = (
  zcI (zrun zP 142 [zR 16 i0, zI x1] σ) (fun r1 s1 =>
  if x5 < r1 then
    (zcI (zrun zP 146 [zR 16 i0, zI x1, zI x5] s1) (fun r2 s2 =>
      if r2 = x2 then
        (if x4 = x3 then
          (some (.inl (some (zI x5)), s2))
          else
          (zX zP zK_X6_find (21, [zR 16 i0, zI x1, zI x2, zI x3, zI (x4 + 1), zI (x5 + 1)], []) s2))
        else
        (zX zP zK_X6_find (21, [zR 16 i0, zI x1, zI x2, zI x3, zI x4, zI (x5 + 1)], []) s2)))
    else
    (some (.inl (some (zI (-1))), s1)))) := (zun_eq zK_X6_find [21] 18 _ _).trans rfl
set_option maxRecDepth 100000 in
theorem e_X6_find (i0 : Nat) (x1 : Int32) (x2 : Int32) (x3 : Int32) (σ : zSt) : zrun zP 231 [zR 16 i0, zI x1, zI x2, zI x3] σ = (
  zcI (zrun zP 189 [zR 16 i0, zI x1] (zms σ.1 16 i0 0 0, σ.2)) (fun r1 s1 =>
  if r1 = 0 then
    (some (.inl (some (zI 0)), s1))
    else
    (zX zP zK_X6_find (21, [zR 16 i0, zI x1, zI x2, zI x3, zI 0, zI 0], []) s1))) := (zrun_eq _ _ _).trans ((zun_eq zK_X6_find [21] 12 _ _).trans rfl)
set_option maxRecDepth 100000 in
theorem e_X6_together_55 (i0 : Nat) (x1 : Int32) (x2 : Int32) (x3 : Int32) (x4 : Int32) (x5 : Int32) (x6 : Int32) (v7 : zAV) (v8 : zAV) (σ : zSt) : zX zP zK_X6_together (55, [zR 16 i0, zI x1, zI x2, zI x3, zI x4, zI x5, zI x6, v7, v8], []) σ = (
  if x6 < 999 then
  (zcI (zrun zP 182 [zR 16 i0, zI x1, zI x6] σ) (fun r1 s1 =>
    zcI (zrun zP 182 [zR 16 i0, zI x3, zI x6] s1) (fun r2 s2 =>
      if r1 = (-1) then
        (zX zP zK_X6_together (55, [zR 16 i0, zI x1, zI x2, zI x3, zI x4, zI (x5 + 0), zI (x6 + 1), zI r1, zI r2], []) s2)
        else
        (if r2 = (-1) then
          (zX zP zK_X6_together (55, [zR 16 i0, zI x1, zI x2, zI x3, zI x4, zI (x5 + 0), zI (x6 + 1), zI r1, zI r2], []) s2)
          else
          (zcI (zrun zP 145 [zR 16 i0, zI x1, zI r1] s2) (fun r3 s3 =>
            if x6 < r3 then
              (zcI (zrun zP 145 [zR 16 i0, zI x3, zI r2] s3) (fun r4 s4 =>
                if x6 < r4 then
                  (zcI (zrun zP 146 [zR 16 i0, zI x1, zI r1] s4) (fun r5 s5 =>
                    if r5 = x2 then
                      (zcI (zrun zP 146 [zR 16 i0, zI x3, zI r2] s5) (fun r6 s6 =>
                        if r6 = x4 then
                          (zX zP zK_X6_together (55, [zR 16 i0, zI x1, zI x2, zI x3, zI x4, zI (x5 + 1), zI (x6 + 1), zI r1, zI r2], []) s6)
                          else
                          (zX zP zK_X6_together (55, [zR 16 i0, zI x1, zI x2, zI x3, zI x4, zI (x5 + 0), zI (x6 + 1), zI r1, zI r2], []) s6)))
                      else
                      (zX zP zK_X6_together (55, [zR 16 i0, zI x1, zI x2, zI x3, zI x4, zI (x5 + 0), zI (x6 + 1), zI r1, zI r2], []) s5)))
                  else
                  (zX zP zK_X6_together (55, [zR 16 i0, zI x1, zI x2, zI x3, zI x4, zI (x5 + 0), zI (x6 + 1), zI r1, zI r2], []) s4)))
              else
              (zX zP zK_X6_together (55, [zR 16 i0, zI x1, zI x2, zI x3, zI x4, zI (x5 + 0), zI (x6 + 1), zI r1, zI r2], []) s3)))))))
  else
  (some (.inl (some (zI x5)), σ))) := (zun_eq zK_X6_together [55] 51 _ _).trans rfl
set_option maxRecDepth 100000 in
theorem e_X6_together (i0 : Nat) (x1 : Int32) (x2 : Int32) (x3 : Int32) (x4 : Int32) (σ : zSt) : zrun zP 232 [zR 16 i0, zI x1, zI x2, zI x3, zI x4] σ = (
  zcI (zrun zP 138 [zR 16 i0] (zms σ.1 16 i0 0 0, σ.2)) (fun r1 s1 =>
  zcI (zrun zP 137 [zI x1, zI 0, zI (r1 - 1)] s1) (fun r2 s2 =>
    if r2 = 0 then
      (zcI (zrun zP 136 [zR 16 i0, zI 0, zI 1, zI 0] s2) (fun r3 s3 =>
        if r3 = 0 then
          (some (.inl (some (zI 0)), s3))
          else
          (zX zP zK_X6_together (55, [zR 16 i0, zI x1, zI x2, zI x3, zI x4, zI 0, zI 0, zJunk, zJunk], []) s3)))
      else
      (zcI (zrun zP 138 [zR 16 i0] s2) (fun r4 s4 =>
        zcI (zrun zP 137 [zI x3, zI 0, zI (r4 - 1)] s4) (fun r5 s5 =>
          if r5 = 0 then
            (zcI (zrun zP 136 [zR 16 i0, zI 0, zI 1, zI 0] s5) (fun r6 s6 =>
              if r6 = 0 then
                (some (.inl (some (zI 0)), s6))
                else
                (zX zP zK_X6_together (55, [zR 16 i0, zI x1, zI x2, zI x3, zI x4, zI 0, zI 0, zJunk, zJunk], []) s6)))
            else
            (zcI (zrun zP 136 [zR 16 i0, zI 1, zI 1, zI 0] s5) (fun r7 s7 =>
              if r7 = 0 then
                (some (.inl (some (zI 0)), s7))
                else
                (zX zP zK_X6_together (55, [zR 16 i0, zI x1, zI x2, zI x3, zI x4, zI 0, zI 0, zJunk, zJunk], []) s7))))))))) := (zrun_eq _ _ _).trans ((zun_eq zK_X6_together [55] 31 _ _).trans rfl)
set_option maxRecDepth 100000 in
theorem e_X6_longest_42 (i0 : Nat) (x1 : Int32) (x2 : Int32) (x3 : Int32) (x4 : Int32) (x5 : Int32) (x6 : Int32) (x7 : Int32) (σ : zSt) : zX zP zK_X6_longest (42, [zR 16 i0, zI x1, zI x2, zI x3, zI x4, zI x5, zI x6, zI x7], []) σ = (
  zcI (zrun zP 142 [zR 16 i0, zI x1] σ) (fun r1 s1 =>
  if x7 < r1 then
    (zcI (zrun zP 146 [zR 16 i0, zI x1, zI x7] s1) (fun r2 s2 =>
      if r2 = x2 then
        (zcI (zrun zP 145 [zR 16 i0, zI x1, zI x7] s2) (fun r3 s3 =>
          zcI (zrun zP 144 [zR 16 i0, zI x1, zI x7] s3) (fun r4 s4 =>
            if x4 = (-1) then
              (zX zP zK_X6_longest (42, [zR 16 i0, zI x1, zI x2, zI x3, zI x7, zI (x5 + 1), zI (x6 + (r3 - r4)), zI (x7 + 1)], []) s4)
              else
              (zcI (zrun zP 145 [zR 16 i0, zI x1, zI x7] s4) (fun r5 s5 =>
                zcI (zrun zP 144 [zR 16 i0, zI x1, zI x7] s5) (fun r6 s6 =>
                  zcI (zrun zP 145 [zR 16 i0, zI x1, zI x4] s6) (fun r7 s7 =>
                    zcI (zrun zP 144 [zR 16 i0, zI x1, zI x4] s7) (fun r8 s8 =>
                      if (r7 - r8) < (r5 - r6) then
                        (zX zP zK_X6_longest (42, [zR 16 i0, zI x1, zI x2, zI x3, zI x7, zI (x5 + 1), zI (x6 + (r3 - r4)), zI (x7 + 1)], []) s8)
                        else
                        (zX zP zK_X6_longest (42, [zR 16 i0, zI x1, zI x2, zI x3, zI x4, zI (x5 + 1), zI (x6 + (r3 - r4)), zI (x7 + 1)], []) s8)))))))))
        else
        (zX zP zK_X6_longest (42, [zR 16 i0, zI x1, zI x2, zI x3, zI x4, zI x5, zI x6, zI (x7 + 1)], []) s2)))
    else
    (if x3 = 0 then
      (some (.inl (some (zI x4)), s1))
      else
      (if x3 = 1 then
        (if x4 = (-1) then
          (some (.inl (some (zI 0)), s1))
          else
          (zcI (zrun zP 145 [zR 16 i0, zI x1, zI x4] s1) (fun r9 s9 =>
            zcI (zrun zP 144 [zR 16 i0, zI x1, zI x4] s9) (fun r10 s10 =>
              some (.inl (some (zI (r9 - r10))), s10)))))
        else
        (if x3 = 2 then
          (some (.inl (some (zI x5)), s1))
          else
          (some (.inl (some (zI x6)), s1))))))) := (zun_eq zK_X6_longest [42] 51 _ _).trans rfl
set_option maxRecDepth 100000 in
theorem e_X6_longest (i0 : Nat) (x1 : Int32) (x2 : Int32) (x3 : Int32) (σ : zSt) : zrun zP 233 [zR 16 i0, zI x1, zI x2, zI x3] σ = (
  zcI (zrun zP 189 [zR 16 i0, zI x1] (zms σ.1 16 i0 0 0, σ.2)) (fun r1 s1 =>
  if r1 = 0 then
    (some (.inl (some (zI 0)), s1))
    else
    (zcI (zrun zP 137 [zI x3, zI 0, zI 3] s1) (fun r2 s2 =>
      zcI (zrun zP 136 [zR 16 i0, zI r2, zI 2, zI 1] s2) (fun r3 s3 =>
        if r3 = 0 then
          (some (.inl (some (zI 0)), s3))
          else
          (zX zP zK_X6_longest (42, [zR 16 i0, zI x1, zI x2, zI x3, zI (-1), zI 0, zI 0, zI 0], []) s3)))))) := (zrun_eq _ _ _).trans ((zun_eq zK_X6_longest [42] 25 _ _).trans rfl)
set_option maxRecDepth 100000 in
theorem e_X6_stop_20 (i0 : Nat) (x1 : Int32) (x2 : Int32) (x3 : Int32) (x4 : Int32) (σ : zSt) : zX zP zK_X6_stop (20, [zR 16 i0, zI x1, zI x2, zI x3, zI x4], []) σ = (
  if (999 : Int32) < x4 then
  (some (.inl (some (zI (-1))), σ))
  else
  (zcI (zrun zP 148 [zR 16 i0, zI x1] σ) (fun r1 s1 =>
    zcI (zrun zP 151 [zR 16 i0, zI r1, zI x4] s1) (fun r2 s2 =>
      if r2 = 0 then
        (zX zP zK_X6_stop (20, [zR 16 i0, zI x1, zI x2, zI x3, zI (x4 + 1)], []) s2)
        else
        (if x3 = x2 then
          (some (.inl (some (zI x4)), s2))
          else
          (zX zP zK_X6_stop (20, [zR 16 i0, zI x1, zI x2, zI (x3 + 1), zI (x4 + 1)], []) s2)))))) := (zun_eq zK_X6_stop [20] 17 _ _).trans rfl
set_option maxRecDepth 100000 in
theorem e_X6_stop (i0 : Nat) (x1 : Int32) (x2 : Int32) (σ : zSt) : zrun zP 234 [zR 16 i0, zI x1, zI x2] σ = (
  zcI (zrun zP 189 [zR 16 i0, zI x1] (zms σ.1 16 i0 0 0, σ.2)) (fun r1 s1 =>
  if r1 = 0 then
    (some (.inl (some (zI 0)), s1))
    else
    (zX zP zK_X6_stop (20, [zR 16 i0, zI x1, zI x2, zI 0, zI 0], []) s1))) := (zrun_eq _ _ _).trans ((zun_eq zK_X6_stop [20] 12 _ _).trans rfl)
set_option maxRecDepth 100000 in
theorem e_X6_room (i0 : Nat) (x1 : Int32) (x2 : Int32) (x3 : Int32) (σ : zSt) : zrun zP 235 [zR 16 i0, zI x1, zI x2, zI x3] σ = (
  zcI (zrun zP 203 [zR 16 i0, zI x1, zI x2] (zms σ.1 16 i0 0 0, σ.2)) (fun r1 s1 =>
  if r1 = 0 then
    (some (.inl (some (zI 0)), s1))
    else
    (zcI (zrun zP 137 [zI x3, zI 0, zI 1] s1) (fun r2 s2 =>
      zcI (zrun zP 136 [zR 16 i0, zI r2, zI 2, zI 1] s2) (fun r3 s3 =>
        if r3 = 0 then
          (some (.inl (some (zI 0)), s3))
          else
          (if x3 = 0 then
            (zcI (zrun zP 148 [zR 16 i0, zI x1] s3) (fun r4 s4 =>
              zcI (zrun zP 201 [zR 16 i0, zI r4, zI x2] s4) (fun r5 s5 =>
                some (.inl (some (zI (r5 + 1))), s5))))
            else
            (zcI (zrun zP 148 [zR 16 i0, zI x1] s3) (fun r6 s6 =>
              zcI (zrun zP 202 [zR 16 i0, zI r6, zI x2] s6) (fun r7 s7 =>
                some (.inl (some (zI (r7 - 1))), s7)))))))))) := (zrun_eq _ _ _).trans ((zun_eq zK_X6_room [] 30 _ _).trans rfl)
set_option maxRecDepth 100000 in
theorem e_X6_otherTier (i0 : Nat) (x1 : Int32) (σ : zSt) : zrun zP 236 [zR 16 i0, zI x1] σ = (
  if (σ.1 16 i0 7) = 0 then
  (some (.inl (some (zI (-1))), σ))
  else
  (zcI (zrun zP 139 [zI x1, zI 3] σ) (fun r1 s1 =>
    if r1 < 0 ∨ 745 ≤ Int32.toNatClampNeg r1 then
      (none)
      else
      (zcI (zrun zP 175 [zR 16 i0, zR 32 0, zI (s1.1 31 0 (Int32.toNatClampNeg r1))] s1) (fun r2 s2 =>
        some (.inl (some (zI r2)), s2)))))) := (zrun_eq _ _ _).trans ((zun_eq zK_X6_otherTier [] 16 _ _).trans rfl)
set_option maxRecDepth 100000 in
theorem e_X6_markIn_2 (k0 i0 : Nat) (x1 : Int32) (x2 : Int32) (x3 : Int32) (σ : zSt) : zX zP zK_X6_markIn (2, [zR (k0 + 1) i0, zI x1, zI x2, zI x3], []) σ = (
  zcI (zrun zP 139 [zI x1, zI 2] σ) (fun r1 s1 =>
  if r1 < 0 ∨ zlenI (k0 + 1) i0 ≤ Int32.toNatClampNeg r1 then
    (none)
    else
    (if x3 < (s1.1 (k0 + 1) i0 (Int32.toNatClampNeg r1)) then
      (zcI (zrun zP 143 [zI x1, zI x3, zI 0] s1) (fun r2 s2 =>
        if r2 < 0 ∨ zlenI (k0 + 1) i0 ≤ Int32.toNatClampNeg r2 then
          (none)
          else
          (if x2 < (s2.1 (k0 + 1) i0 (Int32.toNatClampNeg r2)) then
            (zX zP zK_X6_markIn (2, [zR (k0 + 1) i0, zI x1, zI x2, zI (x3 + 1)], []) s2)
            else
            (zcI (zrun zP 143 [zI x1, zI x3, zI 1] s2) (fun r3 s3 =>
              if r3 < 0 ∨ zlenI (k0 + 1) i0 ≤ Int32.toNatClampNeg r3 then
                (none)
                else
                (if x2 < (s3.1 (k0 + 1) i0 (Int32.toNatClampNeg r3)) then
                  (some (.inl (some (zI x3)), s3))
                  else
                  (zX zP zK_X6_markIn (2, [zR (k0 + 1) i0, zI x1, zI x2, zI (x3 + 1)], []) s3)))))))
      else
      (some (.inl (some (zI (-1))), s1))))) := (zun_eq zK_X6_markIn [2] 26 _ _).trans rfl
set_option maxRecDepth 100000 in
theorem e_X6_markIn (k0 i0 : Nat) (x1 : Int32) (x2 : Int32) (σ : zSt) : zrun zP 237 [zR (k0 + 1) i0, zI x1, zI x2] σ = (
  zX zP zK_X6_markIn (2, [zR (k0 + 1) i0, zI x1, zI x2, zI 0], []) σ) := (zrun_eq _ _ _).trans ((zun_eq zK_X6_markIn [2] 3 _ _).trans rfl)
set_option maxRecDepth 100000 in
theorem e_X6_agree_49 (i0 : Nat) (x1 : Int32) (x2 : Int32) (x3 : Int32) (x4 : Int32) (x5 : Int32) (v6 : zAV) (v7 : zAV) (v8 : zAV) (σ : zSt) : zX zP zK_X6_agree (49, [zR 16 i0, zI x1, zI x2, zI x3, zI x4, zI x5, v6, v7, v8], []) σ = (
  if x5 < 999 then
  (zcI (zrun zP 237 [zR 31 0, zI x1, zI x5] σ) (fun r1 s1 =>
    zcI (zrun zP 237 [zR 32 0, zI x3, zI x5] s1) (fun r2 s2 =>
      if r1 = (-1) then
        (if r2 = (-1) then
          (if ((-1) : Int32) = x2 then
            (zX zP zK_X6_agree (49, [zR 16 i0, zI x1, zI x2, zI x3, zI (x4 + 1), zI (x5 + 1), zI r1, zI r2, zI (-1)], []) s2)
            else
            (zX zP zK_X6_agree (49, [zR 16 i0, zI x1, zI x2, zI x3, zI (x4 + 0), zI (x5 + 1), zI r1, zI r2, zI (-1)], []) s2))
          else
          (if (3 : Int32) = x2 then
            (zX zP zK_X6_agree (49, [zR 16 i0, zI x1, zI x2, zI x3, zI (x4 + 1), zI (x5 + 1), zI r1, zI r2, zI 3], []) s2)
            else
            (zX zP zK_X6_agree (49, [zR 16 i0, zI x1, zI x2, zI x3, zI (x4 + 0), zI (x5 + 1), zI r1, zI r2, zI 3], []) s2)))
        else
        (if r2 = (-1) then
          (if (2 : Int32) = x2 then
            (zX zP zK_X6_agree (49, [zR 16 i0, zI x1, zI x2, zI x3, zI (x4 + 1), zI (x5 + 1), zI r1, zI r2, zI 2], []) s2)
            else
            (zX zP zK_X6_agree (49, [zR 16 i0, zI x1, zI x2, zI x3, zI (x4 + 0), zI (x5 + 1), zI r1, zI r2, zI 2], []) s2))
          else
          (zcI (zrun zP 143 [zI x1, zI r1, zI 2] s2) (fun r3 s3 =>
            if r3 < 0 ∨ 745 ≤ Int32.toNatClampNeg r3 then
              (none)
              else
              (zcI (zrun zP 143 [zI x3, zI r2, zI 2] s3) (fun r4 s4 =>
                if r4 < 0 ∨ 745 ≤ Int32.toNatClampNeg r4 then
                  (none)
                  else
                  (if (s3.1 31 0 (Int32.toNatClampNeg r3)) = (s4.1 32 0 (Int32.toNatClampNeg r4)) then
                    (if (0 : Int32) = x2 then
                      (zX zP zK_X6_agree (49, [zR 16 i0, zI x1, zI x2, zI x3, zI (x4 + 1), zI (x5 + 1), zI r1, zI r2, zI 0], []) s4)
                      else
                      (zX zP zK_X6_agree (49, [zR 16 i0, zI x1, zI x2, zI x3, zI (x4 + 0), zI (x5 + 1), zI r1, zI r2, zI 0], []) s4))
                    else
                    (if (1 : Int32) = x2 then
                      (zX zP zK_X6_agree (49, [zR 16 i0, zI x1, zI x2, zI x3, zI (x4 + 1), zI (x5 + 1), zI r1, zI r2, zI 1], []) s4)
                      else
                      (zX zP zK_X6_agree (49, [zR 16 i0, zI x1, zI x2, zI x3, zI (x4 + 0), zI (x5 + 1), zI r1, zI r2, zI 1], []) s4)))))))))))
  else
  (some (.inl (some (zI x4)), σ))) := (zun_eq zK_X6_agree [49] 50 _ _).trans rfl
set_option maxRecDepth 100000 in
theorem e_X6_agree (i0 : Nat) (x1 : Int32) (x2 : Int32) (σ : zSt) : zrun zP 238 [zR 16 i0, zI x1, zI x2] σ = (
  zcI (zrun zP 189 [zR 16 i0, zI x1] (zms σ.1 16 i0 0 0, σ.2)) (fun r1 s1 =>
  if r1 = 0 then
    (some (.inl (some (zI 0)), s1))
    else
    (zcI (zrun zP 137 [zI x2, zI 0, zI 3] s1) (fun r2 s2 =>
      zcI (zrun zP 136 [zR 16 i0, zI r2, zI 2, zI 1] s2) (fun r3 s3 =>
        if r3 = 0 then
          (some (.inl (some (zI 0)), s3))
          else
          (zcI (zrun zP 236 [zR 16 i0, zI x1] s3) (fun r4 s4 =>
            if r4 = (-1) then
              (some (.inl (some (zI (-1))), s4))
              else
              (zX zP zK_X6_agree (49, [zR 16 i0, zI x1, zI x2, zI r4, zI 0, zI 0, zJunk, zJunk, zJunk], []) s4)))))))) := (zrun_eq _ _ _).trans ((zun_eq zK_X6_agree [49] 28 _ _).trans rfl)
set_option maxRecDepth 100000 in
theorem e_X6_times_5 (k0 i0 : Nat) (x1 : Int32) (k2 i2 : Nat) (x3 : Int32) (x4 : Int32) (v5 : zAV) (v6 : zAV) (σ : zSt) : zX zP zK_X6_times (5, [zR (k0 + 1) i0, zI x1, zR (k2 + 1) i2, zI x3, zI x4, v5, v6], []) σ = (
  if (999 : Int32) < x4 then
  (some (.inl (some (zI x3)), σ))
  else
  (zX zP zK_X6_times (19, [zR (k0 + 1) i0, zI x1, zR (k2 + 1) i2, zI x3, zI x4, zI 0, zI 0], []) σ)) := (zun_eq zK_X6_times [5, 19] 8 _ _).trans rfl
set_option maxRecDepth 100000 in
theorem e_X6_times_19 (k0 i0 : Nat) (x1 : Int32) (k2 i2 : Nat) (x3 : Int32) (x4 : Int32) (x5 : Int32) (x6 : Int32) (σ : zSt) : zX zP zK_X6_times (19, [zR (k0 + 1) i0, zI x1, zR (k2 + 1) i2, zI x3, zI x4, zI x5, zI x6], []) σ = (
  zcI (zrun zP 139 [zI x1, zI 2] σ) (fun r1 s1 =>
  if r1 < 0 ∨ zlenI (k0 + 1) i0 ≤ Int32.toNatClampNeg r1 then
    (none)
    else
    (if x6 < (s1.1 (k0 + 1) i0 (Int32.toNatClampNeg r1)) then
      (if x5 = 0 then
        (zcI (zrun zP 143 [zI x1, zI x6, zI 0] s1) (fun r2 s2 =>
          if r2 < 0 ∨ zlenI (k0 + 1) i0 ≤ Int32.toNatClampNeg r2 then
            (none)
            else
            (if (s2.1 (k0 + 1) i0 (Int32.toNatClampNeg r2)) = x4 then
              (zX zP zK_X6_times (19, [zR (k0 + 1) i0, zI x1, zR (k2 + 1) i2, zI x3, zI x4, zI 1, zI (x6 + 1)], []) s2)
              else
              (zcI (zrun zP 143 [zI x1, zI x6, zI 1] s2) (fun r3 s3 =>
                if r3 < 0 ∨ zlenI (k0 + 1) i0 ≤ Int32.toNatClampNeg r3 then
                  (none)
                  else
                  (if (s3.1 (k0 + 1) i0 (Int32.toNatClampNeg r3)) = x4 then
                    (zX zP zK_X6_times (19, [zR (k0 + 1) i0, zI x1, zR (k2 + 1) i2, zI x3, zI x4, zI 1, zI (x6 + 1)], []) s3)
                    else
                    (zX zP zK_X6_times (19, [zR (k0 + 1) i0, zI x1, zR (k2 + 1) i2, zI x3, zI x4, zI 0, zI (x6 + 1)], []) s3)))))))
        else
        (zX zP zK_X6_times (19, [zR (k0 + 1) i0, zI x1, zR (k2 + 1) i2, zI x3, zI x4, zI 1, zI (x6 + 1)], []) s1))
      else
      (if x5 = 0 then
        (zX zP zK_X6_times (5, [zR (k0 + 1) i0, zI x1, zR (k2 + 1) i2, zI x3, zI (x4 + 1), zI x5, zI x6], []) s1)
        else
        (if x3 < 0 ∨ zlenI (k2 + 1) i2 ≤ Int32.toNatClampNeg x3 then
          (none)
          else
          (zX zP zK_X6_times (5, [zR (k0 + 1) i0, zI x1, zR (k2 + 1) i2, zI (x3 + 1), zI (x4 + 1), zI x5, zI x6], []) (zms s1.1 (k2 + 1) i2 (Int32.toNatClampNeg x3) x4, s1.2))))))) := (zun_eq zK_X6_times [5, 19] 31 _ _).trans rfl
set_option maxRecDepth 100000 in
theorem e_X6_times (k0 i0 : Nat) (x1 : Int32) (k2 i2 : Nat) (σ : zSt) : zrun zP 239 [zR (k0 + 1) i0, zI x1, zR (k2 + 1) i2] σ = (
  zX zP zK_X6_times (5, [zR (k0 + 1) i0, zI x1, zR (k2 + 1) i2, zI 0, zI 0, zJunk, zJunk], []) σ) := (zrun_eq _ _ _).trans ((zun_eq zK_X6_times [5, 19] 5 _ _).trans rfl)
set_option maxRecDepth 100000 in
theorem e_X6_pairsOf (i0 : Nat) (x1 : Int32) (x2 : Int32) (x3 : Int32) (σ : zSt) : zrun zP 240 [zR 16 i0, zI x1, zI x2, zI x3] σ = (
  if ((81 * x1) + x2) < 0 ∨ 6561 ≤ Int32.toNatClampNeg ((81 * x1) + x2) then
  (none)
  else
  (if ((81 * x1) + x2) < 0 ∨ 6561 ≤ Int32.toNatClampNeg ((81 * x1) + x2) then
    (none)
    else
    (if x1 = 0 then
      (some (.inl none, (zms (zms σ.1 39 0 (Int32.toNatClampNeg ((81 * x1) + x2)) 0) 40 0 (Int32.toNatClampNeg ((81 * x1) + x2)) 0, σ.2)))
      else
      (if x2 = 0 then
        (some (.inl none, (zms (zms σ.1 39 0 (Int32.toNatClampNeg ((81 * x1) + x2)) 0) 40 0 (Int32.toNatClampNeg ((81 * x1) + x2)) 0, σ.2)))
        else
        (if (((81 * x1) + x2) - 81) < 0 ∨ 6561 ≤ Int32.toNatClampNeg (((81 * x1) + x2) - 81) then
          (none)
          else
          (if (((81 * x1) + x2) - 81) < 0 ∨ 6561 ≤ Int32.toNatClampNeg (((81 * x1) + x2) - 81) then
            (none)
            else
            (zcV (zrun zP 241 [zR 16 i0, zI ((81 * x1) + x2), zI ((zms σ.1 39 0 (Int32.toNatClampNeg ((81 * x1) + x2)) 0) 39 0 (Int32.toNatClampNeg (((81 * x1) + x2) - 81))), zI ((zms (zms σ.1 39 0 (Int32.toNatClampNeg ((81 * x1) + x2)) 0) 40 0 (Int32.toNatClampNeg ((81 * x1) + x2)) 0) 40 0 (Int32.toNatClampNeg (((81 * x1) + x2) - 81)))] (zms (zms σ.1 39 0 (Int32.toNatClampNeg ((81 * x1) + x2)) 0) 40 0 (Int32.toNatClampNeg ((81 * x1) + x2)) 0, σ.2)) (fun s1 =>
              if (((81 * x1) + x2) - 1) < 0 ∨ 6561 ≤ Int32.toNatClampNeg (((81 * x1) + x2) - 1) then
                (none)
                else
                (if (((81 * x1) + x2) - 1) < 0 ∨ 6561 ≤ Int32.toNatClampNeg (((81 * x1) + x2) - 1) then
                  (none)
                  else
                  (zcV (zrun zP 241 [zR 16 i0, zI ((81 * x1) + x2), zI (s1.1 39 0 (Int32.toNatClampNeg (((81 * x1) + x2) - 1))), zI (s1.1 40 0 (Int32.toNatClampNeg (((81 * x1) + x2) - 1)))] s1) (fun s2 =>
                    if (x1 - 1) < 0 ∨ 80 ≤ Int32.toNatClampNeg (x1 - 1) then
                      (none)
                      else
                      (if (x2 - 1) < 0 ∨ 80 ≤ Int32.toNatClampNeg (x2 - 1) then
                        (none)
                        else
                        (if x3 < (if 0 ≤ ((s2.1 37 0 (Int32.toNatClampNeg (x1 - 1))) - (s2.1 38 0 (Int32.toNatClampNeg (x2 - 1)))) then ((s2.1 37 0 (Int32.toNatClampNeg (x1 - 1))) - (s2.1 38 0 (Int32.toNatClampNeg (x2 - 1)))) else 0 - ((s2.1 37 0 (Int32.toNatClampNeg (x1 - 1))) - (s2.1 38 0 (Int32.toNatClampNeg (x2 - 1))))) then
                          (some (.inl none, s2))
                          else
                          (if (((81 * x1) + x2) - 82) < 0 ∨ 6561 ≤ Int32.toNatClampNeg (((81 * x1) + x2) - 82) then
                            (none)
                            else
                            (if (((81 * x1) + x2) - 82) < 0 ∨ 6561 ≤ Int32.toNatClampNeg (((81 * x1) + x2) - 82) then
                              (none)
                              else
                              (zcV (zrun zP 241 [zR 16 i0, zI ((81 * x1) + x2), zI ((s2.1 39 0 (Int32.toNatClampNeg (((81 * x1) + x2) - 82))) + 1), zI ((s2.1 40 0 (Int32.toNatClampNeg (((81 * x1) + x2) - 82))) + (if 0 ≤ ((s2.1 37 0 (Int32.toNatClampNeg (x1 - 1))) - (s2.1 38 0 (Int32.toNatClampNeg (x2 - 1)))) then ((s2.1 37 0 (Int32.toNatClampNeg (x1 - 1))) - (s2.1 38 0 (Int32.toNatClampNeg (x2 - 1)))) else 0 - ((s2.1 37 0 (Int32.toNatClampNeg (x1 - 1))) - (s2.1 38 0 (Int32.toNatClampNeg (x2 - 1))))))] s2) (fun s3 =>
                                some (.inl none, s3)))))))))))))))))) := (zrun_eq _ _ _).trans ((zun_eq zK_X6_pairsOf [] 89 _ _).trans rfl)
set_option maxRecDepth 100000 in
theorem e_X6_better (i0 : Nat) (x1 : Int32) (x2 : Int32) (x3 : Int32) (σ : zSt) : zrun zP 241 [zR 16 i0, zI x1, zI x2, zI x3] σ = (
  if x1 < 0 ∨ 6561 ≤ Int32.toNatClampNeg x1 then
  (none)
  else
  (if x2 < (σ.1 39 0 (Int32.toNatClampNeg x1)) then
    (some (.inl none, σ))
    else
    (if x1 < 0 ∨ 6561 ≤ Int32.toNatClampNeg x1 then
      (none)
      else
      (if x2 = (σ.1 39 0 (Int32.toNatClampNeg x1)) then
        (if x1 < 0 ∨ 6561 ≤ Int32.toNatClampNeg x1 then
          (none)
          else
          (if x3 < (σ.1 40 0 (Int32.toNatClampNeg x1)) then
            (if x1 < 0 ∨ 6561 ≤ Int32.toNatClampNeg x1 then
              (none)
              else
              (if x1 < 0 ∨ 6561 ≤ Int32.toNatClampNeg x1 then
                (none)
                else
                (some (.inl none, (zms (zms σ.1 39 0 (Int32.toNatClampNeg x1) x2) 40 0 (Int32.toNatClampNeg x1) x3, σ.2)))))
            else
            (if (0 : Int32) < x2 then
              (some (.inl none, σ))
              else
              (if x1 < 0 ∨ 6561 ≤ Int32.toNatClampNeg x1 then
                (none)
                else
                (if x1 < 0 ∨ 6561 ≤ Int32.toNatClampNeg x1 then
                  (none)
                  else
                  (some (.inl none, (zms (zms σ.1 39 0 (Int32.toNatClampNeg x1) x2) 40 0 (Int32.toNatClampNeg x1) x3, σ.2))))))))
        else
        (if x1 < 0 ∨ 6561 ≤ Int32.toNatClampNeg x1 then
          (none)
          else
          (if x1 < 0 ∨ 6561 ≤ Int32.toNatClampNeg x1 then
            (none)
            else
            (some (.inl none, (zms (zms σ.1 39 0 (Int32.toNatClampNeg x1) x2) 40 0 (Int32.toNatClampNeg x1) x3, σ.2))))))))) := (zrun_eq _ _ _).trans ((zun_eq zK_X6_better [] 32 _ _).trans rfl)
set_option maxRecDepth 100000 in
theorem e_X6_same_96 (i0 : Nat) (x1 : Int32) (x2 : Int32) (x3 : Int32) (x4 : Int32) (x5 : Int32) (x6 : Int32) (x7 : Int32) (v8 : zAV) (σ : zSt) : zX zP zK_X6_same (96, [zR 16 i0, zI x1, zI x2, zI x3, zI x4, zI x5, zI x6, zI x7, v8], []) σ = (
  if x5 < x7 then
  (if x3 = 0 then
    (if ((81 * x5) + x6) < 0 ∨ 6561 ≤ Int32.toNatClampNeg ((81 * x5) + x6) then
      (none)
      else
      (some (.inl (some (zI (σ.1 39 0 (Int32.toNatClampNeg ((81 * x5) + x6))))), σ)))
    else
    (if ((81 * x5) + x6) < 0 ∨ 6561 ≤ Int32.toNatClampNeg ((81 * x5) + x6) then
      (none)
      else
      (some (.inl (some (zI (σ.1 40 0 (Int32.toNatClampNeg ((81 * x5) + x6))))), σ))))
  else
  (zX zP zK_X6_same (106, [zR 16 i0, zI x1, zI x2, zI x3, zI x4, zI x5, zI x6, zI x7, zI 0], []) σ)) := (zun_eq zK_X6_same [96, 106] 16 _ _).trans rfl
set_option maxRecDepth 100000 in
theorem e_X6_same_106 (i0 : Nat) (x1 : Int32) (x2 : Int32) (x3 : Int32) (x4 : Int32) (x5 : Int32) (x6 : Int32) (x7 : Int32) (x8 : Int32) (σ : zSt) : zX zP zK_X6_same (106, [zR 16 i0, zI x1, zI x2, zI x3, zI x4, zI x5, zI x6, zI x7, zI x8], []) σ = (
  if x6 < x8 then
  (zX zP zK_X6_same (96, [zR 16 i0, zI x1, zI x2, zI x3, zI x4, zI x5, zI x6, zI (x7 + 1), zI x8], []) σ)
  else
  (zcV (zrun zP 240 [zR 16 i0, zI x7, zI x8, zI x2] σ) (fun s1 =>
    zX zP zK_X6_same (106, [zR 16 i0, zI x1, zI x2, zI x3, zI x4, zI x5, zI x6, zI x7, zI (x8 + 1)], []) s1))) := (zun_eq zK_X6_same [96, 106] 11 _ _).trans rfl
set_option maxRecDepth 100000 in
theorem e_X6_same (i0 : Nat) (x1 : Int32) (x2 : Int32) (x3 : Int32) (σ : zSt) : zrun zP 242 [zR 16 i0, zI x1, zI x2, zI x3] σ = (
  zcI (zrun zP 189 [zR 16 i0, zI x1] (zms σ.1 16 i0 0 0, σ.2)) (fun r1 s1 =>
  if r1 = 0 then
    (some (.inl (some (zI 0)), s1))
    else
    (zcI (zrun zP 137 [zI x2, zI 0, zI 999] s1) (fun r2 s2 =>
      if r2 = 0 then
        (zcI (zrun zP 136 [zR 16 i0, zI 0, zI 2, zI 1] s2) (fun r3 s3 =>
          if r3 = 0 then
            (some (.inl (some (zI 0)), s3))
            else
            (zcI (zrun zP 236 [zR 16 i0, zI x1] s3) (fun r4 s4 =>
              if r4 = (-1) then
                (some (.inl (some (zI (-1))), s4))
                else
                (zcI (zrun zP 239 [zR 31 0, zI x1, zR 37 0] s4) (fun r5 s5 =>
                  zcI (zrun zP 239 [zR 32 0, zI r4, zR 38 0] s5) (fun r6 s6 =>
                    zX zP zK_X6_same (96, [zR 16 i0, zI x1, zI x2, zI x3, zI r4, zI r5, zI r6, zI 0, zJunk], []) s6)))))))
        else
        (zcI (zrun zP 137 [zI x3, zI 0, zI 1] s2) (fun r7 s7 =>
          if r7 = 0 then
            (zcI (zrun zP 136 [zR 16 i0, zI 0, zI 2, zI 1] s7) (fun r8 s8 =>
              if r8 = 0 then
                (some (.inl (some (zI 0)), s8))
                else
                (zcI (zrun zP 236 [zR 16 i0, zI x1] s8) (fun r9 s9 =>
                  if r9 = (-1) then
                    (some (.inl (some (zI (-1))), s9))
                    else
                    (zcI (zrun zP 239 [zR 31 0, zI x1, zR 37 0] s9) (fun r10 s10 =>
                      zcI (zrun zP 239 [zR 32 0, zI r9, zR 38 0] s10) (fun r11 s11 =>
                        zX zP zK_X6_same (96, [zR 16 i0, zI x1, zI x2, zI x3, zI r9, zI r10, zI r11, zI 0, zJunk], []) s11)))))))
            else
            (zcI (zrun zP 136 [zR 16 i0, zI 1, zI 2, zI 1] s7) (fun r12 s12 =>
              if r12 = 0 then
                (some (.inl (some (zI 0)), s12))
                else
                (zcI (zrun zP 236 [zR 16 i0, zI x1] s12) (fun r13 s13 =>
                  if r13 = (-1) then
                    (some (.inl (some (zI (-1))), s13))
                    else
                    (zcI (zrun zP 239 [zR 31 0, zI x1, zR 37 0] s13) (fun r14 s14 =>
                      zcI (zrun zP 239 [zR 32 0, zI r13, zR 38 0] s14) (fun r15 s15 =>
                        zX zP zK_X6_same (96, [zR 16 i0, zI x1, zI x2, zI x3, zI r13, zI r14, zI r15, zI 0, zJunk], []) s15))))))))))))) := (zrun_eq _ _ _).trans ((zun_eq zK_X6_same [96, 106] 48 _ _).trans rfl)
set_option maxRecDepth 100000 in
theorem e_X6_print_9 (i0 : Nat) (y1 : Int64) (v2 : zAV) (x3 : Int32) (v4 : zAV) (v5 : zAV) (σ : zSt) : zX zP zK_X6_print (9, [zR 16 i0, zL y1, v2, zI x3, v4, v5], []) σ = (
  zcI (zrun zP 138 [zR 16 i0] σ) (fun r1 s1 =>
  if x3 < r1 then
    (zX zP zK_X6_print (20, [zR 16 i0, zL y1, v2, zI x3, zI 0, v5], []) s1)
    else
    (some (.inl (some (zL y1)), s1)))) := (zun_eq zK_X6_print [9, 20, 33] 7 _ _).trans rfl
set_option maxRecDepth 100000 in
theorem e_X6_print_20 (i0 : Nat) (y1 : Int64) (v2 : zAV) (x3 : Int32) (x4 : Int32) (v5 : zAV) (σ : zSt) : zX zP zK_X6_print (20, [zR 16 i0, zL y1, v2, zI x3, zI x4, v5], []) σ = (
  zcI (zrun zP 142 [zR 16 i0, zI x3] σ) (fun r1 s1 =>
  if x4 < r1 then
    (zX zP zK_X6_print (33, [zR 16 i0, zL y1, v2, zI x3, zI x4, zI 0], []) s1)
    else
    (zX zP zK_X6_print (9, [zR 16 i0, zL ((lN 31) * y1), zJunk, zI (x3 + 1), zI x4, v5], []) s1))) := (zun_eq zK_X6_print [9, 20, 33] 12 _ _).trans rfl
set_option maxRecDepth 100000 in
theorem e_X6_print_33 (i0 : Nat) (y1 : Int64) (v2 : zAV) (x3 : Int32) (x4 : Int32) (x5 : Int32) (σ : zSt) : zX zP zK_X6_print (33, [zR 16 i0, zL y1, v2, zI x3, zI x4, zI x5], []) σ = (
  if x5 < 3 then
  (zcI (zrun zP 143 [zI x3, zI x4, zI x5] σ) (fun r1 s1 =>
    if r1 < 0 ∨ 745 ≤ Int32.toNatClampNeg r1 then
      (none)
      else
      (zX zP zK_X6_print (33, [zR 16 i0, zL (((lN 31) * y1) + (Int32.toInt64 (s1.1 31 0 (Int32.toNatClampNeg r1)))), zJunk, zI x3, zI x4, zI (x5 + 1)], []) s1)))
  else
  (zX zP zK_X6_print (20, [zR 16 i0, zL y1, v2, zI x3, zI (x4 + 1), zI x5], []) σ)) := (zun_eq zK_X6_print [9, 20, 33] 19 _ _).trans rfl
set_option maxRecDepth 100000 in
theorem e_X6_print (i0 : Nat) (σ : zSt) : zrun zP 243 [zR 16 i0] σ = (
  zX zP zK_X6_print (9, [zR 16 i0, zL (lN 0), zJunk, zI 0, zJunk, zJunk], []) (zms σ.1 16 i0 0 0, σ.2)) := (zrun_eq _ _ _).trans ((zun_eq zK_X6_print [9, 20, 33] 8 _ _).trans rfl)
set_option maxRecDepth 100000 in
theorem e_X6_status (i0 : Nat) (x1 : Int32) (σ : zSt) : zrun zP 244 [zR 16 i0, zI x1] σ = (
  zcI (zrun zP 137 [zI x1, zI 0, zI 2] (zms σ.1 16 i0 0 0, σ.2)) (fun r1 s1 =>
  if r1 = 0 then
    (some (.inl (some (zI (-1))), s1))
    else
    (if x1 < 0 ∨ 3 ≤ Int32.toNatClampNeg x1 then
      (none)
      else
      (some (.inl (some (zI (s1.1 30 0 (Int32.toNatClampNeg x1)))), s1))))) := (zrun_eq _ _ _).trans ((zun_eq zK_X6_status [] 15 _ _).trans rfl)
