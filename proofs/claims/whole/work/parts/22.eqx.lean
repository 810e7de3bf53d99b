set_option maxRecDepth 100000 in
theorem e_X5_feed (i0 : Nat) (x1 : Int32) (x2 : Int32) (x3 : Int32) (x4 : Int32) (x5 : Int32) (σ : zSt) : zrun zP 91 [zR 15 i0, zI x1, zI x2, zI x3, zI x4, zI x5] σ = (
  if (400 : Int32) < ((σ.1 11 0 1) + 20) then
  (some (.inl (some (zI (-1))), σ))
  else
  (zcV (zrun zP 3 [zR 11 0, zI x1] σ) (fun s1 =>
    zcV (zrun zP 3 [zR 11 0, zI x2] s1) (fun s2 =>
      zcV (zrun zP 3 [zR 11 0, zI x3] s2) (fun s3 =>
        zcV (zrun zP 3 [zR 11 0, zI x4] s3) (fun s4 =>
          zcV (zrun zP 3 [zR 11 0, zI x5] s4) (fun s5 =>
            some (.inl (some (zI (s5.1 11 0 1))), s5)))))))) := (zrun_eq _ _ _).trans ((zun_eq zK_X5_feed [] 32 _ _).trans rfl)
set_option maxRecDepth 100000 in
theorem e_X5_text (i0 : Nat) (x1 : Int32) (σ : zSt) : zrun zP 92 [zR 15 i0, zI x1] σ = (
  zcV (zrun zP 128 [zR 15 i0, zI x1, zI 0, zI (σ.1 11 0 1)] σ) (fun s1 =>
  zcI (zrun zP 4 [zR 11 0, zI x1] s1) (fun r2 s2 =>
    if r2 = 0 then
      (some (.inl (some (zI ((s2.1 11 0 3) - 10))), s2))
      else
      (zcV (zrun zP 50 [zR 13 0, zR 13 14] s2) (fun s3 =>
        zcV (zrun zP 0 [zR 10 0] s3) (fun s4 =>
          zcI (zrun zP 53 [zR 13 0] s4) (fun r5 s5 =>
            some (.inl (some (zI r5)), s5)))))))) := (zrun_eq _ _ _).trans ((zun_eq zK_X5_text [] 26 _ _).trans rfl)
set_option maxRecDepth 100000 in
theorem e_X5_fault (i0 : Nat) (σ : zSt) : zrun zP 93 [zR 15 i0] σ = (
  some (.inl (some (zI (σ.1 11 0 4))), σ)) := (zrun_eq _ _ _).trans ((zun_eq zK_X5_fault [] 5 _ _).trans rfl)
set_option maxRecDepth 100000 in
theorem e_X5_put (i0 : Nat) (x1 : Int32) (x2 : Int32) (x3 : Int32) (σ : zSt) : zrun zP 94 [zR 15 i0, zI x1, zI x2, zI x3] σ = (
  zcV (zrun zP 125 [zR 15 i0, zI x1] σ) (fun s1 =>
  zcV (zrun zP 130 [zR 15 i0, zI x2, zI x3] s1) (fun s2 =>
    zcI (zrun zP 63 [zR 13 0, zI x1, zI x2, zI x3] s2) (fun r3 s3 =>
      if r3 = 0 then
        (zcV (zrun zP 124 [zR 15 i0, zI 0] s3) (fun s4 =>
          zcV (zrun zP 1 [zR 10 0, zR 13 0] s4) (fun s5 =>
            zcI (zrun zP 65 [zR 13 0, zI x1, zI x2, zI x3] s5) (fun r6 s6 =>
              some (.inl (some (zI r6)), s6)))))
        else
        (zcI (zrun zP 64 [zR 13 0, zI x1] s3) (fun r7 s7 =>
          if r7 = 0 then
            (zcV (zrun zP 124 [zR 15 i0, zI 0] s7) (fun s8 =>
              zcV (zrun zP 1 [zR 10 0, zR 13 0] s8) (fun s9 =>
                zcI (zrun zP 65 [zR 13 0, zI x1, zI x2, zI x3] s9) (fun r10 s10 =>
                  some (.inl (some (zI r10)), s10)))))
            else
            (zcV (zrun zP 124 [zR 15 i0, zI 1] s7) (fun s11 =>
              zcV (zrun zP 1 [zR 10 0, zR 13 0] s11) (fun s12 =>
                zcI (zrun zP 65 [zR 13 0, zI x1, zI x2, zI x3] s12) (fun r13 s13 =>
                  some (.inl (some (zI r13)), s13))))))))))) := (zrun_eq _ _ _).trans ((zun_eq zK_X5_put [] 36 _ _).trans rfl)
set_option maxRecDepth 100000 in
theorem e_X5_point (i0 : Nat) (x1 : Int32) (x2 : Int32) (σ : zSt) : zrun zP 95 [zR 15 i0, zI x1, zI x2] σ = (
  zcV (zrun zP 125 [zR 15 i0, zI x1] σ) (fun s1 =>
  zcV (zrun zP 129 [zR 15 i0, zI x2] s1) (fun s2 =>
    zcI (zrun zP 66 [zR 13 0, zI x1, zI x2] s2) (fun r3 s3 =>
      if r3 = 0 then
        (zcV (zrun zP 124 [zR 15 i0, zI 0] s3) (fun s4 =>
          zcV (zrun zP 1 [zR 10 0, zR 13 0] s4) (fun s5 =>
            if x1 < 0 ∨ 6 ≤ Int32.toNatClampNeg x1 then
              (none)
              else
              (zcI (zrun zP 30 [zR 12 (6 * 0 + Int32.toNatClampNeg x1), zI x2, zI x2, zI 0] s5) (fun r6 s6 =>
                some (.inl (some (zI r6)), s6))))))
        else
        (if x1 < 0 ∨ 6 ≤ Int32.toNatClampNeg x1 then
          (none)
          else
          (zcI (zrun zP 26 [zR 12 (6 * 0 + Int32.toNatClampNeg x1)] s3) (fun r7 s7 =>
            if r7 = 0 then
              (zcV (zrun zP 124 [zR 15 i0, zI 1] s7) (fun s8 =>
                zcV (zrun zP 1 [zR 10 0, zR 13 0] s8) (fun s9 =>
                  if x1 < 0 ∨ 6 ≤ Int32.toNatClampNeg x1 then
                    (none)
                    else
                    (zcI (zrun zP 30 [zR 12 (6 * 0 + Int32.toNatClampNeg x1), zI x2, zI x2, zI 0] s9) (fun r10 s10 =>
                      some (.inl (some (zI r10)), s10))))))
              else
              (zcV (zrun zP 124 [zR 15 i0, zI 0] s7) (fun s11 =>
                zcV (zrun zP 1 [zR 10 0, zR 13 0] s11) (fun s12 =>
                  if x1 < 0 ∨ 6 ≤ Int32.toNatClampNeg x1 then
                    (none)
                    else
                    (zcI (zrun zP 30 [zR 12 (6 * 0 + Int32.toNatClampNeg x1), zI x2, zI x2, zI 0] s12) (fun r13 s13 =>
                      some (.inl (some (zI r13)), s13))))))))))))) := (zrun_eq _ _ _).trans ((zun_eq zK_X5_point [] 39 _ _).trans rfl)
set_option maxRecDepth 100000 in
theorem e_X5_take (i0 : Nat) (x1 : Int32) (x2 : Int32) (σ : zSt) : zrun zP 96 [zR 15 i0, zI x1, zI x2] σ = (
  zcV (zrun zP 126 [zR 15 i0, zI x1, zI x2] σ) (fun s1 =>
  if x1 < 0 ∨ 6 ≤ Int32.toNatClampNeg x1 then
    (none)
    else
    (if (s1.1 12 (6 * 0 + Int32.toNatClampNeg x1) 1) = 1 then
      (zcI (zrun zP 67 [zR 13 0, zI x1, zI x2] s1) (fun r2 s2 =>
        if r2 = (-1) then
          (zcV (zrun zP 124 [zR 15 i0, zI 0] s2) (fun s3 =>
            zcV (zrun zP 1 [zR 10 0, zR 13 0] s3) (fun s4 =>
              zcV (zrun zP 68 [zR 13 0, zI x1, zI x2, zI r2] s4) (fun s5 =>
                some (.inl (some (zI 1)), s5)))))
          else
          (zcV (zrun zP 124 [zR 15 i0, zI 1] s2) (fun s6 =>
            zcV (zrun zP 1 [zR 10 0, zR 13 0] s6) (fun s7 =>
              zcV (zrun zP 68 [zR 13 0, zI x1, zI x2, zI r2] s7) (fun s8 =>
                some (.inl (some (zI 1)), s8)))))))
      else
      (zcV (zrun zP 1 [zR 10 0, zR 13 0] s1) (fun s9 =>
        if (s1.1 12 (6 * 0 + Int32.toNatClampNeg x1) 1) = 3 then
          (if x1 < 0 ∨ 6 ≤ Int32.toNatClampNeg x1 then
            (none)
            else
            (zcV (zrun zP 31 [zR 12 (6 * 0 + Int32.toNatClampNeg x1), zI x2] s9) (fun s10 =>
              some (.inl (some (zI 1)), s10))))
          else
          (zcI (zrun zP 69 [zR 13 0, zI x1, zI x2] s9) (fun r11 s11 =>
            some (.inl (some (zI r11)), s11)))))))) := (zrun_eq _ _ _).trans ((zun_eq zK_X5_take [] 41 _ _).trans rfl)
set_option maxRecDepth 100000 in
theorem e_X5_split (i0 : Nat) (x1 : Int32) (x2 : Int32) (x3 : Int32) (σ : zSt) : zrun zP 97 [zR 15 i0, zI x1, zI x2, zI x3] σ = (
  zcV (zrun zP 126 [zR 15 i0, zI x1, zI x2] σ) (fun s1 =>
  if x1 < 0 ∨ 6 ≤ Int32.toNatClampNeg x1 then
    (none)
    else
    (if (s1.1 12 (6 * 0 + Int32.toNatClampNeg x1) 1) = 3 then
      (zcV (zrun zP 124 [zR 15 i0, zI 0] s1) (fun s2 =>
        if x2 < 0 ∨ 40 ≤ Int32.toNatClampNeg x2 then
          (none)
          else
          (if x2 < 0 ∨ 40 ≤ Int32.toNatClampNeg x2 then
            (none)
            else
            (zcV (zrun zP 128 [zR 15 i0, zI x3, zI ((s2.1 20 (6 * 0 + Int32.toNatClampNeg x1) (Int32.toNatClampNeg x2)) + 1), zI ((s2.1 21 (6 * 0 + Int32.toNatClampNeg x1) (Int32.toNatClampNeg x2)) - 1)] s2) (fun s3 =>
              zcI (zrun zP 72 [zR 13 0, zI x1, zI x3] s3) (fun r4 s4 =>
                if r4 = 0 then
                  (zcV (zrun zP 124 [zR 15 i0, zI 0] s4) (fun s5 =>
                    zcV (zrun zP 1 [zR 10 0, zR 13 0] s5) (fun s6 =>
                      zcI (zrun zP 74 [zR 13 0, zI x1, zI x3] s6) (fun r7 s7 =>
                        some (.inl (some (zI r7)), s7)))))
                  else
                  (zcI (zrun zP 73 [zR 13 0, zI x1, zI x3] s4) (fun r8 s8 =>
                    if r8 = 0 then
                      (zcV (zrun zP 124 [zR 15 i0, zI 0] s8) (fun s9 =>
                        zcV (zrun zP 1 [zR 10 0, zR 13 0] s9) (fun s10 =>
                          zcI (zrun zP 74 [zR 13 0, zI x1, zI x3] s10) (fun r11 s11 =>
                            some (.inl (some (zI r11)), s11)))))
                      else
                      (zcV (zrun zP 124 [zR 15 i0, zI 1] s8) (fun s12 =>
                        zcV (zrun zP 1 [zR 10 0, zR 13 0] s12) (fun s13 =>
                          zcI (zrun zP 74 [zR 13 0, zI x1, zI x3] s13) (fun r14 s14 =>
                            some (.inl (some (zI r14)), s14)))))))))))))
      else
      (zcV (zrun zP 124 [zR 15 i0, zI 1] s1) (fun s15 =>
        if x2 < 0 ∨ 40 ≤ Int32.toNatClampNeg x2 then
          (none)
          else
          (if x2 < 0 ∨ 40 ≤ Int32.toNatClampNeg x2 then
            (none)
            else
            (zcV (zrun zP 128 [zR 15 i0, zI x3, zI ((s15.1 20 (6 * 0 + Int32.toNatClampNeg x1) (Int32.toNatClampNeg x2)) + 1), zI ((s15.1 21 (6 * 0 + Int32.toNatClampNeg x1) (Int32.toNatClampNeg x2)) - 1)] s15) (fun s16 =>
              zcI (zrun zP 72 [zR 13 0, zI x1, zI x3] s16) (fun r17 s17 =>
                if r17 = 0 then
                  (zcV (zrun zP 124 [zR 15 i0, zI 0] s17) (fun s18 =>
                    zcV (zrun zP 1 [zR 10 0, zR 13 0] s18) (fun s19 =>
                      zcI (zrun zP 74 [zR 13 0, zI x1, zI x3] s19) (fun r20 s20 =>
                        some (.inl (some (zI r20)), s20)))))
                  else
                  (zcI (zrun zP 73 [zR 13 0, zI x1, zI x3] s17) (fun r21 s21 =>
                    if r21 = 0 then
                      (zcV (zrun zP 124 [zR 15 i0, zI 0] s21) (fun s22 =>
                        zcV (zrun zP 1 [zR 10 0, zR 13 0] s22) (fun s23 =>
                          zcI (zrun zP 74 [zR 13 0, zI x1, zI x3] s23) (fun r24 s24 =>
                            some (.inl (some (zI r24)), s24)))))
                      else
                      (zcV (zrun zP 124 [zR 15 i0, zI 1] s21) (fun s25 =>
                        zcV (zrun zP 1 [zR 10 0, zR 13 0] s25) (fun s26 =>
                          zcI (zrun zP 74 [zR 13 0, zI x1, zI x3] s26) (fun r27 s27 =>
                            some (.inl (some (zI r27)), s27)))))))))))))))) := (zrun_eq _ _ _).trans ((zun_eq zK_X5_split [] 61 _ _).trans rfl)
set_option maxRecDepth 100000 in
theorem e_X5_join (i0 : Nat) (x1 : Int32) (x2 : Int32) (σ : zSt) : zrun zP 98 [zR 15 i0, zI x1, zI x2] σ = (
  zcV (zrun zP 126 [zR 15 i0, zI x1, zI x2] σ) (fun s1 =>
  zcI (zrun zP 75 [zR 13 0, zI x1, zI x2] s1) (fun r2 s2 =>
    zcV (zrun zP 124 [zR 15 i0, zI r2] s2) (fun s3 =>
      zcV (zrun zP 1 [zR 10 0, zR 13 0] s3) (fun s4 =>
        if x1 < 0 ∨ 6 ≤ Int32.toNatClampNeg x1 then
          (none)
          else
          (zcV (zrun zP 34 [zR 12 (6 * 0 + Int32.toNatClampNeg x1), zI x2] s4) (fun s5 =>
            if x2 < 0 ∨ 40 ≤ Int32.toNatClampNeg x2 then
              (none)
              else
              (some (.inl (some (zI (s5.1 21 (6 * 0 + Int32.toNatClampNeg x1) (Int32.toNatClampNeg x2)))), s5))))))))) := (zrun_eq _ _ _).trans ((zun_eq zK_X5_join [] 31 _ _).trans rfl)
set_option maxRecDepth 100000 in
theorem e_X5_move (i0 : Nat) (x1 : Int32) (x2 : Int32) (x3 : Int32) (σ : zSt) : zrun zP 99 [zR 15 i0, zI x1, zI x2, zI x3] σ = (
  zcV (zrun zP 127 [zR 15 i0, zI x1, zI x2] σ) (fun s1 =>
  zcV (zrun zP 129 [zR 15 i0, zI x3] s1) (fun s2 =>
    if x1 < 0 ∨ 6 ≤ Int32.toNatClampNeg x1 then
      (none)
      else
      (zcI (zrun zP 81 [zR 13 0, zI (s2.1 12 (6 * 0 + Int32.toNatClampNeg x1) 3), zI x2, zI x3] s2) (fun r3 s3 =>
        zcV (zrun zP 124 [zR 15 i0, zI r3] s3) (fun s4 =>
          zcV (zrun zP 1 [zR 10 0, zR 13 0] s4) (fun s5 =>
            zcI (zrun zP 82 [zR 13 0, zI (s2.1 12 (6 * 0 + Int32.toNatClampNeg x1) 3), zI x2, zI x3] s5) (fun r6 s6 =>
              some (.inl (some (zI r6)), s6))))))))) := (zrun_eq _ _ _).trans ((zun_eq zK_X5_move [] 35 _ _).trans rfl)
set_option maxRecDepth 100000 in
theorem e_X5_silence (i0 : Nat) (x1 : Int32) (x2 : Int32) (σ : zSt) : zrun zP 100 [zR 15 i0, zI x1, zI x2] σ = (
  zcV (zrun zP 129 [zR 15 i0, zI x1] σ) (fun s1 =>
  zcV (zrun zP 128 [zR 15 i0, zI x2, zI 1, zI 999] s1) (fun s2 =>
    zcI (zrun zP 83 [zR 13 0, zI x1, zI x2] s2) (fun r3 s3 =>
      zcV (zrun zP 124 [zR 15 i0, zI r3] s3) (fun s4 =>
        zcV (zrun zP 1 [zR 10 0, zR 13 0] s4) (fun s5 =>
          zcI (zrun zP 84 [zR 13 0, zI x1, zR 14 0] s5) (fun r6 s6 =>
            zcV (zrun zP 85 [zR 13 0, zI x1, zI x2] s6) (fun s7 =>
              some (.inl (some (zI r6)), s7))))))))) := (zrun_eq _ _ _).trans ((zun_eq zK_X5_silence [] 35 _ _).trans rfl)
set_option maxRecDepth 100000 in
theorem e_X5_label (i0 : Nat) (x1 : Int32) (x2 : Int32) (x3 : Int32) (σ : zSt) : zrun zP 101 [zR 15 i0, zI x1, zI x2, zI x3] σ = (
  zcV (zrun zP 126 [zR 15 i0, zI x1, zI x2] σ) (fun s1 =>
  zcI (zrun zP 131 [zI x3] s1) (fun r2 s2 =>
    if r2 = 0 then
      (zcV (zrun zP 123 [zR 15 i0] s2) (fun s3 =>
        zcV (zrun zP 1 [zR 10 0, zR 13 0] s3) (fun s4 =>
          if x1 < 0 ∨ 6 ≤ Int32.toNatClampNeg x1 then
            (none)
            else
            (if x2 < 0 ∨ 40 ≤ Int32.toNatClampNeg x2 then
              (none)
              else
              (if x1 < 0 ∨ 6 ≤ Int32.toNatClampNeg x1 then
                (none)
                else
                (if x2 < 0 ∨ 40 ≤ Int32.toNatClampNeg x2 then
                  (none)
                  else
                  (some (.inl (some (zI (s4.1 22 (6 * 0 + Int32.toNatClampNeg x1) (Int32.toNatClampNeg x2)))), (zms s4.1 22 (6 * 0 + Int32.toNatClampNeg x1) (Int32.toNatClampNeg x2) x3, s4.2)))))))))
      else
      (zcV (zrun zP 1 [zR 10 0, zR 13 0] s2) (fun s5 =>
        if x1 < 0 ∨ 6 ≤ Int32.toNatClampNeg x1 then
          (none)
          else
          (if x2 < 0 ∨ 40 ≤ Int32.toNatClampNeg x2 then
            (none)
            else
            (if x1 < 0 ∨ 6 ≤ Int32.toNatClampNeg x1 then
              (none)
              else
              (if x2 < 0 ∨ 40 ≤ Int32.toNatClampNeg x2 then
                (none)
                else
                (some (.inl (some (zI (s5.1 22 (6 * 0 + Int32.toNatClampNeg x1) (Int32.toNatClampNeg x2)))), (zms s5.1 22 (6 * 0 + Int32.toNatClampNeg x1) (Int32.toNatClampNeg x2) x3, s5.2))))))))))) := (zrun_eq _ _ _).trans ((zun_eq zK_X5_label [] 35 _ _).trans rfl)
set_option maxRecDepth 100000 in
theorem e_X5_adopt_21n (i0 : Nat) (x1 : Int32) (i2 : Nat) (v4 : zAV) (v5 : zAV) (v6 : zAV) (σ : zSt) : zX zP zK_X5_adopt (21, [zR 15 i0, zI x1, zR 12 i2, zNull, v4, v5, v6], []) σ = (
  some (.inl (some (zI (-1))), σ)) := (zun_eq zK_X5_adopt [21, 33] 5 _ _).trans rfl
set_option maxRecDepth 100000 in
theorem e_X5_adopt_21r (i0 : Nat) (x1 : Int32) (i2 : Nat) (i3 : Nat) (v4 : zAV) (v5 : zAV) (v6 : zAV) (σ : zSt) : zX zP zK_X5_adopt (21, [zR 15 i0, zI x1, zR 12 i2, zR 12 i3, v4, v5, v6], []) σ = (
  zX zP zK_X5_adopt (33, [zR 15 i0, zI x1, zR 12 i2, zR 12 i3, zI 0, zI 0, v6], []) σ) := (zun_eq zK_X5_adopt [21, 33] 7 _ _).trans rfl
set_option maxRecDepth 100000 in
theorem e_X5_adopt_33 (i0 : Nat) (x1 : Int32) (i2 : Nat) (i3 : Nat) (x4 : Int32) (x5 : Int32) (v6 : zAV) (σ : zSt) : zX zP zK_X5_adopt (33, [zR 15 i0, zI x1, zR 12 i2, zR 12 i3, zI x4, zI x5, v6], []) σ = (
  if x5 < (σ.1 12 i2 5) then
  (if x5 < 0 ∨ 40 ≤ Int32.toNatClampNeg x5 then
    (none)
    else
    (if (σ.1 22 i2 (Int32.toNatClampNeg x5)) = 0 then
      (if x5 < 0 ∨ 40 ≤ Int32.toNatClampNeg x5 then
        (none)
        else
        (if x5 < 0 ∨ 40 ≤ Int32.toNatClampNeg x5 then
          (none)
          else
          (zcI (zrun zP 43 [zR 12 i3, zI (σ.1 20 i2 (Int32.toNatClampNeg x5)), zI (σ.1 21 i2 (Int32.toNatClampNeg x5))] σ) (fun r1 s1 =>
            if r1 = 0 then
              (zX zP zK_X5_adopt (33, [zR 15 i0, zI x1, zR 12 i2, zR 12 i3, zI x4, zI (x5 + 1), zI r1], []) s1)
              else
              (if x4 = 0 then
                (zcV (zrun zP 1 [zR 10 0, zR 13 0] s1) (fun s2 =>
                  if x5 < 0 ∨ 40 ≤ Int32.toNatClampNeg x5 then
                    (none)
                    else
                    (zX zP zK_X5_adopt (33, [zR 15 i0, zI x1, zR 12 i2, zR 12 i3, zI (x4 + 1), zI (x5 + 1), zI r1], []) (zms s2.1 22 i2 (Int32.toNatClampNeg x5) r1, s2.2))))
                else
                (if x5 < 0 ∨ 40 ≤ Int32.toNatClampNeg x5 then
                  (none)
                  else
                  (zX zP zK_X5_adopt (33, [zR 15 i0, zI x1, zR 12 i2, zR 12 i3, zI (x4 + 1), zI (x5 + 1), zI r1], []) (zms s1.1 22 i2 (Int32.toNatClampNeg x5) r1, s1.2))))))))
      else
      (if (0 : Int32) = 0 then
        (zX zP zK_X5_adopt (33, [zR 15 i0, zI x1, zR 12 i2, zR 12 i3, zI x4, zI (x5 + 1), zI 0], []) σ)
        else
        (if x4 = 0 then
          (zcV (zrun zP 1 [zR 10 0, zR 13 0] σ) (fun s3 =>
            if x5 < 0 ∨ 40 ≤ Int32.toNatClampNeg x5 then
              (none)
              else
              (zX zP zK_X5_adopt (33, [zR 15 i0, zI x1, zR 12 i2, zR 12 i3, zI (x4 + 1), zI (x5 + 1), zI 0], []) (zms s3.1 22 i2 (Int32.toNatClampNeg x5) 0, s3.2))))
          else
          (if x5 < 0 ∨ 40 ≤ Int32.toNatClampNeg x5 then
            (none)
            else
            (zX zP zK_X5_adopt (33, [zR 15 i0, zI x1, zR 12 i2, zR 12 i3, zI (x4 + 1), zI (x5 + 1), zI 0], []) (zms σ.1 22 i2 (Int32.toNatClampNeg x5) 0, σ.2)))))))
  else
  (some (.inl (some (zI x4)), σ))) := (zun_eq zK_X5_adopt [21, 33] 39 _ _).trans rfl
set_option maxRecDepth 100000 in
theorem e_X5_adopt (i0 : Nat) (x1 : Int32) (σ : zSt) : zrun zP 102 [zR 15 i0, zI x1] σ = (
  zcV (zrun zP 125 [zR 15 i0, zI x1] σ) (fun s1 =>
  if x1 < 0 ∨ 6 ≤ Int32.toNatClampNeg x1 then
    (none)
    else
    (zcR (zrun zP 132 [zR 15 i0, zR 12 (6 * 0 + Int32.toNatClampNeg x1)] s1) (fun p2 q2 s2 =>
      zX zP zK_X5_adopt (21, [zR 15 i0, zI x1, zR 12 (6 * 0 + Int32.toNatClampNeg x1), zR p2 q2, zJunk, zJunk, zJunk], []) s2)))) := (zrun_eq _ _ _).trans ((zun_eq zK_X5_adopt [21, 33] 14 _ _).trans rfl)
set_option maxRecDepth 100000 in
theorem e_X5_snap_31n (i0 : Nat) (x1 : Int32) (x2 : Int32) (i3 : Nat) (v5 : zAV) (v6 : zAV) (v7 : zAV) (v8 : zAV) (σ : zSt) : zX zP zK_X5_snap (31, [zR 15 i0, zI x1, zI x2, zR 12 i3, zNull, v5, v6, v7, v8], []) σ = (
  some (.inl (some (zI (-1))), σ)) := (zun_eq zK_X5_snap [31, 61] 5 _ _).trans rfl
set_option maxRecDepth 100000 in
theorem e_X5_snap_31r (i0 : Nat) (x1 : Int32) (x2 : Int32) (i3 : Nat) (i4 : Nat) (v5 : zAV) (v6 : zAV) (v7 : zAV) (v8 : zAV) (σ : zSt) : zX zP zK_X5_snap (31, [zR 15 i0, zI x1, zI x2, zR 12 i3, zR 12 i4, v5, v6, v7, v8], []) σ = (
  zcV (zrun zP 45 [zR 12 i3, zR 14 1] σ) (fun s1 =>
  zcV (zrun zP 45 [zR 12 i4, zR 14 2] s1) (fun s2 =>
    zX zP zK_X5_snap (61, [zR 15 i0, zI x1, zI x2, zR 12 i3, zR 12 i4, zI 0, zI 0, v7, v8], []) s2))) := (zun_eq zK_X5_snap [31, 61] 15 _ _).trans rfl
set_option maxRecDepth 100000 in
theorem e_X5_snap_61 (i0 : Nat) (x1 : Int32) (x2 : Int32) (i3 : Nat) (i4 : Nat) (x5 : Int32) (x6 : Int32) (v7 : zAV) (v8 : zAV) (σ : zSt) : zX zP zK_X5_snap (61, [zR 15 i0, zI x1, zI x2, zR 12 i3, zR 12 i4, zI x5, zI x6, v7, v8], []) σ = (
  if x6 < (σ.1 14 1 1) then
  (if x6 < 0 ∨ 80 ≤ Int32.toNatClampNeg x6 then
    (none)
    else
    (zcI (zrun zP 133 [zR 15 i0, zI (σ.1 12 i3 3), zI (σ.1 23 1 (Int32.toNatClampNeg x6)), zI x2] σ) (fun r1 s1 =>
      if r1 = (-1) then
        (zX zP zK_X5_snap (61, [zR 15 i0, zI x1, zI x2, zR 12 i3, zR 12 i4, zI x5, zI (x6 + 1), zI (σ.1 23 1 (Int32.toNatClampNeg x6)), zI r1], []) s1)
        else
        (if x5 = 0 then
          (zcV (zrun zP 1 [zR 10 0, zR 13 0] s1) (fun s2 =>
            zcI (zrun zP 82 [zR 13 0, zI (s2.1 12 i3 3), zI (σ.1 23 1 (Int32.toNatClampNeg x6)), zI r1] s2) (fun r3 s3 =>
              zX zP zK_X5_snap (61, [zR 15 i0, zI x1, zI x2, zR 12 i3, zR 12 i4, zI (x5 + 1), zI (x6 + 1), zI (σ.1 23 1 (Int32.toNatClampNeg x6)), zI r1], []) s3)))
          else
          (zcI (zrun zP 82 [zR 13 0, zI (s1.1 12 i3 3), zI (σ.1 23 1 (Int32.toNatClampNeg x6)), zI r1] s1) (fun r4 s4 =>
            zX zP zK_X5_snap (61, [zR 15 i0, zI x1, zI x2, zR 12 i3, zR 12 i4, zI (x5 + 1), zI (x6 + 1), zI (σ.1 23 1 (Int32.toNatClampNeg x6)), zI r1], []) s4))))))
  else
  (some (.inl (some (zI x5)), σ))) := (zun_eq zK_X5_snap [31, 61] 40 _ _).trans rfl
set_option maxRecDepth 100000 in
theorem e_X5_snap (i0 : Nat) (x1 : Int32) (x2 : Int32) (σ : zSt) : zrun zP 103 [zR 15 i0, zI x1, zI x2] σ = (
  zcV (zrun zP 125 [zR 15 i0, zI x1] σ) (fun s1 =>
  zcV (zrun zP 128 [zR 15 i0, zI x2, zI 1, zI 999] s1) (fun s2 =>
    if x1 < 0 ∨ 6 ≤ Int32.toNatClampNeg x1 then
      (none)
      else
      (zcR (zrun zP 132 [zR 15 i0, zR 12 (6 * 0 + Int32.toNatClampNeg x1)] s2) (fun p3 q3 s3 =>
        zX zP zK_X5_snap (31, [zR 15 i0, zI x1, zI x2, zR 12 (6 * 0 + Int32.toNatClampNeg x1), zR p3 q3, zJunk, zJunk, zJunk, zJunk], []) s3))))) := (zrun_eq _ _ _).trans ((zun_eq zK_X5_snap [31, 61] 19 _ _).trans rfl)
set_option maxRecDepth 100000 in
theorem e_X5_undo (i0 : Nat) (σ : zSt) : zrun zP 104 [zR 15 i0] σ = (
  zcI (zrun zP 2 [zR 10 0, zR 13 0] σ) (fun r1 s1 =>
  if r1 = 0 then
    (some (.inl (some (zI (-1))), s1))
    else
    (some (.inl (some (zI (s1.1 10 0 2))), s1)))) := (zrun_eq _ _ _).trans ((zun_eq zK_X5_undo [] 12 _ _).trans rfl)
set_option maxRecDepth 100000 in
theorem e_X5_keep (i0 : Nat) (σ : zSt) : zrun zP 105 [zR 15 i0] σ = (
  zcV (zrun zP 50 [zR 13 1, zR 13 0] σ) (fun s1 =>
  zcI (zrun zP 53 [zR 13 1] (zms s1.1 15 i0 2 1, s1.2)) (fun r2 s2 =>
    some (.inl (some (zI r2)), s2)))) := (zrun_eq _ _ _).trans ((zun_eq zK_X5_keep [] 13 _ _).trans rfl)
set_option maxRecDepth 100000 in
theorem e_X5_told (i0 : Nat) (x1 : Int32) (σ : zSt) : zrun zP 106 [zR 15 i0, zI x1] σ = (
  zcV (zrun zP 128 [zR 15 i0, zI x1, zI 0, zI 5] σ) (fun s1 =>
  if x1 = 0 then
    (some (.inl (some (zI (s1.1 13 0 0))), s1))
    else
    (if x1 = (0 + 1) then
    (zcI (zrun zP 53 [zR 13 0] s1) (fun r4 s4 =>
      some (.inl (some (zI r4)), s4)))
    else
    (if x1 = ((0 + 1) + 1) then
    (zcI (zrun zP 54 [zR 13 0] s1) (fun r3 s3 =>
      some (.inl (some (zI r3)), s3)))
    else
    (if x1 = (((0 + 1) + 1) + 1) then
    (some (.inl (some (zI (s1.1 10 0 2))), s1))
    else
    (if x1 = ((((0 + 1) + 1) + 1) + 1) then
    (some (.inl (some (zI (s1.1 11 0 1))), s1))
    else
    (if (s1.1 15 i0 2) = 0 then
      (some (.inl (some (zI (-1))), s1))
      else
      (zcI (zrun zP 53 [zR 13 1] s1) (fun r2 s2 =>
        some (.inl (some (zI r2)), s2)))))))))) := (zrun_eq _ _ _).trans ((zun_eq zK_X5_told [] 16 _ _).trans rfl)
set_option maxRecDepth 100000 in
theorem e_X5_tier (i0 : Nat) (x1 : Int32) (x2 : Int32) (σ : zSt) : zrun zP 107 [zR 15 i0, zI x1, zI x2] σ = (
  zcV (zrun zP 125 [zR 15 i0, zI x1] σ) (fun s1 =>
  zcV (zrun zP 128 [zR 15 i0, zI x2, zI 0, zI 8] s1) (fun s2 =>
    if x1 < 0 ∨ 6 ≤ Int32.toNatClampNeg x1 then
      (none)
      else
      (if x2 = 0 then
        (some (.inl (some (zI (s2.1 12 (6 * 0 + Int32.toNatClampNeg x1) 1))), s2))
        else
        (if x2 = (0 + 1) then
        (some (.inl (some (zI (s2.1 12 (6 * 0 + Int32.toNatClampNeg x1) 2))), s2))
        else
        (if x2 = ((0 + 1) + 1) then
        (some (.inl (some (zI (s2.1 12 (6 * 0 + Int32.toNatClampNeg x1) 5))), s2))
        else
        (if x2 = (((0 + 1) + 1) + 1) then
        (some (.inl (some (zI (s2.1 12 (6 * 0 + Int32.toNatClampNeg x1) 4))), s2))
        else
        (if x2 = ((((0 + 1) + 1) + 1) + 1) then
        (some (.inl (some (zI (s2.1 12 (6 * 0 + Int32.toNatClampNeg x1) 3))), s2))
        else
        (if x2 = (((((0 + 1) + 1) + 1) + 1) + 1) then
        (zcI (zrun zP 29 [zR 12 (6 * 0 + Int32.toNatClampNeg x1)] s2) (fun r5 s5 =>
          some (.inl (some (zI r5)), s5)))
        else
        (if x2 = ((((((0 + 1) + 1) + 1) + 1) + 1) + 1) then
        (zcI (zrun zP 55 [zR 13 0, zI x1] s2) (fun r4 s4 =>
          some (.inl (some (zI r4)), s4)))
        else
        (if x2 = (((((((0 + 1) + 1) + 1) + 1) + 1) + 1) + 1) then
        (zcV (zrun zP 77 [zR 13 0, zI (s2.1 12 (6 * 0 + Int32.toNatClampNeg x1) 3), zR 14 0] s2) (fun s3 =>
          some (.inl (some (zI (s3.1 14 0 1))), s3)))
        else
        (some (.inl (some (zI (s2.1 12 (6 * 0 + Int32.toNatClampNeg x1) 0))), s2))))))))))))) := (zrun_eq _ _ _).trans ((zun_eq zK_X5_tier [] 28 _ _).trans rfl)
set_option maxRecDepth 100000 in
theorem e_X5_mark (i0 : Nat) (x1 : Int32) (x2 : Int32) (x3 : Int32) (σ : zSt) : zrun zP 108 [zR 15 i0, zI x1, zI x2, zI x3] σ = (
  zcV (zrun zP 126 [zR 15 i0, zI x1, zI x2] σ) (fun s1 =>
  zcV (zrun zP 128 [zR 15 i0, zI x3, zI 0, zI 6] s1) (fun s2 =>
    if x1 < 0 ∨ 6 ≤ Int32.toNatClampNeg x1 then
      (none)
      else
      (if x3 = 0 then
        (if x2 < 0 ∨ 40 ≤ Int32.toNatClampNeg x2 then
          (none)
          else
          (some (.inl (some (zI (s2.1 20 (6 * 0 + Int32.toNatClampNeg x1) (Int32.toNatClampNeg x2)))), s2)))
        else
        (if x3 = (0 + 1) then
        (if x2 < 0 ∨ 40 ≤ Int32.toNatClampNeg x2 then
          (none)
          else
          (some (.inl (some (zI (s2.1 21 (6 * 0 + Int32.toNatClampNeg x1) (Int32.toNatClampNeg x2)))), s2)))
        else
        (if x3 = ((0 + 1) + 1) then
        (if x2 < 0 ∨ 40 ≤ Int32.toNatClampNeg x2 then
          (none)
          else
          (some (.inl (some (zI (s2.1 22 (6 * 0 + Int32.toNatClampNeg x1) (Int32.toNatClampNeg x2)))), s2)))
        else
        (if x3 = (((0 + 1) + 1) + 1) then
        (zcI (zrun zP 59 [zR 13 0, zI x1, zI x2] s2) (fun r6 s6 =>
          some (.inl (some (zI r6)), s6)))
        else
        (if x3 = ((((0 + 1) + 1) + 1) + 1) then
        (zcI (zrun zP 61 [zR 13 0, zI x1, zI x2] s2) (fun r5 s5 =>
          some (.inl (some (zI r5)), s5)))
        else
        (if x3 = (((((0 + 1) + 1) + 1) + 1) + 1) then
        (if x2 < 0 ∨ 40 ≤ Int32.toNatClampNeg x2 then
          (none)
          else
          (zcI (zrun zP 78 [zR 13 0, zI (s2.1 12 (6 * 0 + Int32.toNatClampNeg x1) 3), zI (s2.1 20 (6 * 0 + Int32.toNatClampNeg x1) (Int32.toNatClampNeg x2))] s2) (fun r4 s4 =>
            some (.inl (some (zI r4)), s4))))
        else
        (if x2 < 0 ∨ 40 ≤ Int32.toNatClampNeg x2 then
          (none)
          else
          (zcI (zrun zP 78 [zR 13 0, zI (s2.1 12 (6 * 0 + Int32.toNatClampNeg x1) 3), zI (s2.1 21 (6 * 0 + Int32.toNatClampNeg x1) (Int32.toNatClampNeg x2))] s2) (fun r3 s3 =>
            some (.inl (some (zI r3)), s3))))))))))))) := (zrun_eq _ _ _).trans ((zun_eq zK_X5_mark [] 28 _ _).trans rfl)
set_option maxRecDepth 100000 in
theorem e_X5_at (i0 : Nat) (x1 : Int32) (x2 : Int32) (σ : zSt) : zrun zP 109 [zR 15 i0, zI x1, zI x2] σ = (
  zcV (zrun zP 125 [zR 15 i0, zI x1] σ) (fun s1 =>
  zcV (zrun zP 129 [zR 15 i0, zI x2] s1) (fun s2 =>
    if x1 < 0 ∨ 6 ≤ Int32.toNatClampNeg x1 then
      (none)
      else
      (zcI (zrun zP 40 [zR 12 (6 * 0 + Int32.toNatClampNeg x1), zI x2] s2) (fun r3 s3 =>
        some (.inl (some (zI r3)), s3)))))) := (zrun_eq _ _ _).trans ((zun_eq zK_X5_at [] 15 _ _).trans rfl)
set_option maxRecDepth 100000 in
theorem e_X5_over_42 (i0 : Nat) (x1 : Int32) (x2 : Int32) (x3 : Int32) (x4 : Int32) (i5 : Nat) (x6 : Int32) (x7 : Int32) (x8 : Int32) (x9 : Int32) (σ : zSt) : zX zP zK_X5_over (42, [zR 15 i0, zI x1, zI x2, zI x3, zI x4, zR 12 i5, zI x6, zI x7, zI x8, zI x9], []) σ = (
  if x9 < (σ.1 12 i5 5) then
  (zcI (zrun zP 36 [zR 12 i5, zI x9, zI x2, zI x3] σ) (fun r1 s1 =>
    if r1 = 0 then
      (zX zP zK_X5_over (42, [zR 15 i0, zI x1, zI x2, zI x3, zI x4, zR 12 i5, zI x6, zI x7, zI x8, zI (x9 + 1)], []) s1)
      else
      (if x6 = 0 then
        (zcI (zrun zP 38 [zR 12 i5, zI x9, zI x2, zI x3] s1) (fun r2 s2 =>
          zX zP zK_X5_over (42, [zR 15 i0, zI x1, zI x2, zI x3, zI x4, zR 12 i5, zI (x6 + 1), zI x9, zI (x8 + r2), zI (x9 + 1)], []) s2))
        else
        (zcI (zrun zP 38 [zR 12 i5, zI x9, zI x2, zI x3] s1) (fun r3 s3 =>
          zX zP zK_X5_over (42, [zR 15 i0, zI x1, zI x2, zI x3, zI x4, zR 12 i5, zI (x6 + 1), zI x7, zI (x8 + r3), zI (x9 + 1)], []) s3)))))
  else
  (if x4 = 0 then
    (some (.inl (some (zI x6)), σ))
    else
    (if x4 = 1 then
      (some (.inl (some (zI x7)), σ))
      else
      (some (.inl (some (zI x8)), σ))))) := (zun_eq zK_X5_over [42] 27 _ _).trans rfl
set_option maxRecDepth 100000 in
theorem e_X5_over (i0 : Nat) (x1 : Int32) (x2 : Int32) (x3 : Int32) (x4 : Int32) (σ : zSt) : zrun zP 110 [zR 15 i0, zI x1, zI x2, zI x3, zI x4] σ = (
  zcV (zrun zP 125 [zR 15 i0, zI x1] σ) (fun s1 =>
  zcV (zrun zP 130 [zR 15 i0, zI x2, zI x3] s1) (fun s2 =>
    zcV (zrun zP 128 [zR 15 i0, zI x4, zI 0, zI 2] s2) (fun s3 =>
      if x1 < 0 ∨ 6 ≤ Int32.toNatClampNeg x1 then
        (none)
        else
        (zX zP zK_X5_over (42, [zR 15 i0, zI x1, zI x2, zI x3, zI x4, zR 12 (6 * 0 + Int32.toNatClampNeg x1), zI 0, zI (-1), zI 0, zI 0], []) s3))))) := (zrun_eq _ _ _).trans ((zun_eq zK_X5_over [42] 27 _ _).trans rfl)
set_option maxRecDepth 100000 in
theorem e_X5_within_74 (i0 : Nat) (x1 : Int32) (x2 : Int32) (x3 : Int32) (x4 : Int32) (x5 : Int32) (x6 : Int32) (i7 : Nat) (x8 : Int32) (x9 : Int32) (x10 : Int32) (x11 : Int32) (σ : zSt) : zX zP zK_X5_within (74, [zR 15 i0, zI x1, zI x2, zI x3, zI x4, zI x5, zI x6, zR 12 i7, zI x8, zI x9, zI x10, zI x11], []) σ = (
  if x11 < (σ.1 12 i7 5) then
  (zcI (zrun zP 35 [zR 12 i7, zI x11, zI x5, zI x6] σ) (fun r1 s1 =>
    if r1 = 0 then
      (zX zP zK_X5_within (74, [zR 15 i0, zI x1, zI x2, zI x3, zI x4, zI x5, zI x6, zR 12 i7, zI x8, zI x9, zI x10, zI (x11 + 1)], []) s1)
      else
      (if x8 = 0 then
        (zcI (zrun zP 28 [zR 12 i7, zI x11] s1) (fun r2 s2 =>
          zX zP zK_X5_within (74, [zR 15 i0, zI x1, zI x2, zI x3, zI x4, zI x5, zI x6, zR 12 i7, zI (x8 + 1), zI x11, zI (x10 + r2), zI (x11 + 1)], []) s2))
        else
        (zcI (zrun zP 28 [zR 12 i7, zI x11] s1) (fun r3 s3 =>
          zX zP zK_X5_within (74, [zR 15 i0, zI x1, zI x2, zI x3, zI x4, zI x5, zI x6, zR 12 i7, zI (x8 + 1), zI x9, zI (x10 + r3), zI (x11 + 1)], []) s3)))))
  else
  (if x4 = 0 then
    (some (.inl (some (zI x8)), σ))
    else
    (if x4 = 1 then
      (some (.inl (some (zI x9)), σ))
      else
      (some (.inl (some (zI x10)), σ))))) := (zun_eq zK_X5_within [74] 25 _ _).trans rfl
set_option maxRecDepth 100000 in
theorem e_X5_within (i0 : Nat) (x1 : Int32) (x2 : Int32) (x3 : Int32) (x4 : Int32) (σ : zSt) : zrun zP 111 [zR 15 i0, zI x1, zI x2, zI x3, zI x4] σ = (
  zcV (zrun zP 126 [zR 15 i0, zI x1, zI x2] σ) (fun s1 =>
  zcV (zrun zP 125 [zR 15 i0, zI x3] s1) (fun s2 =>
    zcV (zrun zP 128 [zR 15 i0, zI x4, zI 0, zI 2] s2) (fun s3 =>
      if x1 < 0 ∨ 6 ≤ Int32.toNatClampNeg x1 then
        (none)
        else
        (if x2 < 0 ∨ 40 ≤ Int32.toNatClampNeg x2 then
          (none)
          else
          (if x1 < 0 ∨ 6 ≤ Int32.toNatClampNeg x1 then
            (none)
            else
            (if x2 < 0 ∨ 40 ≤ Int32.toNatClampNeg x2 then
              (none)
              else
              (if x3 < 0 ∨ 6 ≤ Int32.toNatClampNeg x3 then
                (none)
                else
                (zX zP zK_X5_within (74, [zR 15 i0, zI x1, zI x2, zI x3, zI x4, zI (s3.1 20 (6 * 0 + Int32.toNatClampNeg x1) (Int32.toNatClampNeg x2)), zI (s3.1 21 (6 * 0 + Int32.toNatClampNeg x1) (Int32.toNatClampNeg x2)), zR 12 (6 * 0 + Int32.toNatClampNeg x3), zI 0, zI (-1), zI 0, zI 0], []) s3))))))))) := (zrun_eq _ _ _).trans ((zun_eq zK_X5_within [74] 45 _ _).trans rfl)
set_option maxRecDepth 100000 in
theorem e_X5_find_22 (i0 : Nat) (x1 : Int32) (x2 : Int32) (x3 : Int32) (i4 : Nat) (x5 : Int32) (x6 : Int32) (σ : zSt) : zX zP zK_X5_find (22, [zR 15 i0, zI x1, zI x2, zI x3, zR 12 i4, zI x5, zI x6], []) σ = (
  if x6 < (σ.1 12 i4 5) then
  (if x6 < 0 ∨ 40 ≤ Int32.toNatClampNeg x6 then
    (none)
    else
    (if (σ.1 22 i4 (Int32.toNatClampNeg x6)) = x2 then
      (if x5 = x3 then
        (some (.inl (some (zI x6)), σ))
        else
        (zX zP zK_X5_find (22, [zR 15 i0, zI x1, zI x2, zI x3, zR 12 i4, zI (x5 + 1), zI (x6 + 1)], []) σ))
      else
      (zX zP zK_X5_find (22, [zR 15 i0, zI x1, zI x2, zI x3, zR 12 i4, zI x5, zI (x6 + 1)], []) σ)))
  else
  (some (.inl (some (zI (-1))), σ))) := (zun_eq zK_X5_find [22] 17 _ _).trans rfl
set_option maxRecDepth 100000 in
theorem e_X5_find (i0 : Nat) (x1 : Int32) (x2 : Int32) (x3 : Int32) (σ : zSt) : zrun zP 112 [zR 15 i0, zI x1, zI x2, zI x3] σ = (
  zcV (zrun zP 125 [zR 15 i0, zI x1] σ) (fun s1 =>
  if x1 < 0 ∨ 6 ≤ Int32.toNatClampNeg x1 then
    (none)
    else
    (zX zP zK_X5_find (22, [zR 15 i0, zI x1, zI x2, zI x3, zR 12 (6 * 0 + Int32.toNatClampNeg x1), zI 0, zI 0], []) s1))) := (zrun_eq _ _ _).trans ((zun_eq zK_X5_find [22] 14 _ _).trans rfl)
set_option maxRecDepth 100000 in
theorem e_X5_together_38 (i0 : Nat) (x1 : Int32) (x2 : Int32) (x3 : Int32) (x4 : Int32) (i5 : Nat) (i6 : Nat) (x7 : Int32) (x8 : Int32) (v9 : zAV) (σ : zSt) : zX zP zK_X5_together (38, [zR 15 i0, zI x1, zI x2, zI x3, zI x4, zR 12 i5, zR 12 i6, zI x7, zI x8, v9], []) σ = (
  if x8 < (σ.1 12 i5 5) then
  (zX zP zK_X5_together (51, [zR 15 i0, zI x1, zI x2, zI x3, zI x4, zR 12 i5, zR 12 i6, zI x7, zI x8, zI 0], []) σ)
  else
  (some (.inl (some (zI x7)), σ))) := (zun_eq zK_X5_together [38, 51] 7 _ _).trans rfl
set_option maxRecDepth 100000 in
theorem e_X5_together_51 (i0 : Nat) (x1 : Int32) (x2 : Int32) (x3 : Int32) (x4 : Int32) (i5 : Nat) (i6 : Nat) (x7 : Int32) (x8 : Int32) (x9 : Int32) (σ : zSt) : zX zP zK_X5_together (51, [zR 15 i0, zI x1, zI x2, zI x3, zI x4, zR 12 i5, zR 12 i6, zI x7, zI x8, zI x9], []) σ = (
  if x9 < (σ.1 12 i6 5) then
  (if x8 < 0 ∨ 40 ≤ Int32.toNatClampNeg x8 then
    (none)
    else
    (if (σ.1 22 i5 (Int32.toNatClampNeg x8)) = x2 then
      (if x9 < 0 ∨ 40 ≤ Int32.toNatClampNeg x9 then
        (none)
        else
        (if (σ.1 22 i6 (Int32.toNatClampNeg x9)) = x4 then
          (if x9 < 0 ∨ 40 ≤ Int32.toNatClampNeg x9 then
            (none)
            else
            (if x9 < 0 ∨ 40 ≤ Int32.toNatClampNeg x9 then
              (none)
              else
              (zcI (zrun zP 38 [zR 12 i5, zI x8, zI (σ.1 20 i6 (Int32.toNatClampNeg x9)), zI (σ.1 21 i6 (Int32.toNatClampNeg x9))] σ) (fun r1 s1 =>
                zX zP zK_X5_together (51, [zR 15 i0, zI x1, zI x2, zI x3, zI x4, zR 12 i5, zR 12 i6, zI (x7 + r1), zI x8, zI (x9 + 1)], []) s1))))
          else
          (zX zP zK_X5_together (51, [zR 15 i0, zI x1, zI x2, zI x3, zI x4, zR 12 i5, zR 12 i6, zI x7, zI x8, zI (x9 + 1)], []) σ)))
      else
      (zX zP zK_X5_together (51, [zR 15 i0, zI x1, zI x2, zI x3, zI x4, zR 12 i5, zR 12 i6, zI x7, zI x8, zI (x9 + 1)], []) σ)))
  else
  (zX zP zK_X5_together (38, [zR 15 i0, zI x1, zI x2, zI x3, zI x4, zR 12 i5, zR 12 i6, zI x7, zI (x8 + 1), zI x9], []) σ)) := (zun_eq zK_X5_together [38, 51] 33 _ _).trans rfl
set_option maxRecDepth 100000 in
theorem e_X5_together (i0 : Nat) (x1 : Int32) (x2 : Int32) (x3 : Int32) (x4 : Int32) (σ : zSt) : zrun zP 113 [zR 15 i0, zI x1, zI x2, zI x3, zI x4] σ = (
  zcV (zrun zP 125 [zR 15 i0, zI x1] σ) (fun s1 =>
  zcV (zrun zP 125 [zR 15 i0, zI x3] s1) (fun s2 =>
    if x1 < 0 ∨ 6 ≤ Int32.toNatClampNeg x1 then
      (none)
      else
      (if x3 < 0 ∨ 6 ≤ Int32.toNatClampNeg x3 then
        (none)
        else
        (zX zP zK_X5_together (38, [zR 15 i0, zI x1, zI x2, zI x3, zI x4, zR 12 (6 * 0 + Int32.toNatClampNeg x1), zR 12 (6 * 0 + Int32.toNatClampNeg x3), zI 0, zI 0, zJunk], []) s2))))) := (zrun_eq _ _ _).trans ((zun_eq zK_X5_together [38, 51] 23 _ _).trans rfl)
set_option maxRecDepth 100000 in
theorem e_X5_longest_38 (i0 : Nat) (x1 : Int32) (x2 : Int32) (x3 : Int32) (i4 : Nat) (x5 : Int32) (x6 : Int32) (x7 : Int32) (x8 : Int32) (x9 : Int32) (σ : zSt) : zX zP zK_X5_longest (38, [zR 15 i0, zI x1, zI x2, zI x3, zR 12 i4, zI x5, zI x6, zI x7, zI x8, zI x9], []) σ = (
  if x9 < (σ.1 12 i4 5) then
  (if x9 < 0 ∨ 40 ≤ Int32.toNatClampNeg x9 then
    (none)
    else
    (if (σ.1 22 i4 (Int32.toNatClampNeg x9)) = x2 then
      (if x5 = (-1) then
        (zcI (zrun zP 28 [zR 12 i4, zI x9] σ) (fun r1 s1 =>
          zcI (zrun zP 28 [zR 12 i4, zI x9] s1) (fun r2 s2 =>
            zX zP zK_X5_longest (38, [zR 15 i0, zI x1, zI x2, zI x3, zR 12 i4, zI x9, zI r1, zI (x7 + 1), zI (x8 + r2), zI (x9 + 1)], []) s2)))
        else
        (zcI (zrun zP 28 [zR 12 i4, zI x9] σ) (fun r3 s3 =>
          if x6 < r3 then
            (zcI (zrun zP 28 [zR 12 i4, zI x9] s3) (fun r4 s4 =>
              zcI (zrun zP 28 [zR 12 i4, zI x9] s4) (fun r5 s5 =>
                zX zP zK_X5_longest (38, [zR 15 i0, zI x1, zI x2, zI x3, zR 12 i4, zI x9, zI r4, zI (x7 + 1), zI (x8 + r5), zI (x9 + 1)], []) s5)))
            else
            (zcI (zrun zP 28 [zR 12 i4, zI x9] s3) (fun r6 s6 =>
              zX zP zK_X5_longest (38, [zR 15 i0, zI x1, zI x2, zI x3, zR 12 i4, zI x5, zI x6, zI (x7 + 1), zI (x8 + r6), zI (x9 + 1)], []) s6)))))
      else
      (zX zP zK_X5_longest (38, [zR 15 i0, zI x1, zI x2, zI x3, zR 12 i4, zI x5, zI x6, zI x7, zI x8, zI (x9 + 1)], []) σ)))
  else
  (if x3 = 0 then
    (some (.inl (some (zI x5)), σ))
    else
    (if x3 = 1 then
      (some (.inl (some (zI x6)), σ))
      else
      (if x3 = 2 then
        (some (.inl (some (zI x7)), σ))
        else
        (some (.inl (some (zI x8)), σ)))))) := (zun_eq zK_X5_longest [38] 34 _ _).trans rfl
set_option maxRecDepth 100000 in
theorem e_X5_longest (i0 : Nat) (x1 : Int32) (x2 : Int32) (x3 : Int32) (σ : zSt) : zrun zP 114 [zR 15 i0, zI x1, zI x2, zI x3] σ = (
  zcV (zrun zP 125 [zR 15 i0, zI x1] σ) (fun s1 =>
  zcV (zrun zP 128 [zR 15 i0, zI x3, zI 0, zI 3] s1) (fun s2 =>
    if x1 < 0 ∨ 6 ≤ Int32.toNatClampNeg x1 then
      (none)
      else
      (zX zP zK_X5_longest (38, [zR 15 i0, zI x1, zI x2, zI x3, zR 12 (6 * 0 + Int32.toNatClampNeg x1), zI (-1), zI 0, zI 0, zI 0, zI 0], []) s2)))) := (zrun_eq _ _ _).trans ((zun_eq zK_X5_longest [38] 25 _ _).trans rfl)
set_option maxRecDepth 100000 in
theorem e_X5_gaps_26 (i0 : Nat) (x1 : Int32) (x2 : Int32) (x3 : Int32) (x4 : Int32) (x5 : Int32) (x6 : Int32) (x7 : Int32) (v8 : zAV) (σ : zSt) : zX zP zK_X5_gaps (26, [zR 15 i0, zI x1, zI x2, zI x3, zI x4, zI x5, zI x6, zI x7, v8], []) σ = (
  if x1 < 0 ∨ 6 ≤ Int32.toNatClampNeg x1 then
  (none)
  else
  (if x7 < (σ.1 12 (6 * 0 + Int32.toNatClampNeg x1) 5) then
    (zcI (zrun zP 76 [zR 13 0, zI x1, zI x7] σ) (fun r1 s1 =>
      if (0 : Int32) < r1 then
        (if x5 < r1 then
          (zX zP zK_X5_gaps (26, [zR 15 i0, zI x1, zI x2, zI (x3 + 1), zI x7, zI r1, zI (x6 + r1), zI (x7 + 1), zI r1], []) s1)
          else
          (zX zP zK_X5_gaps (26, [zR 15 i0, zI x1, zI x2, zI (x3 + 1), zI x4, zI x5, zI (x6 + r1), zI (x7 + 1), zI r1], []) s1))
        else
        (if x5 < r1 then
          (zX zP zK_X5_gaps (26, [zR 15 i0, zI x1, zI x2, zI x3, zI x7, zI r1, zI x6, zI (x7 + 1), zI r1], []) s1)
          else
          (zX zP zK_X5_gaps (26, [zR 15 i0, zI x1, zI x2, zI x3, zI x4, zI x5, zI x6, zI (x7 + 1), zI r1], []) s1))))
    else
    (if x2 = 0 then
      (some (.inl (some (zI x3)), σ))
      else
      (if x2 = 1 then
        (some (.inl (some (zI x4)), σ))
        else
        (if x2 = 2 then
          (some (.inl (some (zI x5)), σ))
          else
          (some (.inl (some (zI x6)), σ))))))) := (zun_eq zK_X5_gaps [26] 31 _ _).trans rfl
set_option maxRecDepth 100000 in
theorem e_X5_gaps (i0 : Nat) (x1 : Int32) (x2 : Int32) (σ : zSt) : zrun zP 115 [zR 15 i0, zI x1, zI x2] σ = (
  zcV (zrun zP 125 [zR 15 i0, zI x1] σ) (fun s1 =>
  zcV (zrun zP 128 [zR 15 i0, zI x2, zI 0, zI 3] s1) (fun s2 =>
    zX zP zK_X5_gaps (26, [zR 15 i0, zI x1, zI x2, zI 0, zI (-1), zI 0, zI 0, zI 0, zJunk], []) s2))) := (zrun_eq _ _ _).trans ((zun_eq zK_X5_gaps [26] 19 _ _).trans rfl)
set_option maxRecDepth 100000 in
theorem e_X5_stop (i0 : Nat) (x1 : Int32) (x2 : Int32) (σ : zSt) : zrun zP 116 [zR 15 i0, zI x1, zI x2] σ = (
  zcV (zrun zP 125 [zR 15 i0, zI x1] σ) (fun s1 =>
  if x1 < 0 ∨ 6 ≤ Int32.toNatClampNeg x1 then
    (none)
    else
    (zcV (zrun zP 77 [zR 13 0, zI (s1.1 12 (6 * 0 + Int32.toNatClampNeg x1) 3), zR 14 0] s1) (fun s2 =>
      if x2 < 0 then
        (some (.inl (some (zI (-1))), s2))
        else
        (if x2 < (s2.1 14 0 1) then
          (if x2 < 0 ∨ 480 ≤ Int32.toNatClampNeg x2 then
            (none)
            else
            (some (.inl (some (zI (s2.1 23 0 (Int32.toNatClampNeg x2)))), s2)))
          else
          (some (.inl (some (zI (-1))), s2))))))) := (zrun_eq _ _ _).trans ((zun_eq zK_X5_stop [] 29 _ _).trans rfl)
set_option maxRecDepth 100000 in
theorem e_X5_room (i0 : Nat) (x1 : Int32) (x2 : Int32) (x3 : Int32) (σ : zSt) : zrun zP 117 [zR 15 i0, zI x1, zI x2, zI x3] σ = (
  zcV (zrun zP 127 [zR 15 i0, zI x1, zI x2] σ) (fun s1 =>
  zcV (zrun zP 128 [zR 15 i0, zI x3, zI 0, zI 1] s1) (fun s2 =>
    if x1 < 0 ∨ 6 ≤ Int32.toNatClampNeg x1 then
      (none)
      else
      (if x3 = 0 then
        (zcI (zrun zP 79 [zR 13 0, zI (s2.1 12 (6 * 0 + Int32.toNatClampNeg x1) 3), zI x2] s2) (fun r3 s3 =>
          some (.inl (some (zI r3)), s3)))
        else
        (zcI (zrun zP 80 [zR 13 0, zI (s2.1 12 (6 * 0 + Int32.toNatClampNeg x1) 3), zI x2] s2) (fun r4 s4 =>
          some (.inl (some (zI r4)), s4))))))) := (zrun_eq _ _ _).trans ((zun_eq zK_X5_room [] 26 _ _).trans rfl)
set_option maxRecDepth 100000 in
theorem e_X5_agree_29n (i0 : Nat) (x1 : Int32) (x2 : Int32) (i3 : Nat) (v5 : zAV) (v6 : zAV) (σ : zSt) : zX zP zK_X5_agree (29, [zR 15 i0, zI x1, zI x2, zR 12 i3, zNull, v5, v6], []) σ = (
  some (.inl (some (zI (-1))), σ)) := (zun_eq zK_X5_agree [29] 5 _ _).trans rfl
set_option maxRecDepth 100000 in
theorem e_X5_agree_29r (i0 : Nat) (x1 : Int32) (x2 : Int32) (i3 : Nat) (i4 : Nat) (v5 : zAV) (v6 : zAV) (σ : zSt) : zX zP zK_X5_agree (29, [zR 15 i0, zI x1, zI x2, zR 12 i3, zR 12 i4, v5, v6], []) σ = (
  zcI (zrun zP 39 [zR 12 i3, zR 12 i4, zI 1] σ) (fun r1 s1 =>
  zcI (zrun zP 39 [zR 12 i3, zR 12 i4, zI 0] s1) (fun r2 s2 =>
    if x2 = 0 then
      (some (.inl (some (zI r1)), s2))
      else
      (if x2 = (0 + 1) then
      (some (.inl (some (zI r2)), s2))
      else
      (if x2 = ((0 + 1) + 1) then
      (zcI (zrun zP 29 [zR 12 i3] s2) (fun r4 s4 =>
        some (.inl (some (zI ((r4 - r1) - r2))), s4)))
      else
      (zcI (zrun zP 29 [zR 12 i4] s2) (fun r3 s3 =>
        some (.inl (some (zI ((r3 - r1) - r2))), s3)))))))) := (zun_eq zK_X5_agree [29] 22 _ _).trans rfl
set_option maxRecDepth 100000 in
theorem e_X5_agree (i0 : Nat) (x1 : Int32) (x2 : Int32) (σ : zSt) : zrun zP 118 [zR 15 i0, zI x1, zI x2] σ = (
  zcV (zrun zP 125 [zR 15 i0, zI x1] σ) (fun s1 =>
  zcV (zrun zP 128 [zR 15 i0, zI x2, zI 0, zI 3] s1) (fun s2 =>
    if x1 < 0 ∨ 6 ≤ Int32.toNatClampNeg x1 then
      (none)
      else
      (zcR (zrun zP 132 [zR 15 i0, zR 12 (6 * 0 + Int32.toNatClampNeg x1)] s2) (fun p3 q3 s3 =>
        zX zP zK_X5_agree (29, [zR 15 i0, zI x1, zI x2, zR 12 (6 * 0 + Int32.toNatClampNeg x1), zR p3 q3, zJunk, zJunk], []) s3))))) := (zrun_eq _ _ _).trans ((zun_eq zK_X5_agree [29] 19 _ _).trans rfl)
set_option maxRecDepth 100000 in
theorem e_X5_same_40n (i0 : Nat) (x1 : Int32) (x2 : Int32) (x3 : Int32) (i4 : Nat) (v6 : zAV) (v7 : zAV) (σ : zSt) : zX zP zK_X5_same (40, [zR 15 i0, zI x1, zI x2, zI x3, zR 12 i4, zNull, v6, v7], []) σ = (
  some (.inl (some (zI (-1))), σ)) := (zun_eq zK_X5_same [40] 5 _ _).trans rfl
set_option maxRecDepth 100000 in
theorem e_X5_same_40r (i0 : Nat) (x1 : Int32) (x2 : Int32) (x3 : Int32) (i4 : Nat) (i5 : Nat) (v6 : zAV) (v7 : zAV) (σ : zSt) : zX zP zK_X5_same (40, [zR 15 i0, zI x1, zI x2, zI x3, zR 12 i4, zR 12 i5, v6, v7], []) σ = (
  zcV (zrun zP 45 [zR 12 i4, zR 14 1] σ) (fun s1 =>
  zcV (zrun zP 45 [zR 12 i5, zR 14 2] s1) (fun s2 =>
    zcI (zrun zP 134 [zR 15 i0, zI x2] s2) (fun r3 s3 =>
      if (100000 : Int32) = 0 then
        (none)
        else
        (if x3 = 0 then
          (some (.inl (some (zI (((r3 + 100000) - 1) / 100000))), s3))
          else
          (some (.inl (some (zI (((((r3 + 100000) - 1) / 100000) * 100000) - r3))), s3))))))) := (zun_eq zK_X5_same [40] 31 _ _).trans rfl
set_option maxRecDepth 100000 in
theorem e_X5_same (i0 : Nat) (x1 : Int32) (x2 : Int32) (x3 : Int32) (σ : zSt) : zrun zP 119 [zR 15 i0, zI x1, zI x2, zI x3] σ = (
  zcV (zrun zP 125 [zR 15 i0, zI x1] σ) (fun s1 =>
  zcV (zrun zP 128 [zR 15 i0, zI x2, zI 0, zI 999] s1) (fun s2 =>
    zcV (zrun zP 128 [zR 15 i0, zI x3, zI 0, zI 1] s2) (fun s3 =>
      if x1 < 0 ∨ 6 ≤ Int32.toNatClampNeg x1 then
        (none)
        else
        (zcR (zrun zP 132 [zR 15 i0, zR 12 (6 * 0 + Int32.toNatClampNeg x1)] s3) (fun p4 q4 s4 =>
          zX zP zK_X5_same (40, [zR 15 i0, zI x1, zI x2, zI x3, zR 12 (6 * 0 + Int32.toNatClampNeg x1), zR p4 q4, zJunk, zJunk], []) s4)))))) := (zrun_eq _ _ _).trans ((zun_eq zK_X5_same [40] 24 _ _).trans rfl)
set_option maxRecDepth 100000 in
theorem e_X5_print_4 (i0 : Nat) (y1 : Int64) (v2 : zAV) (x3 : Int32) (v4 : zAV) (v5 : zAV) (σ : zSt) : zX zP zK_X5_print (4, [zR 15 i0, zL y1, v2, zI x3, v4, v5], []) σ = (
  if x3 < (σ.1 13 0 0) then
  (if x3 < 0 ∨ 6 ≤ Int32.toNatClampNeg x3 then
    (none)
    else
    (zX zP zK_X5_print (29, [zR 15 i0, zL y1, v2, zI x3, zR 12 (6 * 0 + Int32.toNatClampNeg x3), zI 0], []) σ))
  else
  (some (.inl (some (zL y1)), σ))) := (zun_eq zK_X5_print [4, 29] 14 _ _).trans rfl
set_option maxRecDepth 100000 in
theorem e_X5_print_29 (i0 : Nat) (y1 : Int64) (v2 : zAV) (x3 : Int32) (i4 : Nat) (x5 : Int32) (σ : zSt) : zX zP zK_X5_print (29, [zR 15 i0, zL y1, v2, zI x3, zR 12 i4, zI x5], []) σ = (
  if x5 < (σ.1 12 i4 5) then
  (if x5 < 0 ∨ 40 ≤ Int32.toNatClampNeg x5 then
    (none)
    else
    (if x5 < 0 ∨ 40 ≤ Int32.toNatClampNeg x5 then
      (none)
      else
      (if x5 < 0 ∨ 40 ≤ Int32.toNatClampNeg x5 then
        (none)
        else
        (zX zP zK_X5_print (29, [zR 15 i0, zL (((lN 31) * (((lN 31) * (((lN 31) * y1) + (Int32.toInt64 (σ.1 20 i4 (Int32.toNatClampNeg x5))))) + (Int32.toInt64 (σ.1 21 i4 (Int32.toNatClampNeg x5))))) + (Int32.toInt64 (σ.1 22 i4 (Int32.toNatClampNeg x5)))), zJunk, zI x3, zR 12 i4, zI (x5 + 1)], []) σ))))
  else
  (zX zP zK_X5_print (4, [zR 15 i0, zL ((lN 31) * y1), zJunk, zI (x3 + 1), zR 12 i4, zI x5], []) σ)) := (zun_eq zK_X5_print [4, 29] 37 _ _).trans rfl
set_option maxRecDepth 100000 in
theorem e_X5_print (i0 : Nat) (σ : zSt) : zrun zP 120 [zR 15 i0] σ = (
  zX zP zK_X5_print (4, [zR 15 i0, zL (lN 0), zJunk, zI 0, zJunk, zJunk], []) σ) := (zrun_eq _ _ _).trans ((zun_eq zK_X5_print [4, 29] 5 _ _).trans rfl)
set_option maxRecDepth 100000 in
theorem e_X5_status (i0 : Nat) (x1 : Int32) (σ : zSt) : zrun zP 121 [zR 15 i0, zI x1] σ = (
  if x1 = 0 then
  (some (.inl (some (zI (σ.1 15 i0 9))), σ))
  else
  (if x1 = (0 + 1) then
  (some (.inl (some (zI (σ.1 15 i0 10))), σ))
  else
  (if x1 = ((0 + 1) + 1) then
  (some (.inl (some (zI (σ.1 15 i0 11))), σ))
  else
  (some (.inl (some (zI (-1))), σ))))) := (zrun_eq _ _ _).trans ((zun_eq zK_X5_status [] 6 _ _).trans rfl)
set_option maxRecDepth 100000 in
theorem e_X5_refuseMissing (i0 : Nat) (σ : zSt) : zrun zP 122 [zR 15 i0] σ = (
  some (.inr 0, ((zms σ.1 15 i0 9 ((σ.1 15 i0 9) + 1)), σ.2.1, σ.2.2 + 1))) := (zrun_eq _ _ _).trans ((zun_eq zK_X5_refuseMissing [] 8 _ _).trans rfl)
set_option maxRecDepth 100000 in
theorem e_X5_refuseArgument (i0 : Nat) (σ : zSt) : zrun zP 123 [zR 15 i0] σ = (
  some (.inr 1, ((zms σ.1 15 i0 10 ((σ.1 15 i0 10) + 1)), σ.2.1, σ.2.2 + 1))) := (zrun_eq _ _ _).trans ((zun_eq zK_X5_refuseArgument [] 8 _ _).trans rfl)
set_option maxRecDepth 100000 in
theorem e_X5_needState (i0 : Nat) (x1 : Int32) (σ : zSt) : zrun zP 124 [zR 15 i0, zI x1] σ = (
  if x1 = 0 then
  (some (.inr 2, ((zms σ.1 15 i0 11 ((σ.1 15 i0 11) + 1)), σ.2.1, σ.2.2 + 1)))
  else
  (some (.inl none, σ))) := (zrun_eq _ _ _).trans ((zun_eq zK_X5_needState [] 10 _ _).trans rfl)
set_option maxRecDepth 100000 in
theorem e_X5_needTier (i0 : Nat) (x1 : Int32) (σ : zSt) : zrun zP 125 [zR 15 i0, zI x1] σ = (
  zcI (zrun zP 51 [zR 13 0, zI x1] σ) (fun r1 s1 =>
  if r1 = 0 then
    (zcV (zrun zP 122 [zR 15 i0] s1) (fun s2 =>
      some (.inl none, s2)))
    else
    (some (.inl none, s1)))) := (zrun_eq _ _ _).trans ((zun_eq zK_X5_needTier [] 9 _ _).trans rfl)
set_option maxRecDepth 100000 in
theorem e_X5_needMark (i0 : Nat) (x1 : Int32) (x2 : Int32) (σ : zSt) : zrun zP 126 [zR 15 i0, zI x1, zI x2] σ = (
  zcV (zrun zP 125 [zR 15 i0, zI x1] σ) (fun s1 =>
  if x1 < 0 ∨ 6 ≤ Int32.toNatClampNeg x1 then
    (none)
    else
    (zcI (zrun zP 27 [zR 12 (6 * 0 + Int32.toNatClampNeg x1), zI x2] s1) (fun r2 s2 =>
      if r2 = 0 then
        (zcV (zrun zP 122 [zR 15 i0] s2) (fun s3 =>
          some (.inl none, s3)))
        else
        (some (.inl none, s2)))))) := (zrun_eq _ _ _).trans ((zun_eq zK_X5_needMark [] 15 _ _).trans rfl)
set_option maxRecDepth 100000 in
theorem e_X5_needStop (i0 : Nat) (x1 : Int32) (x2 : Int32) (σ : zSt) : zrun zP 127 [zR 15 i0, zI x1, zI x2] σ = (
  zcV (zrun zP 125 [zR 15 i0, zI x1] σ) (fun s1 =>
  if x1 < 0 ∨ 6 ≤ Int32.toNatClampNeg x1 then
    (none)
    else
    (zcI (zrun zP 78 [zR 13 0, zI (s1.1 12 (6 * 0 + Int32.toNatClampNeg x1) 3), zI x2] s1) (fun r2 s2 =>
      if r2 = 0 then
        (zcV (zrun zP 122 [zR 15 i0] s2) (fun s3 =>
          some (.inl none, s3)))
        else
        (some (.inl none, s2)))))) := (zrun_eq _ _ _).trans ((zun_eq zK_X5_needStop [] 18 _ _).trans rfl)
set_option maxRecDepth 100000 in
theorem e_X5_needRange (i0 : Nat) (x1 : Int32) (x2 : Int32) (x3 : Int32) (σ : zSt) : zrun zP 128 [zR 15 i0, zI x1, zI x2, zI x3] σ = (
  if x1 < x2 then
  (zcV (zrun zP 123 [zR 15 i0] σ) (fun s1 =>
    some (.inl none, s1)))
  else
  (if x3 < x1 then
    (zcV (zrun zP 123 [zR 15 i0] σ) (fun s2 =>
      some (.inl none, s2)))
    else
    (some (.inl none, σ)))) := (zrun_eq _ _ _).trans ((zun_eq zK_X5_needRange [] 10 _ _).trans rfl)
set_option maxRecDepth 100000 in
theorem e_X5_needTime (i0 : Nat) (x1 : Int32) (σ : zSt) : zrun zP 129 [zR 15 i0, zI x1] σ = (
  zcV (zrun zP 128 [zR 15 i0, zI x1, zI 0, zI 999] σ) (fun s1 =>
  some (.inl none, s1))) := (zrun_eq _ _ _).trans ((zun_eq zK_X5_needTime [] 7 _ _).trans rfl)
set_option maxRecDepth 100000 in
theorem e_X5_needSpan (i0 : Nat) (x1 : Int32) (x2 : Int32) (σ : zSt) : zrun zP 130 [zR 15 i0, zI x1, zI x2] σ = (
  zcV (zrun zP 129 [zR 15 i0, zI x1] σ) (fun s1 =>
  zcV (zrun zP 129 [zR 15 i0, zI x2] s1) (fun s2 =>
    if x1 < x2 then
      (some (.inl none, s2))
      else
      (zcV (zrun zP 123 [zR 15 i0] s2) (fun s3 =>
        some (.inl none, s3)))))) := (zrun_eq _ _ _).trans ((zun_eq zK_X5_needSpan [] 13 _ _).trans rfl)
set_option maxRecDepth 100000 in
theorem e_X5_isLabel_17 (x0 : Int32) (x1 : Int32) (x2 : Int32) (v3 : zAV) (σ : zSt) : zX zP zK_X5_isLabel (17, [zI x0, zI x1, zI x2, v3], []) σ = (
  if x2 < 4 then
  (if x1 = 0 then
    (some (.inl (some (zI 1)), σ))
    else
    (if (x1 &&& 31) = 0 then
      (some (.inl (some (zI 0)), σ))
      else
      (if (26 : Int32) < (x1 &&& 31) then
        (some (.inl (some (zI 0)), σ))
        else
        (zX zP zK_X5_isLabel (17, [zI x0, zI (x1 >>> (5 &&& 31)), zI (x2 + 1), zI (x1 &&& 31)], []) σ))))
  else
  (some (.inl (some (zI 1)), σ))) := (zun_eq zK_X5_isLabel [17] 21 _ _).trans rfl
set_option maxRecDepth 100000 in
theorem e_X5_isLabel (x0 : Int32) (σ : zSt) : zrun zP 131 [zI x0] σ = (
  if x0 < 0 then
  (some (.inl (some (zI 0)), σ))
  else
  (if x0 < 1048576 then
    (zX zP zK_X5_isLabel (17, [zI x0, zI x0, zI 0, zJunk], []) σ)
    else
    (some (.inl (some (zI 0)), σ)))) := (zrun_eq _ _ _).trans ((zun_eq zK_X5_isLabel [17] 10 _ _).trans rfl)
set_option maxRecDepth 100000 in
theorem e_X5_twinOf (i0 : Nat) (i1 : Nat) (σ : zSt) : zrun zP 132 [zR 15 i0, zR 12 i1] σ = (
  if (σ.1 15 i0 2) = 0 then
  (if ((-1) : Int32) = (-1) then
    (some (.inl (some (zNull)), σ))
    else
    (if ((-1) : Int32) < 0 ∨ 6 ≤ Int32.toNatClampNeg (-1) then
      (none)
      else
      (some (.inl (some (zR 12 (6 * 1 + Int32.toNatClampNeg (-1)))), σ))))
  else
  (zcI (zrun zP 52 [zR 13 1, zI (σ.1 12 i1 0)] σ) (fun r1 s1 =>
    if r1 = (-1) then
      (some (.inl (some (zNull)), s1))
      else
      (if r1 < 0 ∨ 6 ≤ Int32.toNatClampNeg r1 then
        (none)
        else
        (some (.inl (some (zR 12 (6 * 1 + Int32.toNatClampNeg r1))), s1)))))) := (zrun_eq _ _ _).trans ((zun_eq zK_X5_twinOf [] 20 _ _).trans rfl)
set_option maxRecDepth 100000 in
theorem e_X5_goalOfSnap (i0 : Nat) (x1 : Int32) (x2 : Int32) (x3 : Int32) (σ : zSt) : zrun zP 133 [zR 15 i0, zI x1, zI x2, zI x3] σ = (
  if (σ.1 14 2 1) = 0 then
  (some (.inl (some (zI (-1))), σ))
  else
  (zcI (zrun zP 88 [zR 14 2, zI x2] σ) (fun r1 s1 =>
    if r1 = 0 then
      (zcI (zrun zP 90 [zR 14 2, zI x2] s1) (fun r2 s2 =>
        if x3 < (if 0 ≤ (r2 - x2) then (r2 - x2) else 0 - (r2 - x2)) then
          (some (.inl (some (zI (-1))), s2))
          else
          (zcI (zrun zP 81 [zR 13 0, zI x1, zI x2, zI r2] s2) (fun r3 s3 =>
            if r3 = 0 then
              (some (.inl (some (zI (-1))), s3))
              else
              (some (.inl (some (zI r2)), s3))))))
      else
      (some (.inl (some (zI (-1))), s1))))) := (zrun_eq _ _ _).trans ((zun_eq zK_X5_goalOfSnap [] 30 _ _).trans rfl)
set_option maxRecDepth 100000 in
theorem e_X5_weighPairs_2 (i0 : Nat) (x1 : Int32) (x2 : Int32) (v3 : zAV) (v4 : zAV) (v5 : zAV) (v6 : zAV) (v7 : zAV) (σ : zSt) : zX zP zK_X5_weighPairs (2, [zR 15 i0, zI x1, zI x2, v3, v4, v5, v6, v7], []) σ = (
  if (σ.1 14 2 1) < x2 then
  (zX zP zK_X5_weighPairs (28, [zR 15 i0, zI x1, zI 0, v3, v4, v5, v6, v7], []) σ)
  else
  (if x2 < 0 ∨ 81 ≤ Int32.toNatClampNeg x2 then
    (none)
    else
    (zX zP zK_X5_weighPairs (2, [zR 15 i0, zI x1, zI (x2 + 1), v3, v4, v5, v6, v7], []) (zms σ.1 24 0 (Int32.toNatClampNeg x2) 0, σ.2)))) := (zun_eq zK_X5_weighPairs [2, 28, 44] 13 _ _).trans rfl
set_option maxRecDepth 100000 in
theorem e_X5_weighPairs_28 (i0 : Nat) (x1 : Int32) (x2 : Int32) (v3 : zAV) (v4 : zAV) (v5 : zAV) (v6 : zAV) (v7 : zAV) (σ : zSt) : zX zP zK_X5_weighPairs (28, [zR 15 i0, zI x1, zI x2, v3, v4, v5, v6, v7], []) σ = (
  if x2 < (σ.1 14 1 1) then
  (zX zP zK_X5_weighPairs (44, [zR 15 i0, zI x1, zI x2, zI 0, zI 0, v5, v6, v7], []) σ)
  else
  (if (σ.1 14 2 1) < 0 ∨ 81 ≤ Int32.toNatClampNeg (σ.1 14 2 1) then
    (none)
    else
    (some (.inl (some (zI (σ.1 24 0 (Int32.toNatClampNeg (σ.1 14 2 1))))), σ)))) := (zun_eq zK_X5_weighPairs [2, 28, 44] 13 _ _).trans rfl
set_option maxRecDepth 100000 in
theorem e_X5_weighPairs_44 (i0 : Nat) (x1 : Int32) (x2 : Int32) (x3 : Int32) (x4 : Int32) (v5 : zAV) (v6 : zAV) (v7 : zAV) (σ : zSt) : zX zP zK_X5_weighPairs (44, [zR 15 i0, zI x1, zI x2, zI x3, zI x4, v5, v6, v7], []) σ = (
  if x4 < (σ.1 14 2 1) then
  (if (x4 + 1) < 0 ∨ 81 ≤ Int32.toNatClampNeg (x4 + 1) then
    (none)
    else
    (if x4 < 0 ∨ 81 ≤ Int32.toNatClampNeg x4 then
      (none)
      else
      (if x2 < 0 ∨ 80 ≤ Int32.toNatClampNeg x2 then
        (none)
        else
        (if x4 < 0 ∨ 80 ≤ Int32.toNatClampNeg x4 then
          (none)
          else
          (if x1 < (if 0 ≤ ((σ.1 23 1 (Int32.toNatClampNeg x2)) - (σ.1 23 2 (Int32.toNatClampNeg x4))) then ((σ.1 23 1 (Int32.toNatClampNeg x2)) - (σ.1 23 2 (Int32.toNatClampNeg x4))) else 0 - ((σ.1 23 1 (Int32.toNatClampNeg x2)) - (σ.1 23 2 (Int32.toNatClampNeg x4)))) then
            (if (x4 + 1) < 0 ∨ 81 ≤ Int32.toNatClampNeg (x4 + 1) then
              (none)
              else
              (zX zP zK_X5_weighPairs (44, [zR 15 i0, zI x1, zI x2, zI (σ.1 24 0 (Int32.toNatClampNeg (x4 + 1))), zI (x4 + 1), zI (σ.1 24 0 (Int32.toNatClampNeg (x4 + 1))), zI (if (σ.1 24 0 (Int32.toNatClampNeg (x4 + 1))) < (σ.1 24 0 (Int32.toNatClampNeg x4)) then (σ.1 24 0 (Int32.toNatClampNeg x4)) else (σ.1 24 0 (Int32.toNatClampNeg (x4 + 1)))), zI (if 0 ≤ ((σ.1 23 1 (Int32.toNatClampNeg x2)) - (σ.1 23 2 (Int32.toNatClampNeg x4))) then ((σ.1 23 1 (Int32.toNatClampNeg x2)) - (σ.1 23 2 (Int32.toNatClampNeg x4))) else 0 - ((σ.1 23 1 (Int32.toNatClampNeg x2)) - (σ.1 23 2 (Int32.toNatClampNeg x4))))], []) (zms σ.1 24 0 (Int32.toNatClampNeg (x4 + 1)) (if (σ.1 24 0 (Int32.toNatClampNeg (x4 + 1))) < (σ.1 24 0 (Int32.toNatClampNeg x4)) then (σ.1 24 0 (Int32.toNatClampNeg x4)) else (σ.1 24 0 (Int32.toNatClampNeg (x4 + 1)))), σ.2)))
            else
            (if (x4 + 1) < 0 ∨ 81 ≤ Int32.toNatClampNeg (x4 + 1) then
              (none)
              else
              (zX zP zK_X5_weighPairs (44, [zR 15 i0, zI x1, zI x2, zI (σ.1 24 0 (Int32.toNatClampNeg (x4 + 1))), zI (x4 + 1), zI (σ.1 24 0 (Int32.toNatClampNeg (x4 + 1))), zI (if (if (σ.1 24 0 (Int32.toNatClampNeg (x4 + 1))) < (σ.1 24 0 (Int32.toNatClampNeg x4)) then (σ.1 24 0 (Int32.toNatClampNeg x4)) else (σ.1 24 0 (Int32.toNatClampNeg (x4 + 1)))) < ((x3 + 100000) - (if 0 ≤ ((σ.1 23 1 (Int32.toNatClampNeg x2)) - (σ.1 23 2 (Int32.toNatClampNeg x4))) then ((σ.1 23 1 (Int32.toNatClampNeg x2)) - (σ.1 23 2 (Int32.toNatClampNeg x4))) else 0 - ((σ.1 23 1 (Int32.toNatClampNeg x2)) - (σ.1 23 2 (Int32.toNatClampNeg x4))))) then ((x3 + 100000) - (if 0 ≤ ((σ.1 23 1 (Int32.toNatClampNeg x2)) - (σ.1 23 2 (Int32.toNatClampNeg x4))) then ((σ.1 23 1 (Int32.toNatClampNeg x2)) - (σ.1 23 2 (Int32.toNatClampNeg x4))) else 0 - ((σ.1 23 1 (Int32.toNatClampNeg x2)) - (σ.1 23 2 (Int32.toNatClampNeg x4))))) else (if (σ.1 24 0 (Int32.toNatClampNeg (x4 + 1))) < (σ.1 24 0 (Int32.toNatClampNeg x4)) then (σ.1 24 0 (Int32.toNatClampNeg x4)) else (σ.1 24 0 (Int32.toNatClampNeg (x4 + 1))))), zI (if 0 ≤ ((σ.1 23 1 (Int32.toNatClampNeg x2)) - (σ.1 23 2 (Int32.toNatClampNeg x4))) then ((σ.1 23 1 (Int32.toNatClampNeg x2)) - (σ.1 23 2 (Int32.toNatClampNeg x4))) else 0 - ((σ.1 23 1 (Int32.toNatClampNeg x2)) - (σ.1 23 2 (Int32.toNatClampNeg x4))))], []) (zms σ.1 24 0 (Int32.toNatClampNeg (x4 + 1)) (if (if (σ.1 24 0 (Int32.toNatClampNeg (x4 + 1))) < (σ.1 24 0 (Int32.toNatClampNeg x4)) then (σ.1 24 0 (Int32.toNatClampNeg x4)) else (σ.1 24 0 (Int32.toNatClampNeg (x4 + 1)))) < ((x3 + 100000) - (if 0 ≤ ((σ.1 23 1 (Int32.toNatClampNeg x2)) - (σ.1 23 2 (Int32.toNatClampNeg x4))) then ((σ.1 23 1 (Int32.toNatClampNeg x2)) - (σ.1 23 2 (Int32.toNatClampNeg x4))) else 0 - ((σ.1 23 1 (Int32.toNatClampNeg x2)) - (σ.1 23 2 (Int32.toNatClampNeg x4))))) then ((x3 + 100000) - (if 0 ≤ ((σ.1 23 1 (Int32.toNatClampNeg x2)) - (σ.1 23 2 (Int32.toNatClampNeg x4))) then ((σ.1 23 1 (Int32.toNatClampNeg x2)) - (σ.1 23 2 (Int32.toNatClampNeg x4))) else 0 - ((σ.1 23 1 (Int32.toNatClampNeg x2)) - (σ.1 23 2 (Int32.toNatClampNeg x4))))) else (if (σ.1 24 0 (Int32.toNatClampNeg (x4 + 1))) < (σ.1 24 0 (Int32.toNatClampNeg x4)) then (σ.1 24 0 (Int32.toNatClampNeg x4)) else (σ.1 24 0 (Int32.toNatClampNeg (x4 + 1))))), σ.2))))))))
  else
  (zX zP zK_X5_weighPairs (28, [zR 15 i0, zI x1, zI (x2 + 1), zI x3, zI x4, v5, v6, v7], []) σ)) := (zun_eq zK_X5_weighPairs [2, 28, 44] 55 _ _).trans rfl
set_option maxRecDepth 100000 in
theorem e_X5_weighPairs (i0 : Nat) (x1 : Int32) (σ : zSt) : zrun zP 134 [zR 15 i0, zI x1] σ = (
  zX zP zK_X5_weighPairs (2, [zR 15 i0, zI x1, zI 0, zJunk, zJunk, zJunk, zJunk, zJunk], []) σ) := (zrun_eq _ _ _).trans ((zun_eq zK_X5_weighPairs [2, 28, 44] 3 _ _).trans rfl)
