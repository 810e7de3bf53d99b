set_option maxRecDepth 100000 in
theorem e_X0_forget (i0 : Nat) (σ : zSt) : zrun zP 0 [zR 10 i0] σ = (
  some (.inl none, (zms (zms σ.1 10 i0 1 0) 10 i0 2 0, σ.2))) := (zrun_eq _ _ _).trans ((zun_eq zK_X0_forget [] 8 _ _).trans rfl)
set_option maxRecDepth 100000 in
theorem e_X0_remember (i0 : Nat) (i1 : Nat) (σ : zSt) : zrun zP 1 [zR 10 i0, zR 13 i1] σ = (
  if (σ.1 10 i0 1) < 0 ∨ 12 ≤ Int32.toNatClampNeg (σ.1 10 i0 1) then
  (none)
  else
  (zcV (zrun zP 50 [zR 13 (2 + Int32.toNatClampNeg (σ.1 10 i0 1)), zR 13 i1] σ) (fun s1 =>
    if ((s1.1 10 i0 1) + 1) = 12 then
      (some (.inl none, (zms (zms s1.1 10 i0 1 0) 10 i0 2 (if 12 < (((zms s1.1 10 i0 1 0) 10 i0 2) + 1) then 12 else (((zms s1.1 10 i0 1 0) 10 i0 2) + 1)), s1.2)))
      else
      (some (.inl none, (zms (zms s1.1 10 i0 1 ((s1.1 10 i0 1) + 1)) 10 i0 2 (if 12 < (((zms s1.1 10 i0 1 ((s1.1 10 i0 1) + 1)) 10 i0 2) + 1) then 12 else (((zms s1.1 10 i0 1 ((s1.1 10 i0 1) + 1)) 10 i0 2) + 1)), s1.2)))))) := (zrun_eq _ _ _).trans ((zun_eq zK_X0_remember [] 29 _ _).trans rfl)
set_option maxRecDepth 100000 in
theorem e_X0_recall (i0 : Nat) (i1 : Nat) (σ : zSt) : zrun zP 2 [zR 10 i0, zR 13 i1] σ = (
  if (σ.1 10 i0 2) = 0 then
  (some (.inl (some (zI 0)), σ))
  else
  (if (σ.1 10 i0 1) = 0 then
    (if ((zms (zms σ.1 10 i0 1 11) 10 i0 2 (((zms σ.1 10 i0 1 11) 10 i0 2) - 1)) 10 i0 1) < 0 ∨ 12 ≤ Int32.toNatClampNeg ((zms (zms σ.1 10 i0 1 11) 10 i0 2 (((zms σ.1 10 i0 1 11) 10 i0 2) - 1)) 10 i0 1) then
      (none)
      else
      (zcV (zrun zP 50 [zR 13 i1, zR 13 (2 + Int32.toNatClampNeg ((zms (zms σ.1 10 i0 1 11) 10 i0 2 (((zms σ.1 10 i0 1 11) 10 i0 2) - 1)) 10 i0 1))] (zms (zms σ.1 10 i0 1 11) 10 i0 2 (((zms σ.1 10 i0 1 11) 10 i0 2) - 1), σ.2)) (fun s1 =>
        some (.inl (some (zI 1)), s1))))
    else
    (if ((zms (zms σ.1 10 i0 1 ((σ.1 10 i0 1) - 1)) 10 i0 2 (((zms σ.1 10 i0 1 ((σ.1 10 i0 1) - 1)) 10 i0 2) - 1)) 10 i0 1) < 0 ∨ 12 ≤ Int32.toNatClampNeg ((zms (zms σ.1 10 i0 1 ((σ.1 10 i0 1) - 1)) 10 i0 2 (((zms σ.1 10 i0 1 ((σ.1 10 i0 1) - 1)) 10 i0 2) - 1)) 10 i0 1) then
      (none)
      else
      (zcV (zrun zP 50 [zR 13 i1, zR 13 (2 + Int32.toNatClampNeg ((zms (zms σ.1 10 i0 1 ((σ.1 10 i0 1) - 1)) 10 i0 2 (((zms σ.1 10 i0 1 ((σ.1 10 i0 1) - 1)) 10 i0 2) - 1)) 10 i0 1))] (zms (zms σ.1 10 i0 1 ((σ.1 10 i0 1) - 1)) 10 i0 2 (((zms σ.1 10 i0 1 ((σ.1 10 i0 1) - 1)) 10 i0 2) - 1), σ.2)) (fun s2 =>
        some (.inl (some (zI 1)), s2)))))) := (zrun_eq _ _ _).trans ((zun_eq zK_X0_recall [] 28 _ _).trans rfl)
set_option maxRecDepth 100000 in
theorem e_X1_appendNumber_3 (i0 : Nat) (x1 : Int32) (x2 : Int32) (σ : zSt) : zX zP zK_X1_appendNumber (3, [zR 11 i0, zI x1, zI x2], []) σ = (
  if x2 < 0 then
  (some (.inl none, σ))
  else
  (if (σ.1 11 i0 1) < 400 then
    (if (σ.1 11 i0 1) < 0 ∨ 400 ≤ Int32.toNatClampNeg (σ.1 11 i0 1) then
      (none)
      else
      (zX zP zK_X1_appendNumber (3, [zR 11 i0, zI x1, zI (x2 + (-8))], []) (zms (zms σ.1 27 0 (Int32.toNatClampNeg (σ.1 11 i0 1)) (Int8.toInt32 (Int32.toInt8 (Int8.toInt32 (Int32.toInt8 (x1 >>> (x2 &&& 31))))))) 11 i0 1 ((σ.1 11 i0 1) + 1), σ.2)))
    else
    (some (.inl none, σ)))) := (zun_eq zK_X1_appendNumber [3] 24 _ _).trans rfl
set_option maxRecDepth 100000 in
theorem e_X1_appendNumber (i0 : Nat) (x1 : Int32) (σ : zSt) : zrun zP 3 [zR 11 i0, zI x1] σ = (
  zX zP zK_X1_appendNumber (3, [zR 11 i0, zI x1, zI 24], []) σ) := (zrun_eq _ _ _).trans ((zun_eq zK_X1_appendNumber [3] 3 _ _).trans rfl)
set_option maxRecDepth 100000 in
theorem e_X1_readText_49 (i0 : Nat) (x1 : Int32) (x2 : Int32) (v3 : zAV) (σ : zSt) : zX zP zK_X1_readText (49, [zR 11 i0, zI x1, zI x2, v3], []) σ = (
  if x2 < 400 then
  (if (σ.1 11 i0 7) = 4 then
    (some (.inl (some (zI 1)), σ))
    else
    (zcI (zrun zP 12 [zR 11 i0, zR 1 0] σ) (fun r1 s1 =>
      if r1 = 0 then
        (zcI (zrun zP 21 [zR 11 i0] s1) (fun r2 s2 =>
          if r2 = 0 then
            (some (.inl (some (zI 0)), s2))
            else
            (zcI (zrun zP 11 [zR 11 i0] s2) (fun r3 s3 =>
              if r3 = 0 then
                (zcI (zrun zP 5 [zR 11 i0, zI 1, zI (s3.1 11 i0 8)] s3) (fun r4 s4 =>
                  if r4 = 0 ∨ r4 = 1 then
                    (some (.inl (some (zI r4)), s4))
                    else
                    (none)))
                else
                (zcV (zrun zP 6 [zR 11 i0] s3) (fun s5 =>
                  zX zP zK_X1_readText (49, [zR 11 i0, zI x1, zI (x2 + 1), zI r2], []) s5))))))
        else
        (zcI (zrun zP 19 [zR 11 i0] s1) (fun r6 s6 =>
          if r6 = 0 then
            (some (.inl (some (zI 0)), s6))
            else
            (zcI (zrun zP 11 [zR 11 i0] s6) (fun r7 s7 =>
              if r7 = 0 then
                (zcI (zrun zP 5 [zR 11 i0, zI 1, zI (s7.1 11 i0 8)] s7) (fun r8 s8 =>
                  if r8 = 0 ∨ r8 = 1 then
                    (some (.inl (some (zI r8)), s8))
                    else
                    (none)))
                else
                (zcV (zrun zP 6 [zR 11 i0] s7) (fun s9 =>
                  zX zP zK_X1_readText (49, [zR 11 i0, zI x1, zI (x2 + 1), zI r6], []) s9)))))))))
  else
  (some (.inl (some (zI 1)), σ))) := (zun_eq zK_X1_readText [49] 27 _ _).trans rfl
set_option maxRecDepth 100000 in
theorem e_X1_readText (i0 : Nat) (x1 : Int32) (σ : zSt) : zrun zP 4 [zR 11 i0, zI x1] σ = (
  zcV (zrun zP 49 [zR 13 14] (zms (zms (zms (zms (zms σ.1 11 i0 5 (if 0 < (if (σ.1 11 i0 1) < x1 then (σ.1 11 i0 1) else x1) then (if (σ.1 11 i0 1) < x1 then (σ.1 11 i0 1) else x1) else 0)) 11 i0 1 0) 11 i0 6 0) 11 i0 3 0) 11 i0 4 (-1), σ.2)) (fun s1 =>
  zcV (zrun zP 6 [zR 11 i0] s1) (fun s2 =>
    zX zP zK_X1_readText (49, [zR 11 i0, zI x1, zI 0, zJunk], []) s2))) := (zrun_eq _ _ _).trans ((zun_eq zK_X1_readText [49] 28 _ _).trans rfl)
set_option maxRecDepth 100000 in
theorem e_X1_fail (i0 : Nat) (x1 : Int32) (x2 : Int32) (σ : zSt) : zrun zP 5 [zR 11 i0, zI x1, zI x2] σ = (
  some (.inl (some (zI 0)), (zms (zms σ.1 11 i0 3 x1) 11 i0 4 x2, σ.2))) := (zrun_eq _ _ _).trans ((zun_eq zK_X1_fail [] 9 _ _).trans rfl)
set_option maxRecDepth 100000 in
theorem e_X1_advance_0 (i0 : Nat) (σ : zSt) : zX zP zK_X1_advance (0, [zR 11 i0], []) σ = (
  if (σ.1 11 i0 6) < (σ.1 11 i0 5) then
  (if (σ.1 11 i0 6) < 0 ∨ 400 ≤ Int32.toNatClampNeg (σ.1 11 i0 6) then
    (none)
    else
    (if (σ.1 27 0 (Int32.toNatClampNeg (σ.1 11 i0 6))) = 32 then
      (zX zP zK_X1_advance (0, [zR 11 i0], []) (zms σ.1 11 i0 6 ((σ.1 11 i0 6) + 1), σ.2))
      else
      (if ((zms σ.1 11 i0 8 (σ.1 11 i0 6)) 11 i0 6) < ((zms σ.1 11 i0 8 (σ.1 11 i0 6)) 11 i0 5) then
        (if ((zms σ.1 11 i0 8 (σ.1 11 i0 6)) 11 i0 6) < 0 ∨ 400 ≤ Int32.toNatClampNeg ((zms σ.1 11 i0 8 (σ.1 11 i0 6)) 11 i0 6) then
          (none)
          else
          (zcI (zrun zP 9 [zI (σ.1 27 0 (Int32.toNatClampNeg ((zms σ.1 11 i0 8 (σ.1 11 i0 6)) 11 i0 6)))] (zms σ.1 11 i0 8 (σ.1 11 i0 6), σ.2)) (fun r1 s1 =>
            if r1 = 0 then
              (if (s1.1 11 i0 6) < 0 ∨ 400 ≤ Int32.toNatClampNeg (s1.1 11 i0 6) then
                (none)
                else
                (zcI (zrun zP 10 [zI (s1.1 27 0 (Int32.toNatClampNeg (s1.1 11 i0 6)))] s1) (fun r2 s2 =>
                  if r2 = 0 then
                    (some (.inl none, (zms (zms s2.1 11 i0 7 3) 11 i0 6 (((zms s2.1 11 i0 7 3) 11 i0 6) + 1), s2.2)))
                    else
                    (zcV (zrun zP 8 [zR 11 i0] s2) (fun s3 =>
                      some (.inl none, s3))))))
              else
              (zcV (zrun zP 7 [zR 11 i0] s1) (fun s4 =>
                some (.inl none, s4))))))
        else
        (some (.inl none, (zms (zms σ.1 11 i0 8 (σ.1 11 i0 6)) 11 i0 7 4, σ.2))))))
  else
  (if ((zms σ.1 11 i0 8 (σ.1 11 i0 6)) 11 i0 6) < ((zms σ.1 11 i0 8 (σ.1 11 i0 6)) 11 i0 5) then
    (if ((zms σ.1 11 i0 8 (σ.1 11 i0 6)) 11 i0 6) < 0 ∨ 400 ≤ Int32.toNatClampNeg ((zms σ.1 11 i0 8 (σ.1 11 i0 6)) 11 i0 6) then
      (none)
      else
      (zcI (zrun zP 9 [zI (σ.1 27 0 (Int32.toNatClampNeg ((zms σ.1 11 i0 8 (σ.1 11 i0 6)) 11 i0 6)))] (zms σ.1 11 i0 8 (σ.1 11 i0 6), σ.2)) (fun r5 s5 =>
        if r5 = 0 then
          (if (s5.1 11 i0 6) < 0 ∨ 400 ≤ Int32.toNatClampNeg (s5.1 11 i0 6) then
            (none)
            else
            (zcI (zrun zP 10 [zI (s5.1 27 0 (Int32.toNatClampNeg (s5.1 11 i0 6)))] s5) (fun r6 s6 =>
              if r6 = 0 then
                (some (.inl none, (zms (zms s6.1 11 i0 7 3) 11 i0 6 (((zms s6.1 11 i0 7 3) 11 i0 6) + 1), s6.2)))
                else
                (zcV (zrun zP 8 [zR 11 i0] s6) (fun s7 =>
                  some (.inl none, s7))))))
          else
          (zcV (zrun zP 7 [zR 11 i0] s5) (fun s8 =>
            some (.inl none, s8))))))
    else
    (some (.inl none, (zms (zms σ.1 11 i0 8 (σ.1 11 i0 6)) 11 i0 7 4, σ.2))))) := (zun_eq zK_X1_advance [0] 46 _ _).trans rfl
set_option maxRecDepth 100000 in
theorem e_X1_advance (i0 : Nat) (σ : zSt) : zrun zP 6 [zR 11 i0] σ = (
  if (σ.1 11 i0 6) < (σ.1 11 i0 5) then
  (if (σ.1 11 i0 6) < 0 ∨ 400 ≤ Int32.toNatClampNeg (σ.1 11 i0 6) then
    (none)
    else
    (if (σ.1 27 0 (Int32.toNatClampNeg (σ.1 11 i0 6))) = 32 then
      (zX zP zK_X1_advance (0, [zR 11 i0], []) (zms σ.1 11 i0 6 ((σ.1 11 i0 6) + 1), σ.2))
      else
      (if ((zms σ.1 11 i0 8 (σ.1 11 i0 6)) 11 i0 6) < ((zms σ.1 11 i0 8 (σ.1 11 i0 6)) 11 i0 5) then
        (if ((zms σ.1 11 i0 8 (σ.1 11 i0 6)) 11 i0 6) < 0 ∨ 400 ≤ Int32.toNatClampNeg ((zms σ.1 11 i0 8 (σ.1 11 i0 6)) 11 i0 6) then
          (none)
          else
          (zcI (zrun zP 9 [zI (σ.1 27 0 (Int32.toNatClampNeg ((zms σ.1 11 i0 8 (σ.1 11 i0 6)) 11 i0 6)))] (zms σ.1 11 i0 8 (σ.1 11 i0 6), σ.2)) (fun r1 s1 =>
            if r1 = 0 then
              (if (s1.1 11 i0 6) < 0 ∨ 400 ≤ Int32.toNatClampNeg (s1.1 11 i0 6) then
                (none)
                else
                (zcI (zrun zP 10 [zI (s1.1 27 0 (Int32.toNatClampNeg (s1.1 11 i0 6)))] s1) (fun r2 s2 =>
                  if r2 = 0 then
                    (some (.inl none, (zms (zms s2.1 11 i0 7 3) 11 i0 6 (((zms s2.1 11 i0 7 3) 11 i0 6) + 1), s2.2)))
                    else
                    (zcV (zrun zP 8 [zR 11 i0] s2) (fun s3 =>
                      some (.inl none, s3))))))
              else
              (zcV (zrun zP 7 [zR 11 i0] s1) (fun s4 =>
                some (.inl none, s4))))))
        else
        (some (.inl none, (zms (zms σ.1 11 i0 8 (σ.1 11 i0 6)) 11 i0 7 4, σ.2))))))
  else
  (if ((zms σ.1 11 i0 8 (σ.1 11 i0 6)) 11 i0 6) < ((zms σ.1 11 i0 8 (σ.1 11 i0 6)) 11 i0 5) then
    (if ((zms σ.1 11 i0 8 (σ.1 11 i0 6)) 11 i0 6) < 0 ∨ 400 ≤ Int32.toNatClampNeg ((zms σ.1 11 i0 8 (σ.1 11 i0 6)) 11 i0 6) then
      (none)
      else
      (zcI (zrun zP 9 [zI (σ.1 27 0 (Int32.toNatClampNeg ((zms σ.1 11 i0 8 (σ.1 11 i0 6)) 11 i0 6)))] (zms σ.1 11 i0 8 (σ.1 11 i0 6), σ.2)) (fun r5 s5 =>
        if r5 = 0 then
          (if (s5.1 11 i0 6) < 0 ∨ 400 ≤ Int32.toNatClampNeg (s5.1 11 i0 6) then
            (none)
            else
            (zcI (zrun zP 10 [zI (s5.1 27 0 (Int32.toNatClampNeg (s5.1 11 i0 6)))] s5) (fun r6 s6 =>
              if r6 = 0 then
                (some (.inl none, (zms (zms s6.1 11 i0 7 3) 11 i0 6 (((zms s6.1 11 i0 7 3) 11 i0 6) + 1), s6.2)))
                else
                (zcV (zrun zP 8 [zR 11 i0] s6) (fun s7 =>
                  some (.inl none, s7))))))
          else
          (zcV (zrun zP 7 [zR 11 i0] s5) (fun s8 =>
            some (.inl none, s8))))))
    else
    (some (.inl none, (zms (zms σ.1 11 i0 8 (σ.1 11 i0 6)) 11 i0 7 4, σ.2))))) := (zrun_eq _ _ _).trans ((zun_eq zK_X1_advance [0] 46 _ _).trans rfl)
set_option maxRecDepth 100000 in
theorem e_X1_scanWord_10 (i0 : Nat) (σ : zSt) : zX zP zK_X1_scanWord (10, [zR 11 i0], []) σ = (
  if (σ.1 11 i0 6) < (σ.1 11 i0 5) then
  (if (σ.1 11 i0 6) < 0 ∨ 400 ≤ Int32.toNatClampNeg (σ.1 11 i0 6) then
    (none)
    else
    (zcI (zrun zP 9 [zI (σ.1 27 0 (Int32.toNatClampNeg (σ.1 11 i0 6)))] σ) (fun r1 s1 =>
      if r1 = 0 then
        (some (.inl none, (zms s1.1 11 i0 9 ((s1.1 11 i0 6) - (s1.1 11 i0 8)), s1.2)))
        else
        (if ((s1.1 11 i0 6) - (s1.1 11 i0 8)) < 6 then
          (if (s1.1 11 i0 6) < 0 ∨ 400 ≤ Int32.toNatClampNeg (s1.1 11 i0 6) then
            (none)
            else
            (zX zP zK_X1_scanWord (10, [zR 11 i0], []) (zms (zms s1.1 11 i0 10 (((s1.1 11 i0 10) <<< (5 &&& 31)) ||| (((s1.1 27 0 (Int32.toNatClampNeg (s1.1 11 i0 6))) - 97) + 1))) 11 i0 6 (((zms s1.1 11 i0 10 (((s1.1 11 i0 10) <<< (5 &&& 31)) ||| (((s1.1 27 0 (Int32.toNatClampNeg (s1.1 11 i0 6))) - 97) + 1))) 11 i0 6) + 1), s1.2)))
          else
          (zX zP zK_X1_scanWord (10, [zR 11 i0], []) (zms s1.1 11 i0 6 ((s1.1 11 i0 6) + 1), s1.2))))))
  else
  (some (.inl none, (zms σ.1 11 i0 9 ((σ.1 11 i0 6) - (σ.1 11 i0 8)), σ.2)))) := (zun_eq zK_X1_scanWord [10] 43 _ _).trans rfl
set_option maxRecDepth 100000 in
theorem e_X1_scanWord (i0 : Nat) (σ : zSt) : zrun zP 7 [zR 11 i0] σ = (
  zX zP zK_X1_scanWord (10, [zR 11 i0], []) (zms (zms σ.1 11 i0 7 1) 11 i0 10 0, σ.2)) := (zrun_eq _ _ _).trans ((zun_eq zK_X1_scanWord [10] 7 _ _).trans rfl)
set_option maxRecDepth 100000 in
theorem e_X1_scanNumber_10 (i0 : Nat) (σ : zSt) : zX zP zK_X1_scanNumber (10, [zR 11 i0], []) σ = (
  if (σ.1 11 i0 6) < (σ.1 11 i0 5) then
  (if (σ.1 11 i0 6) < 0 ∨ 400 ≤ Int32.toNatClampNeg (σ.1 11 i0 6) then
    (none)
    else
    (zcI (zrun zP 10 [zI (σ.1 27 0 (Int32.toNatClampNeg (σ.1 11 i0 6)))] σ) (fun r1 s1 =>
      if r1 = 0 then
        (some (.inl none, s1))
        else
        (if (s1.1 11 i0 6) < 0 ∨ 400 ≤ Int32.toNatClampNeg (s1.1 11 i0 6) then
          (none)
          else
          (zX zP zK_X1_scanNumber (10, [zR 11 i0], []) (zms (zms s1.1 11 i0 11 (if 1000 < ((((s1.1 11 i0 11) * 10) + (s1.1 27 0 (Int32.toNatClampNeg (s1.1 11 i0 6)))) - 48) then 1000 else ((((s1.1 11 i0 11) * 10) + (s1.1 27 0 (Int32.toNatClampNeg (s1.1 11 i0 6)))) - 48))) 11 i0 6 (((zms s1.1 11 i0 11 (if 1000 < ((((s1.1 11 i0 11) * 10) + (s1.1 27 0 (Int32.toNatClampNeg (s1.1 11 i0 6)))) - 48) then 1000 else ((((s1.1 11 i0 11) * 10) + (s1.1 27 0 (Int32.toNatClampNeg (s1.1 11 i0 6)))) - 48))) 11 i0 6) + 1), s1.2))))))
  else
  (some (.inl none, σ))) := (zun_eq zK_X1_scanNumber [10] 36 _ _).trans rfl
set_option maxRecDepth 100000 in
theorem e_X1_scanNumber (i0 : Nat) (σ : zSt) : zrun zP 8 [zR 11 i0] σ = (
  zX zP zK_X1_scanNumber (10, [zR 11 i0], []) (zms (zms σ.1 11 i0 7 2) 11 i0 11 0, σ.2)) := (zrun_eq _ _ _).trans ((zun_eq zK_X1_scanNumber [10] 7 _ _).trans rfl)
set_option maxRecDepth 100000 in
theorem e_X1_isLetter (x0 : Int32) (σ : zSt) : zrun zP 9 [zI x0] σ = (
  if x0 < 97 then
  (some (.inl (some (zI 0)), σ))
  else
  (if (122 : Int32) < x0 then
    (some (.inl (some (zI 0)), σ))
    else
    (some (.inl (some (zI 1)), σ)))) := (zrun_eq _ _ _).trans ((zun_eq zK_X1_isLetter [] 10 _ _).trans rfl)
set_option maxRecDepth 100000 in
theorem e_X1_isDigit (x0 : Int32) (σ : zSt) : zrun zP 10 [zI x0] σ = (
  if x0 < 48 then
  (some (.inl (some (zI 0)), σ))
  else
  (if (57 : Int32) < x0 then
    (some (.inl (some (zI 0)), σ))
    else
    (some (.inl (some (zI 1)), σ)))) := (zrun_eq _ _ _).trans ((zun_eq zK_X1_isDigit [] 10 _ _).trans rfl)
set_option maxRecDepth 100000 in
theorem e_X1_isSemicolon (i0 : Nat) (σ : zSt) : zrun zP 11 [zR 11 i0] σ = (
  if (σ.1 11 i0 7) = 3 then
  (if (σ.1 11 i0 8) < (σ.1 11 i0 5) then
    (if (σ.1 11 i0 8) < 0 ∨ 400 ≤ Int32.toNatClampNeg (σ.1 11 i0 8) then
      (none)
      else
      (if (σ.1 27 0 (Int32.toNatClampNeg (σ.1 11 i0 8))) = 59 then
        (some (.inl (some (zI 1)), σ))
        else
        (some (.inl (some (zI 0)), σ))))
    else
    (some (.inl (some (zI 0)), σ)))
  else
  (some (.inl (some (zI 0)), σ))) := (zrun_eq _ _ _).trans ((zun_eq zK_X1_isSemicolon [] 20 _ _).trans rfl)
set_option maxRecDepth 100000 in
theorem e_X1_isWord_23 (i0 : Nat) (i1 : Nat) (x2 : Int32) (σ : zSt) : zX zP zK_X1_isWord (23, [zR 11 i0, zR 1 i1, zI x2], []) σ = (
  if x2 < (σ.1 11 i0 9) then
  (if ((σ.1 11 i0 8) + x2) < 0 ∨ 400 ≤ Int32.toNatClampNeg ((σ.1 11 i0 8) + x2) then
    (none)
    else
    (if x2 < 0 ∨ (zstr i1).length ≤ Int32.toNatClampNeg x2 then
      (none)
      else
      (if (σ.1 27 0 (Int32.toNatClampNeg ((σ.1 11 i0 8) + x2))) = ((zstr i1).getD (Int32.toNatClampNeg x2) 0) then
        (zX zP zK_X1_isWord (23, [zR 11 i0, zR 1 i1, zI (x2 + 1)], []) σ)
        else
        (some (.inl (some (zI 0)), σ)))))
  else
  (some (.inl (some (zI 1)), σ))) := (zun_eq zK_X1_isWord [23] 18 _ _).trans rfl
set_option maxRecDepth 100000 in
theorem e_X1_isWord (i0 : Nat) (i1 : Nat) (σ : zSt) : zrun zP 12 [zR 11 i0, zR 1 i1] σ = (
  if (σ.1 11 i0 7) = 1 then
  (if (Int32.ofNat (zstr i1).length) = (σ.1 11 i0 9) then
    (zX zP zK_X1_isWord (23, [zR 11 i0, zR 1 i1, zI 0], []) σ)
    else
    (some (.inl (some (zI 0)), σ)))
  else
  (some (.inl (some (zI 0)), σ))) := (zrun_eq _ _ _).trans ((zun_eq zK_X1_isWord [23] 12 _ _).trans rfl)
set_option maxRecDepth 100000 in
theorem e_X1_isShortWord (i0 : Nat) (x1 : Int32) (σ : zSt) : zrun zP 13 [zR 11 i0, zI x1] σ = (
  if (σ.1 11 i0 7) = 1 then
  (if x1 < (σ.1 11 i0 9) then
    (some (.inl (some (zI 0)), σ))
    else
    (some (.inl (some (zI 1)), σ)))
  else
  (some (.inl (some (zI 0)), σ))) := (zrun_eq _ _ _).trans ((zun_eq zK_X1_isShortWord [] 12 _ _).trans rfl)
set_option maxRecDepth 100000 in
theorem e_X1_nameThere (i0 : Nat) (σ : zSt) : zrun zP 14 [zR 11 i0] σ = (
  some (.inl (some (zI ((σ.1 11 i0 10) <<< ((5 * (if 0 < (6 - (σ.1 11 i0 9)) then (6 - (σ.1 11 i0 9)) else 0)) &&& 31)))), σ)) := (zrun_eq _ _ _).trans ((zun_eq zK_X1_nameThere [] 13 _ _).trans rfl)
set_option maxRecDepth 100000 in
theorem e_X1_tierThere (i0 : Nat) (σ : zSt) : zrun zP 15 [zR 11 i0] σ = (
  zcI (zrun zP 13 [zR 11 i0, zI 6] σ) (fun r1 s1 =>
  if r1 = 0 then
    (zcI (zrun zP 5 [zR 11 i0, zI 1, zI (s1.1 11 i0 8)] s1) (fun r2 s2 =>
      some (.inl (some (zI (-1))), s2)))
    else
    (zcI (zrun zP 14 [zR 11 i0] s1) (fun r3 s3 =>
      zcI (zrun zP 52 [zR 13 14, zI r3] s3) (fun r4 s4 =>
        if r4 = (-1) then
          (zcI (zrun zP 5 [zR 11 i0, zI 5, zI (s4.1 11 i0 8)] s4) (fun r5 s5 =>
            some (.inl (some (zI r4)), s5)))
          else
          (some (.inl (some (zI r4)), s4))))))) := (zrun_eq _ _ _).trans ((zun_eq zK_X1_tierThere [] 22 _ _).trans rfl)
set_option maxRecDepth 100000 in
theorem e_X1_isTimeThere (i0 : Nat) (σ : zSt) : zrun zP 16 [zR 11 i0] σ = (
  if (σ.1 11 i0 7) = 2 then
  (if (999 : Int32) < (σ.1 11 i0 11) then
    (zcI (zrun zP 5 [zR 11 i0, zI 2, zI (σ.1 11 i0 8)] σ) (fun r1 s1 =>
      if r1 = 0 then
        (some (.inl (some (zI 0)), s1))
        else
        (some (.inl (some (zI 1)), s1))))
    else
    (some (.inl (some (zI 1)), σ)))
  else
  (zcI (zrun zP 5 [zR 11 i0, zI 1, zI (σ.1 11 i0 8)] σ) (fun r2 s2 =>
    if r2 = 0 ∨ r2 = 1 then
      (some (.inl (some (zI r2)), s2))
      else
      (none)))) := (zrun_eq _ _ _).trans ((zun_eq zK_X1_isTimeThere [] 18 _ _).trans rfl)
set_option maxRecDepth 100000 in
theorem e_X1_kindThere (i0 : Nat) (σ : zSt) : zrun zP 17 [zR 11 i0] σ = (
  zcI (zrun zP 12 [zR 11 i0, zR 1 1] σ) (fun r1 s1 =>
  if r1 = 0 then
    (zcI (zrun zP 12 [zR 11 i0, zR 1 2] s1) (fun r2 s2 =>
      if r2 = 0 then
        (zcI (zrun zP 12 [zR 11 i0, zR 1 3] s2) (fun r3 s3 =>
          if r3 = 0 then
            (zcI (zrun zP 12 [zR 11 i0, zR 1 4] s3) (fun r4 s4 =>
              if r4 = 0 then
                (some (.inl (some (zI (-1))), s4))
                else
                (some (.inl (some (zI 3)), s4))))
            else
            (some (.inl (some (zI 2)), s3))))
        else
        (some (.inl (some (zI 1)), s2))))
    else
    (some (.inl (some (zI 0)), s1)))) := (zrun_eq _ _ _).trans ((zun_eq zK_X1_kindThere [] 20 _ _).trans rfl)
set_option maxRecDepth 100000 in
theorem e_X1_verbThere (i0 : Nat) (σ : zSt) : zrun zP 18 [zR 11 i0] σ = (
  zcI (zrun zP 12 [zR 11 i0, zR 1 5] σ) (fun r1 s1 =>
  if r1 = 0 then
    (zcI (zrun zP 12 [zR 11 i0, zR 1 6] s1) (fun r2 s2 =>
      if r2 = 0 then
        (zcI (zrun zP 12 [zR 11 i0, zR 1 7] s2) (fun r3 s3 =>
          if r3 = 0 then
            (zcI (zrun zP 12 [zR 11 i0, zR 1 8] s3) (fun r4 s4 =>
              if r4 = 0 then
                (some (.inl (some (zI (-1))), s4))
                else
                (some (.inl (some (zI 4)), s4))))
            else
            (some (.inl (some (zI 3)), s3))))
        else
        (some (.inl (some (zI 2)), s2))))
    else
    (some (.inl (some (zI 1)), s1)))) := (zrun_eq _ _ _).trans ((zun_eq zK_X1_verbThere [] 20 _ _).trans rfl)
set_option maxRecDepth 100000 in
theorem e_X1_readTierLine (i0 : Nat) (σ : zSt) : zrun zP 19 [zR 11 i0] σ = (
  if (σ.1 13 14 0) < 6 then
  (zcV (zrun zP 6 [zR 11 i0] σ) (fun s1 =>
    zcI (zrun zP 13 [zR 11 i0, zI 6] s1) (fun r2 s2 =>
      if r2 = 0 then
        (zcI (zrun zP 5 [zR 11 i0, zI 1, zI (s2.1 11 i0 8)] s2) (fun r3 s3 =>
          if r3 = 0 ∨ r3 = 1 then
            (some (.inl (some (zI r3)), s3))
            else
            (none)))
        else
        (zcI (zrun zP 14 [zR 11 i0] s2) (fun r4 s4 =>
          zcI (zrun zP 52 [zR 13 14, zI r4] s4) (fun r5 s5 =>
            if r5 = (-1) then
              (zcV (zrun zP 6 [zR 11 i0] s5) (fun s6 =>
                zcI (zrun zP 17 [zR 11 i0] s6) (fun r7 s7 =>
                  if r7 = (-1) then
                    (zcI (zrun zP 5 [zR 11 i0, zI 1, zI (s7.1 11 i0 8)] s7) (fun r8 s8 =>
                      if r8 = 0 ∨ r8 = 1 then
                        (some (.inl (some (zI r8)), s8))
                        else
                        (none)))
                    else
                    (zcV (zrun zP 6 [zR 11 i0] s7) (fun s9 =>
                      if r7 = 0 then
                        (zcV (zrun zP 56 [zR 13 14, zI r4, zI r7, zI (-1)] s9) (fun s10 =>
                          some (.inl (some (zI 1)), s10)))
                        else
                        (if r7 = 3 then
                          (if (s9.1 11 i0 7) = 1 then
                            (zcI (zrun zP 20 [zR 11 i0, zI r4, zI r7] s9) (fun r11 s11 =>
                              if r11 = 0 ∨ r11 = 1 then
                                (some (.inl (some (zI r11)), s11))
                                else
                                (none)))
                            else
                            (zcV (zrun zP 56 [zR 13 14, zI r4, zI r7, zI (-1)] s9) (fun s12 =>
                              some (.inl (some (zI 1)), s12))))
                          else
                          (zcI (zrun zP 20 [zR 11 i0, zI r4, zI r7] s9) (fun r13 s13 =>
                            if r13 = 0 ∨ r13 = 1 then
                              (some (.inl (some (zI r13)), s13))
                              else
                              (none)))))))))
              else
              (zcI (zrun zP 5 [zR 11 i0, zI 4, zI (s5.1 11 i0 8)] s5) (fun r14 s14 =>
                if r14 = 0 ∨ r14 = 1 then
                  (some (.inl (some (zI r14)), s14))
                  else
                  (none)))))))))
  else
  (zcI (zrun zP 5 [zR 11 i0, zI 3, zI (σ.1 11 i0 8)] σ) (fun r15 s15 =>
    if r15 = 0 ∨ r15 = 1 then
      (some (.inl (some (zI r15)), s15))
      else
      (none)))) := (zrun_eq _ _ _).trans ((zun_eq zK_X1_readTierLine [] 48 _ _).trans rfl)
set_option maxRecDepth 100000 in
theorem e_X1_readParent (i0 : Nat) (x1 : Int32) (x2 : Int32) (σ : zSt) : zrun zP 20 [zR 11 i0, zI x1, zI x2] σ = (
  zcI (zrun zP 15 [zR 11 i0] σ) (fun r1 s1 =>
  if r1 = (-1) then
    (some (.inl (some (zI 0)), s1))
    else
    (if r1 < 0 ∨ 6 ≤ Int32.toNatClampNeg r1 then
      (none)
      else
      (if (s1.1 12 (6 * 14 + Int32.toNatClampNeg r1) 1) = 3 then
        (zcI (zrun zP 5 [zR 11 i0, zI 5, zI (s1.1 11 i0 8)] s1) (fun r2 s2 =>
          if r2 = 0 ∨ r2 = 1 then
            (some (.inl (some (zI r2)), s2))
            else
            (none)))
        else
        (zcV (zrun zP 56 [zR 13 14, zI x1, zI x2, zI r1] s1) (fun s3 =>
          zcV (zrun zP 6 [zR 11 i0] s3) (fun s4 =>
            some (.inl (some (zI 1)), s4)))))))) := (zrun_eq _ _ _).trans ((zun_eq zK_X1_readParent [] 25 _ _).trans rfl)
set_option maxRecDepth 100000 in
theorem e_X1_readMarkLine (i0 : Nat) (σ : zSt) : zrun zP 21 [zR 11 i0] σ = (
  zcI (zrun zP 18 [zR 11 i0] σ) (fun r1 s1 =>
  if r1 = (-1) then
    (zcI (zrun zP 5 [zR 11 i0, zI 1, zI (s1.1 11 i0 8)] s1) (fun r2 s2 =>
      if r2 = 0 ∨ r2 = 1 then
        (some (.inl (some (zI r2)), s2))
        else
        (none)))
    else
    (zcV (zrun zP 6 [zR 11 i0] s1) (fun s3 =>
      zcI (zrun zP 15 [zR 11 i0] s3) (fun r4 s4 =>
        if r4 = (-1) then
          (some (.inl (some (zI 0)), s4))
          else
          (zcV (zrun zP 6 [zR 11 i0] s4) (fun s5 =>
            zcI (zrun zP 16 [zR 11 i0] s5) (fun r6 s6 =>
              if r6 = 0 then
                (some (.inl (some (zI 0)), s6))
                else
                (zcV (zrun zP 6 [zR 11 i0] s6) (fun s7 =>
                  if r1 = 1 then
                    (zcI (zrun zP 16 [zR 11 i0] s7) (fun r8 s8 =>
                      if r8 = 0 then
                        (some (.inl (some (zI 0)), s8))
                        else
                        (if (s6.1 11 i0 11) < (s8.1 11 i0 11) then
                          (zcV (zrun zP 6 [zR 11 i0] s8) (fun s9 =>
                            zcI (zrun zP 22 [zR 11 i0, zI r1, zI r4, zI (s6.1 11 i0 11), zI (s8.1 11 i0 11)] s9) (fun r10 s10 =>
                              if r10 = 0 then
                                (zcI (zrun zP 23 [zR 11 i0, zI r1, zI r4, zI (s6.1 11 i0 11), zI (s8.1 11 i0 11)] s10) (fun r11 s11 =>
                                  zcI (zrun zP 24 [zR 11 i0, zI r1, zI r4, zI r11] s11) (fun r12 s12 =>
                                    if r12 = 0 ∨ r12 = 1 then
                                      (some (.inl (some (zI r12)), s12))
                                      else
                                      (none))))
                                else
                                (zcI (zrun zP 5 [zR 11 i0, zI r10, zI (s4.1 11 i0 8)] s10) (fun r13 s13 =>
                                  if r13 = 0 ∨ r13 = 1 then
                                    (some (.inl (some (zI r13)), s13))
                                    else
                                    (none))))))
                          else
                          (zcI (zrun zP 5 [zR 11 i0, zI 2, zI (s8.1 11 i0 8)] s8) (fun r14 s14 =>
                            if r14 = 0 ∨ r14 = 1 then
                              (some (.inl (some (zI r14)), s14))
                              else
                              (none))))))
                    else
                    (zcI (zrun zP 22 [zR 11 i0, zI r1, zI r4, zI (s6.1 11 i0 11), zI (s6.1 11 i0 11)] s7) (fun r15 s15 =>
                      if r15 = 0 then
                        (zcI (zrun zP 23 [zR 11 i0, zI r1, zI r4, zI (s6.1 11 i0 11), zI (s6.1 11 i0 11)] s15) (fun r16 s16 =>
                          zcI (zrun zP 24 [zR 11 i0, zI r1, zI r4, zI r16] s16) (fun r17 s17 =>
                            if r17 = 0 ∨ r17 = 1 then
                              (some (.inl (some (zI r17)), s17))
                              else
                              (none))))
                        else
                        (zcI (zrun zP 5 [zR 11 i0, zI r15, zI (s4.1 11 i0 8)] s15) (fun r18 s18 =>
                          if r18 = 0 ∨ r18 = 1 then
                            (some (.inl (some (zI r18)), s18))
                            else
                            (none))))))))))))))) := (zrun_eq _ _ _).trans ((zun_eq zK_X1_readMarkLine [] 65 _ _).trans rfl)
set_option maxRecDepth 100000 in
theorem e_X1_faultOf (i0 : Nat) (x1 : Int32) (x2 : Int32) (x3 : Int32) (x4 : Int32) (σ : zSt) : zrun zP 22 [zR 11 i0, zI x1, zI x2, zI x3, zI x4] σ = (
  if x1 = 1 then
  (zcI (zrun zP 63 [zR 13 14, zI x2, zI x3, zI x4] σ) (fun r1 s1 =>
    zcI (zrun zP 64 [zR 13 14, zI x2] s1) (fun r2 s2 =>
      if r1 = 0 then
        (some (.inl (some (zI 6)), s2))
        else
        (if r2 = 0 then
          (some (.inl (some (zI 3)), s2))
          else
          (some (.inl (some (zI 0)), s2))))))
  else
  (if x1 = 2 then
    (zcI (zrun zP 66 [zR 13 14, zI x2, zI x3] σ) (fun r3 s3 =>
      if x2 < 0 ∨ 6 ≤ Int32.toNatClampNeg x2 then
        (none)
        else
        (zcI (zrun zP 26 [zR 12 (6 * 14 + Int32.toNatClampNeg x2)] s3) (fun r4 s4 =>
          if r4 = 0 then
            (if r3 = 0 then
              (some (.inl (some (zI 6)), s4))
              else
              (if (1 : Int32) = 0 then
                (some (.inl (some (zI 3)), s4))
                else
                (some (.inl (some (zI 0)), s4))))
            else
            (if r3 = 0 then
              (some (.inl (some (zI 6)), s4))
              else
              (if (0 : Int32) = 0 then
                (some (.inl (some (zI 3)), s4))
                else
                (some (.inl (some (zI 0)), s4))))))))
    else
    (if x1 = 3 then
      (zcI (zrun zP 72 [zR 13 14, zI x2, zI x3] σ) (fun r5 s5 =>
        zcI (zrun zP 73 [zR 13 14, zI x2, zI x3] s5) (fun r6 s6 =>
          if r5 = 0 then
            (some (.inl (some (zI 6)), s6))
            else
            (if r6 = 0 then
              (some (.inl (some (zI 3)), s6))
              else
              (some (.inl (some (zI 0)), s6))))))
      else
      (if x2 < 0 ∨ 6 ≤ Int32.toNatClampNeg x2 then
        (none)
        else
        (zcI (zrun zP 40 [zR 12 (6 * 14 + Int32.toNatClampNeg x2), zI x3] σ) (fun r7 s7 =>
          if r7 = (-1) then
            (if (0 : Int32) = 0 then
              (some (.inl (some (zI 6)), s7))
              else
              (if (1 : Int32) = 0 then
                (some (.inl (some (zI 3)), s7))
                else
                (some (.inl (some (zI 0)), s7))))
            else
            (if (1 : Int32) = 0 then
              (some (.inl (some (zI 6)), s7))
              else
              (if (1 : Int32) = 0 then
                (some (.inl (some (zI 3)), s7))
                else
                (some (.inl (some (zI 0)), s7)))))))))) := (zrun_eq _ _ _).trans ((zun_eq zK_X1_faultOf [] 33 _ _).trans rfl)
set_option maxRecDepth 100000 in
theorem e_X1_carryOut (i0 : Nat) (x1 : Int32) (x2 : Int32) (x3 : Int32) (x4 : Int32) (σ : zSt) : zrun zP 23 [zR 11 i0, zI x1, zI x2, zI x3, zI x4] σ = (
  if x1 = 1 then
  (zcI (zrun zP 65 [zR 13 14, zI x2, zI x3, zI x4] σ) (fun r1 s1 =>
    some (.inl (some (zI r1)), s1)))
  else
  (if x1 = 2 then
    (if x2 < 0 ∨ 6 ≤ Int32.toNatClampNeg x2 then
      (none)
      else
      (zcI (zrun zP 30 [zR 12 (6 * 14 + Int32.toNatClampNeg x2), zI x3, zI x3, zI 0] σ) (fun r2 s2 =>
        some (.inl (some (zI r2)), s2))))
    else
    (if x1 = 3 then
      (zcI (zrun zP 74 [zR 13 14, zI x2, zI x3] σ) (fun r3 s3 =>
        if x2 < 0 ∨ 6 ≤ Int32.toNatClampNeg x2 then
          (none)
          else
          (zcI (zrun zP 40 [zR 12 (6 * 14 + Int32.toNatClampNeg x2), zI x3] s3) (fun r4 s4 =>
            some (.inl (some (zI r4)), s4)))))
      else
      (if x2 < 0 ∨ 6 ≤ Int32.toNatClampNeg x2 then
        (none)
        else
        (zcI (zrun zP 40 [zR 12 (6 * 14 + Int32.toNatClampNeg x2), zI x3] σ) (fun r5 s5 =>
          some (.inl (some (zI r5)), s5))))))) := (zrun_eq _ _ _).trans ((zun_eq zK_X1_carryOut [] 24 _ _).trans rfl)
set_option maxRecDepth 100000 in
theorem e_X1_readLabel (i0 : Nat) (x1 : Int32) (x2 : Int32) (x3 : Int32) (σ : zSt) : zrun zP 24 [zR 11 i0, zI x1, zI x2, zI x3] σ = (
  if (σ.1 11 i0 7) = 1 then
  (zcI (zrun zP 13 [zR 11 i0, zI 4] σ) (fun r1 s1 =>
    if r1 = 0 then
      (zcI (zrun zP 5 [zR 11 i0, zI 1, zI (s1.1 11 i0 8)] s1) (fun r2 s2 =>
        if r2 = 0 ∨ r2 = 1 then
          (some (.inl (some (zI r2)), s2))
          else
          (none)))
      else
      (if x2 < 0 ∨ 6 ≤ Int32.toNatClampNeg x2 then
        (none)
        else
        (zcI (zrun zP 27 [zR 12 (6 * 14 + Int32.toNatClampNeg x2), zI x3] s1) (fun r3 s3 =>
          if r3 = 0 then
            (zcV (zrun zP 6 [zR 11 i0] s3) (fun s4 =>
              some (.inl (some (zI 1)), s4)))
            else
            (if x2 < 0 ∨ 6 ≤ Int32.toNatClampNeg x2 then
              (none)
              else
              (if x3 < 0 ∨ 40 ≤ Int32.toNatClampNeg x3 then
                (none)
                else
                (zcV (zrun zP 6 [zR 11 i0] (zms s3.1 22 (6 * 14 + Int32.toNatClampNeg x2) (Int32.toNatClampNeg x3) (s3.1 11 i0 10), s3.2)) (fun s5 =>
                  some (.inl (some (zI 1)), s5))))))))))
  else
  (if x1 = 4 then
    (zcI (zrun zP 13 [zR 11 i0, zI 4] σ) (fun r6 s6 =>
      if r6 = 0 then
        (zcI (zrun zP 5 [zR 11 i0, zI 1, zI (s6.1 11 i0 8)] s6) (fun r7 s7 =>
          if r7 = 0 ∨ r7 = 1 then
            (some (.inl (some (zI r7)), s7))
            else
            (none)))
        else
        (if x2 < 0 ∨ 6 ≤ Int32.toNatClampNeg x2 then
          (none)
          else
          (zcI (zrun zP 27 [zR 12 (6 * 14 + Int32.toNatClampNeg x2), zI x3] s6) (fun r8 s8 =>
            if r8 = 0 then
              (zcV (zrun zP 6 [zR 11 i0] s8) (fun s9 =>
                some (.inl (some (zI 1)), s9)))
              else
              (if x2 < 0 ∨ 6 ≤ Int32.toNatClampNeg x2 then
                (none)
                else
                (if x3 < 0 ∨ 40 ≤ Int32.toNatClampNeg x3 then
                  (none)
                  else
                  (zcV (zrun zP 6 [zR 11 i0] (zms s8.1 22 (6 * 14 + Int32.toNatClampNeg x2) (Int32.toNatClampNeg x3) (s8.1 11 i0 10), s8.2)) (fun s10 =>
                    some (.inl (some (zI 1)), s10))))))))))
    else
    (some (.inl (some (zI 1)), σ)))) := (zrun_eq _ _ _).trans ((zun_eq zK_X1_readLabel [] 34 _ _).trans rfl)
set_option maxRecDepth 100000 in
theorem e_X2_copyFrom (i0 : Nat) (i1 : Nat) (σ : zSt) : zrun zP 25 [zR 12 i0, zR 12 i1] σ = (
  if ¬ 0 < 0 ∧ ¬ 0 < 0 ∧ 0 < 40 ∧ Int32.toNatClampNeg 0 + Int32.toNatClampNeg 40 ≤ 40 ∧ Int32.toNatClampNeg 0 + Int32.toNatClampNeg 40 ≤ 40 then
  (if ¬ 0 < 0 ∧ ¬ 0 < 0 ∧ 0 < 40 ∧ Int32.toNatClampNeg 0 + Int32.toNatClampNeg 40 ≤ 40 ∧ Int32.toNatClampNeg 0 + Int32.toNatClampNeg 40 ≤ 40 then
    (if ¬ 0 < 0 ∧ ¬ 0 < 0 ∧ 0 < 40 ∧ Int32.toNatClampNeg 0 + Int32.toNatClampNeg 40 ≤ 40 ∧ Int32.toNatClampNeg 0 + Int32.toNatClampNeg 40 ≤ 40 then
      (some (.inl none, (zmr (zmr (zmr (zms (zms (zms (zms (zms (zms σ.1 12 i0 0 (σ.1 12 i1 0)) 12 i0 1 ((zms σ.1 12 i0 0 (σ.1 12 i1 0)) 12 i1 1)) 12 i0 2 ((zms (zms σ.1 12 i0 0 (σ.1 12 i1 0)) 12 i0 1 ((zms σ.1 12 i0 0 (σ.1 12 i1 0)) 12 i1 1)) 12 i1 2)) 12 i0 3 ((zms (zms (zms σ.1 12 i0 0 (σ.1 12 i1 0)) 12 i0 1 ((zms σ.1 12 i0 0 (σ.1 12 i1 0)) 12 i1 1)) 12 i0 2 ((zms (zms σ.1 12 i0 0 (σ.1 12 i1 0)) 12 i0 1 ((zms σ.1 12 i0 0 (σ.1 12 i1 0)) 12 i1 1)) 12 i1 2)) 12 i1 3)) 12 i0 4 ((zms (zms (zms (zms σ.1 12 i0 0 (σ.1 12 i1 0)) 12 i0 1 ((zms σ.1 12 i0 0 (σ.1 12 i1 0)) 12 i1 1)) 12 i0 2 ((zms (zms σ.1 12 i0 0 (σ.1 12 i1 0)) 12 i0 1 ((zms σ.1 12 i0 0 (σ.1 12 i1 0)) 12 i1 1)) 12 i1 2)) 12 i0 3 ((zms (zms (zms σ.1 12 i0 0 (σ.1 12 i1 0)) 12 i0 1 ((zms σ.1 12 i0 0 (σ.1 12 i1 0)) 12 i1 1)) 12 i0 2 ((zms (zms σ.1 12 i0 0 (σ.1 12 i1 0)) 12 i0 1 ((zms σ.1 12 i0 0 (σ.1 12 i1 0)) 12 i1 1)) 12 i1 2)) 12 i1 3)) 12 i1 4)) 12 i0 5 ((zms (zms (zms (zms (zms σ.1 12 i0 0 (σ.1 12 i1 0)) 12 i0 1 ((zms σ.1 12 i0 0 (σ.1 12 i1 0)) 12 i1 1)) 12 i0 2 ((zms (zms σ.1 12 i0 0 (σ.1 12 i1 0)) 12 i0 1 ((zms σ.1 12 i0 0 (σ.1 12 i1 0)) 12 i1 1)) 12 i1 2)) 12 i0 3 ((zms (zms (zms σ.1 12 i0 0 (σ.1 12 i1 0)) 12 i0 1 ((zms σ.1 12 i0 0 (σ.1 12 i1 0)) 12 i1 1)) 12 i0 2 ((zms (zms σ.1 12 i0 0 (σ.1 12 i1 0)) 12 i0 1 ((zms σ.1 12 i0 0 (σ.1 12 i1 0)) 12 i1 1)) 12 i1 2)) 12 i1 3)) 12 i0 4 ((zms (zms (zms (zms σ.1 12 i0 0 (σ.1 12 i1 0)) 12 i0 1 ((zms σ.1 12 i0 0 (σ.1 12 i1 0)) 12 i1 1)) 12 i0 2 ((zms (zms σ.1 12 i0 0 (σ.1 12 i1 0)) 12 i0 1 ((zms σ.1 12 i0 0 (σ.1 12 i1 0)) 12 i1 1)) 12 i1 2)) 12 i0 3 ((zms (zms (zms σ.1 12 i0 0 (σ.1 12 i1 0)) 12 i0 1 ((zms σ.1 12 i0 0 (σ.1 12 i1 0)) 12 i1 1)) 12 i0 2 ((zms (zms σ.1 12 i0 0 (σ.1 12 i1 0)) 12 i0 1 ((zms σ.1 12 i0 0 (σ.1 12 i1 0)) 12 i1 1)) 12 i1 2)) 12 i1 3)) 12 i1 4)) 12 i1 5)) 20 i0 (va_cpy (σ.1 20 i1) (σ.1 20 i0) (Int32.toNatClampNeg 0) (Int32.toNatClampNeg 0) (Int32.toNatClampNeg 40))) 21 i0 (va_cpy (σ.1 21 i1) (σ.1 21 i0) (Int32.toNatClampNeg 0) (Int32.toNatClampNeg 0) (Int32.toNatClampNeg 40))) 22 i0 (va_cpy (σ.1 22 i1) (σ.1 22 i0) (Int32.toNatClampNeg 0) (Int32.toNatClampNeg 0) (Int32.toNatClampNeg 40)), σ.2)))
      else
      (none))
    else
    (none))
  else
  (none)) := (zrun_eq _ _ _).trans ((zun_eq zK_X2_copyFrom [] 50 _ _).trans rfl)
set_option maxRecDepth 100000 in
theorem e_X2_isFull (i0 : Nat) (σ : zSt) : zrun zP 26 [zR 12 i0] σ = (
  if (σ.1 12 i0 5) < 40 then
  (some (.inl (some (zI 0)), σ))
  else
  (some (.inl (some (zI 1)), σ))) := (zrun_eq _ _ _).trans ((zun_eq zK_X2_isFull [] 8 _ _).trans rfl)
set_option maxRecDepth 100000 in
theorem e_X2_hasMark (i0 : Nat) (x1 : Int32) (σ : zSt) : zrun zP 27 [zR 12 i0, zI x1] σ = (
  if x1 < 0 then
  (some (.inl (some (zI 0)), σ))
  else
  (if x1 < (σ.1 12 i0 5) then
    (some (.inl (some (zI 1)), σ))
    else
    (some (.inl (some (zI 0)), σ)))) := (zrun_eq _ _ _).trans ((zun_eq zK_X2_hasMark [] 10 _ _).trans rfl)
set_option maxRecDepth 100000 in
theorem e_X2_length (i0 : Nat) (x1 : Int32) (σ : zSt) : zrun zP 28 [zR 12 i0, zI x1] σ = (
  if x1 < 0 ∨ 40 ≤ Int32.toNatClampNeg x1 then
  (none)
  else
  (if x1 < 0 ∨ 40 ≤ Int32.toNatClampNeg x1 then
    (none)
    else
    (some (.inl (some (zI ((σ.1 21 i0 (Int32.toNatClampNeg x1)) - (σ.1 20 i0 (Int32.toNatClampNeg x1))))), σ)))) := (zrun_eq _ _ _).trans ((zun_eq zK_X2_length [] 11 _ _).trans rfl)
set_option maxRecDepth 100000 in
theorem e_X2_wholeLength_4 (i0 : Nat) (x1 : Int32) (x2 : Int32) (σ : zSt) : zX zP zK_X2_wholeLength (4, [zR 12 i0, zI x1, zI x2], []) σ = (
  if x2 < (σ.1 12 i0 5) then
  (zcI (zrun zP 28 [zR 12 i0, zI x2] σ) (fun r1 s1 =>
    zX zP zK_X2_wholeLength (4, [zR 12 i0, zI (x1 + r1), zI (x2 + 1)], []) s1))
  else
  (some (.inl (some (zI x1)), σ))) := (zun_eq zK_X2_wholeLength [4] 13 _ _).trans rfl
set_option maxRecDepth 100000 in
theorem e_X2_wholeLength (i0 : Nat) (σ : zSt) : zrun zP 29 [zR 12 i0] σ = (
  zX zP zK_X2_wholeLength (4, [zR 12 i0, zI 0, zI 0], []) σ) := (zrun_eq _ _ _).trans ((zun_eq zK_X2_wholeLength [4] 5 _ _).trans rfl)
set_option maxRecDepth 100000 in
theorem e_X2_insert_17 (i0 : Nat) (x1 : Int32) (x2 : Int32) (x3 : Int32) (x4 : Int32) (σ : zSt) : zX zP zK_X2_insert (17, [zR 12 i0, zI x1, zI x2, zI x3, zI x4], []) σ = (
  if (0 : Int32) < x4 then
  (if (x4 - 1) < 0 ∨ 40 ≤ Int32.toNatClampNeg (x4 - 1) then
    (none)
    else
    (if x1 < (σ.1 20 i0 (Int32.toNatClampNeg (x4 - 1))) then
      (if (x4 - 1) < 0 ∨ 40 ≤ Int32.toNatClampNeg (x4 - 1) then
        (none)
        else
        (if x4 < 0 ∨ 40 ≤ Int32.toNatClampNeg x4 then
          (none)
          else
          (if (x4 - 1) < 0 ∨ 40 ≤ Int32.toNatClampNeg (x4 - 1) then
            (none)
            else
            (if x4 < 0 ∨ 40 ≤ Int32.toNatClampNeg x4 then
              (none)
              else
              (if (x4 - 1) < 0 ∨ 40 ≤ Int32.toNatClampNeg (x4 - 1) then
                (none)
                else
                (if x4 < 0 ∨ 40 ≤ Int32.toNatClampNeg x4 then
                  (none)
                  else
                  (zX zP zK_X2_insert (17, [zR 12 i0, zI x1, zI x2, zI x3, zI (x4 + (-1))], []) (zms (zms (zms σ.1 20 i0 (Int32.toNatClampNeg x4) (σ.1 20 i0 (Int32.toNatClampNeg (x4 - 1)))) 21 i0 (Int32.toNatClampNeg x4) (σ.1 21 i0 (Int32.toNatClampNeg (x4 - 1)))) 22 i0 (Int32.toNatClampNeg x4) (σ.1 22 i0 (Int32.toNatClampNeg (x4 - 1))), σ.2))))))))
      else
      (if x4 < 0 ∨ 40 ≤ Int32.toNatClampNeg x4 then
        (none)
        else
        (if x4 < 0 ∨ 40 ≤ Int32.toNatClampNeg x4 then
          (none)
          else
          (if x4 < 0 ∨ 40 ≤ Int32.toNatClampNeg x4 then
            (none)
            else
            (some (.inl (some (zI x4)), (zms (zms (zms (zms σ.1 20 i0 (Int32.toNatClampNeg x4) x1) 21 i0 (Int32.toNatClampNeg x4) x2) 22 i0 (Int32.toNatClampNeg x4) x3) 12 i0 5 ((σ.1 12 i0 5) + 1), σ.2))))))))
  else
  (if x4 < 0 ∨ 40 ≤ Int32.toNatClampNeg x4 then
    (none)
    else
    (if x4 < 0 ∨ 40 ≤ Int32.toNatClampNeg x4 then
      (none)
      else
      (if x4 < 0 ∨ 40 ≤ Int32.toNatClampNeg x4 then
        (none)
        else
        (some (.inl (some (zI x4)), (zms (zms (zms (zms σ.1 20 i0 (Int32.toNatClampNeg x4) x1) 21 i0 (Int32.toNatClampNeg x4) x2) 22 i0 (Int32.toNatClampNeg x4) x3) 12 i0 5 ((σ.1 12 i0 5) + 1), σ.2))))))) := (zun_eq zK_X2_insert [17] 43 _ _).trans rfl
set_option maxRecDepth 100000 in
theorem e_X2_insert (i0 : Nat) (x1 : Int32) (x2 : Int32) (x3 : Int32) (σ : zSt) : zrun zP 30 [zR 12 i0, zI x1, zI x2, zI x3] σ = (
  if (σ.1 12 i0 5) < 40 then
  (zX zP zK_X2_insert (17, [zR 12 i0, zI x1, zI x2, zI x3, zI (σ.1 12 i0 5)], []) σ)
  else
  (some (.inl (some (zI (-1))), σ))) := (zrun_eq _ _ _).trans ((zun_eq zK_X2_insert [17] 8 _ _).trans rfl)
set_option maxRecDepth 100000 in
theorem e_X2_remove_11 (i0 : Nat) (x1 : Int32) (x2 : Int32) (σ : zSt) : zX zP zK_X2_remove (11, [zR 12 i0, zI x1, zI x2], []) σ = (
  if (x2 + 1) < (σ.1 12 i0 5) then
  (if (x2 + 1) < 0 ∨ 40 ≤ Int32.toNatClampNeg (x2 + 1) then
    (none)
    else
    (if x2 < 0 ∨ 40 ≤ Int32.toNatClampNeg x2 then
      (none)
      else
      (if (x2 + 1) < 0 ∨ 40 ≤ Int32.toNatClampNeg (x2 + 1) then
        (none)
        else
        (if x2 < 0 ∨ 40 ≤ Int32.toNatClampNeg x2 then
          (none)
          else
          (if (x2 + 1) < 0 ∨ 40 ≤ Int32.toNatClampNeg (x2 + 1) then
            (none)
            else
            (if x2 < 0 ∨ 40 ≤ Int32.toNatClampNeg x2 then
              (none)
              else
              (zX zP zK_X2_remove (11, [zR 12 i0, zI x1, zI (x2 + 1)], []) (zms (zms (zms σ.1 20 i0 (Int32.toNatClampNeg x2) (σ.1 20 i0 (Int32.toNatClampNeg (x2 + 1)))) 21 i0 (Int32.toNatClampNeg x2) (σ.1 21 i0 (Int32.toNatClampNeg (x2 + 1)))) 22 i0 (Int32.toNatClampNeg x2) (σ.1 22 i0 (Int32.toNatClampNeg (x2 + 1))), σ.2))))))))
  else
  (some (.inl none, (zms σ.1 12 i0 5 ((σ.1 12 i0 5) - 1), σ.2)))) := (zun_eq zK_X2_remove [11] 39 _ _).trans rfl
set_option maxRecDepth 100000 in
theorem e_X2_remove (i0 : Nat) (x1 : Int32) (σ : zSt) : zrun zP 31 [zR 12 i0, zI x1] σ = (
  zcI (zrun zP 27 [zR 12 i0, zI x1] σ) (fun r1 s1 =>
  if r1 = 0 then
    (some (.inl none, s1))
    else
    (zX zP zK_X2_remove (11, [zR 12 i0, zI x1, zI x1], []) s1))) := (zrun_eq _ _ _).trans ((zun_eq zK_X2_remove [11] 7 _ _).trans rfl)
set_option maxRecDepth 100000 in
theorem e_X2_removeWithin_10 (i0 : Nat) (x1 : Int32) (x2 : Int32) (x3 : Int32) (x4 : Int32) (σ : zSt) : zX zP zK_X2_removeWithin (10, [zR 12 i0, zI x1, zI x2, zI x3, zI x4], []) σ = (
  if x4 < 0 then
  (some (.inl (some (zI x3)), σ))
  else
  (zcI (zrun zP 35 [zR 12 i0, zI x4, zI x1, zI x2] σ) (fun r1 s1 =>
    if r1 = 0 then
      (zX zP zK_X2_removeWithin (10, [zR 12 i0, zI x1, zI x2, zI x3, zI (x4 + (-1))], []) s1)
      else
      (zcV (zrun zP 31 [zR 12 i0, zI x4] s1) (fun s2 =>
        zX zP zK_X2_removeWithin (10, [zR 12 i0, zI x1, zI x2, zI (x3 + 1), zI (x4 + (-1))], []) s2))))) := (zun_eq zK_X2_removeWithin [10] 15 _ _).trans rfl
set_option maxRecDepth 100000 in
theorem e_X2_removeWithin (i0 : Nat) (x1 : Int32) (x2 : Int32) (σ : zSt) : zrun zP 32 [zR 12 i0, zI x1, zI x2] σ = (
  zX zP zK_X2_removeWithin (10, [zR 12 i0, zI x1, zI x2, zI 0, zI ((σ.1 12 i0 5) - 1)], []) σ) := (zrun_eq _ _ _).trans ((zun_eq zK_X2_removeWithin [10] 8 _ _).trans rfl)
set_option maxRecDepth 100000 in
theorem e_X2_cutMark (i0 : Nat) (x1 : Int32) (x2 : Int32) (σ : zSt) : zrun zP 33 [zR 12 i0, zI x1, zI x2] σ = (
  zcI (zrun zP 27 [zR 12 i0, zI x1] σ) (fun r1 s1 =>
  if r1 = 0 then
    (some (.inl none, s1))
    else
    (zcI (zrun zP 26 [zR 12 i0] s1) (fun r2 s2 =>
      if r2 = 0 then
        (if x1 < 0 ∨ 40 ≤ Int32.toNatClampNeg x1 then
          (none)
          else
          (if x1 < 0 ∨ 40 ≤ Int32.toNatClampNeg x1 then
            (none)
            else
            (if x1 < 0 ∨ 40 ≤ Int32.toNatClampNeg x1 then
              (none)
              else
              (zcI (zrun zP 30 [zR 12 i0, zI x2, zI (s2.1 21 i0 (Int32.toNatClampNeg x1)), zI (s2.1 22 i0 (Int32.toNatClampNeg x1))] (zms s2.1 21 i0 (Int32.toNatClampNeg x1) x2, s2.2)) (fun r3 s3 =>
                some (.inl none, s3))))))
        else
        (some (.inl none, s2)))))) := (zrun_eq _ _ _).trans ((zun_eq zK_X2_cutMark [] 28 _ _).trans rfl)
set_option maxRecDepth 100000 in
theorem e_X2_joinNext (i0 : Nat) (x1 : Int32) (σ : zSt) : zrun zP 34 [zR 12 i0, zI x1] σ = (
  zcI (zrun zP 27 [zR 12 i0, zI x1] σ) (fun r1 s1 =>
  if r1 = 0 then
    (some (.inl none, s1))
    else
    (zcI (zrun zP 27 [zR 12 i0, zI (x1 + 1)] s1) (fun r2 s2 =>
      if r2 = 0 then
        (some (.inl none, s2))
        else
        (if (x1 + 1) < 0 ∨ 40 ≤ Int32.toNatClampNeg (x1 + 1) then
          (none)
          else
          (if x1 < 0 ∨ 40 ≤ Int32.toNatClampNeg x1 then
            (none)
            else
            (zcV (zrun zP 31 [zR 12 i0, zI (x1 + 1)] (zms s2.1 21 i0 (Int32.toNatClampNeg x1) (s2.1 21 i0 (Int32.toNatClampNeg (x1 + 1))), s2.2)) (fun s3 =>
              some (.inl none, s3))))))))) := (zrun_eq _ _ _).trans ((zun_eq zK_X2_joinNext [] 27 _ _).trans rfl)
set_option maxRecDepth 100000 in
theorem e_X2_liesIn (i0 : Nat) (x1 : Int32) (x2 : Int32) (x3 : Int32) (σ : zSt) : zrun zP 35 [zR 12 i0, zI x1, zI x2, zI x3] σ = (
  if x1 < 0 ∨ 40 ≤ Int32.toNatClampNeg x1 then
  (none)
  else
  (if (σ.1 20 i0 (Int32.toNatClampNeg x1)) < x2 then
    (some (.inl (some (zI 0)), σ))
    else
    (if x1 < 0 ∨ 40 ≤ Int32.toNatClampNeg x1 then
      (none)
      else
      (if x3 < (σ.1 21 i0 (Int32.toNatClampNeg x1)) then
        (some (.inl (some (zI 0)), σ))
        else
        (some (.inl (some (zI 1)), σ)))))) := (zrun_eq _ _ _).trans ((zun_eq zK_X2_liesIn [] 16 _ _).trans rfl)
set_option maxRecDepth 100000 in
theorem e_X2_isOver (i0 : Nat) (x1 : Int32) (x2 : Int32) (x3 : Int32) (σ : zSt) : zrun zP 36 [zR 12 i0, zI x1, zI x2, zI x3] σ = (
  if (σ.1 12 i0 1) = 3 then
  (if x1 < 0 ∨ 40 ≤ Int32.toNatClampNeg x1 then
    (none)
    else
    (if (σ.1 20 i0 (Int32.toNatClampNeg x1)) < x2 then
      (some (.inl (some (zI 0)), σ))
      else
      (if x1 < 0 ∨ 40 ≤ Int32.toNatClampNeg x1 then
        (none)
        else
        (if (σ.1 20 i0 (Int32.toNatClampNeg x1)) < x3 then
          (some (.inl (some (zI 1)), σ))
          else
          (some (.inl (some (zI 0)), σ))))))
  else
  (if x1 < 0 ∨ 40 ≤ Int32.toNatClampNeg x1 then
    (none)
    else
    (if (σ.1 20 i0 (Int32.toNatClampNeg x1)) < x3 then
      (if x1 < 0 ∨ 40 ≤ Int32.toNatClampNeg x1 then
        (none)
        else
        (if x2 < (σ.1 21 i0 (Int32.toNatClampNeg x1)) then
          (some (.inl (some (zI 1)), σ))
          else
          (some (.inl (some (zI 0)), σ))))
      else
      (some (.inl (some (zI 0)), σ))))) := (zrun_eq _ _ _).trans ((zun_eq zK_X2_isOver [] 20 _ _).trans rfl)
set_option maxRecDepth 100000 in
theorem e_X2_hasOver_2 (i0 : Nat) (x1 : Int32) (x2 : Int32) (x3 : Int32) (σ : zSt) : zX zP zK_X2_hasOver (2, [zR 12 i0, zI x1, zI x2, zI x3], []) σ = (
  if x3 < (σ.1 12 i0 5) then
  (zcI (zrun zP 36 [zR 12 i0, zI x3, zI x1, zI x2] σ) (fun r1 s1 =>
    if r1 = 0 then
      (zX zP zK_X2_hasOver (2, [zR 12 i0, zI x1, zI x2, zI (x3 + 1)], []) s1)
      else
      (some (.inl (some (zI 1)), s1))))
  else
  (some (.inl (some (zI 0)), σ))) := (zun_eq zK_X2_hasOver [2] 13 _ _).trans rfl
set_option maxRecDepth 100000 in
theorem e_X2_hasOver (i0 : Nat) (x1 : Int32) (x2 : Int32) (σ : zSt) : zrun zP 37 [zR 12 i0, zI x1, zI x2] σ = (
  zX zP zK_X2_hasOver (2, [zR 12 i0, zI x1, zI x2, zI 0], []) σ) := (zrun_eq _ _ _).trans ((zun_eq zK_X2_hasOver [2] 3 _ _).trans rfl)
set_option maxRecDepth 100000 in
theorem e_X2_shared (i0 : Nat) (x1 : Int32) (x2 : Int32) (x3 : Int32) (σ : zSt) : zrun zP 38 [zR 12 i0, zI x1, zI x2, zI x3] σ = (
  if x1 < 0 ∨ 40 ≤ Int32.toNatClampNeg x1 then
  (none)
  else
  (if x1 < 0 ∨ 40 ≤ Int32.toNatClampNeg x1 then
    (none)
    else
    (some (.inl (some (zI (if 0 < ((if x3 < (σ.1 21 i0 (Int32.toNatClampNeg x1)) then x3 else (σ.1 21 i0 (Int32.toNatClampNeg x1))) - (if (σ.1 20 i0 (Int32.toNatClampNeg x1)) < x2 then x2 else (σ.1 20 i0 (Int32.toNatClampNeg x1)))) then ((if x3 < (σ.1 21 i0 (Int32.toNatClampNeg x1)) then x3 else (σ.1 21 i0 (Int32.toNatClampNeg x1))) - (if (σ.1 20 i0 (Int32.toNatClampNeg x1)) < x2 then x2 else (σ.1 20 i0 (Int32.toNatClampNeg x1)))) else 0))), σ)))) := (zrun_eq _ _ _).trans ((zun_eq zK_X2_shared [] 17 _ _).trans rfl)
set_option maxRecDepth 100000 in
theorem e_X2_sharedBeside_5 (i0 : Nat) (i1 : Nat) (x2 : Int32) (x3 : Int32) (x4 : Int32) (v5 : zAV) (σ : zSt) : zX zP zK_X2_sharedBeside (5, [zR 12 i0, zR 12 i1, zI x2, zI x3, zI x4, v5], []) σ = (
  if x4 < (σ.1 12 i0 5) then
  (zX zP zK_X2_sharedBeside (17, [zR 12 i0, zR 12 i1, zI x2, zI x3, zI x4, zI 0], []) σ)
  else
  (some (.inl (some (zI x3)), σ))) := (zun_eq zK_X2_sharedBeside [5, 17] 7 _ _).trans rfl
set_option maxRecDepth 100000 in
theorem e_X2_sharedBeside_17 (i0 : Nat) (i1 : Nat) (x2 : Int32) (x3 : Int32) (x4 : Int32) (x5 : Int32) (σ : zSt) : zX zP zK_X2_sharedBeside (17, [zR 12 i0, zR 12 i1, zI x2, zI x3, zI x4, zI x5], []) σ = (
  if x5 < (σ.1 12 i1 5) then
  (if x4 < 0 ∨ 40 ≤ Int32.toNatClampNeg x4 then
    (none)
    else
    (if x5 < 0 ∨ 40 ≤ Int32.toNatClampNeg x5 then
      (none)
      else
      (if (σ.1 22 i0 (Int32.toNatClampNeg x4)) = (σ.1 22 i1 (Int32.toNatClampNeg x5)) then
        (if (1 : Int32) = x2 then
          (if x5 < 0 ∨ 40 ≤ Int32.toNatClampNeg x5 then
            (none)
            else
            (if x5 < 0 ∨ 40 ≤ Int32.toNatClampNeg x5 then
              (none)
              else
              (zcI (zrun zP 38 [zR 12 i0, zI x4, zI (σ.1 20 i1 (Int32.toNatClampNeg x5)), zI (σ.1 21 i1 (Int32.toNatClampNeg x5))] σ) (fun r1 s1 =>
                zX zP zK_X2_sharedBeside (17, [zR 12 i0, zR 12 i1, zI x2, zI (x3 + r1), zI x4, zI (x5 + 1)], []) s1))))
          else
          (zX zP zK_X2_sharedBeside (17, [zR 12 i0, zR 12 i1, zI x2, zI x3, zI x4, zI (x5 + 1)], []) σ))
        else
        (if (0 : Int32) = x2 then
          (if x5 < 0 ∨ 40 ≤ Int32.toNatClampNeg x5 then
            (none)
            else
            (if x5 < 0 ∨ 40 ≤ Int32.toNatClampNeg x5 then
              (none)
              else
              (zcI (zrun zP 38 [zR 12 i0, zI x4, zI (σ.1 20 i1 (Int32.toNatClampNeg x5)), zI (σ.1 21 i1 (Int32.toNatClampNeg x5))] σ) (fun r2 s2 =>
                zX zP zK_X2_sharedBeside (17, [zR 12 i0, zR 12 i1, zI x2, zI (x3 + r2), zI x4, zI (x5 + 1)], []) s2))))
          else
          (zX zP zK_X2_sharedBeside (17, [zR 12 i0, zR 12 i1, zI x2, zI x3, zI x4, zI (x5 + 1)], []) σ)))))
  else
  (zX zP zK_X2_sharedBeside (5, [zR 12 i0, zR 12 i1, zI x2, zI x3, zI (x4 + 1), zI x5], []) σ)) := (zun_eq zK_X2_sharedBeside [5, 17] 34 _ _).trans rfl
set_option maxRecDepth 100000 in
theorem e_X2_sharedBeside (i0 : Nat) (i1 : Nat) (x2 : Int32) (σ : zSt) : zrun zP 39 [zR 12 i0, zR 12 i1, zI x2] σ = (
  zX zP zK_X2_sharedBeside (5, [zR 12 i0, zR 12 i1, zI x2, zI 0, zI 0, zJunk], []) σ) := (zrun_eq _ _ _).trans ((zun_eq zK_X2_sharedBeside [5, 17] 5 _ _).trans rfl)
set_option maxRecDepth 100000 in
theorem e_X2_markAt_2 (i0 : Nat) (x1 : Int32) (x2 : Int32) (σ : zSt) : zX zP zK_X2_markAt (2, [zR 12 i0, zI x1, zI x2], []) σ = (
  if x2 < (σ.1 12 i0 5) then
  (if x2 < 0 ∨ 40 ≤ Int32.toNatClampNeg x2 then
    (none)
    else
    (if (σ.1 20 i0 (Int32.toNatClampNeg x2)) = x1 then
      (some (.inl (some (zI x2)), σ))
      else
      (if x2 < 0 ∨ 40 ≤ Int32.toNatClampNeg x2 then
        (none)
        else
        (if (σ.1 20 i0 (Int32.toNatClampNeg x2)) < x1 then
          (if x2 < 0 ∨ 40 ≤ Int32.toNatClampNeg x2 then
            (none)
            else
            (if x1 < (σ.1 21 i0 (Int32.toNatClampNeg x2)) then
              (some (.inl (some (zI x2)), σ))
              else
              (zX zP zK_X2_markAt (2, [zR 12 i0, zI x1, zI (x2 + 1)], []) σ)))
          else
          (zX zP zK_X2_markAt (2, [zR 12 i0, zI x1, zI (x2 + 1)], []) σ)))))
  else
  (some (.inl (some (zI (-1))), σ))) := (zun_eq zK_X2_markAt [2] 25 _ _).trans rfl
set_option maxRecDepth 100000 in
theorem e_X2_markAt (i0 : Nat) (x1 : Int32) (σ : zSt) : zrun zP 40 [zR 12 i0, zI x1] σ = (
  zX zP zK_X2_markAt (2, [zR 12 i0, zI x1, zI 0], []) σ) := (zrun_eq _ _ _).trans ((zun_eq zK_X2_markAt [2] 3 _ _).trans rfl)
set_option maxRecDepth 100000 in
theorem e_X2_markInside_2 (i0 : Nat) (x1 : Int32) (x2 : Int32) (σ : zSt) : zX zP zK_X2_markInside (2, [zR 12 i0, zI x1, zI x2], []) σ = (
  if x2 < (σ.1 12 i0 5) then
  (if x2 < 0 ∨ 40 ≤ Int32.toNatClampNeg x2 then
    (none)
    else
    (if (σ.1 20 i0 (Int32.toNatClampNeg x2)) < x1 then
      (if x2 < 0 ∨ 40 ≤ Int32.toNatClampNeg x2 then
        (none)
        else
        (if x1 < (σ.1 21 i0 (Int32.toNatClampNeg x2)) then
          (some (.inl (some (zI x2)), σ))
          else
          (zX zP zK_X2_markInside (2, [zR 12 i0, zI x1, zI (x2 + 1)], []) σ)))
      else
      (zX zP zK_X2_markInside (2, [zR 12 i0, zI x1, zI (x2 + 1)], []) σ)))
  else
  (some (.inl (some (zI (-1))), σ))) := (zun_eq zK_X2_markInside [2] 19 _ _).trans rfl
set_option maxRecDepth 100000 in
theorem e_X2_markInside (i0 : Nat) (x1 : Int32) (σ : zSt) : zrun zP 41 [zR 12 i0, zI x1] σ = (
  zX zP zK_X2_markInside (2, [zR 12 i0, zI x1, zI 0], []) σ) := (zrun_eq _ _ _).trans ((zun_eq zK_X2_markInside [2] 3 _ _).trans rfl)
set_option maxRecDepth 100000 in
theorem e_X2_markAround_2 (i0 : Nat) (x1 : Int32) (x2 : Int32) (x3 : Int32) (σ : zSt) : zX zP zK_X2_markAround (2, [zR 12 i0, zI x1, zI x2, zI x3], []) σ = (
  if x3 < (σ.1 12 i0 5) then
  (if x3 < 0 ∨ 40 ≤ Int32.toNatClampNeg x3 then
    (none)
    else
    (if x1 < (σ.1 20 i0 (Int32.toNatClampNeg x3)) then
      (zX zP zK_X2_markAround (2, [zR 12 i0, zI x1, zI x2, zI (x3 + 1)], []) σ)
      else
      (if x3 < 0 ∨ 40 ≤ Int32.toNatClampNeg x3 then
        (none)
        else
        (if (σ.1 21 i0 (Int32.toNatClampNeg x3)) < x2 then
          (zX zP zK_X2_markAround (2, [zR 12 i0, zI x1, zI x2, zI (x3 + 1)], []) σ)
          else
          (some (.inl (some (zI x3)), σ))))))
  else
  (some (.inl (some (zI (-1))), σ))) := (zun_eq zK_X2_markAround [2] 19 _ _).trans rfl
set_option maxRecDepth 100000 in
theorem e_X2_markAround (i0 : Nat) (x1 : Int32) (x2 : Int32) (σ : zSt) : zrun zP 42 [zR 12 i0, zI x1, zI x2] σ = (
  zX zP zK_X2_markAround (2, [zR 12 i0, zI x1, zI x2, zI 0], []) σ) := (zrun_eq _ _ _).trans ((zun_eq zK_X2_markAround [2] 3 _ _).trans rfl)
set_option maxRecDepth 100000 in
theorem e_X2_labelOf_2 (i0 : Nat) (x1 : Int32) (x2 : Int32) (x3 : Int32) (σ : zSt) : zX zP zK_X2_labelOf (2, [zR 12 i0, zI x1, zI x2, zI x3], []) σ = (
  if x3 < (σ.1 12 i0 5) then
  (if x3 < 0 ∨ 40 ≤ Int32.toNatClampNeg x3 then
    (none)
    else
    (if (σ.1 20 i0 (Int32.toNatClampNeg x3)) = x1 then
      (if x3 < 0 ∨ 40 ≤ Int32.toNatClampNeg x3 then
        (none)
        else
        (if (σ.1 21 i0 (Int32.toNatClampNeg x3)) = x2 then
          (if x3 < 0 ∨ 40 ≤ Int32.toNatClampNeg x3 then
            (none)
            else
            (some (.inl (some (zI (σ.1 22 i0 (Int32.toNatClampNeg x3)))), σ)))
          else
          (zX zP zK_X2_labelOf (2, [zR 12 i0, zI x1, zI x2, zI (x3 + 1)], []) σ)))
      else
      (zX zP zK_X2_labelOf (2, [zR 12 i0, zI x1, zI x2, zI (x3 + 1)], []) σ)))
  else
  (some (.inl (some (zI 0)), σ))) := (zun_eq zK_X2_labelOf [2] 22 _ _).trans rfl
set_option maxRecDepth 100000 in
theorem e_X2_labelOf (i0 : Nat) (x1 : Int32) (x2 : Int32) (σ : zSt) : zrun zP 43 [zR 12 i0, zI x1, zI x2] σ = (
  zX zP zK_X2_labelOf (2, [zR 12 i0, zI x1, zI x2, zI 0], []) σ) := (zrun_eq _ _ _).trans ((zun_eq zK_X2_labelOf [2] 3 _ _).trans rfl)
set_option maxRecDepth 100000 in
theorem e_X2_addTimesTo_2 (i0 : Nat) (i1 : Nat) (x2 : Int32) (σ : zSt) : zX zP zK_X2_addTimesTo (2, [zR 12 i0, zR 14 i1, zI x2], []) σ = (
  if x2 < (σ.1 12 i0 5) then
  (if x2 < 0 ∨ 40 ≤ Int32.toNatClampNeg x2 then
    (none)
    else
    (zcV (zrun zP 89 [zR 14 i1, zI (σ.1 20 i0 (Int32.toNatClampNeg x2))] σ) (fun s1 =>
      if x2 < 0 ∨ 40 ≤ Int32.toNatClampNeg x2 then
        (none)
        else
        (zcV (zrun zP 89 [zR 14 i1, zI (s1.1 21 i0 (Int32.toNatClampNeg x2))] s1) (fun s2 =>
          zX zP zK_X2_addTimesTo (2, [zR 12 i0, zR 14 i1, zI (x2 + 1)], []) s2)))))
  else
  (some (.inl none, σ))) := (zun_eq zK_X2_addTimesTo [2] 19 _ _).trans rfl
set_option maxRecDepth 100000 in
theorem e_X2_addTimesTo (i0 : Nat) (i1 : Nat) (σ : zSt) : zrun zP 44 [zR 12 i0, zR 14 i1] σ = (
  zX zP zK_X2_addTimesTo (2, [zR 12 i0, zR 14 i1, zI 0], []) σ) := (zrun_eq _ _ _).trans ((zun_eq zK_X2_addTimesTo [2] 3 _ _).trans rfl)
set_option maxRecDepth 100000 in
theorem e_X2_listTimes (i0 : Nat) (i1 : Nat) (σ : zSt) : zrun zP 45 [zR 12 i0, zR 14 i1] σ = (
  zcV (zrun zP 86 [zR 14 i1] σ) (fun s1 =>
  zcV (zrun zP 44 [zR 12 i0, zR 14 i1] s1) (fun s2 =>
    some (.inl none, s2)))) := (zrun_eq _ _ _).trans ((zun_eq zK_X2_listTimes [] 7 _ _).trans rfl)
set_option maxRecDepth 100000 in
theorem e_X2_countEnds_4 (i0 : Nat) (x1 : Int32) (x2 : Int32) (x3 : Int32) (σ : zSt) : zX zP zK_X2_countEnds (4, [zR 12 i0, zI x1, zI x2, zI x3], []) σ = (
  if x3 < (σ.1 12 i0 5) then
  (if x3 < 0 ∨ 40 ≤ Int32.toNatClampNeg x3 then
    (none)
    else
    (if (σ.1 20 i0 (Int32.toNatClampNeg x3)) = x1 then
      (if (σ.1 12 i0 1) = 3 then
        (zX zP zK_X2_countEnds (4, [zR 12 i0, zI x1, zI (x2 + 1), zI (x3 + 1)], []) σ)
        else
        (if x3 < 0 ∨ 40 ≤ Int32.toNatClampNeg x3 then
          (none)
          else
          (if (σ.1 21 i0 (Int32.toNatClampNeg x3)) = x1 then
            (zX zP zK_X2_countEnds (4, [zR 12 i0, zI x1, zI ((x2 + 1) + 1), zI (x3 + 1)], []) σ)
            else
            (zX zP zK_X2_countEnds (4, [zR 12 i0, zI x1, zI (x2 + 1), zI (x3 + 1)], []) σ))))
      else
      (if (σ.1 12 i0 1) = 3 then
        (zX zP zK_X2_countEnds (4, [zR 12 i0, zI x1, zI x2, zI (x3 + 1)], []) σ)
        else
        (if x3 < 0 ∨ 40 ≤ Int32.toNatClampNeg x3 then
          (none)
          else
          (if (σ.1 21 i0 (Int32.toNatClampNeg x3)) = x1 then
            (zX zP zK_X2_countEnds (4, [zR 12 i0, zI x1, zI (x2 + 1), zI (x3 + 1)], []) σ)
            else
            (zX zP zK_X2_countEnds (4, [zR 12 i0, zI x1, zI x2, zI (x3 + 1)], []) σ))))))
  else
  (some (.inl (some (zI x2)), σ))) := (zun_eq zK_X2_countEnds [4] 25 _ _).trans rfl
set_option maxRecDepth 100000 in
theorem e_X2_countEnds (i0 : Nat) (x1 : Int32) (σ : zSt) : zrun zP 46 [zR 12 i0, zI x1] σ = (
  zX zP zK_X2_countEnds (4, [zR 12 i0, zI x1, zI 0, zI 0], []) σ) := (zrun_eq _ _ _).trans ((zun_eq zK_X2_countEnds [4] 5 _ _).trans rfl)
set_option maxRecDepth 100000 in
theorem e_X2_shiftEnds_2 (i0 : Nat) (x1 : Int32) (x2 : Int32) (x3 : Int32) (σ : zSt) : zX zP zK_X2_shiftEnds (2, [zR 12 i0, zI x1, zI x2, zI x3], []) σ = (
  if x3 < (σ.1 12 i0 5) then
  (if x3 < 0 ∨ 40 ≤ Int32.toNatClampNeg x3 then
    (none)
    else
    (if (σ.1 20 i0 (Int32.toNatClampNeg x3)) = x1 then
      (if x3 < 0 ∨ 40 ≤ Int32.toNatClampNeg x3 then
        (none)
        else
        (if x3 < 0 ∨ 40 ≤ Int32.toNatClampNeg x3 then
          (none)
          else
          (if (σ.1 21 i0 (Int32.toNatClampNeg x3)) = x1 then
            (if x3 < 0 ∨ 40 ≤ Int32.toNatClampNeg x3 then
              (none)
              else
              (zX zP zK_X2_shiftEnds (2, [zR 12 i0, zI x1, zI x2, zI (x3 + 1)], []) (zms (zms σ.1 20 i0 (Int32.toNatClampNeg x3) x2) 21 i0 (Int32.toNatClampNeg x3) x2, σ.2)))
            else
            (zX zP zK_X2_shiftEnds (2, [zR 12 i0, zI x1, zI x2, zI (x3 + 1)], []) (zms σ.1 20 i0 (Int32.toNatClampNeg x3) x2, σ.2)))))
      else
      (if x3 < 0 ∨ 40 ≤ Int32.toNatClampNeg x3 then
        (none)
        else
        (if (σ.1 21 i0 (Int32.toNatClampNeg x3)) = x1 then
          (if x3 < 0 ∨ 40 ≤ Int32.toNatClampNeg x3 then
            (none)
            else
            (zX zP zK_X2_shiftEnds (2, [zR 12 i0, zI x1, zI x2, zI (x3 + 1)], []) (zms σ.1 21 i0 (Int32.toNatClampNeg x3) x2, σ.2)))
          else
          (zX zP zK_X2_shiftEnds (2, [zR 12 i0, zI x1, zI x2, zI (x3 + 1)], []) σ)))))
  else
  (some (.inl none, σ))) := (zun_eq zK_X2_shiftEnds [2] 29 _ _).trans rfl
set_option maxRecDepth 100000 in
theorem e_X2_shiftEnds (i0 : Nat) (x1 : Int32) (x2 : Int32) (σ : zSt) : zrun zP 47 [zR 12 i0, zI x1, zI x2] σ = (
  zX zP zK_X2_shiftEnds (2, [zR 12 i0, zI x1, zI x2, zI 0], []) σ) := (zrun_eq _ _ _).trans ((zun_eq zK_X2_shiftEnds [2] 3 _ _).trans rfl)
set_option maxRecDepth 100000 in
theorem e_X2_insertSilence_2 (i0 : Nat) (x1 : Int32) (x2 : Int32) (x3 : Int32) (σ : zSt) : zX zP zK_X2_insertSilence (2, [zR 12 i0, zI x1, zI x2, zI x3], []) σ = (
  if x3 < (σ.1 12 i0 5) then
  (if x3 < 0 ∨ 40 ≤ Int32.toNatClampNeg x3 then
    (none)
    else
    (if x1 < (σ.1 20 i0 (Int32.toNatClampNeg x3)) then
      (if x3 < 0 ∨ 40 ≤ Int32.toNatClampNeg x3 then
        (none)
        else
        (if x3 < 0 ∨ 40 ≤ Int32.toNatClampNeg x3 then
          (none)
          else
          (if x3 < 0 ∨ 40 ≤ Int32.toNatClampNeg x3 then
            (none)
            else
            (if x1 < (σ.1 21 i0 (Int32.toNatClampNeg x3)) then
              (if x3 < 0 ∨ 40 ≤ Int32.toNatClampNeg x3 then
                (none)
                else
                (if x3 < 0 ∨ 40 ≤ Int32.toNatClampNeg x3 then
                  (none)
                  else
                  (zX zP zK_X2_insertSilence (2, [zR 12 i0, zI x1, zI x2, zI (x3 + 1)], []) (zms (zms σ.1 20 i0 (Int32.toNatClampNeg x3) ((σ.1 20 i0 (Int32.toNatClampNeg x3)) + x2)) 21 i0 (Int32.toNatClampNeg x3) ((σ.1 21 i0 (Int32.toNatClampNeg x3)) + x2), σ.2))))
              else
              (zX zP zK_X2_insertSilence (2, [zR 12 i0, zI x1, zI x2, zI (x3 + 1)], []) (zms σ.1 20 i0 (Int32.toNatClampNeg x3) ((σ.1 20 i0 (Int32.toNatClampNeg x3)) + x2), σ.2))))))
      else
      (if x3 < 0 ∨ 40 ≤ Int32.toNatClampNeg x3 then
        (none)
        else
        (if x1 < (σ.1 21 i0 (Int32.toNatClampNeg x3)) then
          (if x3 < 0 ∨ 40 ≤ Int32.toNatClampNeg x3 then
            (none)
            else
            (if x3 < 0 ∨ 40 ≤ Int32.toNatClampNeg x3 then
              (none)
              else
              (zX zP zK_X2_insertSilence (2, [zR 12 i0, zI x1, zI x2, zI (x3 + 1)], []) (zms σ.1 21 i0 (Int32.toNatClampNeg x3) ((σ.1 21 i0 (Int32.toNatClampNeg x3)) + x2), σ.2))))
          else
          (zX zP zK_X2_insertSilence (2, [zR 12 i0, zI x1, zI x2, zI (x3 + 1)], []) σ)))))
  else
  (some (.inl none, σ))) := (zun_eq zK_X2_insertSilence [2] 35 _ _).trans rfl
set_option maxRecDepth 100000 in
theorem e_X2_insertSilence (i0 : Nat) (x1 : Int32) (x2 : Int32) (σ : zSt) : zrun zP 48 [zR 12 i0, zI x1, zI x2] σ = (
  zX zP zK_X2_insertSilence (2, [zR 12 i0, zI x1, zI x2, zI 0], []) σ) := (zrun_eq _ _ _).trans ((zun_eq zK_X2_insertSilence [2] 3 _ _).trans rfl)
set_option maxRecDepth 100000 in
theorem e_X3_clear (i0 : Nat) (σ : zSt) : zrun zP 49 [zR 13 i0] σ = (
  some (.inl none, (zms σ.1 13 i0 0 0, σ.2))) := (zrun_eq _ _ _).trans ((zun_eq zK_X3_clear [] 5 _ _).trans rfl)
set_option maxRecDepth 100000 in
theorem e_X3_copyFrom_10 (i0 : Nat) (i1 : Nat) (x2 : Int32) (σ : zSt) : zX zP zK_X3_copyFrom (10, [zR 13 i0, zR 13 i1, zI x2], []) σ = (
  if x2 < (σ.1 13 i0 0) then
  (if x2 < 0 ∨ 6 ≤ Int32.toNatClampNeg x2 then
    (none)
    else
    (if x2 < 0 ∨ 6 ≤ Int32.toNatClampNeg x2 then
      (none)
      else
      (zcV (zrun zP 25 [zR 12 (6 * i0 + Int32.toNatClampNeg x2), zR 12 (6 * i1 + Int32.toNatClampNeg x2)] σ) (fun s1 =>
        zX zP zK_X3_copyFrom (10, [zR 13 i0, zR 13 i1, zI (x2 + 1)], []) s1))))
  else
  (some (.inl none, σ))) := (zun_eq zK_X3_copyFrom [10] 16 _ _).trans rfl
set_option maxRecDepth 100000 in
theorem e_X3_copyFrom (i0 : Nat) (i1 : Nat) (σ : zSt) : zrun zP 50 [zR 13 i0, zR 13 i1] σ = (
  zX zP zK_X3_copyFrom (10, [zR 13 i0, zR 13 i1, zI 0], []) (zms σ.1 13 i0 0 (σ.1 13 i1 0), σ.2)) := (zrun_eq _ _ _).trans ((zun_eq zK_X3_copyFrom [10] 7 _ _).trans rfl)
set_option maxRecDepth 100000 in
theorem e_X3_hasTier (i0 : Nat) (x1 : Int32) (σ : zSt) : zrun zP 51 [zR 13 i0, zI x1] σ = (
  if x1 < 0 then
  (some (.inl (some (zI 0)), σ))
  else
  (if x1 < (σ.1 13 i0 0) then
    (some (.inl (some (zI 1)), σ))
    else
    (some (.inl (some (zI 0)), σ)))) := (zrun_eq _ _ _).trans ((zun_eq zK_X3_hasTier [] 10 _ _).trans rfl)
set_option maxRecDepth 100000 in
theorem e_X3_indexOf_2 (i0 : Nat) (x1 : Int32) (x2 : Int32) (σ : zSt) : zX zP zK_X3_indexOf (2, [zR 13 i0, zI x1, zI x2], []) σ = (
  if x2 < (σ.1 13 i0 0) then
  (if x2 < 0 ∨ 6 ≤ Int32.toNatClampNeg x2 then
    (none)
    else
    (if (σ.1 12 (6 * i0 + Int32.toNatClampNeg x2) 0) = x1 then
      (some (.inl (some (zI x2)), σ))
      else
      (zX zP zK_X3_indexOf (2, [zR 13 i0, zI x1, zI (x2 + 1)], []) σ)))
  else
  (some (.inl (some (zI (-1))), σ))) := (zun_eq zK_X3_indexOf [2] 14 _ _).trans rfl
set_option maxRecDepth 100000 in
theorem e_X3_indexOf (i0 : Nat) (x1 : Int32) (σ : zSt) : zrun zP 52 [zR 13 i0, zI x1] σ = (
  zX zP zK_X3_indexOf (2, [zR 13 i0, zI x1, zI 0], []) σ) := (zrun_eq _ _ _).trans ((zun_eq zK_X3_indexOf [2] 3 _ _).trans rfl)
set_option maxRecDepth 100000 in
theorem e_X3_countMarks_4 (i0 : Nat) (x1 : Int32) (x2 : Int32) (σ : zSt) : zX zP zK_X3_countMarks (4, [zR 13 i0, zI x1, zI x2], []) σ = (
  if x2 < (σ.1 13 i0 0) then
  (if x2 < 0 ∨ 6 ≤ Int32.toNatClampNeg x2 then
    (none)
    else
    (zX zP zK_X3_countMarks (4, [zR 13 i0, zI (x1 + (σ.1 12 (6 * i0 + Int32.toNatClampNeg x2) 5)), zI (x2 + 1)], []) σ))
  else
  (some (.inl (some (zI x1)), σ))) := (zun_eq zK_X3_countMarks [4] 15 _ _).trans rfl
set_option maxRecDepth 100000 in
theorem e_X3_countMarks (i0 : Nat) (σ : zSt) : zrun zP 53 [zR 13 i0] σ = (
  zX zP zK_X3_countMarks (4, [zR 13 i0, zI 0, zI 0], []) σ) := (zrun_eq _ _ _).trans ((zun_eq zK_X3_countMarks [4] 5 _ _).trans rfl)
set_option maxRecDepth 100000 in
theorem e_X3_countFamilies (i0 : Nat) (σ : zSt) : zrun zP 54 [zR 13 i0] σ = (
  zcI (zrun zP 55 [zR 13 i0, zI (-1)] σ) (fun r1 s1 =>
  some (.inl (some (zI r1)), s1))) := (zrun_eq _ _ _).trans ((zun_eq zK_X3_countFamilies [] 5 _ _).trans rfl)
set_option maxRecDepth 100000 in
theorem e_X3_countChildren_4 (i0 : Nat) (x1 : Int32) (x2 : Int32) (x3 : Int32) (σ : zSt) : zX zP zK_X3_countChildren (4, [zR 13 i0, zI x1, zI x2, zI x3], []) σ = (
  if x3 < (σ.1 13 i0 0) then
  (if x3 < 0 ∨ 6 ≤ Int32.toNatClampNeg x3 then
    (none)
    else
    (if (σ.1 12 (6 * i0 + Int32.toNatClampNeg x3) 2) = x1 then
      (zX zP zK_X3_countChildren (4, [zR 13 i0, zI x1, zI (x2 + 1), zI (x3 + 1)], []) σ)
      else
      (zX zP zK_X3_countChildren (4, [zR 13 i0, zI x1, zI x2, zI (x3 + 1)], []) σ)))
  else
  (some (.inl (some (zI x2)), σ))) := (zun_eq zK_X3_countChildren [4] 15 _ _).trans rfl
set_option maxRecDepth 100000 in
theorem e_X3_countChildren (i0 : Nat) (x1 : Int32) (σ : zSt) : zrun zP 55 [zR 13 i0, zI x1] σ = (
  zX zP zK_X3_countChildren (4, [zR 13 i0, zI x1, zI 0, zI 0], []) σ) := (zrun_eq _ _ _).trans ((zun_eq zK_X3_countChildren [4] 5 _ _).trans rfl)
set_option maxRecDepth 100000 in
theorem e_X3_addTier_126 (i0 : Nat) (x1 : Int32) (x2 : Int32) (x3 : Int32) (i4 : Nat) (i5 : Nat) (x6 : Int32) (σ : zSt) : zX zP zK_X3_addTier (126, [zR 13 i0, zI x1, zI x2, zI x3, zR 12 i4, zR 12 i5, zI x6], []) σ = (
  if x6 < (σ.1 12 i5 5) then
  (if x6 < 0 ∨ 40 ≤ Int32.toNatClampNeg x6 then
    (none)
    else
    (if x6 < 0 ∨ 40 ≤ Int32.toNatClampNeg x6 then
      (none)
      else
      (zcI (zrun zP 30 [zR 12 i4, zI (σ.1 20 i5 (Int32.toNatClampNeg x6)), zI (σ.1 21 i5 (Int32.toNatClampNeg x6)), zI 0] σ) (fun r1 s1 =>
        zX zP zK_X3_addTier (126, [zR 13 i0, zI x1, zI x2, zI x3, zR 12 i4, zR 12 i5, zI (x6 + 1)], []) s1))))
  else
  (some (.inl none, (zms σ.1 13 i0 0 ((σ.1 13 i0 0) + 1), σ.2)))) := (zun_eq zK_X3_addTier [126] 19 _ _).trans rfl
set_option maxRecDepth 100000 in
theorem e_X3_addTier (i0 : Nat) (x1 : Int32) (x2 : Int32) (x3 : Int32) (σ : zSt) : zrun zP 56 [zR 13 i0, zI x1, zI x2, zI x3] σ = (
  if (σ.1 13 i0 0) < 6 then
  (if (σ.1 13 i0 0) < 0 ∨ 6 ≤ Int32.toNatClampNeg (σ.1 13 i0 0) then
    (none)
    else
    (zcI (zrun zP 51 [zR 13 i0, zI x3] (zms (zms (zms σ.1 12 (6 * i0 + Int32.toNatClampNeg (σ.1 13 i0 0)) 0 x1) 12 (6 * i0 + Int32.toNatClampNeg (σ.1 13 i0 0)) 1 x2) 12 (6 * i0 + Int32.toNatClampNeg (σ.1 13 i0 0)) 2 x3, σ.2)) (fun r1 s1 =>
      if r1 = 0 then
        (zcI (zrun zP 51 [zR 13 i0, zI x3] (zms s1.1 12 (6 * i0 + Int32.toNatClampNeg (σ.1 13 i0 0)) 3 (s1.1 13 i0 0), s1.2)) (fun r2 s2 =>
          if r2 = 0 then
            (if x2 = 1 then
              (zcI (zrun zP 51 [zR 13 i0, zI x3] (zms (zms s2.1 12 (6 * i0 + Int32.toNatClampNeg (σ.1 13 i0 0)) 4 0) 12 (6 * i0 + Int32.toNatClampNeg (σ.1 13 i0 0)) 5 0, s2.2)) (fun r3 s3 =>
                if r3 = 0 then
                  (some (.inl none, (zms s3.1 13 i0 0 ((s3.1 13 i0 0) + 1), s3.2)))
                  else
                  (if x3 < 0 ∨ 6 ≤ Int32.toNatClampNeg x3 then
                    (none)
                    else
                    (zX zP zK_X3_addTier (126, [zR 13 i0, zI x1, zI x2, zI x3, zR 12 (6 * i0 + Int32.toNatClampNeg (σ.1 13 i0 0)), zR 12 (6 * i0 + Int32.toNatClampNeg x3), zI 0], []) s3))))
              else
              (some (.inl none, (zms (zms (zms s2.1 12 (6 * i0 + Int32.toNatClampNeg (σ.1 13 i0 0)) 4 0) 12 (6 * i0 + Int32.toNatClampNeg (σ.1 13 i0 0)) 5 0) 13 i0 0 ((s2.1 13 i0 0) + 1), s2.2))))
            else
            (if x3 < 0 ∨ 6 ≤ Int32.toNatClampNeg x3 then
              (none)
              else
              (if x2 = 1 then
                (zcI (zrun zP 51 [zR 13 i0, zI x3] (zms (zms s2.1 12 (6 * i0 + Int32.toNatClampNeg (σ.1 13 i0 0)) 4 ((s2.1 12 (6 * i0 + Int32.toNatClampNeg x3) 4) + 1)) 12 (6 * i0 + Int32.toNatClampNeg (σ.1 13 i0 0)) 5 0, s2.2)) (fun r4 s4 =>
                  if r4 = 0 then
                    (some (.inl none, (zms s4.1 13 i0 0 ((s4.1 13 i0 0) + 1), s4.2)))
                    else
                    (if x3 < 0 ∨ 6 ≤ Int32.toNatClampNeg x3 then
                      (none)
                      else
                      (zX zP zK_X3_addTier (126, [zR 13 i0, zI x1, zI x2, zI x3, zR 12 (6 * i0 + Int32.toNatClampNeg (σ.1 13 i0 0)), zR 12 (6 * i0 + Int32.toNatClampNeg x3), zI 0], []) s4))))
                else
                (some (.inl none, (zms (zms (zms s2.1 12 (6 * i0 + Int32.toNatClampNeg (σ.1 13 i0 0)) 4 ((s2.1 12 (6 * i0 + Int32.toNatClampNeg x3) 4) + 1)) 12 (6 * i0 + Int32.toNatClampNeg (σ.1 13 i0 0)) 5 0) 13 i0 0 ((s2.1 13 i0 0) + 1), s2.2)))))))
        else
        (if x3 < 0 ∨ 6 ≤ Int32.toNatClampNeg x3 then
          (none)
          else
          (zcI (zrun zP 51 [zR 13 i0, zI x3] (zms s1.1 12 (6 * i0 + Int32.toNatClampNeg (σ.1 13 i0 0)) 3 (s1.1 12 (6 * i0 + Int32.toNatClampNeg x3) 3), s1.2)) (fun r5 s5 =>
            if r5 = 0 then
              (if x2 = 1 then
                (zcI (zrun zP 51 [zR 13 i0, zI x3] (zms (zms s5.1 12 (6 * i0 + Int32.toNatClampNeg (σ.1 13 i0 0)) 4 0) 12 (6 * i0 + Int32.toNatClampNeg (σ.1 13 i0 0)) 5 0, s5.2)) (fun r6 s6 =>
                  if r6 = 0 then
                    (some (.inl none, (zms s6.1 13 i0 0 ((s6.1 13 i0 0) + 1), s6.2)))
                    else
                    (if x3 < 0 ∨ 6 ≤ Int32.toNatClampNeg x3 then
                      (none)
                      else
                      (zX zP zK_X3_addTier (126, [zR 13 i0, zI x1, zI x2, zI x3, zR 12 (6 * i0 + Int32.toNatClampNeg (σ.1 13 i0 0)), zR 12 (6 * i0 + Int32.toNatClampNeg x3), zI 0], []) s6))))
                else
                (some (.inl none, (zms (zms (zms s5.1 12 (6 * i0 + Int32.toNatClampNeg (σ.1 13 i0 0)) 4 0) 12 (6 * i0 + Int32.toNatClampNeg (σ.1 13 i0 0)) 5 0) 13 i0 0 ((s5.1 13 i0 0) + 1), s5.2))))
              else
              (if x3 < 0 ∨ 6 ≤ Int32.toNatClampNeg x3 then
                (none)
                else
                (if x2 = 1 then
                  (zcI (zrun zP 51 [zR 13 i0, zI x3] (zms (zms s5.1 12 (6 * i0 + Int32.toNatClampNeg (σ.1 13 i0 0)) 4 ((s5.1 12 (6 * i0 + Int32.toNatClampNeg x3) 4) + 1)) 12 (6 * i0 + Int32.toNatClampNeg (σ.1 13 i0 0)) 5 0, s5.2)) (fun r7 s7 =>
                    if r7 = 0 then
                      (some (.inl none, (zms s7.1 13 i0 0 ((s7.1 13 i0 0) + 1), s7.2)))
                      else
                      (if x3 < 0 ∨ 6 ≤ Int32.toNatClampNeg x3 then
                        (none)
                        else
                        (zX zP zK_X3_addTier (126, [zR 13 i0, zI x1, zI x2, zI x3, zR 12 (6 * i0 + Int32.toNatClampNeg (σ.1 13 i0 0)), zR 12 (6 * i0 + Int32.toNatClampNeg x3), zI 0], []) s7))))
                  else
                  (some (.inl none, (zms (zms (zms s5.1 12 (6 * i0 + Int32.toNatClampNeg (σ.1 13 i0 0)) 4 ((s5.1 12 (6 * i0 + Int32.toNatClampNeg x3) 4) + 1)) 12 (6 * i0 + Int32.toNatClampNeg (σ.1 13 i0 0)) 5 0) 13 i0 0 ((s5.1 13 i0 0) + 1), s5.2)))))))))))
  else
  (some (.inl none, σ))) := (zrun_eq _ _ _).trans ((zun_eq zK_X3_addTier [126] 63 _ _).trans rfl)
set_option maxRecDepth 100000 in
theorem e_X3_isBelow_13 (i0 : Nat) (x1 : Int32) (x2 : Int32) (x3 : Int32) (x4 : Int32) (σ : zSt) : zX zP zK_X3_isBelow (13, [zR 13 i0, zI x1, zI x2, zI x3, zI x4], []) σ = (
  if x4 < 6 then
  (if x2 < x3 then
    (if x3 < 0 ∨ 6 ≤ Int32.toNatClampNeg x3 then
      (none)
      else
      (zX zP zK_X3_isBelow (13, [zR 13 i0, zI x1, zI x2, zI (σ.1 12 (6 * i0 + Int32.toNatClampNeg x3) 2), zI (x4 + 1)], []) σ))
    else
    (if x3 = x2 then
      (some (.inl (some (zI 1)), σ))
      else
      (some (.inl (some (zI 0)), σ))))
  else
  (if x3 = x2 then
    (some (.inl (some (zI 1)), σ))
    else
    (some (.inl (some (zI 0)), σ)))) := (zun_eq zK_X3_isBelow [13] 15 _ _).trans rfl
set_option maxRecDepth 100000 in
theorem e_X3_isBelow (i0 : Nat) (x1 : Int32) (x2 : Int32) (σ : zSt) : zrun zP 57 [zR 13 i0, zI x1, zI x2] σ = (
  if x1 < 0 ∨ 6 ≤ Int32.toNatClampNeg x1 then
  (none)
  else
  (zX zP zK_X3_isBelow (13, [zR 13 i0, zI x1, zI x2, zI (σ.1 12 (6 * i0 + Int32.toNatClampNeg x1) 2), zI 0], []) σ)) := (zrun_eq _ _ _).trans ((zun_eq zK_X3_isBelow [13] 9 _ _).trans rfl)
set_option maxRecDepth 100000 in
theorem e_X3_isPieceOf_5 (i0 : Nat) (x1 : Int32) (x2 : Int32) (x3 : Int32) (x4 : Int32) (σ : zSt) : zX zP zK_X3_isPieceOf (5, [zR 13 i0, zI x1, zI x2, zI x3, zI x4], []) σ = (
  if x4 < 6 then
  (if x2 < x3 then
    (if x3 < 0 ∨ 6 ≤ Int32.toNatClampNeg x3 then
      (none)
      else
      (if (σ.1 12 (6 * i0 + Int32.toNatClampNeg x3) 1) = 1 then
        (if x3 < 0 ∨ 6 ≤ Int32.toNatClampNeg x3 then
          (none)
          else
          (zX zP zK_X3_isPieceOf (5, [zR 13 i0, zI x1, zI x2, zI (σ.1 12 (6 * i0 + Int32.toNatClampNeg x3) 2), zI (x4 + 1)], []) σ))
        else
        (if x3 = x2 then
          (some (.inl (some (zI 1)), σ))
          else
          (some (.inl (some (zI 0)), σ)))))
    else
    (if x3 = x2 then
      (some (.inl (some (zI 1)), σ))
      else
      (some (.inl (some (zI 0)), σ))))
  else
  (if x3 = x2 then
    (some (.inl (some (zI 1)), σ))
    else
    (some (.inl (some (zI 0)), σ)))) := (zun_eq zK_X3_isPieceOf [5] 22 _ _).trans rfl
set_option maxRecDepth 100000 in
theorem e_X3_isPieceOf (i0 : Nat) (x1 : Int32) (x2 : Int32) (σ : zSt) : zrun zP 58 [zR 13 i0, zI x1, zI x2] σ = (
  zX zP zK_X3_isPieceOf (5, [zR 13 i0, zI x1, zI x2, zI x1, zI 0], []) σ) := (zrun_eq _ _ _).trans ((zun_eq zK_X3_isPieceOf [5] 5 _ _).trans rfl)
set_option maxRecDepth 100000 in
theorem e_X3_parentMark (i0 : Nat) (x1 : Int32) (x2 : Int32) (σ : zSt) : zrun zP 59 [zR 13 i0, zI x1, zI x2] σ = (
  if x1 < 0 ∨ 6 ≤ Int32.toNatClampNeg x1 then
  (none)
  else
  (zcI (zrun zP 51 [zR 13 i0, zI (σ.1 12 (6 * i0 + Int32.toNatClampNeg x1) 2)] σ) (fun r1 s1 =>
    if r1 = 0 then
      (some (.inl (some (zI (-1))), s1))
      else
      (zcI (zrun zP 27 [zR 12 (6 * i0 + Int32.toNatClampNeg x1), zI x2] s1) (fun r2 s2 =>
        if r2 = 0 then
          (some (.inl (some (zI (-1))), s2))
          else
          (if (s2.1 12 (6 * i0 + Int32.toNatClampNeg x1) 2) < 0 ∨ 6 ≤ Int32.toNatClampNeg (s2.1 12 (6 * i0 + Int32.toNatClampNeg x1) 2) then
            (none)
            else
            (if x2 < 0 ∨ 40 ≤ Int32.toNatClampNeg x2 then
              (none)
              else
              (if x2 < 0 ∨ 40 ≤ Int32.toNatClampNeg x2 then
                (none)
                else
                (zcI (zrun zP 42 [zR 12 (6 * i0 + Int32.toNatClampNeg (s2.1 12 (6 * i0 + Int32.toNatClampNeg x1) 2)), zI (s2.1 20 (6 * i0 + Int32.toNatClampNeg x1) (Int32.toNatClampNeg x2)), zI (s2.1 21 (6 * i0 + Int32.toNatClampNeg x1) (Int32.toNatClampNeg x2))] s2) (fun r3 s3 =>
                  some (.inl (some (zI r3)), s3))))))))))) := (zrun_eq _ _ _).trans ((zun_eq zK_X3_parentMark [] 30 _ _).trans rfl)
set_option maxRecDepth 100000 in
theorem e_X3_haveSameParent (i0 : Nat) (x1 : Int32) (x2 : Int32) (x3 : Int32) (σ : zSt) : zrun zP 60 [zR 13 i0, zI x1, zI x2, zI x3] σ = (
  zcI (zrun zP 59 [zR 13 i0, zI x1, zI x2] σ) (fun r1 s1 =>
  zcI (zrun zP 59 [zR 13 i0, zI x1, zI x3] s1) (fun r2 s2 =>
    if r1 = r2 then
      (some (.inl (some (zI 1)), s2))
      else
      (some (.inl (some (zI 0)), s2))))) := (zrun_eq _ _ _).trans ((zun_eq zK_X3_haveSameParent [] 13 _ _).trans rfl)
set_option maxRecDepth 100000 in
theorem e_X3_countHeld_7 (i0 : Nat) (x1 : Int32) (x2 : Int32) (x3 : Int32) (x4 : Int32) (v5 : zAV) (σ : zSt) : zX zP zK_X3_countHeld (7, [zR 13 i0, zI x1, zI x2, zI x3, zI x4, v5], []) σ = (
  if x4 < (σ.1 13 i0 0) then
  (zX zP zK_X3_countHeld (19, [zR 13 i0, zI x1, zI x2, zI x3, zI x4, zI 0], []) σ)
  else
  (some (.inl (some (zI x3)), σ))) := (zun_eq zK_X3_countHeld [7, 19] 7 _ _).trans rfl
set_option maxRecDepth 100000 in
theorem e_X3_countHeld_19 (i0 : Nat) (x1 : Int32) (x2 : Int32) (x3 : Int32) (x4 : Int32) (x5 : Int32) (σ : zSt) : zX zP zK_X3_countHeld (19, [zR 13 i0, zI x1, zI x2, zI x3, zI x4, zI x5], []) σ = (
  if x4 < 0 ∨ 6 ≤ Int32.toNatClampNeg x4 then
  (none)
  else
  (if (σ.1 12 (6 * i0 + Int32.toNatClampNeg x4) 2) = x1 then
    (if x4 < 0 ∨ 6 ≤ Int32.toNatClampNeg x4 then
      (none)
      else
      (if x5 < (σ.1 12 (6 * i0 + Int32.toNatClampNeg x4) 5) then
        (zcI (zrun zP 59 [zR 13 i0, zI x4, zI x5] σ) (fun r1 s1 =>
          if r1 = x2 then
            (zX zP zK_X3_countHeld (19, [zR 13 i0, zI x1, zI x2, zI (x3 + 1), zI x4, zI (x5 + 1)], []) s1)
            else
            (zX zP zK_X3_countHeld (19, [zR 13 i0, zI x1, zI x2, zI x3, zI x4, zI (x5 + 1)], []) s1)))
        else
        (zX zP zK_X3_countHeld (7, [zR 13 i0, zI x1, zI x2, zI x3, zI (x4 + 1), zI x5], []) σ)))
    else
    (zX zP zK_X3_countHeld (7, [zR 13 i0, zI x1, zI x2, zI x3, zI (x4 + 1), zI x5], []) σ))) := (zun_eq zK_X3_countHeld [7, 19] 24 _ _).trans rfl
set_option maxRecDepth 100000 in
theorem e_X3_countHeld (i0 : Nat) (x1 : Int32) (x2 : Int32) (σ : zSt) : zrun zP 61 [zR 13 i0, zI x1, zI x2] σ = (
  zX zP zK_X3_countHeld (7, [zR 13 i0, zI x1, zI x2, zI 0, zI (x1 + 1), zJunk], []) σ) := (zrun_eq _ _ _).trans ((zun_eq zK_X3_countHeld [7, 19] 7 _ _).trans rfl)
set_option maxRecDepth 100000 in
theorem e_X3_liesInParent (i0 : Nat) (i1 : Nat) (x2 : Int32) (x3 : Int32) (σ : zSt) : zrun zP 62 [zR 13 i0, zR 12 i1, zI x2, zI x3] σ = (
  zcI (zrun zP 51 [zR 13 i0, zI (σ.1 12 i1 2)] σ) (fun r1 s1 =>
  if r1 = 0 then
    (some (.inl (some (zI 0)), s1))
    else
    (if (s1.1 12 i1 2) < 0 ∨ 6 ≤ Int32.toNatClampNeg (s1.1 12 i1 2) then
      (none)
      else
      (zcI (zrun zP 42 [zR 12 (6 * i0 + Int32.toNatClampNeg (s1.1 12 i1 2)), zI x2, zI x3] s1) (fun r2 s2 =>
        if r2 = (-1) then
          (some (.inl (some (zI 0)), s2))
          else
          (some (.inl (some (zI 1)), s2))))))) := (zrun_eq _ _ _).trans ((zun_eq zK_X3_liesInParent [] 19 _ _).trans rfl)
set_option maxRecDepth 100000 in
theorem e_X3_allowsMark (i0 : Nat) (x1 : Int32) (x2 : Int32) (x3 : Int32) (σ : zSt) : zrun zP 63 [zR 13 i0, zI x1, zI x2, zI x3] σ = (
  if x1 < 0 ∨ 6 ≤ Int32.toNatClampNeg x1 then
  (none)
  else
  (if (σ.1 12 (6 * i0 + Int32.toNatClampNeg x1) 1) = 0 then
    (zcI (zrun zP 37 [zR 12 (6 * i0 + Int32.toNatClampNeg x1), zI x2, zI x3] σ) (fun r1 s1 =>
      if r1 = 0 then
        (if (s1.1 12 (6 * i0 + Int32.toNatClampNeg x1) 1) = 0 then
          (some (.inl (some (zI 1)), s1))
          else
          (zcI (zrun zP 62 [zR 13 i0, zR 12 (6 * i0 + Int32.toNatClampNeg x1), zI x2, zI x3] s1) (fun r2 s2 =>
            if r2 = 0 then
              (some (.inl (some (zI 0)), s2))
              else
              (some (.inl (some (zI 1)), s2)))))
        else
        (some (.inl (some (zI 0)), s1))))
    else
    (if (σ.1 12 (6 * i0 + Int32.toNatClampNeg x1) 1) = 2 then
      (zcI (zrun zP 37 [zR 12 (6 * i0 + Int32.toNatClampNeg x1), zI x2, zI x3] σ) (fun r3 s3 =>
        if r3 = 0 then
          (if (s3.1 12 (6 * i0 + Int32.toNatClampNeg x1) 1) = 0 then
            (some (.inl (some (zI 1)), s3))
            else
            (zcI (zrun zP 62 [zR 13 i0, zR 12 (6 * i0 + Int32.toNatClampNeg x1), zI x2, zI x3] s3) (fun r4 s4 =>
              if r4 = 0 then
                (some (.inl (some (zI 0)), s4))
                else
                (some (.inl (some (zI 1)), s4)))))
          else
          (some (.inl (some (zI 0)), s3))))
      else
      (some (.inl (some (zI 0)), σ))))) := (zrun_eq _ _ _).trans ((zun_eq zK_X3_allowsMark [] 30 _ _).trans rfl)
set_option maxRecDepth 100000 in
theorem e_X3_hasRoomForMark_2 (i0 : Nat) (x1 : Int32) (x2 : Int32) (σ : zSt) : zX zP zK_X3_hasRoomForMark (2, [zR 13 i0, zI x1, zI x2], []) σ = (
  if x2 < (σ.1 13 i0 0) then
  (zcI (zrun zP 58 [zR 13 i0, zI x2, zI x1] σ) (fun r1 s1 =>
    if r1 = 0 then
      (zX zP zK_X3_hasRoomForMark (2, [zR 13 i0, zI x1, zI (x2 + 1)], []) s1)
      else
      (if x2 < 0 ∨ 6 ≤ Int32.toNatClampNeg x2 then
        (none)
        else
        (zcI (zrun zP 26 [zR 12 (6 * i0 + Int32.toNatClampNeg x2)] s1) (fun r2 s2 =>
          if r2 = 0 then
            (zX zP zK_X3_hasRoomForMark (2, [zR 13 i0, zI x1, zI (x2 + 1)], []) s2)
            else
            (some (.inl (some (zI 0)), s2)))))))
  else
  (some (.inl (some (zI 1)), σ))) := (zun_eq zK_X3_hasRoomForMark [2] 18 _ _).trans rfl
set_option maxRecDepth 100000 in
theorem e_X3_hasRoomForMark (i0 : Nat) (x1 : Int32) (σ : zSt) : zrun zP 64 [zR 13 i0, zI x1] σ = (
  zX zP zK_X3_hasRoomForMark (2, [zR 13 i0, zI x1, zI x1], []) σ) := (zrun_eq _ _ _).trans ((zun_eq zK_X3_hasRoomForMark [2] 3 _ _).trans rfl)
set_option maxRecDepth 100000 in
theorem e_X3_addMark_5 (i0 : Nat) (x1 : Int32) (x2 : Int32) (x3 : Int32) (x4 : Int32) (σ : zSt) : zX zP zK_X3_addMark (5, [zR 13 i0, zI x1, zI x2, zI x3, zI x4], []) σ = (
  if x4 < (σ.1 13 i0 0) then
  (zcI (zrun zP 58 [zR 13 i0, zI x4, zI x1] σ) (fun r1 s1 =>
    if r1 = 0 then
      (zX zP zK_X3_addMark (5, [zR 13 i0, zI x1, zI x2, zI x3, zI (x4 + 1)], []) s1)
      else
      (if x4 < 0 ∨ 6 ≤ Int32.toNatClampNeg x4 then
        (none)
        else
        (zcI (zrun zP 30 [zR 12 (6 * i0 + Int32.toNatClampNeg x4), zI x2, zI x3, zI 0] s1) (fun r2 s2 =>
          zX zP zK_X3_addMark (5, [zR 13 i0, zI x1, zI x2, zI x3, zI (x4 + 1)], []) s2)))))
  else
  (if x1 < 0 ∨ 6 ≤ Int32.toNatClampNeg x1 then
    (none)
    else
    (zcI (zrun zP 30 [zR 12 (6 * i0 + Int32.toNatClampNeg x1), zI x2, zI x3, zI 0] σ) (fun r3 s3 =>
      some (.inl (some (zI r3)), s3))))) := (zun_eq zK_X3_addMark [5] 21 _ _).trans rfl
set_option maxRecDepth 100000 in
theorem e_X3_addMark (i0 : Nat) (x1 : Int32) (x2 : Int32) (x3 : Int32) (σ : zSt) : zrun zP 65 [zR 13 i0, zI x1, zI x2, zI x3] σ = (
  zX zP zK_X3_addMark (5, [zR 13 i0, zI x1, zI x2, zI x3, zI (x1 + 1)], []) σ) := (zrun_eq _ _ _).trans ((zun_eq zK_X3_addMark [5] 5 _ _).trans rfl)
set_option maxRecDepth 100000 in
theorem e_X3_allowsPoint (i0 : Nat) (x1 : Int32) (x2 : Int32) (σ : zSt) : zrun zP 66 [zR 13 i0, zI x1, zI x2] σ = (
  if x1 < 0 ∨ 6 ≤ Int32.toNatClampNeg x1 then
  (none)
  else
  (if (σ.1 12 (6 * i0 + Int32.toNatClampNeg x1) 1) = 3 then
    (zcI (zrun zP 40 [zR 12 (6 * i0 + Int32.toNatClampNeg x1), zI x2] σ) (fun r1 s1 =>
      if r1 = (-1) then
        (if (s1.1 12 (6 * i0 + Int32.toNatClampNeg x1) 2) = (-1) then
          (some (.inl (some (zI 1)), s1))
          else
          (zcI (zrun zP 62 [zR 13 i0, zR 12 (6 * i0 + Int32.toNatClampNeg x1), zI x2, zI x2] s1) (fun r2 s2 =>
            if r2 = 0 then
              (some (.inl (some (zI 0)), s2))
              else
              (some (.inl (some (zI 1)), s2)))))
        else
        (some (.inl (some (zI 0)), s1))))
    else
    (some (.inl (some (zI 0)), σ)))) := (zrun_eq _ _ _).trans ((zun_eq zK_X3_allowsPoint [] 28 _ _).trans rfl)
set_option maxRecDepth 100000 in
theorem e_X3_heirOf (i0 : Nat) (x1 : Int32) (x2 : Int32) (σ : zSt) : zrun zP 67 [zR 13 i0, zI x1, zI x2] σ = (
  if x1 < 0 ∨ 6 ≤ Int32.toNatClampNeg x1 then
  (none)
  else
  (zcI (zrun zP 27 [zR 12 (6 * i0 + Int32.toNatClampNeg x1), zI (x2 - 1)] σ) (fun r1 s1 =>
    if r1 = 0 then
      (zcI (zrun zP 27 [zR 12 (6 * i0 + Int32.toNatClampNeg x1), zI (x2 + 1)] s1) (fun r2 s2 =>
        if r2 = 0 then
          (some (.inl (some (zI (-1))), s2))
          else
          (zcI (zrun zP 60 [zR 13 i0, zI x1, zI x2, zI (x2 + 1)] s2) (fun r3 s3 =>
            if r3 = 0 then
              (some (.inl (some (zI (-1))), s3))
              else
              (some (.inl (some (zI (x2 + 1))), s3))))))
      else
      (zcI (zrun zP 60 [zR 13 i0, zI x1, zI (x2 - 1), zI x2] s1) (fun r4 s4 =>
        if r4 = 0 then
          (zcI (zrun zP 27 [zR 12 (6 * i0 + Int32.toNatClampNeg x1), zI (x2 + 1)] s4) (fun r5 s5 =>
            if r5 = 0 then
              (some (.inl (some (zI (-1))), s5))
              else
              (zcI (zrun zP 60 [zR 13 i0, zI x1, zI x2, zI (x2 + 1)] s5) (fun r6 s6 =>
                if r6 = 0 then
                  (some (.inl (some (zI (-1))), s6))
                  else
                  (some (.inl (some (zI (x2 + 1))), s6))))))
          else
          (some (.inl (some (zI (x2 - 1))), s4))))))) := (zrun_eq _ _ _).trans ((zun_eq zK_X3_heirOf [] 38 _ _).trans rfl)
set_option maxRecDepth 100000 in
theorem e_X3_removePiece (i0 : Nat) (x1 : Int32) (x2 : Int32) (x3 : Int32) (σ : zSt) : zrun zP 68 [zR 13 i0, zI x1, zI x2, zI x3] σ = (
  if x1 < 0 ∨ 6 ≤ Int32.toNatClampNeg x1 then
  (none)
  else
  (if x3 < x2 then
    (if x2 < 0 ∨ 40 ≤ Int32.toNatClampNeg x2 then
      (none)
      else
      (if x3 < 0 ∨ 40 ≤ Int32.toNatClampNeg x3 then
        (none)
        else
        (zcV (zrun zP 31 [zR 12 (6 * i0 + Int32.toNatClampNeg x1), zI x2] (zms σ.1 21 (6 * i0 + Int32.toNatClampNeg x1) (Int32.toNatClampNeg x3) (σ.1 21 (6 * i0 + Int32.toNatClampNeg x1) (Int32.toNatClampNeg x2)), σ.2)) (fun s1 =>
          some (.inl none, s1)))))
    else
    (if x2 < 0 ∨ 40 ≤ Int32.toNatClampNeg x2 then
      (none)
      else
      (if x3 < 0 ∨ 40 ≤ Int32.toNatClampNeg x3 then
        (none)
        else
        (zcV (zrun zP 31 [zR 12 (6 * i0 + Int32.toNatClampNeg x1), zI x2] (zms σ.1 20 (6 * i0 + Int32.toNatClampNeg x1) (Int32.toNatClampNeg x3) (σ.1 20 (6 * i0 + Int32.toNatClampNeg x1) (Int32.toNatClampNeg x2)), σ.2)) (fun s2 =>
          some (.inl none, s2))))))) := (zrun_eq _ _ _).trans ((zun_eq zK_X3_removePiece [] 22 _ _).trans rfl)
set_option maxRecDepth 100000 in
theorem e_X3_removeWhole_44 (i0 : Nat) (x1 : Int32) (x2 : Int32) (x3 : Int32) (x4 : Int32) (x5 : Int32) (x6 : Int32) (σ : zSt) : zX zP zK_X3_removeWhole (44, [zR 13 i0, zI x1, zI x2, zI x3, zI x4, zI x5, zI x6], []) σ = (
  if x6 < (σ.1 13 i0 0) then
  (zcI (zrun zP 57 [zR 13 i0, zI x6, zI x1] σ) (fun r1 s1 =>
    if r1 = 0 then
      (zX zP zK_X3_removeWhole (44, [zR 13 i0, zI x1, zI x2, zI x3, zI x4, zI x5, zI (x6 + 1)], []) s1)
      else
      (if x6 < 0 ∨ 6 ≤ Int32.toNatClampNeg x6 then
        (none)
        else
        (if (s1.1 12 (6 * i0 + Int32.toNatClampNeg x6) 1) = 3 then
          (if x6 < 0 ∨ 6 ≤ Int32.toNatClampNeg x6 then
            (none)
            else
            (zcI (zrun zP 70 [zR 13 i0, zR 12 (6 * i0 + Int32.toNatClampNeg x6)] s1) (fun r2 s2 =>
              zX zP zK_X3_removeWhole (44, [zR 13 i0, zI x1, zI x2, zI x3, zI x4, zI (x5 + r2), zI (x6 + 1)], []) s2)))
          else
          (if x6 < 0 ∨ 6 ≤ Int32.toNatClampNeg x6 then
            (none)
            else
            (zcI (zrun zP 32 [zR 12 (6 * i0 + Int32.toNatClampNeg x6), zI x3, zI x4] s1) (fun r3 s3 =>
              zX zP zK_X3_removeWhole (44, [zR 13 i0, zI x1, zI x2, zI x3, zI x4, zI (x5 + r3), zI (x6 + 1)], []) s3)))))))
  else
  (some (.inl (some (zI x5)), σ))) := (zun_eq zK_X3_removeWhole [44] 29 _ _).trans rfl
set_option maxRecDepth 100000 in
theorem e_X3_removeWhole (i0 : Nat) (x1 : Int32) (x2 : Int32) (σ : zSt) : zrun zP 69 [zR 13 i0, zI x1, zI x2] σ = (
  if x1 < 0 ∨ 6 ≤ Int32.toNatClampNeg x1 then
  (none)
  else
  (if x2 < 0 ∨ 40 ≤ Int32.toNatClampNeg x2 then
    (none)
    else
    (if x1 < 0 ∨ 6 ≤ Int32.toNatClampNeg x1 then
      (none)
      else
      (if x2 < 0 ∨ 40 ≤ Int32.toNatClampNeg x2 then
        (none)
        else
        (if x1 < 0 ∨ 6 ≤ Int32.toNatClampNeg x1 then
          (none)
          else
          (zcI (zrun zP 32 [zR 12 (6 * i0 + Int32.toNatClampNeg x1), zI (σ.1 20 (6 * i0 + Int32.toNatClampNeg x1) (Int32.toNatClampNeg x2)), zI (σ.1 21 (6 * i0 + Int32.toNatClampNeg x1) (Int32.toNatClampNeg x2))] σ) (fun r1 s1 =>
            zX zP zK_X3_removeWhole (44, [zR 13 i0, zI x1, zI x2, zI (σ.1 20 (6 * i0 + Int32.toNatClampNeg x1) (Int32.toNatClampNeg x2)), zI (σ.1 21 (6 * i0 + Int32.toNatClampNeg x1) (Int32.toNatClampNeg x2)), zI r1, zI (x1 + 1)], []) s1))))))) := (zrun_eq _ _ _).trans ((zun_eq zK_X3_removeWhole [44] 29 _ _).trans rfl)
set_option maxRecDepth 100000 in
theorem e_X3_removeLostPoints_9 (i0 : Nat) (i1 : Nat) (x2 : Int32) (x3 : Int32) (σ : zSt) : zX zP zK_X3_removeLostPoints (9, [zR 13 i0, zR 12 i1, zI x2, zI x3], []) σ = (
  if x3 < 0 then
  (some (.inl (some (zI x2)), σ))
  else
  (if x3 < 0 ∨ 40 ≤ Int32.toNatClampNeg x3 then
    (none)
    else
    (if x3 < 0 ∨ 40 ≤ Int32.toNatClampNeg x3 then
      (none)
      else
      (zcI (zrun zP 62 [zR 13 i0, zR 12 i1, zI (σ.1 20 i1 (Int32.toNatClampNeg x3)), zI (σ.1 21 i1 (Int32.toNatClampNeg x3))] σ) (fun r1 s1 =>
        if r1 = 0 then
          (zcV (zrun zP 31 [zR 12 i1, zI x3] s1) (fun s2 =>
            zX zP zK_X3_removeLostPoints (9, [zR 13 i0, zR 12 i1, zI (x2 + 1), zI (x3 + (-1))], []) s2))
          else
          (zX zP zK_X3_removeLostPoints (9, [zR 13 i0, zR 12 i1, zI x2, zI (x3 + (-1))], []) s1)))))) := (zun_eq zK_X3_removeLostPoints [9] 21 _ _).trans rfl
set_option maxRecDepth 100000 in
theorem e_X3_removeLostPoints (i0 : Nat) (i1 : Nat) (σ : zSt) : zrun zP 70 [zR 13 i0, zR 12 i1] σ = (
  zX zP zK_X3_removeLostPoints (9, [zR 13 i0, zR 12 i1, zI 0, zI ((σ.1 12 i1 5) - 1)], []) σ) := (zrun_eq _ _ _).trans ((zun_eq zK_X3_removeLostPoints [9] 8 _ _).trans rfl)
set_option maxRecDepth 100000 in
theorem e_X3_isCutWith (i0 : Nat) (x1 : Int32) (x2 : Int32) (x3 : Int32) (σ : zSt) : zrun zP 71 [zR 13 i0, zI x1, zI x2, zI x3] σ = (
  if x1 = x2 then
  (if x1 < 0 ∨ 6 ≤ Int32.toNatClampNeg x1 then
    (none)
    else
    (zcI (zrun zP 41 [zR 12 (6 * i0 + Int32.toNatClampNeg x1), zI x3] σ) (fun r1 s1 =>
      if r1 = (-1) then
        (some (.inl (some (zI 0)), s1))
        else
        (some (.inl (some (zI 1)), s1)))))
  else
  (if x1 < 0 ∨ 6 ≤ Int32.toNatClampNeg x1 then
    (none)
    else
    (if (σ.1 12 (6 * i0 + Int32.toNatClampNeg x1) 1) = 1 then
      (zcI (zrun zP 57 [zR 13 i0, zI x1, zI x2] σ) (fun r2 s2 =>
        if r2 = 0 then
          (some (.inl (some (zI 0)), s2))
          else
          (if x1 < 0 ∨ 6 ≤ Int32.toNatClampNeg x1 then
            (none)
            else
            (zcI (zrun zP 41 [zR 12 (6 * i0 + Int32.toNatClampNeg x1), zI x3] s2) (fun r3 s3 =>
              if r3 = (-1) then
                (some (.inl (some (zI 0)), s3))
                else
                (some (.inl (some (zI 1)), s3)))))))
      else
      (some (.inl (some (zI 0)), σ))))) := (zrun_eq _ _ _).trans ((zun_eq zK_X3_isCutWith [] 27 _ _).trans rfl)
set_option maxRecDepth 100000 in
theorem e_X3_allowsCut_33 (i0 : Nat) (x1 : Int32) (x2 : Int32) (x3 : Int32) (σ : zSt) : zX zP zK_X3_allowsCut (33, [zR 13 i0, zI x1, zI x2, zI x3], []) σ = (
  if x3 < (σ.1 13 i0 0) then
  (if x3 < 0 ∨ 6 ≤ Int32.toNatClampNeg x3 then
    (none)
    else
    (if (σ.1 12 (6 * i0 + Int32.toNatClampNeg x3) 1) = 2 then
      (zcI (zrun zP 57 [zR 13 i0, zI x3, zI x1] σ) (fun r1 s1 =>
        if r1 = 0 then
          (zX zP zK_X3_allowsCut (33, [zR 13 i0, zI x1, zI x2, zI (x3 + 1)], []) s1)
          else
          (if x3 < 0 ∨ 6 ≤ Int32.toNatClampNeg x3 then
            (none)
            else
            (zcI (zrun zP 41 [zR 12 (6 * i0 + Int32.toNatClampNeg x3), zI x2] s1) (fun r2 s2 =>
              if r2 = (-1) then
                (zX zP zK_X3_allowsCut (33, [zR 13 i0, zI x1, zI x2, zI (x3 + 1)], []) s2)
                else
                (some (.inl (some (zI 0)), s2)))))))
      else
      (zX zP zK_X3_allowsCut (33, [zR 13 i0, zI x1, zI x2, zI (x3 + 1)], []) σ)))
  else
  (some (.inl (some (zI 1)), σ))) := (zun_eq zK_X3_allowsCut [33] 27 _ _).trans rfl
set_option maxRecDepth 100000 in
theorem e_X3_allowsCut (i0 : Nat) (x1 : Int32) (x2 : Int32) (σ : zSt) : zrun zP 72 [zR 13 i0, zI x1, zI x2] σ = (
  if x1 < 0 ∨ 6 ≤ Int32.toNatClampNeg x1 then
  (none)
  else
  (if (σ.1 12 (6 * i0 + Int32.toNatClampNeg x1) 1) = 3 then
    (some (.inl (some (zI 0)), σ))
    else
    (if x1 < 0 ∨ 6 ≤ Int32.toNatClampNeg x1 then
      (none)
      else
      (zcI (zrun zP 41 [zR 12 (6 * i0 + Int32.toNatClampNeg x1), zI x2] σ) (fun r1 s1 =>
        if r1 = (-1) then
          (some (.inl (some (zI 0)), s1))
          else
          (zX zP zK_X3_allowsCut (33, [zR 13 i0, zI x1, zI x2, zI (x1 + 1)], []) s1)))))) := (zrun_eq _ _ _).trans ((zun_eq zK_X3_allowsCut [33] 20 _ _).trans rfl)
set_option maxRecDepth 100000 in
theorem e_X3_hasRoomForCut_2 (i0 : Nat) (x1 : Int32) (x2 : Int32) (x3 : Int32) (σ : zSt) : zX zP zK_X3_hasRoomForCut (2, [zR 13 i0, zI x1, zI x2, zI x3], []) σ = (
  if x3 < (σ.1 13 i0 0) then
  (zcI (zrun zP 71 [zR 13 i0, zI x3, zI x1, zI x2] σ) (fun r1 s1 =>
    if r1 = 0 then
      (zX zP zK_X3_hasRoomForCut (2, [zR 13 i0, zI x1, zI x2, zI (x3 + 1)], []) s1)
      else
      (if x3 < 0 ∨ 6 ≤ Int32.toNatClampNeg x3 then
        (none)
        else
        (zcI (zrun zP 26 [zR 12 (6 * i0 + Int32.toNatClampNeg x3)] s1) (fun r2 s2 =>
          if r2 = 0 then
            (zX zP zK_X3_hasRoomForCut (2, [zR 13 i0, zI x1, zI x2, zI (x3 + 1)], []) s2)
            else
            (some (.inl (some (zI 0)), s2)))))))
  else
  (some (.inl (some (zI 1)), σ))) := (zun_eq zK_X3_hasRoomForCut [2] 19 _ _).trans rfl
set_option maxRecDepth 100000 in
theorem e_X3_hasRoomForCut (i0 : Nat) (x1 : Int32) (x2 : Int32) (σ : zSt) : zrun zP 73 [zR 13 i0, zI x1, zI x2] σ = (
  zX zP zK_X3_hasRoomForCut (2, [zR 13 i0, zI x1, zI x2, zI x1], []) σ) := (zrun_eq _ _ _).trans ((zun_eq zK_X3_hasRoomForCut [2] 3 _ _).trans rfl)
set_option maxRecDepth 100000 in
theorem e_X3_cutAt_5 (i0 : Nat) (x1 : Int32) (x2 : Int32) (x3 : Int32) (x4 : Int32) (σ : zSt) : zX zP zK_X3_cutAt (5, [zR 13 i0, zI x1, zI x2, zI x3, zI x4], []) σ = (
  if x4 < (σ.1 13 i0 0) then
  (zcI (zrun zP 71 [zR 13 i0, zI x4, zI x1, zI x2] σ) (fun r1 s1 =>
    if r1 = 0 then
      (zX zP zK_X3_cutAt (5, [zR 13 i0, zI x1, zI x2, zI x3, zI (x4 + 1)], []) s1)
      else
      (if x4 < 0 ∨ 6 ≤ Int32.toNatClampNeg x4 then
        (none)
        else
        (if x4 < 0 ∨ 6 ≤ Int32.toNatClampNeg x4 then
          (none)
          else
          (zcI (zrun zP 41 [zR 12 (6 * i0 + Int32.toNatClampNeg x4), zI x2] s1) (fun r2 s2 =>
            zcV (zrun zP 33 [zR 12 (6 * i0 + Int32.toNatClampNeg x4), zI r2, zI x2] s2) (fun s3 =>
              zX zP zK_X3_cutAt (5, [zR 13 i0, zI x1, zI x2, zI (x3 + 1), zI (x4 + 1)], []) s3)))))))
  else
  (some (.inl (some (zI x3)), σ))) := (zun_eq zK_X3_cutAt [5] 26 _ _).trans rfl
set_option maxRecDepth 100000 in
theorem e_X3_cutAt (i0 : Nat) (x1 : Int32) (x2 : Int32) (σ : zSt) : zrun zP 74 [zR 13 i0, zI x1, zI x2] σ = (
  zX zP zK_X3_cutAt (5, [zR 13 i0, zI x1, zI x2, zI 0, zI x1], []) σ) := (zrun_eq _ _ _).trans ((zun_eq zK_X3_cutAt [5] 5 _ _).trans rfl)
set_option maxRecDepth 100000 in
theorem e_X3_allowsJoin (i0 : Nat) (x1 : Int32) (x2 : Int32) (σ : zSt) : zrun zP 75 [zR 13 i0, zI x1, zI x2] σ = (
  if x1 < 0 ∨ 6 ≤ Int32.toNatClampNeg x1 then
  (none)
  else
  (if (σ.1 12 (6 * i0 + Int32.toNatClampNeg x1) 1) = 3 then
    (some (.inl (some (zI 0)), σ))
    else
    (zcI (zrun zP 27 [zR 12 (6 * i0 + Int32.toNatClampNeg x1), zI x2] σ) (fun r1 s1 =>
      if r1 = 0 then
        (some (.inl (some (zI 0)), s1))
        else
        (zcI (zrun zP 27 [zR 12 (6 * i0 + Int32.toNatClampNeg x1), zI (x2 + 1)] s1) (fun r2 s2 =>
          if r2 = 0 then
            (some (.inl (some (zI 0)), s2))
            else
            (if x2 < 0 ∨ 40 ≤ Int32.toNatClampNeg x2 then
              (none)
              else
              (if (x2 + 1) < 0 ∨ 40 ≤ Int32.toNatClampNeg (x2 + 1) then
                (none)
                else
                (if (s2.1 21 (6 * i0 + Int32.toNatClampNeg x1) (Int32.toNatClampNeg x2)) = (s2.1 20 (6 * i0 + Int32.toNatClampNeg x1) (Int32.toNatClampNeg (x2 + 1))) then
                  (zcI (zrun zP 60 [zR 13 i0, zI x1, zI x2, zI (x2 + 1)] s2) (fun r3 s3 =>
                    if r3 = 0 then
                      (some (.inl (some (zI 0)), s3))
                      else
                      (some (.inl (some (zI 1)), s3))))
                  else
                  (some (.inl (some (zI 0)), s2))))))))))) := (zrun_eq _ _ _).trans ((zun_eq zK_X3_allowsJoin [] 42 _ _).trans rfl)
set_option maxRecDepth 100000 in
theorem e_X3_gapBehind (i0 : Nat) (x1 : Int32) (x2 : Int32) (σ : zSt) : zrun zP 76 [zR 13 i0, zI x1, zI x2] σ = (
  if x1 < 0 ∨ 6 ≤ Int32.toNatClampNeg x1 then
  (none)
  else
  (if (σ.1 12 (6 * i0 + Int32.toNatClampNeg x1) 1) = 3 then
    (some (.inl (some (zI 0)), σ))
    else
    (zcI (zrun zP 27 [zR 12 (6 * i0 + Int32.toNatClampNeg x1), zI x2] σ) (fun r1 s1 =>
      if r1 = 0 then
        (some (.inl (some (zI 0)), s1))
        else
        (zcI (zrun zP 27 [zR 12 (6 * i0 + Int32.toNatClampNeg x1), zI (x2 + 1)] s1) (fun r2 s2 =>
          if r2 = 0 then
            (some (.inl (some (zI 0)), s2))
            else
            (zcI (zrun zP 60 [zR 13 i0, zI x1, zI x2, zI (x2 + 1)] s2) (fun r3 s3 =>
              if r3 = 0 then
                (some (.inl (some (zI 0)), s3))
                else
                (if (x2 + 1) < 0 ∨ 40 ≤ Int32.toNatClampNeg (x2 + 1) then
                  (none)
                  else
                  (if x2 < 0 ∨ 40 ≤ Int32.toNatClampNeg x2 then
                    (none)
                    else
                    (some (.inl (some (zI ((s3.1 20 (6 * i0 + Int32.toNatClampNeg x1) (Int32.toNatClampNeg (x2 + 1))) - (s3.1 21 (6 * i0 + Int32.toNatClampNeg x1) (Int32.toNatClampNeg x2))))), s3)))))))))))) := (zrun_eq _ _ _).trans ((zun_eq zK_X3_gapBehind [] 41 _ _).trans rfl)
set_option maxRecDepth 100000 in
theorem e_X3_listStops_6 (i0 : Nat) (x1 : Int32) (i2 : Nat) (x3 : Int32) (σ : zSt) : zX zP zK_X3_listStops (6, [zR 13 i0, zI x1, zR 14 i2, zI x3], []) σ = (
  if x3 < (σ.1 13 i0 0) then
  (if x3 < 0 ∨ 6 ≤ Int32.toNatClampNeg x3 then
    (none)
    else
    (if (σ.1 12 (6 * i0 + Int32.toNatClampNeg x3) 3) = x1 then
      (if x3 < 0 ∨ 6 ≤ Int32.toNatClampNeg x3 then
        (none)
        else
        (zcV (zrun zP 44 [zR 12 (6 * i0 + Int32.toNatClampNeg x3), zR 14 i2] σ) (fun s1 =>
          zX zP zK_X3_listStops (6, [zR 13 i0, zI x1, zR 14 i2, zI (x3 + 1)], []) s1)))
      else
      (zX zP zK_X3_listStops (6, [zR 13 i0, zI x1, zR 14 i2, zI (x3 + 1)], []) σ)))
  else
  (some (.inl none, σ))) := (zun_eq zK_X3_listStops [6] 20 _ _).trans rfl
set_option maxRecDepth 100000 in
theorem e_X3_listStops (i0 : Nat) (x1 : Int32) (i2 : Nat) (σ : zSt) : zrun zP 77 [zR 13 i0, zI x1, zR 14 i2] σ = (
  zcV (zrun zP 86 [zR 14 i2] σ) (fun s1 =>
  zX zP zK_X3_listStops (6, [zR 13 i0, zI x1, zR 14 i2, zI 0], []) s1)) := (zrun_eq _ _ _).trans ((zun_eq zK_X3_listStops [6] 5 _ _).trans rfl)
set_option maxRecDepth 100000 in
theorem e_X3_countEnds_5 (i0 : Nat) (x1 : Int32) (x2 : Int32) (x3 : Int32) (x4 : Int32) (σ : zSt) : zX zP zK_X3_countEnds (5, [zR 13 i0, zI x1, zI x2, zI x3, zI x4], []) σ = (
  if x4 < (σ.1 13 i0 0) then
  (if x4 < 0 ∨ 6 ≤ Int32.toNatClampNeg x4 then
    (none)
    else
    (if (σ.1 12 (6 * i0 + Int32.toNatClampNeg x4) 3) = x1 then
      (if x4 < 0 ∨ 6 ≤ Int32.toNatClampNeg x4 then
        (none)
        else
        (zcI (zrun zP 46 [zR 12 (6 * i0 + Int32.toNatClampNeg x4), zI x2] σ) (fun r1 s1 =>
          zX zP zK_X3_countEnds (5, [zR 13 i0, zI x1, zI x2, zI (x3 + r1), zI (x4 + 1)], []) s1)))
      else
      (zX zP zK_X3_countEnds (5, [zR 13 i0, zI x1, zI x2, zI x3, zI (x4 + 1)], []) σ)))
  else
  (some (.inl (some (zI x3)), σ))) := (zun_eq zK_X3_countEnds [5] 23 _ _).trans rfl
set_option maxRecDepth 100000 in
theorem e_X3_countEnds (i0 : Nat) (x1 : Int32) (x2 : Int32) (σ : zSt) : zrun zP 78 [zR 13 i0, zI x1, zI x2] σ = (
  zX zP zK_X3_countEnds (5, [zR 13 i0, zI x1, zI x2, zI 0, zI 0], []) σ) := (zrun_eq _ _ _).trans ((zun_eq zK_X3_countEnds [5] 5 _ _).trans rfl)
set_option maxRecDepth 100000 in
theorem e_X3_leastFor_5 (i0 : Nat) (x1 : Int32) (x2 : Int32) (x3 : Int32) (x4 : Int32) (v5 : zAV) (σ : zSt) : zX zP zK_X3_leastFor (5, [zR 13 i0, zI x1, zI x2, zI x3, zI x4, v5], []) σ = (
  if x4 < (σ.1 13 i0 0) then
  (zX zP zK_X3_leastFor (17, [zR 13 i0, zI x1, zI x2, zI x3, zI x4, zI 0], []) σ)
  else
  (some (.inl (some (zI x3)), σ))) := (zun_eq zK_X3_leastFor [5, 17] 7 _ _).trans rfl
set_option maxRecDepth 100000 in
theorem e_X3_leastFor_17 (i0 : Nat) (x1 : Int32) (x2 : Int32) (x3 : Int32) (x4 : Int32) (x5 : Int32) (σ : zSt) : zX zP zK_X3_leastFor (17, [zR 13 i0, zI x1, zI x2, zI x3, zI x4, zI x5], []) σ = (
  if x4 < 0 ∨ 6 ≤ Int32.toNatClampNeg x4 then
  (none)
  else
  (if (σ.1 12 (6 * i0 + Int32.toNatClampNeg x4) 3) = x1 then
    (if x4 < 0 ∨ 6 ≤ Int32.toNatClampNeg x4 then
      (none)
      else
      (if x5 < (σ.1 12 (6 * i0 + Int32.toNatClampNeg x4) 5) then
        (if x4 < 0 ∨ 6 ≤ Int32.toNatClampNeg x4 then
          (none)
          else
          (if x5 < 0 ∨ 40 ≤ Int32.toNatClampNeg x5 then
            (none)
            else
            (if (σ.1 20 (6 * i0 + Int32.toNatClampNeg x4) (Int32.toNatClampNeg x5)) < x2 then
              (if x4 < 0 ∨ 6 ≤ Int32.toNatClampNeg x4 then
                (none)
                else
                (if x5 < 0 ∨ 40 ≤ Int32.toNatClampNeg x5 then
                  (none)
                  else
                  (if x4 < 0 ∨ 6 ≤ Int32.toNatClampNeg x4 then
                    (none)
                    else
                    (if x5 < 0 ∨ 40 ≤ Int32.toNatClampNeg x5 then
                      (none)
                      else
                      (if (σ.1 21 (6 * i0 + Int32.toNatClampNeg x4) (Int32.toNatClampNeg x5)) < x2 then
                        (if x4 < 0 ∨ 6 ≤ Int32.toNatClampNeg x4 then
                          (none)
                          else
                          (if x5 < 0 ∨ 40 ≤ Int32.toNatClampNeg x5 then
                            (none)
                            else
                            (zX zP zK_X3_leastFor (17, [zR 13 i0, zI x1, zI x2, zI (if (if x3 < ((σ.1 20 (6 * i0 + Int32.toNatClampNeg x4) (Int32.toNatClampNeg x5)) + 1) then ((σ.1 20 (6 * i0 + Int32.toNatClampNeg x4) (Int32.toNatClampNeg x5)) + 1) else x3) < ((σ.1 21 (6 * i0 + Int32.toNatClampNeg x4) (Int32.toNatClampNeg x5)) + 1) then ((σ.1 21 (6 * i0 + Int32.toNatClampNeg x4) (Int32.toNatClampNeg x5)) + 1) else (if x3 < ((σ.1 20 (6 * i0 + Int32.toNatClampNeg x4) (Int32.toNatClampNeg x5)) + 1) then ((σ.1 20 (6 * i0 + Int32.toNatClampNeg x4) (Int32.toNatClampNeg x5)) + 1) else x3)), zI x4, zI (x5 + 1)], []) σ)))
                        else
                        (zX zP zK_X3_leastFor (17, [zR 13 i0, zI x1, zI x2, zI (if x3 < ((σ.1 20 (6 * i0 + Int32.toNatClampNeg x4) (Int32.toNatClampNeg x5)) + 1) then ((σ.1 20 (6 * i0 + Int32.toNatClampNeg x4) (Int32.toNatClampNeg x5)) + 1) else x3), zI x4, zI (x5 + 1)], []) σ))))))
              else
              (if x4 < 0 ∨ 6 ≤ Int32.toNatClampNeg x4 then
                (none)
                else
                (if x5 < 0 ∨ 40 ≤ Int32.toNatClampNeg x5 then
                  (none)
                  else
                  (if (σ.1 21 (6 * i0 + Int32.toNatClampNeg x4) (Int32.toNatClampNeg x5)) < x2 then
                    (if x4 < 0 ∨ 6 ≤ Int32.toNatClampNeg x4 then
                      (none)
                      else
                      (if x5 < 0 ∨ 40 ≤ Int32.toNatClampNeg x5 then
                        (none)
                        else
                        (zX zP zK_X3_leastFor (17, [zR 13 i0, zI x1, zI x2, zI (if x3 < ((σ.1 21 (6 * i0 + Int32.toNatClampNeg x4) (Int32.toNatClampNeg x5)) + 1) then ((σ.1 21 (6 * i0 + Int32.toNatClampNeg x4) (Int32.toNatClampNeg x5)) + 1) else x3), zI x4, zI (x5 + 1)], []) σ)))
                    else
                    (zX zP zK_X3_leastFor (17, [zR 13 i0, zI x1, zI x2, zI x3, zI x4, zI (x5 + 1)], []) σ)))))))
        else
        (zX zP zK_X3_leastFor (5, [zR 13 i0, zI x1, zI x2, zI x3, zI (x4 + 1), zI x5], []) σ)))
    else
    (zX zP zK_X3_leastFor (5, [zR 13 i0, zI x1, zI x2, zI x3, zI (x4 + 1), zI x5], []) σ))) := (zun_eq zK_X3_leastFor [5, 17] 59 _ _).trans rfl
set_option maxRecDepth 100000 in
theorem e_X3_leastFor (i0 : Nat) (x1 : Int32) (x2 : Int32) (σ : zSt) : zrun zP 79 [zR 13 i0, zI x1, zI x2] σ = (
  zX zP zK_X3_leastFor (5, [zR 13 i0, zI x1, zI x2, zI 0, zI 0, zJunk], []) σ) := (zrun_eq _ _ _).trans ((zun_eq zK_X3_leastFor [5, 17] 5 _ _).trans rfl)
set_option maxRecDepth 100000 in
theorem e_X3_greatestFor_7 (i0 : Nat) (x1 : Int32) (x2 : Int32) (x3 : Int32) (x4 : Int32) (v5 : zAV) (σ : zSt) : zX zP zK_X3_greatestFor (7, [zR 13 i0, zI x1, zI x2, zI x3, zI x4, v5], []) σ = (
  if x4 < (σ.1 13 i0 0) then
  (zX zP zK_X3_greatestFor (19, [zR 13 i0, zI x1, zI x2, zI x3, zI x4, zI 0], []) σ)
  else
  (some (.inl (some (zI x3)), σ))) := (zun_eq zK_X3_greatestFor [7, 19] 7 _ _).trans rfl
set_option maxRecDepth 100000 in
theorem e_X3_greatestFor_19 (i0 : Nat) (x1 : Int32) (x2 : Int32) (x3 : Int32) (x4 : Int32) (x5 : Int32) (σ : zSt) : zX zP zK_X3_greatestFor (19, [zR 13 i0, zI x1, zI x2, zI x3, zI x4, zI x5], []) σ = (
  if x4 < 0 ∨ 6 ≤ Int32.toNatClampNeg x4 then
  (none)
  else
  (if (σ.1 12 (6 * i0 + Int32.toNatClampNeg x4) 3) = x1 then
    (if x4 < 0 ∨ 6 ≤ Int32.toNatClampNeg x4 then
      (none)
      else
      (if x5 < (σ.1 12 (6 * i0 + Int32.toNatClampNeg x4) 5) then
        (if x4 < 0 ∨ 6 ≤ Int32.toNatClampNeg x4 then
          (none)
          else
          (if x5 < 0 ∨ 40 ≤ Int32.toNatClampNeg x5 then
            (none)
            else
            (if x2 < (σ.1 20 (6 * i0 + Int32.toNatClampNeg x4) (Int32.toNatClampNeg x5)) then
              (if x4 < 0 ∨ 6 ≤ Int32.toNatClampNeg x4 then
                (none)
                else
                (if x5 < 0 ∨ 40 ≤ Int32.toNatClampNeg x5 then
                  (none)
                  else
                  (if x4 < 0 ∨ 6 ≤ Int32.toNatClampNeg x4 then
                    (none)
                    else
                    (if x5 < 0 ∨ 40 ≤ Int32.toNatClampNeg x5 then
                      (none)
                      else
                      (if x2 < (σ.1 21 (6 * i0 + Int32.toNatClampNeg x4) (Int32.toNatClampNeg x5)) then
                        (if x4 < 0 ∨ 6 ≤ Int32.toNatClampNeg x4 then
                          (none)
                          else
                          (if x5 < 0 ∨ 40 ≤ Int32.toNatClampNeg x5 then
                            (none)
                            else
                            (zX zP zK_X3_greatestFor (19, [zR 13 i0, zI x1, zI x2, zI (if ((σ.1 21 (6 * i0 + Int32.toNatClampNeg x4) (Int32.toNatClampNeg x5)) - 1) < (if ((σ.1 20 (6 * i0 + Int32.toNatClampNeg x4) (Int32.toNatClampNeg x5)) - 1) < x3 then ((σ.1 20 (6 * i0 + Int32.toNatClampNeg x4) (Int32.toNatClampNeg x5)) - 1) else x3) then ((σ.1 21 (6 * i0 + Int32.toNatClampNeg x4) (Int32.toNatClampNeg x5)) - 1) else (if ((σ.1 20 (6 * i0 + Int32.toNatClampNeg x4) (Int32.toNatClampNeg x5)) - 1) < x3 then ((σ.1 20 (6 * i0 + Int32.toNatClampNeg x4) (Int32.toNatClampNeg x5)) - 1) else x3)), zI x4, zI (x5 + 1)], []) σ)))
                        else
                        (zX zP zK_X3_greatestFor (19, [zR 13 i0, zI x1, zI x2, zI (if ((σ.1 20 (6 * i0 + Int32.toNatClampNeg x4) (Int32.toNatClampNeg x5)) - 1) < x3 then ((σ.1 20 (6 * i0 + Int32.toNatClampNeg x4) (Int32.toNatClampNeg x5)) - 1) else x3), zI x4, zI (x5 + 1)], []) σ))))))
              else
              (if x4 < 0 ∨ 6 ≤ Int32.toNatClampNeg x4 then
                (none)
                else
                (if x5 < 0 ∨ 40 ≤ Int32.toNatClampNeg x5 then
                  (none)
                  else
                  (if x2 < (σ.1 21 (6 * i0 + Int32.toNatClampNeg x4) (Int32.toNatClampNeg x5)) then
                    (if x4 < 0 ∨ 6 ≤ Int32.toNatClampNeg x4 then
                      (none)
                      else
                      (if x5 < 0 ∨ 40 ≤ Int32.toNatClampNeg x5 then
                        (none)
                        else
                        (zX zP zK_X3_greatestFor (19, [zR 13 i0, zI x1, zI x2, zI (if ((σ.1 21 (6 * i0 + Int32.toNatClampNeg x4) (Int32.toNatClampNeg x5)) - 1) < x3 then ((σ.1 21 (6 * i0 + Int32.toNatClampNeg x4) (Int32.toNatClampNeg x5)) - 1) else x3), zI x4, zI (x5 + 1)], []) σ)))
                    else
                    (zX zP zK_X3_greatestFor (19, [zR 13 i0, zI x1, zI x2, zI x3, zI x4, zI (x5 + 1)], []) σ)))))))
        else
        (zX zP zK_X3_greatestFor (7, [zR 13 i0, zI x1, zI x2, zI x3, zI (x4 + 1), zI x5], []) σ)))
    else
    (zX zP zK_X3_greatestFor (7, [zR 13 i0, zI x1, zI x2, zI x3, zI (x4 + 1), zI x5], []) σ))) := (zun_eq zK_X3_greatestFor [7, 19] 59 _ _).trans rfl
set_option maxRecDepth 100000 in
theorem e_X3_greatestFor (i0 : Nat) (x1 : Int32) (x2 : Int32) (σ : zSt) : zrun zP 80 [zR 13 i0, zI x1, zI x2] σ = (
  zX zP zK_X3_greatestFor (7, [zR 13 i0, zI x1, zI x2, zI 999, zI 0, zJunk], []) σ) := (zrun_eq _ _ _).trans ((zun_eq zK_X3_greatestFor [7, 19] 5 _ _).trans rfl)
set_option maxRecDepth 100000 in
theorem e_X3_allowsShift (i0 : Nat) (x1 : Int32) (x2 : Int32) (x3 : Int32) (σ : zSt) : zrun zP 81 [zR 13 i0, zI x1, zI x2, zI x3] σ = (
  zcI (zrun zP 79 [zR 13 i0, zI x1, zI x2] σ) (fun r1 s1 =>
  if x3 < r1 then
    (some (.inl (some (zI 0)), s1))
    else
    (zcI (zrun zP 80 [zR 13 i0, zI x1, zI x2] s1) (fun r2 s2 =>
      if r2 < x3 then
        (some (.inl (some (zI 0)), s2))
        else
        (some (.inl (some (zI 1)), s2)))))) := (zrun_eq _ _ _).trans ((zun_eq zK_X3_allowsShift [] 16 _ _).trans rfl)
set_option maxRecDepth 100000 in
theorem e_X3_shiftStop_11 (i0 : Nat) (x1 : Int32) (x2 : Int32) (x3 : Int32) (x4 : Int32) (x5 : Int32) (σ : zSt) : zX zP zK_X3_shiftStop (11, [zR 13 i0, zI x1, zI x2, zI x3, zI x4, zI x5], []) σ = (
  if x5 < (σ.1 13 i0 0) then
  (if x5 < 0 ∨ 6 ≤ Int32.toNatClampNeg x5 then
    (none)
    else
    (if (σ.1 12 (6 * i0 + Int32.toNatClampNeg x5) 3) = x1 then
      (if x5 < 0 ∨ 6 ≤ Int32.toNatClampNeg x5 then
        (none)
        else
        (zcV (zrun zP 47 [zR 12 (6 * i0 + Int32.toNatClampNeg x5), zI x2, zI x3] σ) (fun s1 =>
          zX zP zK_X3_shiftStop (11, [zR 13 i0, zI x1, zI x2, zI x3, zI x4, zI (x5 + 1)], []) s1)))
      else
      (zX zP zK_X3_shiftStop (11, [zR 13 i0, zI x1, zI x2, zI x3, zI x4, zI (x5 + 1)], []) σ)))
  else
  (some (.inl (some (zI x4)), σ))) := (zun_eq zK_X3_shiftStop [11] 21 _ _).trans rfl
set_option maxRecDepth 100000 in
theorem e_X3_shiftStop (i0 : Nat) (x1 : Int32) (x2 : Int32) (x3 : Int32) (σ : zSt) : zrun zP 82 [zR 13 i0, zI x1, zI x2, zI x3] σ = (
  zcI (zrun zP 78 [zR 13 i0, zI x1, zI x2] σ) (fun r1 s1 =>
  zX zP zK_X3_shiftStop (11, [zR 13 i0, zI x1, zI x2, zI x3, zI r1, zI 0], []) s1)) := (zrun_eq _ _ _).trans ((zun_eq zK_X3_shiftStop [11] 8 _ _).trans rfl)
set_option maxRecDepth 100000 in
theorem e_X3_allowsSilence_2 (i0 : Nat) (x1 : Int32) (x2 : Int32) (x3 : Int32) (v4 : zAV) (v5 : zAV) (σ : zSt) : zX zP zK_X3_allowsSilence (2, [zR 13 i0, zI x1, zI x2, zI x3, v4, v5], []) σ = (
  if x3 < (σ.1 13 i0 0) then
  (if x3 < 0 ∨ 6 ≤ Int32.toNatClampNeg x3 then
    (none)
    else
    (if (σ.1 12 (6 * i0 + Int32.toNatClampNeg x3) 5) = 0 then
      (if x1 < 0 then
        (if (999 : Int32) < (0 + x2) then
          (some (.inl (some (zI 0)), σ))
          else
          (zX zP zK_X3_allowsSilence (2, [zR 13 i0, zI x1, zI x2, zI (x3 + 1), zI (σ.1 12 (6 * i0 + Int32.toNatClampNeg x3) 5), zI 0], []) σ))
        else
        (zX zP zK_X3_allowsSilence (2, [zR 13 i0, zI x1, zI x2, zI (x3 + 1), zI (σ.1 12 (6 * i0 + Int32.toNatClampNeg x3) 5), zI 0], []) σ))
      else
      (if x3 < 0 ∨ 6 ≤ Int32.toNatClampNeg x3 then
        (none)
        else
        (if ((σ.1 12 (6 * i0 + Int32.toNatClampNeg x3) 5) - 1) < 0 ∨ 40 ≤ Int32.toNatClampNeg ((σ.1 12 (6 * i0 + Int32.toNatClampNeg x3) 5) - 1) then
          (none)
          else
          (if x1 < (σ.1 21 (6 * i0 + Int32.toNatClampNeg x3) (Int32.toNatClampNeg ((σ.1 12 (6 * i0 + Int32.toNatClampNeg x3) 5) - 1))) then
            (if (999 : Int32) < ((σ.1 21 (6 * i0 + Int32.toNatClampNeg x3) (Int32.toNatClampNeg ((σ.1 12 (6 * i0 + Int32.toNatClampNeg x3) 5) - 1))) + x2) then
              (some (.inl (some (zI 0)), σ))
              else
              (zX zP zK_X3_allowsSilence (2, [zR 13 i0, zI x1, zI x2, zI (x3 + 1), zI (σ.1 12 (6 * i0 + Int32.toNatClampNeg x3) 5), zI (σ.1 21 (6 * i0 + Int32.toNatClampNeg x3) (Int32.toNatClampNeg ((σ.1 12 (6 * i0 + Int32.toNatClampNeg x3) 5) - 1)))], []) σ))
            else
            (zX zP zK_X3_allowsSilence (2, [zR 13 i0, zI x1, zI x2, zI (x3 + 1), zI (σ.1 12 (6 * i0 + Int32.toNatClampNeg x3) 5), zI (σ.1 21 (6 * i0 + Int32.toNatClampNeg x3) (Int32.toNatClampNeg ((σ.1 12 (6 * i0 + Int32.toNatClampNeg x3) 5) - 1)))], []) σ))))))
  else
  (some (.inl (some (zI 1)), σ))) := (zun_eq zK_X3_allowsSilence [2] 33 _ _).trans rfl
set_option maxRecDepth 100000 in
theorem e_X3_allowsSilence (i0 : Nat) (x1 : Int32) (x2 : Int32) (σ : zSt) : zrun zP 83 [zR 13 i0, zI x1, zI x2] σ = (
  zX zP zK_X3_allowsSilence (2, [zR 13 i0, zI x1, zI x2, zI 0, zJunk, zJunk], []) σ) := (zrun_eq _ _ _).trans ((zun_eq zK_X3_allowsSilence [2] 3 _ _).trans rfl)
set_option maxRecDepth 100000 in
theorem e_X3_countStopsBehind_5 (i0 : Nat) (x1 : Int32) (i2 : Nat) (x3 : Int32) (x4 : Int32) (σ : zSt) : zX zP zK_X3_countStopsBehind (5, [zR 13 i0, zI x1, zR 14 i2, zI x3, zI x4], []) σ = (
  if x4 < (σ.1 13 i0 0) then
  (if x4 < 0 ∨ 6 ≤ Int32.toNatClampNeg x4 then
    (none)
    else
    (if (σ.1 12 (6 * i0 + Int32.toNatClampNeg x4) 2) = (-1) then
      (zcV (zrun zP 77 [zR 13 i0, zI x4, zR 14 i2] σ) (fun s1 =>
        zcI (zrun zP 87 [zR 14 i2, zI (x1 + 1)] s1) (fun r2 s2 =>
          zX zP zK_X3_countStopsBehind (5, [zR 13 i0, zI x1, zR 14 i2, zI (x3 + ((s1.1 14 i2 1) - r2)), zI (x4 + 1)], []) s2)))
      else
      (zX zP zK_X3_countStopsBehind (5, [zR 13 i0, zI x1, zR 14 i2, zI x3, zI (x4 + 1)], []) σ)))
  else
  (some (.inl (some (zI x3)), σ))) := (zun_eq zK_X3_countStopsBehind [5] 29 _ _).trans rfl
set_option maxRecDepth 100000 in
theorem e_X3_countStopsBehind (i0 : Nat) (x1 : Int32) (i2 : Nat) (σ : zSt) : zrun zP 84 [zR 13 i0, zI x1, zR 14 i2] σ = (
  zX zP zK_X3_countStopsBehind (5, [zR 13 i0, zI x1, zR 14 i2, zI 0, zI 0], []) σ) := (zrun_eq _ _ _).trans ((zun_eq zK_X3_countStopsBehind [5] 5 _ _).trans rfl)
set_option maxRecDepth 100000 in
theorem e_X3_insertSilence_2 (i0 : Nat) (x1 : Int32) (x2 : Int32) (x3 : Int32) (σ : zSt) : zX zP zK_X3_insertSilence (2, [zR 13 i0, zI x1, zI x2, zI x3], []) σ = (
  if x3 < (σ.1 13 i0 0) then
  (if x3 < 0 ∨ 6 ≤ Int32.toNatClampNeg x3 then
    (none)
    else
    (zcV (zrun zP 48 [zR 12 (6 * i0 + Int32.toNatClampNeg x3), zI x1, zI x2] σ) (fun s1 =>
      zX zP zK_X3_insertSilence (2, [zR 13 i0, zI x1, zI x2, zI (x3 + 1)], []) s1)))
  else
  (some (.inl none, σ))) := (zun_eq zK_X3_insertSilence [2] 14 _ _).trans rfl
set_option maxRecDepth 100000 in
theorem e_X3_insertSilence (i0 : Nat) (x1 : Int32) (x2 : Int32) (σ : zSt) : zrun zP 85 [zR 13 i0, zI x1, zI x2] σ = (
  zX zP zK_X3_insertSilence (2, [zR 13 i0, zI x1, zI x2, zI 0], []) σ) := (zrun_eq _ _ _).trans ((zun_eq zK_X3_insertSilence [2] 3 _ _).trans rfl)
set_option maxRecDepth 100000 in
theorem e_X4_clear (i0 : Nat) (σ : zSt) : zrun zP 86 [zR 14 i0] σ = (
  some (.inl none, (zms σ.1 14 i0 1 0, σ.2))) := (zrun_eq _ _ _).trans ((zun_eq zK_X4_clear [] 5 _ _).trans rfl)
set_option maxRecDepth 100000 in
theorem e_X4_placeOf_10 (i0 : Nat) (x1 : Int32) (x2 : Int32) (x3 : Int32) (x4 : Int32) (v5 : zAV) (σ : zSt) : zX zP zK_X4_placeOf (10, [zR 14 i0, zI x1, zI x2, zI x3, zI x4, v5], []) σ = (
  if x4 < 480 then
  (if x2 < x3 then
    (if (2 : Int32) = 0 then
      (none)
      else
      (if ((x2 + x3) / 2) < 0 ∨ zlenI 23 i0 ≤ Int32.toNatClampNeg ((x2 + x3) / 2) then
        (none)
        else
        (if (σ.1 23 i0 (Int32.toNatClampNeg ((x2 + x3) / 2))) < x1 then
          (zX zP zK_X4_placeOf (10, [zR 14 i0, zI x1, zI (((x2 + x3) / 2) + 1), zI x3, zI (x4 + 1), zI ((x2 + x3) / 2)], []) σ)
          else
          (zX zP zK_X4_placeOf (10, [zR 14 i0, zI x1, zI x2, zI ((x2 + x3) / 2), zI (x4 + 1), zI ((x2 + x3) / 2)], []) σ))))
    else
    (some (.inl (some (zI x2)), σ)))
  else
  (some (.inl (some (zI x2)), σ))) := (zun_eq zK_X4_placeOf [10] 26 _ _).trans rfl
set_option maxRecDepth 100000 in
theorem e_X4_placeOf (i0 : Nat) (x1 : Int32) (σ : zSt) : zrun zP 87 [zR 14 i0, zI x1] σ = (
  zX zP zK_X4_placeOf (10, [zR 14 i0, zI x1, zI 0, zI (σ.1 14 i0 1), zI 0, zJunk], []) σ) := (zrun_eq _ _ _).trans ((zun_eq zK_X4_placeOf [10] 8 _ _).trans rfl)
set_option maxRecDepth 100000 in
theorem e_X4_has (i0 : Nat) (x1 : Int32) (σ : zSt) : zrun zP 88 [zR 14 i0, zI x1] σ = (
  zcI (zrun zP 87 [zR 14 i0, zI x1] σ) (fun r1 s1 =>
  if r1 < (s1.1 14 i0 1) then
    (if r1 < 0 ∨ zlenI 23 i0 ≤ Int32.toNatClampNeg r1 then
      (none)
      else
      (if (s1.1 23 i0 (Int32.toNatClampNeg r1)) = x1 then
        (some (.inl (some (zI 1)), s1))
        else
        (some (.inl (some (zI 0)), s1))))
    else
    (some (.inl (some (zI 0)), s1)))) := (zrun_eq _ _ _).trans ((zun_eq zK_X4_has [] 18 _ _).trans rfl)
set_option maxRecDepth 100000 in
theorem e_X4_add_42 (i0 : Nat) (x1 : Int32) (x2 : Int32) (x3 : Int32) (σ : zSt) : zX zP zK_X4_add (42, [zR 14 i0, zI x1, zI x2, zI x3], []) σ = (
  if x2 < x3 then
  (if (x3 - 1) < 0 ∨ zlenI 23 i0 ≤ Int32.toNatClampNeg (x3 - 1) then
    (none)
    else
    (if x3 < 0 ∨ zlenI 23 i0 ≤ Int32.toNatClampNeg x3 then
      (none)
      else
      (zX zP zK_X4_add (42, [zR 14 i0, zI x1, zI x2, zI (x3 + (-1))], []) (zms σ.1 23 i0 (Int32.toNatClampNeg x3) (σ.1 23 i0 (Int32.toNatClampNeg (x3 - 1))), σ.2))))
  else
  (if x2 < 0 ∨ zlenI 23 i0 ≤ Int32.toNatClampNeg x2 then
    (none)
    else
    (some (.inl none, (zms (zms σ.1 23 i0 (Int32.toNatClampNeg x2) x1) 14 i0 1 ((σ.1 14 i0 1) + 1), σ.2))))) := (zun_eq zK_X4_add [42] 16 _ _).trans rfl
set_option maxRecDepth 100000 in
theorem e_X4_add (i0 : Nat) (x1 : Int32) (σ : zSt) : zrun zP 89 [zR 14 i0, zI x1] σ = (
  zcI (zrun zP 87 [zR 14 i0, zI x1] σ) (fun r1 s1 =>
  if zlenI 23 i0 = 0 then
    (none)
    else
    (if (s1.1 14 i0 1) < (Int32.ofNat (zlenI 23 i0)) then
      (if r1 < (s1.1 14 i0 1) then
        (if r1 < 0 ∨ zlenI 23 i0 ≤ Int32.toNatClampNeg r1 then
          (none)
          else
          (if (s1.1 23 i0 (Int32.toNatClampNeg r1)) = x1 then
            (some (.inl none, s1))
            else
            (zX zP zK_X4_add (42, [zR 14 i0, zI x1, zI r1, zI (s1.1 14 i0 1)], []) s1)))
        else
        (zX zP zK_X4_add (42, [zR 14 i0, zI x1, zI r1, zI (s1.1 14 i0 1)], []) s1))
      else
      (some (.inl none, s1))))) := (zrun_eq _ _ _).trans ((zun_eq zK_X4_add [42] 24 _ _).trans rfl)
set_option maxRecDepth 100000 in
theorem e_X4_nearest (i0 : Nat) (x1 : Int32) (σ : zSt) : zrun zP 90 [zR 14 i0, zI x1] σ = (
  if (σ.1 14 i0 1) = 0 then
  (some (.inl (some (zI (-1))), σ))
  else
  (zcI (zrun zP 87 [zR 14 i0, zI x1] σ) (fun r1 s1 =>
    if r1 = 0 then
      (if (0 : Int32) < 0 ∨ zlenI 23 i0 ≤ Int32.toNatClampNeg 0 then
        (none)
        else
        (some (.inl (some (zI (s1.1 23 i0 (Int32.toNatClampNeg 0)))), s1)))
      else
      (if (r1 - 1) < 0 ∨ zlenI 23 i0 ≤ Int32.toNatClampNeg (r1 - 1) then
        (none)
        else
        (if r1 = (s1.1 14 i0 1) then
          (some (.inl (some (zI (s1.1 23 i0 (Int32.toNatClampNeg (r1 - 1))))), s1))
          else
          (if r1 < 0 ∨ zlenI 23 i0 ≤ Int32.toNatClampNeg r1 then
            (none)
            else
            (if ((s1.1 23 i0 (Int32.toNatClampNeg r1)) - x1) < (x1 - (s1.1 23 i0 (Int32.toNatClampNeg (r1 - 1)))) then
              (if r1 < 0 ∨ zlenI 23 i0 ≤ Int32.toNatClampNeg r1 then
                (none)
                else
                (some (.inl (some (zI (s1.1 23 i0 (Int32.toNatClampNeg r1)))), s1)))
              else
              (some (.inl (some (zI (s1.1 23 i0 (Int32.toNatClampNeg (r1 - 1))))), s1))))))))) := (zrun_eq _ _ _).trans ((zun_eq zK_X4_nearest [] 36 _ _).trans rfl)
