theorem zgd {N pc : Nat} {x : Option zEnt} (h : N ≤ pc) : (bif Nat.ble N pc then none else x) = none := by
  rw [Nat.ble_eq_true_of_le h]
  rfl
set_option maxRecDepth 100000 in
set_option maxHeartbeats 4000000 in
theorem zall (j : Nat) (hj : j < 245) : (∃ i : Nat, lw_tbl[i]? = some (Cond.code (zy j) (zcc j) (zP j).2 (zret j))) ∧ ∃ N, zchkM j N = true ∧ ∀ pc, N ≤ pc → (zP j).1 pc = none := by
  have h : ∃ i : Nat, lw_tbl[i]? = some (Cond.code (zy j) (zcc j) (zP j).2 (zret j)) ∧ ∃ N, zchkM j N = true ∧ ∀ pc, N ≤ pc → (zP j).1 pc = none := by
    rcases Nat.lt_or_ge j 122 with h122 | h122
    ·
     rcases Nat.lt_or_ge j 61 with h61 | h61
     ·
      rcases Nat.lt_or_ge j 30 with h30 | h30
      ·
       rcases Nat.lt_or_ge j 15 with h15 | h15
       ·
        rcases Nat.lt_or_ge j 7 with h7 | h7
        ·
         rcases Nat.lt_or_ge j 3 with h3 | h3
         ·
          rcases Nat.lt_or_ge j 1 with h1 | h1
          ·
           obtain rfl : j = 0 := by omega
           exact ⟨_, zcw_0, _, zc_0, fun pc hp => (zgd hp : (bif Nat.ble 11 pc then none else _) = none)⟩
          ·
           rcases Nat.lt_or_ge j 2 with h2 | h2
           ·
            obtain rfl : j = 1 := by omega
            exact ⟨_, zcw_1, _, zc_1, fun pc hp => (zgd hp : (bif Nat.ble 54 pc then none else _) = none)⟩
           ·
            obtain rfl : j = 2 := by omega
            exact ⟨_, zcw_2, _, zc_2, fun pc hp => (zgd hp : (bif Nat.ble 56 pc then none else _) = none)⟩
         ·
          rcases Nat.lt_or_ge j 5 with h5 | h5
          ·
           rcases Nat.lt_or_ge j 4 with h4 | h4
           ·
            obtain rfl : j = 3 := by omega
            exact ⟨_, zcw_3, _, zc_3, fun pc hp => (zgd hp : (bif Nat.ble 47 pc then none else _) = none)⟩
           ·
            obtain rfl : j = 4 := by omega
            exact ⟨_, zcw_4, _, zc_4, fun pc hp => (zgd hp : (bif Nat.ble 120 pc then none else _) = none)⟩
          ·
           rcases Nat.lt_or_ge j 6 with h6 | h6
           ·
            obtain rfl : j = 5 := by omega
            exact ⟨_, zcw_5, _, zc_5, fun pc hp => (zgd hp : (bif Nat.ble 12 pc then none else _) = none)⟩
           ·
            obtain rfl : j = 6 := by omega
            exact ⟨_, zcw_6, _, zc_6, fun pc hp => (zgd hp : (bif Nat.ble 125 pc then none else _) = none)⟩
        ·
         rcases Nat.lt_or_ge j 11 with h11 | h11
         ·
          rcases Nat.lt_or_ge j 9 with h9 | h9
          ·
           rcases Nat.lt_or_ge j 8 with h8 | h8
           ·
            obtain rfl : j = 7 := by omega
            exact ⟨_, zcw_7, _, zc_7, fun pc hp => (zgd hp : (bif Nat.ble 102 pc then none else _) = none)⟩
           ·
            obtain rfl : j = 8 := by omega
            exact ⟨_, zcw_8, _, zc_8, fun pc hp => (zgd hp : (bif Nat.ble 80 pc then none else _) = none)⟩
          ·
           rcases Nat.lt_or_ge j 10 with h10 | h10
           ·
            obtain rfl : j = 9 := by omega
            exact ⟨_, zcw_9, _, zc_9, fun pc hp => (zgd hp : (bif Nat.ble 18 pc then none else _) = none)⟩
           ·
            obtain rfl : j = 10 := by omega
            exact ⟨_, zcw_10, _, zc_10, fun pc hp => (zgd hp : (bif Nat.ble 18 pc then none else _) = none)⟩
         ·
          rcases Nat.lt_or_ge j 13 with h13 | h13
          ·
           rcases Nat.lt_or_ge j 12 with h12 | h12
           ·
            obtain rfl : j = 11 := by omega
            exact ⟨_, zcw_11, _, zc_11, fun pc hp => (zgd hp : (bif Nat.ble 39 pc then none else _) = none)⟩
           ·
            obtain rfl : j = 12 := by omega
            exact ⟨_, zcw_12, _, zc_12, fun pc hp => (zgd hp : (bif Nat.ble 60 pc then none else _) = none)⟩
          ·
           rcases Nat.lt_or_ge j 14 with h14 | h14
           ·
            obtain rfl : j = 13 := by omega
            exact ⟨_, zcw_13, _, zc_13, fun pc hp => (zgd hp : (bif Nat.ble 22 pc then none else _) = none)⟩
           ·
            obtain rfl : j = 14 := by omega
            exact ⟨_, zcw_14, _, zc_14, fun pc hp => (zgd hp : (bif Nat.ble 19 pc then none else _) = none)⟩
       ·
        rcases Nat.lt_or_ge j 22 with h22 | h22
        ·
         rcases Nat.lt_or_ge j 18 with h18 | h18
         ·
          rcases Nat.lt_or_ge j 16 with h16 | h16
          ·
           obtain rfl : j = 15 := by omega
           exact ⟨_, zcw_15, _, zc_15, fun pc hp => (zgd hp : (bif Nat.ble 50 pc then none else _) = none)⟩
          ·
           rcases Nat.lt_or_ge j 17 with h17 | h17
           ·
            obtain rfl : j = 16 := by omega
            exact ⟨_, zcw_16, _, zc_16, fun pc hp => (zgd hp : (bif Nat.ble 46 pc then none else _) = none)⟩
           ·
            obtain rfl : j = 17 := by omega
            exact ⟨_, zcw_17, _, zc_17, fun pc hp => (zgd hp : (bif Nat.ble 54 pc then none else _) = none)⟩
         ·
          rcases Nat.lt_or_ge j 20 with h20 | h20
          ·
           rcases Nat.lt_or_ge j 19 with h19 | h19
           ·
            obtain rfl : j = 18 := by omega
            exact ⟨_, zcw_18, _, zc_18, fun pc hp => (zgd hp : (bif Nat.ble 54 pc then none else _) = none)⟩
           ·
            obtain rfl : j = 19 := by omega
            exact ⟨_, zcw_19, _, zc_19, fun pc hp => (zgd hp : (bif Nat.ble 136 pc then none else _) = none)⟩
          ·
           rcases Nat.lt_or_ge j 21 with h21 | h21
           ·
            obtain rfl : j = 20 := by omega
            exact ⟨_, zcw_20, _, zc_20, fun pc hp => (zgd hp : (bif Nat.ble 54 pc then none else _) = none)⟩
           ·
            obtain rfl : j = 21 := by omega
            exact ⟨_, zcw_21, _, zc_21, fun pc hp => (zgd hp : (bif Nat.ble 153 pc then none else _) = none)⟩
        ·
         rcases Nat.lt_or_ge j 26 with h26 | h26
         ·
          rcases Nat.lt_or_ge j 24 with h24 | h24
          ·
           rcases Nat.lt_or_ge j 23 with h23 | h23
           ·
            obtain rfl : j = 22 := by omega
            exact ⟨_, zcw_22, _, zc_22, fun pc hp => (zgd hp : (bif Nat.ble 150 pc then none else _) = none)⟩
           ·
            obtain rfl : j = 23 := by omega
            exact ⟨_, zcw_23, _, zc_23, fun pc hp => (zgd hp : (bif Nat.ble 67 pc then none else _) = none)⟩
          ·
           rcases Nat.lt_or_ge j 25 with h25 | h25
           ·
            obtain rfl : j = 24 := by omega
            exact ⟨_, zcw_24, _, zc_24, fun pc hp => (zgd hp : (bif Nat.ble 73 pc then none else _) = none)⟩
           ·
            obtain rfl : j = 25 := by omega
            exact ⟨_, zcw_25, _, zc_25, fun pc hp => (zgd hp : (bif Nat.ble 94 pc then none else _) = none)⟩
         ·
          rcases Nat.lt_or_ge j 28 with h28 | h28
          ·
           rcases Nat.lt_or_ge j 27 with h27 | h27
           ·
            obtain rfl : j = 26 := by omega
            exact ⟨_, zcw_26, _, zc_26, fun pc hp => (zgd hp : (bif Nat.ble 15 pc then none else _) = none)⟩
           ·
            obtain rfl : j = 27 := by omega
            exact ⟨_, zcw_27, _, zc_27, fun pc hp => (zgd hp : (bif Nat.ble 18 pc then none else _) = none)⟩
          ·
           rcases Nat.lt_or_ge j 29 with h29 | h29
           ·
            obtain rfl : j = 28 := by omega
            exact ⟨_, zcw_28, _, zc_28, fun pc hp => (zgd hp : (bif Nat.ble 14 pc then none else _) = none)⟩
           ·
            obtain rfl : j = 29 := by omega
            exact ⟨_, zcw_29, _, zc_29, fun pc hp => (zgd hp : (bif Nat.ble 28 pc then none else _) = none)⟩
      ·
       rcases Nat.lt_or_ge j 45 with h45 | h45
       ·
        rcases Nat.lt_or_ge j 37 with h37 | h37
        ·
         rcases Nat.lt_or_ge j 33 with h33 | h33
         ·
          rcases Nat.lt_or_ge j 31 with h31 | h31
          ·
           obtain rfl : j = 30 := by omega
           exact ⟨_, zcw_30, _, zc_30, fun pc hp => (zgd hp : (bif Nat.ble 126 pc then none else _) = none)⟩
          ·
           rcases Nat.lt_or_ge j 32 with h32 | h32
           ·
            obtain rfl : j = 31 := by omega
            exact ⟨_, zcw_31, _, zc_31, fun pc hp => (zgd hp : (bif Nat.ble 80 pc then none else _) = none)⟩
           ·
            obtain rfl : j = 32 := by omega
            exact ⟨_, zcw_32, _, zc_32, fun pc hp => (zgd hp : (bif Nat.ble 43 pc then none else _) = none)⟩
         ·
          rcases Nat.lt_or_ge j 35 with h35 | h35
          ·
           rcases Nat.lt_or_ge j 34 with h34 | h34
           ·
            obtain rfl : j = 33 := by omega
            exact ⟨_, zcw_33, _, zc_33, fun pc hp => (zgd hp : (bif Nat.ble 44 pc then none else _) = none)⟩
           ·
            obtain rfl : j = 34 := by omega
            exact ⟨_, zcw_34, _, zc_34, fun pc hp => (zgd hp : (bif Nat.ble 40 pc then none else _) = none)⟩
          ·
           rcases Nat.lt_or_ge j 36 with h36 | h36
           ·
            obtain rfl : j = 35 := by omega
            exact ⟨_, zcw_35, _, zc_35, fun pc hp => (zgd hp : (bif Nat.ble 26 pc then none else _) = none)⟩
           ·
            obtain rfl : j = 36 := by omega
            exact ⟨_, zcw_36, _, zc_36, fun pc hp => (zgd hp : (bif Nat.ble 60 pc then none else _) = none)⟩
        ·
         rcases Nat.lt_or_ge j 41 with h41 | h41
         ·
          rcases Nat.lt_or_ge j 39 with h39 | h39
          ·
           rcases Nat.lt_or_ge j 38 with h38 | h38
           ·
            obtain rfl : j = 37 := by omega
            exact ⟨_, zcw_37, _, zc_37, fun pc hp => (zgd hp : (bif Nat.ble 30 pc then none else _) = none)⟩
           ·
            obtain rfl : j = 38 := by omega
            exact ⟨_, zcw_38, _, zc_38, fun pc hp => (zgd hp : (bif Nat.ble 26 pc then none else _) = none)⟩
          ·
           rcases Nat.lt_or_ge j 40 with h40 | h40
           ·
            obtain rfl : j = 39 := by omega
            exact ⟨_, zcw_39, _, zc_39, fun pc hp => (zgd hp : (bif Nat.ble 89 pc then none else _) = none)⟩
           ·
            obtain rfl : j = 40 := by omega
            exact ⟨_, zcw_40, _, zc_40, fun pc hp => (zgd hp : (bif Nat.ble 50 pc then none else _) = none)⟩
         ·
          rcases Nat.lt_or_ge j 43 with h43 | h43
          ·
           rcases Nat.lt_or_ge j 42 with h42 | h42
           ·
            obtain rfl : j = 41 := by omega
            exact ⟨_, zcw_41, _, zc_41, fun pc hp => (zgd hp : (bif Nat.ble 40 pc then none else _) = none)⟩
           ·
            obtain rfl : j = 42 := by omega
            exact ⟨_, zcw_42, _, zc_42, fun pc hp => (zgd hp : (bif Nat.ble 40 pc then none else _) = none)⟩
          ·
           rcases Nat.lt_or_ge j 44 with h44 | h44
           ·
            obtain rfl : j = 43 := by omega
            exact ⟨_, zcw_43, _, zc_43, fun pc hp => (zgd hp : (bif Nat.ble 45 pc then none else _) = none)⟩
           ·
            obtain rfl : j = 44 := by omega
            exact ⟨_, zcw_44, _, zc_44, fun pc hp => (zgd hp : (bif Nat.ble 37 pc then none else _) = none)⟩
       ·
        rcases Nat.lt_or_ge j 53 with h53 | h53
        ·
         rcases Nat.lt_or_ge j 49 with h49 | h49
         ·
          rcases Nat.lt_or_ge j 47 with h47 | h47
          ·
           rcases Nat.lt_or_ge j 46 with h46 | h46
           ·
            obtain rfl : j = 45 := by omega
            exact ⟨_, zcw_45, _, zc_45, fun pc hp => (zgd hp : (bif Nat.ble 10 pc then none else _) = none)⟩
           ·
            obtain rfl : j = 46 := by omega
            exact ⟨_, zcw_46, _, zc_46, fun pc hp => (zgd hp : (bif Nat.ble 54 pc then none else _) = none)⟩
          ·
           rcases Nat.lt_or_ge j 48 with h48 | h48
           ·
            obtain rfl : j = 47 := by omega
            exact ⟨_, zcw_47, _, zc_47, fun pc hp => (zgd hp : (bif Nat.ble 51 pc then none else _) = none)⟩
           ·
            obtain rfl : j = 48 := by omega
            exact ⟨_, zcw_48, _, zc_48, fun pc hp => (zgd hp : (bif Nat.ble 57 pc then none else _) = none)⟩
         ·
          rcases Nat.lt_or_ge j 51 with h51 | h51
          ·
           rcases Nat.lt_or_ge j 50 with h50 | h50
           ·
            obtain rfl : j = 49 := by omega
            exact ⟨_, zcw_49, _, zc_49, fun pc hp => (zgd hp : (bif Nat.ble 6 pc then none else _) = none)⟩
           ·
            obtain rfl : j = 50 := by omega
            exact ⟨_, zcw_50, _, zc_50, fun pc hp => (zgd hp : (bif Nat.ble 40 pc then none else _) = none)⟩
          ·
           rcases Nat.lt_or_ge j 52 with h52 | h52
           ·
            obtain rfl : j = 51 := by omega
            exact ⟨_, zcw_51, _, zc_51, fun pc hp => (zgd hp : (bif Nat.ble 18 pc then none else _) = none)⟩
           ·
            obtain rfl : j = 52 := by omega
            exact ⟨_, zcw_52, _, zc_52, fun pc hp => (zgd hp : (bif Nat.ble 33 pc then none else _) = none)⟩
        ·
         rcases Nat.lt_or_ge j 57 with h57 | h57
         ·
          rcases Nat.lt_or_ge j 55 with h55 | h55
          ·
           rcases Nat.lt_or_ge j 54 with h54 | h54
           ·
            obtain rfl : j = 53 := by omega
            exact ⟨_, zcw_53, _, zc_53, fun pc hp => (zgd hp : (bif Nat.ble 32 pc then none else _) = none)⟩
           ·
            obtain rfl : j = 54 := by omega
            exact ⟨_, zcw_54, _, zc_54, fun pc hp => (zgd hp : (bif Nat.ble 6 pc then none else _) = none)⟩
          ·
           rcases Nat.lt_or_ge j 56 with h56 | h56
           ·
            obtain rfl : j = 55 := by omega
            exact ⟨_, zcw_55, _, zc_55, fun pc hp => (zgd hp : (bif Nat.ble 36 pc then none else _) = none)⟩
           ·
            obtain rfl : j = 56 := by omega
            exact ⟨_, zcw_56, _, zc_56, fun pc hp => (zgd hp : (bif Nat.ble 176 pc then none else _) = none)⟩
         ·
          rcases Nat.lt_or_ge j 59 with h59 | h59
          ·
           rcases Nat.lt_or_ge j 58 with h58 | h58
           ·
            obtain rfl : j = 57 := by omega
            exact ⟨_, zcw_57, _, zc_57, fun pc hp => (zgd hp : (bif Nat.ble 52 pc then none else _) = none)⟩
           ·
            obtain rfl : j = 58 := by omega
            exact ⟨_, zcw_58, _, zc_58, fun pc hp => (zgd hp : (bif Nat.ble 57 pc then none else _) = none)⟩
          ·
           rcases Nat.lt_or_ge j 60 with h60 | h60
           ·
            obtain rfl : j = 59 := by omega
            exact ⟨_, zcw_59, _, zc_59, fun pc hp => (zgd hp : (bif Nat.ble 53 pc then none else _) = none)⟩
           ·
            obtain rfl : j = 60 := by omega
            exact ⟨_, zcw_60, _, zc_60, fun pc hp => (zgd hp : (bif Nat.ble 21 pc then none else _) = none)⟩
     ·
      rcases Nat.lt_or_ge j 91 with h91 | h91
      ·
       rcases Nat.lt_or_ge j 76 with h76 | h76
       ·
        rcases Nat.lt_or_ge j 68 with h68 | h68
        ·
         rcases Nat.lt_or_ge j 64 with h64 | h64
         ·
          rcases Nat.lt_or_ge j 62 with h62 | h62
          ·
           obtain rfl : j = 61 := by omega
           exact ⟨_, zcw_61, _, zc_61, fun pc hp => (zgd hp : (bif Nat.ble 77 pc then none else _) = none)⟩
          ·
           rcases Nat.lt_or_ge j 63 with h63 | h63
           ·
            obtain rfl : j = 62 := by omega
            exact ⟨_, zcw_62, _, zc_62, fun pc hp => (zgd hp : (bif Nat.ble 35 pc then none else _) = none)⟩
           ·
            obtain rfl : j = 63 := by omega
            exact ⟨_, zcw_63, _, zc_63, fun pc hp => (zgd hp : (bif Nat.ble 62 pc then none else _) = none)⟩
         ·
          rcases Nat.lt_or_ge j 66 with h66 | h66
          ·
           rcases Nat.lt_or_ge j 65 with h65 | h65
           ·
            obtain rfl : j = 64 := by omega
            exact ⟨_, zcw_64, _, zc_64, fun pc hp => (zgd hp : (bif Nat.ble 41 pc then none else _) = none)⟩
           ·
            obtain rfl : j = 65 := by omega
            exact ⟨_, zcw_65, _, zc_65, fun pc hp => (zgd hp : (bif Nat.ble 57 pc then none else _) = none)⟩
          ·
           rcases Nat.lt_or_ge j 67 with h67 | h67
           ·
            obtain rfl : j = 66 := by omega
            exact ⟨_, zcw_66, _, zc_66, fun pc hp => (zgd hp : (bif Nat.ble 50 pc then none else _) = none)⟩
           ·
            obtain rfl : j = 67 := by omega
            exact ⟨_, zcw_67, _, zc_67, fun pc hp => (zgd hp : (bif Nat.ble 61 pc then none else _) = none)⟩
        ·
         rcases Nat.lt_or_ge j 72 with h72 | h72
         ·
          rcases Nat.lt_or_ge j 70 with h70 | h70
          ·
           rcases Nat.lt_or_ge j 69 with h69 | h69
           ·
            obtain rfl : j = 68 := by omega
            exact ⟨_, zcw_68, _, zc_68, fun pc hp => (zgd hp : (bif Nat.ble 51 pc then none else _) = none)⟩
           ·
            obtain rfl : j = 69 := by omega
            exact ⟨_, zcw_69, _, zc_69, fun pc hp => (zgd hp : (bif Nat.ble 118 pc then none else _) = none)⟩
          ·
           rcases Nat.lt_or_ge j 71 with h71 | h71
           ·
            obtain rfl : j = 70 := by omega
            exact ⟨_, zcw_70, _, zc_70, fun pc hp => (zgd hp : (bif Nat.ble 49 pc then none else _) = none)⟩
           ·
            obtain rfl : j = 71 := by omega
            exact ⟨_, zcw_71, _, zc_71, fun pc hp => (zgd hp : (bif Nat.ble 49 pc then none else _) = none)⟩
         ·
          rcases Nat.lt_or_ge j 74 with h74 | h74
          ·
           rcases Nat.lt_or_ge j 73 with h73 | h73
           ·
            obtain rfl : j = 72 := by omega
            exact ⟨_, zcw_72, _, zc_72, fun pc hp => (zgd hp : (bif Nat.ble 87 pc then none else _) = none)⟩
           ·
            obtain rfl : j = 73 := by omega
            exact ⟨_, zcw_73, _, zc_73, fun pc hp => (zgd hp : (bif Nat.ble 42 pc then none else _) = none)⟩
          ·
           rcases Nat.lt_or_ge j 75 with h75 | h75
           ·
            obtain rfl : j = 74 := by omega
            exact ⟨_, zcw_74, _, zc_74, fun pc hp => (zgd hp : (bif Nat.ble 58 pc then none else _) = none)⟩
           ·
            obtain rfl : j = 75 := by omega
            exact ⟨_, zcw_75, _, zc_75, fun pc hp => (zgd hp : (bif Nat.ble 70 pc then none else _) = none)⟩
       ·
        rcases Nat.lt_or_ge j 83 with h83 | h83
        ·
         rcases Nat.lt_or_ge j 79 with h79 | h79
         ·
          rcases Nat.lt_or_ge j 77 with h77 | h77
          ·
           obtain rfl : j = 76 := by omega
           exact ⟨_, zcw_76, _, zc_76, fun pc hp => (zgd hp : (bif Nat.ble 67 pc then none else _) = none)⟩
          ·
           rcases Nat.lt_or_ge j 78 with h78 | h78
           ·
            obtain rfl : j = 77 := by omega
            exact ⟨_, zcw_77, _, zc_77, fun pc hp => (zgd hp : (bif Nat.ble 44 pc then none else _) = none)⟩
           ·
            obtain rfl : j = 78 := by omega
            exact ⟨_, zcw_78, _, zc_78, fun pc hp => (zgd hp : (bif Nat.ble 50 pc then none else _) = none)⟩
         ·
          rcases Nat.lt_or_ge j 81 with h81 | h81
          ·
           rcases Nat.lt_or_ge j 80 with h80 | h80
           ·
            obtain rfl : j = 79 := by omega
            exact ⟨_, zcw_79, _, zc_79, fun pc hp => (zgd hp : (bif Nat.ble 134 pc then none else _) = none)⟩
           ·
            obtain rfl : j = 80 := by omega
            exact ⟨_, zcw_80, _, zc_80, fun pc hp => (zgd hp : (bif Nat.ble 136 pc then none else _) = none)⟩
          ·
           rcases Nat.lt_or_ge j 82 with h82 | h82
           ·
            obtain rfl : j = 81 := by omega
            exact ⟨_, zcw_81, _, zc_81, fun pc hp => (zgd hp : (bif Nat.ble 26 pc then none else _) = none)⟩
           ·
            obtain rfl : j = 82 := by omega
            exact ⟨_, zcw_82, _, zc_82, fun pc hp => (zgd hp : (bif Nat.ble 55 pc then none else _) = none)⟩
        ·
         rcases Nat.lt_or_ge j 87 with h87 | h87
         ·
          rcases Nat.lt_or_ge j 85 with h85 | h85
          ·
           rcases Nat.lt_or_ge j 84 with h84 | h84
           ·
            obtain rfl : j = 83 := by omega
            exact ⟨_, zcw_83, _, zc_83, fun pc hp => (zgd hp : (bif Nat.ble 72 pc then none else _) = none)⟩
           ·
            obtain rfl : j = 84 := by omega
            exact ⟨_, zcw_84, _, zc_84, fun pc hp => (zgd hp : (bif Nat.ble 58 pc then none else _) = none)⟩
          ·
           rcases Nat.lt_or_ge j 86 with h86 | h86
           ·
            obtain rfl : j = 85 := by omega
            exact ⟨_, zcw_85, _, zc_85, fun pc hp => (zgd hp : (bif Nat.ble 28 pc then none else _) = none)⟩
           ·
            obtain rfl : j = 86 := by omega
            exact ⟨_, zcw_86, _, zc_86, fun pc hp => (zgd hp : (bif Nat.ble 6 pc then none else _) = none)⟩
         ·
          rcases Nat.lt_or_ge j 89 with h89 | h89
          ·
           rcases Nat.lt_or_ge j 88 with h88 | h88
           ·
            obtain rfl : j = 87 := by omega
            exact ⟨_, zcw_87, _, zc_87, fun pc hp => (zgd hp : (bif Nat.ble 60 pc then none else _) = none)⟩
           ·
            obtain rfl : j = 88 := by omega
            exact ⟨_, zcw_88, _, zc_88, fun pc hp => (zgd hp : (bif Nat.ble 30 pc then none else _) = none)⟩
          ·
           rcases Nat.lt_or_ge j 90 with h90 | h90
           ·
            obtain rfl : j = 89 := by omega
            exact ⟨_, zcw_89, _, zc_89, fun pc hp => (zgd hp : (bif Nat.ble 85 pc then none else _) = none)⟩
           ·
            obtain rfl : j = 90 := by omega
            exact ⟨_, zcw_90, _, zc_90, fun pc hp => (zgd hp : (bif Nat.ble 66 pc then none else _) = none)⟩
      ·
       rcases Nat.lt_or_ge j 106 with h106 | h106
       ·
        rcases Nat.lt_or_ge j 98 with h98 | h98
        ·
         rcases Nat.lt_or_ge j 94 with h94 | h94
         ·
          rcases Nat.lt_or_ge j 92 with h92 | h92
          ·
           obtain rfl : j = 91 := by omega
           exact ⟨_, zcw_91, _, zc_91, fun pc hp => (zgd hp : (bif Nat.ble 68 pc then none else _) = none)⟩
          ·
           rcases Nat.lt_or_ge j 93 with h93 | h93
           ·
            obtain rfl : j = 92 := by omega
            exact ⟨_, zcw_92, _, zc_92, fun pc hp => (zgd hp : (bif Nat.ble 64 pc then none else _) = none)⟩
           ·
            obtain rfl : j = 93 := by omega
            exact ⟨_, zcw_93, _, zc_93, fun pc hp => (zgd hp : (bif Nat.ble 8 pc then none else _) = none)⟩
         ·
          rcases Nat.lt_or_ge j 96 with h96 | h96
          ·
           rcases Nat.lt_or_ge j 95 with h95 | h95
           ·
            obtain rfl : j = 94 := by omega
            exact ⟨_, zcw_94, _, zc_94, fun pc hp => (zgd hp : (bif Nat.ble 66 pc then none else _) = none)⟩
           ·
            obtain rfl : j = 95 := by omega
            exact ⟨_, zcw_95, _, zc_95, fun pc hp => (zgd hp : (bif Nat.ble 73 pc then none else _) = none)⟩
          ·
           rcases Nat.lt_or_ge j 97 with h97 | h97
           ·
            obtain rfl : j = 96 := by omega
            exact ⟨_, zcw_96, _, zc_96, fun pc hp => (zgd hp : (bif Nat.ble 115 pc then none else _) = none)⟩
           ·
            obtain rfl : j = 97 := by omega
            exact ⟨_, zcw_97, _, zc_97, fun pc hp => (zgd hp : (bif Nat.ble 112 pc then none else _) = none)⟩
        ·
         rcases Nat.lt_or_ge j 102 with h102 | h102
         ·
          rcases Nat.lt_or_ge j 100 with h100 | h100
          ·
           rcases Nat.lt_or_ge j 99 with h99 | h99
           ·
            obtain rfl : j = 98 := by omega
            exact ⟨_, zcw_98, _, zc_98, fun pc hp => (zgd hp : (bif Nat.ble 52 pc then none else _) = none)⟩
           ·
            obtain rfl : j = 99 := by omega
            exact ⟨_, zcw_99, _, zc_99, fun pc hp => (zgd hp : (bif Nat.ble 63 pc then none else _) = none)⟩
          ·
           rcases Nat.lt_or_ge j 101 with h101 | h101
           ·
            obtain rfl : j = 100 := by omega
            exact ⟨_, zcw_100, _, zc_100, fun pc hp => (zgd hp : (bif Nat.ble 62 pc then none else _) = none)⟩
           ·
            obtain rfl : j = 101 := by omega
            exact ⟨_, zcw_101, _, zc_101, fun pc hp => (zgd hp : (bif Nat.ble 62 pc then none else _) = none)⟩
         ·
          rcases Nat.lt_or_ge j 104 with h104 | h104
          ·
           rcases Nat.lt_or_ge j 103 with h103 | h103
           ·
            obtain rfl : j = 102 := by omega
            exact ⟨_, zcw_102, _, zc_102, fun pc hp => (zgd hp : (bif Nat.ble 118 pc then none else _) = none)⟩
           ·
            obtain rfl : j = 103 := by omega
            exact ⟨_, zcw_103, _, zc_103, fun pc hp => (zgd hp : (bif Nat.ble 148 pc then none else _) = none)⟩
          ·
           rcases Nat.lt_or_ge j 105 with h105 | h105
           ·
            obtain rfl : j = 104 := by omega
            exact ⟨_, zcw_104, _, zc_104, fun pc hp => (zgd hp : (bif Nat.ble 26 pc then none else _) = none)⟩
           ·
            obtain rfl : j = 105 := by omega
            exact ⟨_, zcw_105, _, zc_105, fun pc hp => (zgd hp : (bif Nat.ble 24 pc then none else _) = none)⟩
       ·
        rcases Nat.lt_or_ge j 114 with h114 | h114
        ·
         rcases Nat.lt_or_ge j 110 with h110 | h110
         ·
          rcases Nat.lt_or_ge j 108 with h108 | h108
          ·
           rcases Nat.lt_or_ge j 107 with h107 | h107
           ·
            obtain rfl : j = 106 := by omega
            exact ⟨_, zcw_106, _, zc_106, fun pc hp => (zgd hp : (bif Nat.ble 103 pc then none else _) = none)⟩
           ·
            obtain rfl : j = 107 := by omega
            exact ⟨_, zcw_107, _, zc_107, fun pc hp => (zgd hp : (bif Nat.ble 139 pc then none else _) = none)⟩
          ·
           rcases Nat.lt_or_ge j 109 with h109 | h109
           ·
            obtain rfl : j = 108 := by omega
            exact ⟨_, zcw_108, _, zc_108, fun pc hp => (zgd hp : (bif Nat.ble 148 pc then none else _) = none)⟩
           ·
            obtain rfl : j = 109 := by omega
            exact ⟨_, zcw_109, _, zc_109, fun pc hp => (zgd hp : (bif Nat.ble 24 pc then none else _) = none)⟩
         ·
          rcases Nat.lt_or_ge j 112 with h112 | h112
          ·
           rcases Nat.lt_or_ge j 111 with h111 | h111
           ·
            obtain rfl : j = 110 := by omega
            exact ⟨_, zcw_110, _, zc_110, fun pc hp => (zgd hp : (bif Nat.ble 125 pc then none else _) = none)⟩
           ·
            obtain rfl : j = 111 := by omega
            exact ⟨_, zcw_111, _, zc_111, fun pc hp => (zgd hp : (bif Nat.ble 157 pc then none else _) = none)⟩
          ·
           rcases Nat.lt_or_ge j 113 with h113 | h113
           ·
            obtain rfl : j = 112 := by omega
            exact ⟨_, zcw_112, _, zc_112, fun pc hp => (zgd hp : (bif Nat.ble 64 pc then none else _) = none)⟩
           ·
            obtain rfl : j = 113 := by omega
            exact ⟨_, zcw_113, _, zc_113, fun pc hp => (zgd hp : (bif Nat.ble 129 pc then none else _) = none)⟩
        ·
         rcases Nat.lt_or_ge j 118 with h118 | h118
         ·
          rcases Nat.lt_or_ge j 116 with h116 | h116
          ·
           rcases Nat.lt_or_ge j 115 with h115 | h115
           ·
            obtain rfl : j = 114 := by omega
            exact ⟨_, zcw_114, _, zc_114, fun pc hp => (zgd hp : (bif Nat.ble 144 pc then none else _) = none)⟩
           ·
            obtain rfl : j = 115 := by omega
            exact ⟨_, zcw_115, _, zc_115, fun pc hp => (zgd hp : (bif Nat.ble 122 pc then none else _) = none)⟩
          ·
           rcases Nat.lt_or_ge j 117 with h117 | h117
           ·
            obtain rfl : j = 116 := by omega
            exact ⟨_, zcw_116, _, zc_116, fun pc hp => (zgd hp : (bif Nat.ble 57 pc then none else _) = none)⟩
           ·
            obtain rfl : j = 117 := by omega
            exact ⟨_, zcw_117, _, zc_117, fun pc hp => (zgd hp : (bif Nat.ble 55 pc then none else _) = none)⟩
         ·
          rcases Nat.lt_or_ge j 120 with h120 | h120
          ·
           rcases Nat.lt_or_ge j 119 with h119 | h119
           ·
            obtain rfl : j = 118 := by omega
            exact ⟨_, zcw_118, _, zc_118, fun pc hp => (zgd hp : (bif Nat.ble 109 pc then none else _) = none)⟩
           ·
            obtain rfl : j = 119 := by omega
            exact ⟨_, zcw_119, _, zc_119, fun pc hp => (zgd hp : (bif Nat.ble 105 pc then none else _) = none)⟩
          ·
           rcases Nat.lt_or_ge j 121 with h121 | h121
           ·
            obtain rfl : j = 120 := by omega
            exact ⟨_, zcw_120, _, zc_120, fun pc hp => (zgd hp : (bif Nat.ble 107 pc then none else _) = none)⟩
           ·
            obtain rfl : j = 121 := by omega
            exact ⟨_, zcw_121, _, zc_121, fun pc hp => (zgd hp : (bif Nat.ble 45 pc then none else _) = none)⟩
    ·
     rcases Nat.lt_or_ge j 183 with h183 | h183
     ·
      rcases Nat.lt_or_ge j 152 with h152 | h152
      ·
       rcases Nat.lt_or_ge j 137 with h137 | h137
       ·
        rcases Nat.lt_or_ge j 129 with h129 | h129
        ·
         rcases Nat.lt_or_ge j 125 with h125 | h125
         ·
          rcases Nat.lt_or_ge j 123 with h123 | h123
          ·
           obtain rfl : j = 122 := by omega
           exact ⟨_, zcw_122, _, zc_122, fun pc hp => (zgd hp : (bif Nat.ble 11 pc then none else _) = none)⟩
          ·
           rcases Nat.lt_or_ge j 124 with h124 | h124
           ·
            obtain rfl : j = 123 := by omega
            exact ⟨_, zcw_123, _, zc_123, fun pc hp => (zgd hp : (bif Nat.ble 11 pc then none else _) = none)⟩
           ·
            obtain rfl : j = 124 := by omega
            exact ⟨_, zcw_124, _, zc_124, fun pc hp => (zgd hp : (bif Nat.ble 23 pc then none else _) = none)⟩
         ·
          rcases Nat.lt_or_ge j 127 with h127 | h127
          ·
           rcases Nat.lt_or_ge j 126 with h126 | h126
           ·
            obtain rfl : j = 125 := by omega
            exact ⟨_, zcw_125, _, zc_125, fun pc hp => (zgd hp : (bif Nat.ble 16 pc then none else _) = none)⟩
           ·
            obtain rfl : j = 126 := by omega
            exact ⟨_, zcw_126, _, zc_126, fun pc hp => (zgd hp : (bif Nat.ble 26 pc then none else _) = none)⟩
          ·
           rcases Nat.lt_or_ge j 128 with h128 | h128
           ·
            obtain rfl : j = 127 := by omega
            exact ⟨_, zcw_127, _, zc_127, fun pc hp => (zgd hp : (bif Nat.ble 33 pc then none else _) = none)⟩
           ·
            obtain rfl : j = 128 := by omega
            exact ⟨_, zcw_128, _, zc_128, fun pc hp => (zgd hp : (bif Nat.ble 15 pc then none else _) = none)⟩
        ·
         rcases Nat.lt_or_ge j 133 with h133 | h133
         ·
          rcases Nat.lt_or_ge j 131 with h131 | h131
          ·
           rcases Nat.lt_or_ge j 130 with h130 | h130
           ·
            obtain rfl : j = 129 := by omega
            exact ⟨_, zcw_129, _, zc_129, fun pc hp => (zgd hp : (bif Nat.ble 10 pc then none else _) = none)⟩
           ·
            obtain rfl : j = 130 := by omega
            exact ⟨_, zcw_130, _, zc_130, fun pc hp => (zgd hp : (bif Nat.ble 20 pc then none else _) = none)⟩
          ·
           rcases Nat.lt_or_ge j 132 with h132 | h132
           ·
            obtain rfl : j = 131 := by omega
            exact ⟨_, zcw_131, _, zc_131, fun pc hp => (zgd hp : (bif Nat.ble 55 pc then none else _) = none)⟩
           ·
            obtain rfl : j = 132 := by omega
            exact ⟨_, zcw_132, _, zc_132, fun pc hp => (zgd hp : (bif Nat.ble 42 pc then none else _) = none)⟩
         ·
          rcases Nat.lt_or_ge j 135 with h135 | h135
          ·
           rcases Nat.lt_or_ge j 134 with h134 | h134
           ·
            obtain rfl : j = 133 := by omega
            exact ⟨_, zcw_133, _, zc_133, fun pc hp => (zgd hp : (bif Nat.ble 63 pc then none else _) = none)⟩
           ·
            obtain rfl : j = 134 := by omega
            exact ⟨_, zcw_134, _, zc_134, fun pc hp => (zgd hp : (bif Nat.ble 166 pc then none else _) = none)⟩
          ·
           rcases Nat.lt_or_ge j 136 with h136 | h136
           ·
            obtain rfl : j = 135 := by omega
            exact ⟨_, zcw_135, _, zc_135, fun pc hp => (zgd hp : (bif Nat.ble 5 pc then none else _) = none)⟩
           ·
            obtain rfl : j = 136 := by omega
            exact ⟨_, zcw_136, _, zc_136, fun pc hp => (zgd hp : (bif Nat.ble 39 pc then none else _) = none)⟩
       ·
        rcases Nat.lt_or_ge j 144 with h144 | h144
        ·
         rcases Nat.lt_or_ge j 140 with h140 | h140
         ·
          rcases Nat.lt_or_ge j 138 with h138 | h138
          ·
           obtain rfl : j = 137 := by omega
           exact ⟨_, zcw_137, _, zc_137, fun pc hp => (zgd hp : (bif Nat.ble 16 pc then none else _) = none)⟩
          ·
           rcases Nat.lt_or_ge j 139 with h139 | h139
           ·
            obtain rfl : j = 138 := by omega
            exact ⟨_, zcw_138, _, zc_138, fun pc hp => (zgd hp : (bif Nat.ble 7 pc then none else _) = none)⟩
           ·
            obtain rfl : j = 139 := by omega
            exact ⟨_, zcw_139, _, zc_139, fun pc hp => (zgd hp : (bif Nat.ble 9 pc then none else _) = none)⟩
         ·
          rcases Nat.lt_or_ge j 142 with h142 | h142
          ·
           rcases Nat.lt_or_ge j 141 with h141 | h141
           ·
            obtain rfl : j = 140 := by omega
            exact ⟨_, zcw_140, _, zc_140, fun pc hp => (zgd hp : (bif Nat.ble 11 pc then none else _) = none)⟩
           ·
            obtain rfl : j = 141 := by omega
            exact ⟨_, zcw_141, _, zc_141, fun pc hp => (zgd hp : (bif Nat.ble 11 pc then none else _) = none)⟩
          ·
           rcases Nat.lt_or_ge j 143 with h143 | h143
           ·
            obtain rfl : j = 142 := by omega
            exact ⟨_, zcw_142, _, zc_142, fun pc hp => (zgd hp : (bif Nat.ble 11 pc then none else _) = none)⟩
           ·
            obtain rfl : j = 143 := by omega
            exact ⟨_, zcw_143, _, zc_143, fun pc hp => (zgd hp : (bif Nat.ble 15 pc then none else _) = none)⟩
        ·
         rcases Nat.lt_or_ge j 148 with h148 | h148
         ·
          rcases Nat.lt_or_ge j 146 with h146 | h146
          ·
           rcases Nat.lt_or_ge j 145 with h145 | h145
           ·
            obtain rfl : j = 144 := by omega
            exact ⟨_, zcw_144, _, zc_144, fun pc hp => (zgd hp : (bif Nat.ble 12 pc then none else _) = none)⟩
           ·
            obtain rfl : j = 145 := by omega
            exact ⟨_, zcw_145, _, zc_145, fun pc hp => (zgd hp : (bif Nat.ble 12 pc then none else _) = none)⟩
          ·
           rcases Nat.lt_or_ge j 147 with h147 | h147
           ·
            obtain rfl : j = 146 := by omega
            exact ⟨_, zcw_146, _, zc_146, fun pc hp => (zgd hp : (bif Nat.ble 12 pc then none else _) = none)⟩
           ·
            obtain rfl : j = 147 := by omega
            exact ⟨_, zcw_147, _, zc_147, fun pc hp => (zgd hp : (bif Nat.ble 22 pc then none else _) = none)⟩
         ·
          rcases Nat.lt_or_ge j 150 with h150 | h150
          ·
           rcases Nat.lt_or_ge j 149 with h149 | h149
           ·
            obtain rfl : j = 148 := by omega
            exact ⟨_, zcw_148, _, zc_148, fun pc hp => (zgd hp : (bif Nat.ble 22 pc then none else _) = none)⟩
           ·
            obtain rfl : j = 149 := by omega
            exact ⟨_, zcw_149, _, zc_149, fun pc hp => (zgd hp : (bif Nat.ble 27 pc then none else _) = none)⟩
          ·
           rcases Nat.lt_or_ge j 151 with h151 | h151
           ·
            obtain rfl : j = 150 := by omega
            exact ⟨_, zcw_150, _, zc_150, fun pc hp => (zgd hp : (bif Nat.ble 29 pc then none else _) = none)⟩
           ·
            obtain rfl : j = 151 := by omega
            exact ⟨_, zcw_151, _, zc_151, fun pc hp => (zgd hp : (bif Nat.ble 73 pc then none else _) = none)⟩
      ·
       rcases Nat.lt_or_ge j 167 with h167 | h167
       ·
        rcases Nat.lt_or_ge j 159 with h159 | h159
        ·
         rcases Nat.lt_or_ge j 155 with h155 | h155
         ·
          rcases Nat.lt_or_ge j 153 with h153 | h153
          ·
           obtain rfl : j = 152 := by omega
           exact ⟨_, zcw_152, _, zc_152, fun pc hp => (zgd hp : (bif Nat.ble 46 pc then none else _) = none)⟩
          ·
           rcases Nat.lt_or_ge j 154 with h154 | h154
           ·
            obtain rfl : j = 153 := by omega
            exact ⟨_, zcw_153, _, zc_153, fun pc hp => (zgd hp : (bif Nat.ble 131 pc then none else _) = none)⟩
           ·
            obtain rfl : j = 154 := by omega
            exact ⟨_, zcw_154, _, zc_154, fun pc hp => (zgd hp : (bif Nat.ble 58 pc then none else _) = none)⟩
         ·
          rcases Nat.lt_or_ge j 157 with h157 | h157
          ·
           rcases Nat.lt_or_ge j 156 with h156 | h156
           ·
            obtain rfl : j = 155 := by omega
            exact ⟨_, zcw_155, _, zc_155, fun pc hp => (zgd hp : (bif Nat.ble 45 pc then none else _) = none)⟩
           ·
            obtain rfl : j = 156 := by omega
            exact ⟨_, zcw_156, _, zc_156, fun pc hp => (zgd hp : (bif Nat.ble 58 pc then none else _) = none)⟩
          ·
           rcases Nat.lt_or_ge j 158 with h158 | h158
           ·
            obtain rfl : j = 157 := by omega
            exact ⟨_, zcw_157, _, zc_157, fun pc hp => (zgd hp : (bif Nat.ble 41 pc then none else _) = none)⟩
           ·
            obtain rfl : j = 158 := by omega
            exact ⟨_, zcw_158, _, zc_158, fun pc hp => (zgd hp : (bif Nat.ble 39 pc then none else _) = none)⟩
        ·
         rcases Nat.lt_or_ge j 163 with h163 | h163
         ·
          rcases Nat.lt_or_ge j 161 with h161 | h161
          ·
           rcases Nat.lt_or_ge j 160 with h160 | h160
           ·
            obtain rfl : j = 159 := by omega
            exact ⟨_, zcw_159, _, zc_159, fun pc hp => (zgd hp : (bif Nat.ble 58 pc then none else _) = none)⟩
           ·
            obtain rfl : j = 160 := by omega
            exact ⟨_, zcw_160, _, zc_160, fun pc hp => (zgd hp : (bif Nat.ble 70 pc then none else _) = none)⟩
          ·
           rcases Nat.lt_or_ge j 162 with h162 | h162
           ·
            obtain rfl : j = 161 := by omega
            exact ⟨_, zcw_161, _, zc_161, fun pc hp => (zgd hp : (bif Nat.ble 82 pc then none else _) = none)⟩
           ·
            obtain rfl : j = 162 := by omega
            exact ⟨_, zcw_162, _, zc_162, fun pc hp => (zgd hp : (bif Nat.ble 41 pc then none else _) = none)⟩
         ·
          rcases Nat.lt_or_ge j 165 with h165 | h165
          ·
           rcases Nat.lt_or_ge j 164 with h164 | h164
           ·
            obtain rfl : j = 163 := by omega
            exact ⟨_, zcw_163, _, zc_163, fun pc hp => (zgd hp : (bif Nat.ble 63 pc then none else _) = none)⟩
           ·
            obtain rfl : j = 164 := by omega
            exact ⟨_, zcw_164, _, zc_164, fun pc hp => (zgd hp : (bif Nat.ble 51 pc then none else _) = none)⟩
          ·
           rcases Nat.lt_or_ge j 166 with h166 | h166
           ·
            obtain rfl : j = 165 := by omega
            exact ⟨_, zcw_165, _, zc_165, fun pc hp => (zgd hp : (bif Nat.ble 57 pc then none else _) = none)⟩
           ·
            obtain rfl : j = 166 := by omega
            exact ⟨_, zcw_166, _, zc_166, fun pc hp => (zgd hp : (bif Nat.ble 52 pc then none else _) = none)⟩
       ·
        rcases Nat.lt_or_ge j 175 with h175 | h175
        ·
         rcases Nat.lt_or_ge j 171 with h171 | h171
         ·
          rcases Nat.lt_or_ge j 169 with h169 | h169
          ·
           rcases Nat.lt_or_ge j 168 with h168 | h168
           ·
            obtain rfl : j = 167 := by omega
            exact ⟨_, zcw_167, _, zc_167, fun pc hp => (zgd hp : (bif Nat.ble 37 pc then none else _) = none)⟩
           ·
            obtain rfl : j = 168 := by omega
            exact ⟨_, zcw_168, _, zc_168, fun pc hp => (zgd hp : (bif Nat.ble 19 pc then none else _) = none)⟩
          ·
           rcases Nat.lt_or_ge j 170 with h170 | h170
           ·
            obtain rfl : j = 169 := by omega
            exact ⟨_, zcw_169, _, zc_169, fun pc hp => (zgd hp : (bif Nat.ble 63 pc then none else _) = none)⟩
           ·
            obtain rfl : j = 170 := by omega
            exact ⟨_, zcw_170, _, zc_170, fun pc hp => (zgd hp : (bif Nat.ble 36 pc then none else _) = none)⟩
         ·
          rcases Nat.lt_or_ge j 173 with h173 | h173
          ·
           rcases Nat.lt_or_ge j 172 with h172 | h172
           ·
            obtain rfl : j = 171 := by omega
            exact ⟨_, zcw_171, _, zc_171, fun pc hp => (zgd hp : (bif Nat.ble 96 pc then none else _) = none)⟩
           ·
            obtain rfl : j = 172 := by omega
            exact ⟨_, zcw_172, _, zc_172, fun pc hp => (zgd hp : (bif Nat.ble 128 pc then none else _) = none)⟩
          ·
           rcases Nat.lt_or_ge j 174 with h174 | h174
           ·
            obtain rfl : j = 173 := by omega
            exact ⟨_, zcw_173, _, zc_173, fun pc hp => (zgd hp : (bif Nat.ble 29 pc then none else _) = none)⟩
           ·
            obtain rfl : j = 174 := by omega
            exact ⟨_, zcw_174, _, zc_174, fun pc hp => (zgd hp : (bif Nat.ble 148 pc then none else _) = none)⟩
        ·
         rcases Nat.lt_or_ge j 179 with h179 | h179
         ·
          rcases Nat.lt_or_ge j 177 with h177 | h177
          ·
           rcases Nat.lt_or_ge j 176 with h176 | h176
           ·
            obtain rfl : j = 175 := by omega
            exact ⟨_, zcw_175, _, zc_175, fun pc hp => (zgd hp : (bif Nat.ble 30 pc then none else _) = none)⟩
           ·
            obtain rfl : j = 176 := by omega
            exact ⟨_, zcw_176, _, zc_176, fun pc hp => (zgd hp : (bif Nat.ble 56 pc then none else _) = none)⟩
          ·
           rcases Nat.lt_or_ge j 178 with h178 | h178
           ·
            obtain rfl : j = 177 := by omega
            exact ⟨_, zcw_177, _, zc_177, fun pc hp => (zgd hp : (bif Nat.ble 323 pc then none else _) = none)⟩
           ·
            obtain rfl : j = 178 := by omega
            exact ⟨_, zcw_178, _, zc_178, fun pc hp => (zgd hp : (bif Nat.ble 18 pc then none else _) = none)⟩
         ·
          rcases Nat.lt_or_ge j 181 with h181 | h181
          ·
           rcases Nat.lt_or_ge j 180 with h180 | h180
           ·
            obtain rfl : j = 179 := by omega
            exact ⟨_, zcw_179, _, zc_179, fun pc hp => (zgd hp : (bif Nat.ble 107 pc then none else _) = none)⟩
           ·
            obtain rfl : j = 180 := by omega
            exact ⟨_, zcw_180, _, zc_180, fun pc hp => (zgd hp : (bif Nat.ble 86 pc then none else _) = none)⟩
          ·
           rcases Nat.lt_or_ge j 182 with h182 | h182
           ·
            obtain rfl : j = 181 := by omega
            exact ⟨_, zcw_181, _, zc_181, fun pc hp => (zgd hp : (bif Nat.ble 137 pc then none else _) = none)⟩
           ·
            obtain rfl : j = 182 := by omega
            exact ⟨_, zcw_182, _, zc_182, fun pc hp => (zgd hp : (bif Nat.ble 51 pc then none else _) = none)⟩
     ·
      rcases Nat.lt_or_ge j 214 with h214 | h214
      ·
       rcases Nat.lt_or_ge j 198 with h198 | h198
       ·
        rcases Nat.lt_or_ge j 190 with h190 | h190
        ·
         rcases Nat.lt_or_ge j 186 with h186 | h186
         ·
          rcases Nat.lt_or_ge j 184 with h184 | h184
          ·
           obtain rfl : j = 183 := by omega
           exact ⟨_, zcw_183, _, zc_183, fun pc hp => (zgd hp : (bif Nat.ble 85 pc then none else _) = none)⟩
          ·
           rcases Nat.lt_or_ge j 185 with h185 | h185
           ·
            obtain rfl : j = 184 := by omega
            exact ⟨_, zcw_184, _, zc_184, fun pc hp => (zgd hp : (bif Nat.ble 140 pc then none else _) = none)⟩
           ·
            obtain rfl : j = 185 := by omega
            exact ⟨_, zcw_185, _, zc_185, fun pc hp => (zgd hp : (bif Nat.ble 29 pc then none else _) = none)⟩
         ·
          rcases Nat.lt_or_ge j 188 with h188 | h188
          ·
           rcases Nat.lt_or_ge j 187 with h187 | h187
           ·
            obtain rfl : j = 186 := by omega
            exact ⟨_, zcw_186, _, zc_186, fun pc hp => (zgd hp : (bif Nat.ble 194 pc then none else _) = none)⟩
           ·
            obtain rfl : j = 187 := by omega
            exact ⟨_, zcw_187, _, zc_187, fun pc hp => (zgd hp : (bif Nat.ble 10 pc then none else _) = none)⟩
          ·
           rcases Nat.lt_or_ge j 189 with h189 | h189
           ·
            obtain rfl : j = 188 := by omega
            exact ⟨_, zcw_188, _, zc_188, fun pc hp => (zgd hp : (bif Nat.ble 97 pc then none else _) = none)⟩
           ·
            obtain rfl : j = 189 := by omega
            exact ⟨_, zcw_189, _, zc_189, fun pc hp => (zgd hp : (bif Nat.ble 18 pc then none else _) = none)⟩
        ·
         rcases Nat.lt_or_ge j 194 with h194 | h194
         ·
          rcases Nat.lt_or_ge j 192 with h192 | h192
          ·
           rcases Nat.lt_or_ge j 191 with h191 | h191
           ·
            obtain rfl : j = 190 := by omega
            exact ⟨_, zcw_190, _, zc_190, fun pc hp => (zgd hp : (bif Nat.ble 41 pc then none else _) = none)⟩
           ·
            obtain rfl : j = 191 := by omega
            exact ⟨_, zcw_191, _, zc_191, fun pc hp => (zgd hp : (bif Nat.ble 98 pc then none else _) = none)⟩
          ·
           rcases Nat.lt_or_ge j 193 with h193 | h193
           ·
            obtain rfl : j = 192 := by omega
            exact ⟨_, zcw_192, _, zc_192, fun pc hp => (zgd hp : (bif Nat.ble 78 pc then none else _) = none)⟩
           ·
            obtain rfl : j = 193 := by omega
            exact ⟨_, zcw_193, _, zc_193, fun pc hp => (zgd hp : (bif Nat.ble 44 pc then none else _) = none)⟩
         ·
          rcases Nat.lt_or_ge j 196 with h196 | h196
          ·
           rcases Nat.lt_or_ge j 195 with h195 | h195
           ·
            obtain rfl : j = 194 := by omega
            exact ⟨_, zcw_194, _, zc_194, fun pc hp => (zgd hp : (bif Nat.ble 35 pc then none else _) = none)⟩
           ·
            obtain rfl : j = 195 := by omega
            exact ⟨_, zcw_195, _, zc_195, fun pc hp => (zgd hp : (bif Nat.ble 61 pc then none else _) = none)⟩
          ·
           rcases Nat.lt_or_ge j 197 with h197 | h197
           ·
            obtain rfl : j = 196 := by omega
            exact ⟨_, zcw_196, _, zc_196, fun pc hp => (zgd hp : (bif Nat.ble 187 pc then none else _) = none)⟩
           ·
            obtain rfl : j = 197 := by omega
            exact ⟨_, zcw_197, _, zc_197, fun pc hp => (zgd hp : (bif Nat.ble 68 pc then none else _) = none)⟩
       ·
        rcases Nat.lt_or_ge j 206 with h206 | h206
        ·
         rcases Nat.lt_or_ge j 202 with h202 | h202
         ·
          rcases Nat.lt_or_ge j 200 with h200 | h200
          ·
           rcases Nat.lt_or_ge j 199 with h199 | h199
           ·
            obtain rfl : j = 198 := by omega
            exact ⟨_, zcw_198, _, zc_198, fun pc hp => (zgd hp : (bif Nat.ble 107 pc then none else _) = none)⟩
           ·
            obtain rfl : j = 199 := by omega
            exact ⟨_, zcw_199, _, zc_199, fun pc hp => (zgd hp : (bif Nat.ble 115 pc then none else _) = none)⟩
          ·
           rcases Nat.lt_or_ge j 201 with h201 | h201
           ·
            obtain rfl : j = 200 := by omega
            exact ⟨_, zcw_200, _, zc_200, fun pc hp => (zgd hp : (bif Nat.ble 126 pc then none else _) = none)⟩
           ·
            obtain rfl : j = 201 := by omega
            exact ⟨_, zcw_201, _, zc_201, fun pc hp => (zgd hp : (bif Nat.ble 27 pc then none else _) = none)⟩
         ·
          rcases Nat.lt_or_ge j 204 with h204 | h204
          ·
           rcases Nat.lt_or_ge j 203 with h203 | h203
           ·
            obtain rfl : j = 202 := by omega
            exact ⟨_, zcw_202, _, zc_202, fun pc hp => (zgd hp : (bif Nat.ble 32 pc then none else _) = none)⟩
           ·
            obtain rfl : j = 203 := by omega
            exact ⟨_, zcw_203, _, zc_203, fun pc hp => (zgd hp : (bif Nat.ble 39 pc then none else _) = none)⟩
          ·
           rcases Nat.lt_or_ge j 205 with h205 | h205
           ·
            obtain rfl : j = 204 := by omega
            exact ⟨_, zcw_204, _, zc_204, fun pc hp => (zgd hp : (bif Nat.ble 103 pc then none else _) = none)⟩
           ·
            obtain rfl : j = 205 := by omega
            exact ⟨_, zcw_205, _, zc_205, fun pc hp => (zgd hp : (bif Nat.ble 83 pc then none else _) = none)⟩
        ·
         rcases Nat.lt_or_ge j 210 with h210 | h210
         ·
          rcases Nat.lt_or_ge j 208 with h208 | h208
          ·
           rcases Nat.lt_or_ge j 207 with h207 | h207
           ·
            obtain rfl : j = 206 := by omega
            exact ⟨_, zcw_206, _, zc_206, fun pc hp => (zgd hp : (bif Nat.ble 64 pc then none else _) = none)⟩
           ·
            obtain rfl : j = 207 := by omega
            exact ⟨_, zcw_207, _, zc_207, fun pc hp => (zgd hp : (bif Nat.ble 48 pc then none else _) = none)⟩
          ·
           rcases Nat.lt_or_ge j 209 with h209 | h209
           ·
            obtain rfl : j = 208 := by omega
            exact ⟨_, zcw_208, _, zc_208, fun pc hp => (zgd hp : (bif Nat.ble 187 pc then none else _) = none)⟩
           ·
            obtain rfl : j = 209 := by omega
            exact ⟨_, zcw_209, _, zc_209, fun pc hp => (zgd hp : (bif Nat.ble 49 pc then none else _) = none)⟩
         ·
          rcases Nat.lt_or_ge j 212 with h212 | h212
          ·
           rcases Nat.lt_or_ge j 211 with h211 | h211
           ·
            obtain rfl : j = 210 := by omega
            exact ⟨_, zcw_210, _, zc_210, fun pc hp => (zgd hp : (bif Nat.ble 56 pc then none else _) = none)⟩
           ·
            obtain rfl : j = 211 := by omega
            exact ⟨_, zcw_211, _, zc_211, fun pc hp => (zgd hp : (bif Nat.ble 130 pc then none else _) = none)⟩
          ·
           rcases Nat.lt_or_ge j 213 with h213 | h213
           ·
            obtain rfl : j = 212 := by omega
            exact ⟨_, zcw_212, _, zc_212, fun pc hp => (zgd hp : (bif Nat.ble 92 pc then none else _) = none)⟩
           ·
            obtain rfl : j = 213 := by omega
            exact ⟨_, zcw_213, _, zc_213, fun pc hp => (zgd hp : (bif Nat.ble 26 pc then none else _) = none)⟩
      ·
       rcases Nat.lt_or_ge j 229 with h229 | h229
       ·
        rcases Nat.lt_or_ge j 221 with h221 | h221
        ·
         rcases Nat.lt_or_ge j 217 with h217 | h217
         ·
          rcases Nat.lt_or_ge j 215 with h215 | h215
          ·
           obtain rfl : j = 214 := by omega
           exact ⟨_, zcw_214, _, zc_214, fun pc hp => (zgd hp : (bif Nat.ble 104 pc then none else _) = none)⟩
          ·
           rcases Nat.lt_or_ge j 216 with h216 | h216
           ·
            obtain rfl : j = 215 := by omega
            exact ⟨_, zcw_215, _, zc_215, fun pc hp => (zgd hp : (bif Nat.ble 47 pc then none else _) = none)⟩
           ·
            obtain rfl : j = 216 := by omega
            exact ⟨_, zcw_216, _, zc_216, fun pc hp => (zgd hp : (bif Nat.ble 257 pc then none else _) = none)⟩
         ·
          rcases Nat.lt_or_ge j 219 with h219 | h219
          ·
           rcases Nat.lt_or_ge j 218 with h218 | h218
           ·
            obtain rfl : j = 217 := by omega
            exact ⟨_, zcw_217, _, zc_217, fun pc hp => (zgd hp : (bif Nat.ble 176 pc then none else _) = none)⟩
           ·
            obtain rfl : j = 218 := by omega
            exact ⟨_, zcw_218, _, zc_218, fun pc hp => (zgd hp : (bif Nat.ble 65 pc then none else _) = none)⟩
          ·
           rcases Nat.lt_or_ge j 220 with h220 | h220
           ·
            obtain rfl : j = 219 := by omega
            exact ⟨_, zcw_219, _, zc_219, fun pc hp => (zgd hp : (bif Nat.ble 30 pc then none else _) = none)⟩
           ·
            obtain rfl : j = 220 := by omega
            exact ⟨_, zcw_220, _, zc_220, fun pc hp => (zgd hp : (bif Nat.ble 37 pc then none else _) = none)⟩
        ·
         rcases Nat.lt_or_ge j 225 with h225 | h225
         ·
          rcases Nat.lt_or_ge j 223 with h223 | h223
          ·
           rcases Nat.lt_or_ge j 222 with h222 | h222
           ·
            obtain rfl : j = 221 := by omega
            exact ⟨_, zcw_221, _, zc_221, fun pc hp => (zgd hp : (bif Nat.ble 105 pc then none else _) = none)⟩
           ·
            obtain rfl : j = 222 := by omega
            exact ⟨_, zcw_222, _, zc_222, fun pc hp => (zgd hp : (bif Nat.ble 37 pc then none else _) = none)⟩
          ·
           rcases Nat.lt_or_ge j 224 with h224 | h224
           ·
            obtain rfl : j = 223 := by omega
            exact ⟨_, zcw_223, _, zc_223, fun pc hp => (zgd hp : (bif Nat.ble 37 pc then none else _) = none)⟩
           ·
            obtain rfl : j = 224 := by omega
            exact ⟨_, zcw_224, _, zc_224, fun pc hp => (zgd hp : (bif Nat.ble 36 pc then none else _) = none)⟩
         ·
          rcases Nat.lt_or_ge j 227 with h227 | h227
          ·
           rcases Nat.lt_or_ge j 226 with h226 | h226
           ·
            obtain rfl : j = 225 := by omega
            exact ⟨_, zcw_225, _, zc_225, fun pc hp => (zgd hp : (bif Nat.ble 143 pc then none else _) = none)⟩
           ·
            obtain rfl : j = 226 := by omega
            exact ⟨_, zcw_226, _, zc_226, fun pc hp => (zgd hp : (bif Nat.ble 75 pc then none else _) = none)⟩
          ·
           rcases Nat.lt_or_ge j 228 with h228 | h228
           ·
            obtain rfl : j = 227 := by omega
            exact ⟨_, zcw_227, _, zc_227, fun pc hp => (zgd hp : (bif Nat.ble 139 pc then none else _) = none)⟩
           ·
            obtain rfl : j = 228 := by omega
            exact ⟨_, zcw_228, _, zc_228, fun pc hp => (zgd hp : (bif Nat.ble 41 pc then none else _) = none)⟩
       ·
        rcases Nat.lt_or_ge j 237 with h237 | h237
        ·
         rcases Nat.lt_or_ge j 233 with h233 | h233
         ·
          rcases Nat.lt_or_ge j 231 with h231 | h231
          ·
           rcases Nat.lt_or_ge j 230 with h230 | h230
           ·
            obtain rfl : j = 229 := by omega
            exact ⟨_, zcw_229, _, zc_229, fun pc hp => (zgd hp : (bif Nat.ble 239 pc then none else _) = none)⟩
           ·
            obtain rfl : j = 230 := by omega
            exact ⟨_, zcw_230, _, zc_230, fun pc hp => (zgd hp : (bif Nat.ble 204 pc then none else _) = none)⟩
          ·
           rcases Nat.lt_or_ge j 232 with h232 | h232
           ·
            obtain rfl : j = 231 := by omega
            exact ⟨_, zcw_231, _, zc_231, fun pc hp => (zgd hp : (bif Nat.ble 65 pc then none else _) = none)⟩
           ·
            obtain rfl : j = 232 := by omega
            exact ⟨_, zcw_232, _, zc_232, fun pc hp => (zgd hp : (bif Nat.ble 159 pc then none else _) = none)⟩
         ·
          rcases Nat.lt_or_ge j 235 with h235 | h235
          ·
           rcases Nat.lt_or_ge j 234 with h234 | h234
           ·
            obtain rfl : j = 233 := by omega
            exact ⟨_, zcw_233, _, zc_233, fun pc hp => (zgd hp : (bif Nat.ble 193 pc then none else _) = none)⟩
           ·
            obtain rfl : j = 234 := by omega
            exact ⟨_, zcw_234, _, zc_234, fun pc hp => (zgd hp : (bif Nat.ble 64 pc then none else _) = none)⟩
          ·
           rcases Nat.lt_or_ge j 236 with h236 | h236
           ·
            obtain rfl : j = 235 := by omega
            exact ⟨_, zcw_235, _, zc_235, fun pc hp => (zgd hp : (bif Nat.ble 63 pc then none else _) = none)⟩
           ·
            obtain rfl : j = 236 := by omega
            exact ⟨_, zcw_236, _, zc_236, fun pc hp => (zgd hp : (bif Nat.ble 30 pc then none else _) = none)⟩
        ·
         rcases Nat.lt_or_ge j 241 with h241 | h241
         ·
          rcases Nat.lt_or_ge j 239 with h239 | h239
          ·
           rcases Nat.lt_or_ge j 238 with h238 | h238
           ·
            obtain rfl : j = 237 := by omega
            exact ⟨_, zcw_237, _, zc_237, fun pc hp => (zgd hp : (bif Nat.ble 47 pc then none else _) = none)⟩
           ·
            obtain rfl : j = 238 := by omega
            exact ⟨_, zcw_238, _, zc_238, fun pc hp => (zgd hp : (bif Nat.ble 170 pc then none else _) = none)⟩
          ·
           rcases Nat.lt_or_ge j 240 with h240 | h240
           ·
            obtain rfl : j = 239 := by omega
            exact ⟨_, zcw_239, _, zc_239, fun pc hp => (zgd hp : (bif Nat.ble 101 pc then none else _) = none)⟩
           ·
            obtain rfl : j = 240 := by omega
            exact ⟨_, zcw_240, _, zc_240, fun pc hp => (zgd hp : (bif Nat.ble 143 pc then none else _) = none)⟩
         ·
          rcases Nat.lt_or_ge j 243 with h243 | h243
          ·
           rcases Nat.lt_or_ge j 242 with h242 | h242
           ·
            obtain rfl : j = 241 := by omega
            exact ⟨_, zcw_241, _, zc_241, fun pc hp => (zgd hp : (bif Nat.ble 50 pc then none else _) = none)⟩
           ·
            obtain rfl : j = 242 := by omega
            exact ⟨_, zcw_242, _, zc_242, fun pc hp => (zgd hp : (bif Nat.ble 168 pc then none else _) = none)⟩
          ·
           rcases Nat.lt_or_ge j 244 with h244 | h244
           ·
            obtain rfl : j = 243 := by omega
            exact ⟨_, zcw_243, _, zc_243, fun pc hp => (zgd hp : (bif Nat.ble 86 pc then none else _) = none)⟩
           ·
            obtain rfl : j = 244 := by omega
            exact ⟨_, zcw_244, _, zc_244, fun pc hp => (zgd hp : (bif Nat.ble 25 pc then none else _) = none)⟩
  obtain ⟨i, h1, h2⟩ := h
  exact ⟨⟨i, h1⟩, h2⟩
