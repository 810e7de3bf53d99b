theorem dX0_init_0 : decode cX0_init 0 = .ok (.aload_n 0, 1) := by decide +kernel
theorem dX0_init_1 : decode cX0_init 1 = .ok (.invokespecial 3, 3) := by decide +kernel
theorem dX0_init_4 : decode cX0_init 4 = .ok (.aload_n 0, 1) := by decide +kernel
theorem dX0_init_5 : decode cX0_init 5 = .ok (.bipush 12, 2) := by decide +kernel
theorem dX0_init_7 : decode cX0_init 7 = .ok (.anewarray 9, 3) := by decide +kernel
theorem dX0_init_10 : decode cX0_init 10 = .ok (.putfield 11, 3) := by decide +kernel
theorem dX0_init_13 : decode cX0_init 13 = .ok (.iconst 0, 1) := by decide +kernel
theorem dX0_init_14 : decode cX0_init 14 = .ok (.istore_n 1, 1) := by decide +kernel
theorem dX0_init_15 : decode cX0_init 15 = .ok (.iload_n 1, 1) := by decide +kernel
theorem dX0_init_16 : decode cX0_init 16 = .ok (.bipush 12, 2) := by decide +kernel
theorem dX0_init_18 : decode cX0_init 18 = .ok (.if_icmp .ge 22, 3) := by decide +kernel
theorem dX0_init_21 : decode cX0_init 21 = .ok (.aload_n 0, 1) := by decide +kernel
theorem dX0_init_22 : decode cX0_init 22 = .ok (.getfield 11, 3) := by decide +kernel
theorem dX0_init_25 : decode cX0_init 25 = .ok (.iload_n 1, 1) := by decide +kernel
theorem dX0_init_26 : decode cX0_init 26 = .ok (.new 9, 3) := by decide +kernel
theorem dX0_init_29 : decode cX0_init 29 = .ok (.dup, 1) := by decide +kernel
theorem dX0_init_30 : decode cX0_init 30 = .ok (.invokespecial 17, 3) := by decide +kernel
theorem dX0_init_33 : decode cX0_init 33 = .ok (.aastore, 1) := by decide +kernel
theorem dX0_init_34 : decode cX0_init 34 = .ok (.iinc 1 1, 3) := by decide +kernel
theorem dX0_init_37 : decode cX0_init 37 = .ok (.goto (-22), 3) := by decide +kernel
theorem dX0_init_40 : decode cX0_init 40 = .ok (.return_, 1) := by decide +kernel
theorem dX1_init_0 : decode cX1_init 0 = .ok (.aload_n 0, 1) := by decide +kernel
theorem dX1_init_1 : decode cX1_init 1 = .ok (.invokespecial 3, 3) := by decide +kernel
theorem dX1_init_4 : decode cX1_init 4 = .ok (.aload_n 0, 1) := by decide +kernel
theorem dX1_init_5 : decode cX1_init 5 = .ok (.sipush 400, 3) := by decide +kernel
theorem dX1_init_8 : decode cX1_init 8 = .ok (.newarray .byte, 2) := by decide +kernel
theorem dX1_init_10 : decode cX1_init 10 = .ok (.putfield 9, 3) := by decide +kernel
theorem dX1_init_13 : decode cX1_init 13 = .ok (.aload_n 0, 1) := by decide +kernel
theorem dX1_init_14 : decode cX1_init 14 = .ok (.new 15, 3) := by decide +kernel
theorem dX1_init_17 : decode cX1_init 17 = .ok (.dup, 1) := by decide +kernel
theorem dX1_init_18 : decode cX1_init 18 = .ok (.invokespecial 17, 3) := by decide +kernel
theorem dX1_init_21 : decode cX1_init 21 = .ok (.putfield 18, 3) := by decide +kernel
theorem dX1_init_24 : decode cX1_init 24 = .ok (.aload_n 0, 1) := by decide +kernel
theorem dX1_init_25 : decode cX1_init 25 = .ok (.iconst (-1), 1) := by decide +kernel
theorem dX1_init_26 : decode cX1_init 26 = .ok (.putfield 22, 3) := by decide +kernel
theorem dX1_init_29 : decode cX1_init 29 = .ok (.return_, 1) := by decide +kernel
theorem dX2_init_0 : decode cX2_init 0 = .ok (.aload_n 0, 1) := by decide +kernel
theorem dX2_init_1 : decode cX2_init 1 = .ok (.invokespecial 3, 3) := by decide +kernel
theorem dX2_init_4 : decode cX2_init 4 = .ok (.aload_n 0, 1) := by decide +kernel
theorem dX2_init_5 : decode cX2_init 5 = .ok (.bipush 40, 2) := by decide +kernel
theorem dX2_init_7 : decode cX2_init 7 = .ok (.newarray .int, 2) := by decide +kernel
theorem dX2_init_9 : decode cX2_init 9 = .ok (.putfield 9, 3) := by decide +kernel
theorem dX2_init_12 : decode cX2_init 12 = .ok (.aload_n 0, 1) := by decide +kernel
theorem dX2_init_13 : decode cX2_init 13 = .ok (.bipush 40, 2) := by decide +kernel
theorem dX2_init_15 : decode cX2_init 15 = .ok (.newarray .int, 2) := by decide +kernel
theorem dX2_init_17 : decode cX2_init 17 = .ok (.putfield 15, 3) := by decide +kernel
theorem dX2_init_20 : decode cX2_init 20 = .ok (.aload_n 0, 1) := by decide +kernel
theorem dX2_init_21 : decode cX2_init 21 = .ok (.bipush 40, 2) := by decide +kernel
theorem dX2_init_23 : decode cX2_init 23 = .ok (.newarray .int, 2) := by decide +kernel
theorem dX2_init_25 : decode cX2_init 25 = .ok (.putfield 18, 3) := by decide +kernel
theorem dX2_init_28 : decode cX2_init 28 = .ok (.return_, 1) := by decide +kernel
theorem dX3_init_0 : decode cX3_init 0 = .ok (.aload_n 0, 1) := by decide +kernel
theorem dX3_init_1 : decode cX3_init 1 = .ok (.invokespecial 3, 3) := by decide +kernel
theorem dX3_init_4 : decode cX3_init 4 = .ok (.aload_n 0, 1) := by decide +kernel
theorem dX3_init_5 : decode cX3_init 5 = .ok (.bipush 6, 2) := by decide +kernel
theorem dX3_init_7 : decode cX3_init 7 = .ok (.anewarray 9, 3) := by decide +kernel
theorem dX3_init_10 : decode cX3_init 10 = .ok (.putfield 11, 3) := by decide +kernel
theorem dX3_init_13 : decode cX3_init 13 = .ok (.iconst 0, 1) := by decide +kernel
theorem dX3_init_14 : decode cX3_init 14 = .ok (.istore_n 1, 1) := by decide +kernel
theorem dX3_init_15 : decode cX3_init 15 = .ok (.iload_n 1, 1) := by decide +kernel
theorem dX3_init_16 : decode cX3_init 16 = .ok (.bipush 6, 2) := by decide +kernel
theorem dX3_init_18 : decode cX3_init 18 = .ok (.if_icmp .ge 22, 3) := by decide +kernel
theorem dX3_init_21 : decode cX3_init 21 = .ok (.aload_n 0, 1) := by decide +kernel
theorem dX3_init_22 : decode cX3_init 22 = .ok (.getfield 11, 3) := by decide +kernel
theorem dX3_init_25 : decode cX3_init 25 = .ok (.iload_n 1, 1) := by decide +kernel
theorem dX3_init_26 : decode cX3_init 26 = .ok (.new 9, 3) := by decide +kernel
theorem dX3_init_29 : decode cX3_init 29 = .ok (.dup, 1) := by decide +kernel
theorem dX3_init_30 : decode cX3_init 30 = .ok (.invokespecial 17, 3) := by decide +kernel
theorem dX3_init_33 : decode cX3_init 33 = .ok (.aastore, 1) := by decide +kernel
theorem dX3_init_34 : decode cX3_init 34 = .ok (.iinc 1 1, 3) := by decide +kernel
theorem dX3_init_37 : decode cX3_init 37 = .ok (.goto (-22), 3) := by decide +kernel
theorem dX3_init_40 : decode cX3_init 40 = .ok (.return_, 1) := by decide +kernel
theorem dX4_init_0 : decode cX4_init 0 = .ok (.aload_n 0, 1) := by decide +kernel
theorem dX4_init_1 : decode cX4_init 1 = .ok (.invokespecial 3, 3) := by decide +kernel
theorem dX4_init_4 : decode cX4_init 4 = .ok (.aload_n 0, 1) := by decide +kernel
theorem dX4_init_5 : decode cX4_init 5 = .ok (.iconst 0, 1) := by decide +kernel
theorem dX4_init_6 : decode cX4_init 6 = .ok (.iload_n 1, 1) := by decide +kernel
theorem dX4_init_7 : decode cX4_init 7 = .ok (.invokestatic 9, 3) := by decide +kernel
theorem dX4_init_10 : decode cX4_init 10 = .ok (.newarray .int, 2) := by decide +kernel
theorem dX4_init_12 : decode cX4_init 12 = .ok (.putfield 15, 3) := by decide +kernel
theorem dX4_init_15 : decode cX4_init 15 = .ok (.return_, 1) := by decide +kernel
theorem dX5_init_0 : decode cX5_init 0 = .ok (.aload_n 0, 1) := by decide +kernel
theorem dX5_init_1 : decode cX5_init 1 = .ok (.invokespecial 3, 3) := by decide +kernel
theorem dX5_init_4 : decode cX5_init 4 = .ok (.aload_n 0, 1) := by decide +kernel
theorem dX5_init_5 : decode cX5_init 5 = .ok (.new 9, 3) := by decide +kernel
theorem dX5_init_8 : decode cX5_init 8 = .ok (.dup, 1) := by decide +kernel
theorem dX5_init_9 : decode cX5_init 9 = .ok (.invokespecial 11, 3) := by decide +kernel
theorem dX5_init_12 : decode cX5_init 12 = .ok (.putfield 12, 3) := by decide +kernel
theorem dX5_init_15 : decode cX5_init 15 = .ok (.aload_n 0, 1) := by decide +kernel
theorem dX5_init_16 : decode cX5_init 16 = .ok (.new 9, 3) := by decide +kernel
theorem dX5_init_19 : decode cX5_init 19 = .ok (.dup, 1) := by decide +kernel
theorem dX5_init_20 : decode cX5_init 20 = .ok (.invokespecial 11, 3) := by decide +kernel
theorem dX5_init_23 : decode cX5_init 23 = .ok (.putfield 16, 3) := by decide +kernel
theorem dX5_init_26 : decode cX5_init 26 = .ok (.aload_n 0, 1) := by decide +kernel
theorem dX5_init_27 : decode cX5_init 27 = .ok (.new 19, 3) := by decide +kernel
theorem dX5_init_30 : decode cX5_init 30 = .ok (.dup, 1) := by decide +kernel
theorem dX5_init_31 : decode cX5_init 31 = .ok (.invokespecial 21, 3) := by decide +kernel
theorem dX5_init_34 : decode cX5_init 34 = .ok (.putfield 22, 3) := by decide +kernel
theorem dX5_init_37 : decode cX5_init 37 = .ok (.aload_n 0, 1) := by decide +kernel
theorem dX5_init_38 : decode cX5_init 38 = .ok (.new 26, 3) := by decide +kernel
theorem dX5_init_41 : decode cX5_init 41 = .ok (.dup, 1) := by decide +kernel
theorem dX5_init_42 : decode cX5_init 42 = .ok (.invokespecial 28, 3) := by decide +kernel
theorem dX5_init_45 : decode cX5_init 45 = .ok (.putfield 29, 3) := by decide +kernel
theorem dX5_init_48 : decode cX5_init 48 = .ok (.aload_n 0, 1) := by decide +kernel
theorem dX5_init_49 : decode cX5_init 49 = .ok (.new 33, 3) := by decide +kernel
theorem dX5_init_52 : decode cX5_init 52 = .ok (.dup, 1) := by decide +kernel
theorem dX5_init_53 : decode cX5_init 53 = .ok (.sipush 480, 3) := by decide +kernel
theorem dX5_init_56 : decode cX5_init 56 = .ok (.invokespecial 35, 3) := by decide +kernel
theorem dX5_init_59 : decode cX5_init 59 = .ok (.putfield 38, 3) := by decide +kernel
theorem dX5_init_62 : decode cX5_init 62 = .ok (.aload_n 0, 1) := by decide +kernel
theorem dX5_init_63 : decode cX5_init 63 = .ok (.new 33, 3) := by decide +kernel
theorem dX5_init_66 : decode cX5_init 66 = .ok (.dup, 1) := by decide +kernel
theorem dX5_init_67 : decode cX5_init 67 = .ok (.bipush 80, 2) := by decide +kernel
theorem dX5_init_69 : decode cX5_init 69 = .ok (.invokespecial 35, 3) := by decide +kernel
theorem dX5_init_72 : decode cX5_init 72 = .ok (.putfield 42, 3) := by decide +kernel
theorem dX5_init_75 : decode cX5_init 75 = .ok (.aload_n 0, 1) := by decide +kernel
theorem dX5_init_76 : decode cX5_init 76 = .ok (.new 33, 3) := by decide +kernel
theorem dX5_init_79 : decode cX5_init 79 = .ok (.dup, 1) := by decide +kernel
theorem dX5_init_80 : decode cX5_init 80 = .ok (.bipush 80, 2) := by decide +kernel
theorem dX5_init_82 : decode cX5_init 82 = .ok (.invokespecial 35, 3) := by decide +kernel
theorem dX5_init_85 : decode cX5_init 85 = .ok (.putfield 45, 3) := by decide +kernel
theorem dX5_init_88 : decode cX5_init 88 = .ok (.aload_n 0, 1) := by decide +kernel
theorem dX5_init_89 : decode cX5_init 89 = .ok (.bipush 81, 2) := by decide +kernel
theorem dX5_init_91 : decode cX5_init 91 = .ok (.newarray .int, 2) := by decide +kernel
theorem dX5_init_93 : decode cX5_init 93 = .ok (.putfield 48, 3) := by decide +kernel
theorem dX5_init_96 : decode cX5_init 96 = .ok (.return_, 1) := by decide +kernel
theorem dX6_init_0 : decode cX6_init 0 = .ok (.aload_n 0, 1) := by decide +kernel
theorem dX6_init_1 : decode cX6_init 1 = .ok (.invokespecial 11, 3) := by decide +kernel
theorem dX6_init_4 : decode cX6_init 4 = .ok (.aload_n 0, 1) := by decide +kernel
theorem dX6_init_5 : decode cX6_init 5 = .ok (.iconst 3, 1) := by decide +kernel
theorem dX6_init_6 : decode cX6_init 6 = .ok (.newarray .int, 2) := by decide +kernel
theorem dX6_init_8 : decode cX6_init 8 = .ok (.putfield 7, 3) := by decide +kernel
theorem dX6_init_11 : decode cX6_init 11 = .ok (.aload_n 0, 1) := by decide +kernel
theorem dX6_init_12 : decode cX6_init 12 = .ok (.sipush 745, 3) := by decide +kernel
theorem dX6_init_15 : decode cX6_init 15 = .ok (.newarray .int, 2) := by decide +kernel
theorem dX6_init_17 : decode cX6_init 17 = .ok (.putfield 17, 3) := by decide +kernel
theorem dX6_init_20 : decode cX6_init 20 = .ok (.aload_n 0, 1) := by decide +kernel
theorem dX6_init_21 : decode cX6_init 21 = .ok (.sipush 745, 3) := by decide +kernel
theorem dX6_init_24 : decode cX6_init 24 = .ok (.newarray .int, 2) := by decide +kernel
theorem dX6_init_26 : decode cX6_init 26 = .ok (.putfield 20, 3) := by decide +kernel
theorem dX6_init_29 : decode cX6_init 29 = .ok (.aload_n 0, 1) := by decide +kernel
theorem dX6_init_30 : decode cX6_init 30 = .ok (.sipush 745, 3) := by decide +kernel
theorem dX6_init_33 : decode cX6_init 33 = .ok (.newarray .int, 2) := by decide +kernel
theorem dX6_init_35 : decode cX6_init 35 = .ok (.putfield 23, 3) := by decide +kernel
theorem dX6_init_38 : decode cX6_init 38 = .ok (.aload_n 0, 1) := by decide +kernel
theorem dX6_init_39 : decode cX6_init 39 = .ok (.sipush 8940, 3) := by decide +kernel
theorem dX6_init_42 : decode cX6_init 42 = .ok (.newarray .int, 2) := by decide +kernel
theorem dX6_init_44 : decode cX6_init 44 = .ok (.putfield 26, 3) := by decide +kernel
theorem dX6_init_47 : decode cX6_init 47 = .ok (.aload_n 0, 1) := by decide +kernel
theorem dX6_init_48 : decode cX6_init 48 = .ok (.sipush 400, 3) := by decide +kernel
theorem dX6_init_51 : decode cX6_init 51 = .ok (.newarray .byte, 2) := by decide +kernel
theorem dX6_init_53 : decode cX6_init 53 = .ok (.putfield 29, 3) := by decide +kernel
theorem dX6_init_56 : decode cX6_init 56 = .ok (.aload_n 0, 1) := by decide +kernel
theorem dX6_init_57 : decode cX6_init 57 = .ok (.sipush 400, 3) := by decide +kernel
theorem dX6_init_60 : decode cX6_init 60 = .ok (.newarray .byte, 2) := by decide +kernel
theorem dX6_init_62 : decode cX6_init 62 = .ok (.putfield 33, 3) := by decide +kernel
theorem dX6_init_65 : decode cX6_init 65 = .ok (.aload_n 0, 1) := by decide +kernel
theorem dX6_init_66 : decode cX6_init 66 = .ok (.iconst (-1), 1) := by decide +kernel
theorem dX6_init_67 : decode cX6_init 67 = .ok (.putfield 36, 3) := by decide +kernel
theorem dX6_init_70 : decode cX6_init 70 = .ok (.aload_n 0, 1) := by decide +kernel
theorem dX6_init_71 : decode cX6_init 71 = .ok (.bipush 80, 2) := by decide +kernel
theorem dX6_init_73 : decode cX6_init 73 = .ok (.newarray .int, 2) := by decide +kernel
theorem dX6_init_75 : decode cX6_init 75 = .ok (.putfield 39, 3) := by decide +kernel
theorem dX6_init_78 : decode cX6_init 78 = .ok (.aload_n 0, 1) := by decide +kernel
theorem dX6_init_79 : decode cX6_init 79 = .ok (.bipush 80, 2) := by decide +kernel
theorem dX6_init_81 : decode cX6_init 81 = .ok (.newarray .int, 2) := by decide +kernel
theorem dX6_init_83 : decode cX6_init 83 = .ok (.putfield 42, 3) := by decide +kernel
theorem dX6_init_86 : decode cX6_init 86 = .ok (.aload_n 0, 1) := by decide +kernel
theorem dX6_init_87 : decode cX6_init 87 = .ok (.sipush 6561, 3) := by decide +kernel
theorem dX6_init_90 : decode cX6_init 90 = .ok (.newarray .int, 2) := by decide +kernel
theorem dX6_init_92 : decode cX6_init 92 = .ok (.putfield 45, 3) := by decide +kernel
theorem dX6_init_95 : decode cX6_init 95 = .ok (.aload_n 0, 1) := by decide +kernel
theorem dX6_init_96 : decode cX6_init 96 = .ok (.sipush 6561, 3) := by decide +kernel
theorem dX6_init_99 : decode cX6_init 99 = .ok (.newarray .int, 2) := by decide +kernel
theorem dX6_init_101 : decode cX6_init 101 = .ok (.putfield 48, 3) := by decide +kernel
theorem dX6_init_104 : decode cX6_init 104 = .ok (.return_, 1) := by decide +kernel
theorem zo_l0 : Cond.methodLink (zcn 0) 3 Lib.objectInit ∈ zTb := zTb_in (i := 188) (by decide +kernel) rfl
theorem zo_i0 : Cond.instanceMethod yX0_init ∈ zTb := zTb_in (i := 186) (by decide +kernel) rfl
theorem zo_c0 : Cond.code yX0_init cX0_init 2 none ∈ zTb := zTb_in (i := 187) (by decide +kernel) rfl
theorem zo_n0 : Cond.instantiable (zcn 0) (zNf 0) ∈ zTb := zTb_in (i := 184) (by decide +kernel) rfl
theorem zo_l1 : Cond.methodLink (zcn 1) 3 Lib.objectInit ∈ zTb := zTb_in (i := 208) (by decide +kernel) rfl
theorem zo_i1 : Cond.instanceMethod yX1_init ∈ zTb := zTb_in (i := 206) (by decide +kernel) rfl
theorem zo_c1 : Cond.code yX1_init cX1_init 1 none ∈ zTb := zTb_in (i := 207) (by decide +kernel) rfl
theorem zo_n1 : Cond.instantiable (zcn 1) (zNf 1) ∈ zTb := zTb_in (i := 204) (by decide +kernel) rfl
theorem zo_l2 : Cond.methodLink (zcn 2) 3 Lib.objectInit ∈ zTb := zTb_in (i := 123) (by decide +kernel) rfl
theorem zo_i2 : Cond.instanceMethod yX2_init ∈ zTb := zTb_in (i := 121) (by decide +kernel) rfl
theorem zo_c2 : Cond.code yX2_init cX2_init 1 none ∈ zTb := zTb_in (i := 122) (by decide +kernel) rfl
theorem zo_n2 : Cond.instantiable (zcn 2) (zNf 2) ∈ zTb := zTb_in (i := 119) (by decide +kernel) rfl
theorem zo_l3 : Cond.methodLink (zcn 3) 3 Lib.objectInit ∈ zTb := zTb_in (i := 116) (by decide +kernel) rfl
theorem zo_i3 : Cond.instanceMethod yX3_init ∈ zTb := zTb_in (i := 114) (by decide +kernel) rfl
theorem zo_c3 : Cond.code yX3_init cX3_init 2 none ∈ zTb := zTb_in (i := 115) (by decide +kernel) rfl
theorem zo_n3 : Cond.instantiable (zcn 3) (zNf 3) ∈ zTb := zTb_in (i := 112) (by decide +kernel) rfl
theorem zo_l4 : Cond.methodLink (zcn 4) 3 Lib.objectInit ∈ zTb := zTb_in (i := 258) (by decide +kernel) rfl
theorem zo_i4 : Cond.instanceMethod yX4_init ∈ zTb := zTb_in (i := 256) (by decide +kernel) rfl
theorem zo_c4 : Cond.code yX4_init cX4_init 2 none ∈ zTb := zTb_in (i := 257) (by decide +kernel) rfl
theorem zo_n4 : Cond.instantiable (zcn 4) (zNf 4) ∈ zTb := zTb_in (i := 254) (by decide +kernel) rfl
theorem zo_l5 : Cond.methodLink (zcn 5) 3 Lib.objectInit ∈ zTb := zTb_in (i := 108) (by decide +kernel) rfl
theorem zo_i5 : Cond.instanceMethod yX5_init ∈ zTb := zTb_in (i := 106) (by decide +kernel) rfl
theorem zo_c5 : Cond.code yX5_init cX5_init 1 none ∈ zTb := zTb_in (i := 107) (by decide +kernel) rfl
theorem zo_n5 : Cond.instantiable (zcn 5) (zNf 5) ∈ zTb := zTb_in (i := 104) (by decide +kernel) rfl
theorem zo_l6 : Cond.methodLink (zcn 6) 11 Lib.objectInit ∈ zTb := zTb_in (i := 1138) (by decide +kernel) rfl
theorem zo_i6 : Cond.instanceMethod yX6_init ∈ zTb := zTb_in (i := 1136) (by decide +kernel) rfl
theorem zo_c6 : Cond.code yX6_init cX6_init 1 none ∈ zTb := zTb_in (i := 1137) (by decide +kernel) rfl
theorem zo_n6 : Cond.instantiable (zcn 6) (zNf 6) ∈ zTb := zTb_in (i := 1134) (by decide +kernel) rfl
def zrowB (r : Nat) : List zSy := [(2, 0, (((zraw 2).2.2.set 6 (some (.inl (r + 1)))).set 7 (some (.inl (r + 2)))).set 8 (some (.inl (r + 3)))), (20, 40, []), (20, 40, []), (20, 40, [])]
def ztimB (r n : Nat) : List zSy := [(4, 0, (zraw 4).2.2.set 0 (some (.inl (r + 1)))), (20, n, [])]
def zrwsB (r i : Nat) : List zSy := (List.range i).flatMap (fun t => zrowB (r + 4 * t))
def zshS (r i : Nat) : List zSy := [(3, 0, (zraw 3).2.2.set 1 (some (.inl (r + 1)))), (25, i, [some (.inl (r + 2))])] ++ zrwsB (r + 2) i
def zshB (r : Nat) : List zSy := zshS r 6
def zssB (r i : Nat) : List zSy := (List.range i).flatMap (fun t => zshB (r + 26 * t))
def zhiS (r i : Nat) : List zSy := [(0, 0, (zraw 0).2.2.set 0 (some (.inl (r + 1)))), (26, i, [some (.inl (r + 2))])] ++ zssB (r + 2) i
def zhiB (r : Nat) : List zSy := zhiS r 12
def zreB (r : Nat) : List zSy := [(1, 0, (((zraw 1).2.2.set 0 (some (.inl (r + 1)))).set 2 (some (.inl (r + 2)))).set 4 (some (.inr (-1)))), (27, 400, [])] ++ zshB (r + 2)
def zcrm (f n c q : Nat) : Room := { frames := f, cells := c, slots := q, locals := n }
theorem zo_f2_9 : Cond.fieldLink (zcn 2) 9 (zcn 2) (zT 2 6).2.1 (zT 2 6).2.2.1 ∈ zTb := zTb_in (i := 143) (by decide +kernel) rfl
theorem zo_f2_15 : Cond.fieldLink (zcn 2) 15 (zcn 2) (zT 2 7).2.1 (zT 2 7).2.2.1 ∈ zTb := zTb_in (i := 146) (by decide +kernel) rfl
theorem zo_f2_18 : Cond.fieldLink (zcn 2) 18 (zcn 2) (zT 2 8).2.1 (zT 2 8).2.2.1 ∈ zTb := zTb_in (i := 149) (by decide +kernel) rfl
theorem zo_f3_11 : Cond.fieldLink (zcn 3) 11 (zcn 3) (zT 3 1).2.1 (zT 3 1).2.2.1 ∈ zTb := zTb_in (i := 175) (by decide +kernel) rfl
theorem zo_f0_11 : Cond.fieldLink (zcn 0) 11 (zcn 0) (zT 0 0).2.1 (zT 0 0).2.2.1 ∈ zTb := zTb_in (i := 192) (by decide +kernel) rfl
theorem zo_f1_9 : Cond.fieldLink (zcn 1) 9 (zcn 1) (zT 1 0).2.1 (zT 1 0).2.2.1 ∈ zTb := zTb_in (i := 211) (by decide +kernel) rfl
theorem zo_f1_18 : Cond.fieldLink (zcn 1) 18 (zcn 1) (zT 1 2).2.1 (zT 1 2).2.2.1 ∈ zTb := zTb_in (i := 214) (by decide +kernel) rfl
theorem zo_f1_22 : Cond.fieldLink (zcn 1) 22 (zcn 1) (zT 1 4).2.1 (zT 1 4).2.2.1 ∈ zTb := zTb_in (i := 218) (by decide +kernel) rfl
theorem zo_f4_15 : Cond.fieldLink (zcn 4) 15 (zcn 4) (zT 4 0).2.1 (zT 4 0).2.2.1 ∈ zTb := zTb_in (i := 262) (by decide +kernel) rfl
theorem zo_f5_12 : Cond.fieldLink (zcn 5) 12 (zcn 5) (zT 5 0).2.1 (zT 5 0).2.2.1 ∈ zTb := zTb_in (i := 272) (by decide +kernel) rfl
theorem zo_f5_16 : Cond.fieldLink (zcn 5) 16 (zcn 5) (zT 5 1).2.1 (zT 5 1).2.2.1 ∈ zTb := zTb_in (i := 273) (by decide +kernel) rfl
theorem zo_f5_22 : Cond.fieldLink (zcn 5) 22 (zcn 5) (zT 5 3).2.1 (zT 5 3).2.2.1 ∈ zTb := zTb_in (i := 275) (by decide +kernel) rfl
theorem zo_f5_29 : Cond.fieldLink (zcn 5) 29 (zcn 5) (zT 5 4).2.1 (zT 5 4).2.2.1 ∈ zTb := zTb_in (i := 276) (by decide +kernel) rfl
theorem zo_f5_38 : Cond.fieldLink (zcn 5) 38 (zcn 5) (zT 5 5).2.1 (zT 5 5).2.2.1 ∈ zTb := zTb_in (i := 277) (by decide +kernel) rfl
theorem zo_f5_42 : Cond.fieldLink (zcn 5) 42 (zcn 5) (zT 5 6).2.1 (zT 5 6).2.2.1 ∈ zTb := zTb_in (i := 278) (by decide +kernel) rfl
theorem zo_f5_45 : Cond.fieldLink (zcn 5) 45 (zcn 5) (zT 5 7).2.1 (zT 5 7).2.2.1 ∈ zTb := zTb_in (i := 279) (by decide +kernel) rfl
theorem zo_f5_48 : Cond.fieldLink (zcn 5) 48 (zcn 5) (zT 5 8).2.1 (zT 5 8).2.2.1 ∈ zTb := zTb_in (i := 280) (by decide +kernel) rfl
theorem zo_f6_7 : Cond.fieldLink (zcn 6) 7 (zcn 6) (zT 6 1).2.1 (zT 6 1).2.2.1 ∈ zTb := zTb_in (i := 1140) (by decide +kernel) rfl
theorem zo_f6_17 : Cond.fieldLink (zcn 6) 17 (zcn 6) (zT 6 2).2.1 (zT 6 2).2.2.1 ∈ zTb := zTb_in (i := 1141) (by decide +kernel) rfl
theorem zo_f6_20 : Cond.fieldLink (zcn 6) 20 (zcn 6) (zT 6 3).2.1 (zT 6 3).2.2.1 ∈ zTb := zTb_in (i := 1142) (by decide +kernel) rfl
theorem zo_f6_23 : Cond.fieldLink (zcn 6) 23 (zcn 6) (zT 6 4).2.1 (zT 6 4).2.2.1 ∈ zTb := zTb_in (i := 1143) (by decide +kernel) rfl
theorem zo_f6_26 : Cond.fieldLink (zcn 6) 26 (zcn 6) (zT 6 5).2.1 (zT 6 5).2.2.1 ∈ zTb := zTb_in (i := 1144) (by decide +kernel) rfl
theorem zo_f6_29 : Cond.fieldLink (zcn 6) 29 (zcn 6) (zT 6 8).2.1 (zT 6 8).2.2.1 ∈ zTb := zTb_in (i := 1147) (by decide +kernel) rfl
theorem zo_f6_33 : Cond.fieldLink (zcn 6) 33 (zcn 6) (zT 6 9).2.1 (zT 6 9).2.2.1 ∈ zTb := zTb_in (i := 1148) (by decide +kernel) rfl
theorem zo_f6_36 : Cond.fieldLink (zcn 6) 36 (zcn 6) (zT 6 16).2.1 (zT 6 16).2.2.1 ∈ zTb := zTb_in (i := 1155) (by decide +kernel) rfl
theorem zo_f6_39 : Cond.fieldLink (zcn 6) 39 (zcn 6) (zT 6 17).2.1 (zT 6 17).2.2.1 ∈ zTb := zTb_in (i := 1156) (by decide +kernel) rfl
theorem zo_f6_42 : Cond.fieldLink (zcn 6) 42 (zcn 6) (zT 6 18).2.1 (zT 6 18).2.2.1 ∈ zTb := zTb_in (i := 1157) (by decide +kernel) rfl
theorem zo_f6_45 : Cond.fieldLink (zcn 6) 45 (zcn 6) (zT 6 19).2.1 (zT 6 19).2.2.1 ∈ zTb := zTb_in (i := 1158) (by decide +kernel) rfl
theorem zo_f6_48 : Cond.fieldLink (zcn 6) 48 (zcn 6) (zT 6 20).2.1 (zT 6 20).2.2.1 ∈ zTb := zTb_in (i := 1159) (by decide +kernel) rfl
theorem zo_k3_9 : Cond.classLink (zcn 3) 9 (zcn 2) ∈ zTb := zTb_in (i := 117) (by decide +kernel) rfl
theorem zo_m3_17 : Cond.methodLink (zcn 3) 17 yX2_init ∈ zTb := zTb_in (i := 120) (by decide +kernel) rfl
theorem zo_k0_9 : Cond.classLink (zcn 0) 9 (zcn 3) ∈ zTb := zTb_in (i := 189) (by decide +kernel) rfl
theorem zo_m0_17 : Cond.methodLink (zcn 0) 17 yX3_init ∈ zTb := zTb_in (i := 191) (by decide +kernel) rfl
theorem zo_k1_15 : Cond.classLink (zcn 1) 15 (zcn 3) ∈ zTb := zTb_in (i := 209) (by decide +kernel) rfl
theorem zo_m1_17 : Cond.methodLink (zcn 1) 17 yX3_init ∈ zTb := zTb_in (i := 210) (by decide +kernel) rfl
theorem zo_k5_9 : Cond.classLink (zcn 5) 9 (zcn 3) ∈ zTb := zTb_in (i := 111) (by decide +kernel) rfl
theorem zo_m5_11 : Cond.methodLink (zcn 5) 11 yX3_init ∈ zTb := zTb_in (i := 113) (by decide +kernel) rfl
theorem zo_k5_19 : Cond.classLink (zcn 5) 19 (zcn 0) ∈ zTb := zTb_in (i := 183) (by decide +kernel) rfl
theorem zo_m5_21 : Cond.methodLink (zcn 5) 21 yX0_init ∈ zTb := zTb_in (i := 185) (by decide +kernel) rfl
theorem zo_k5_26 : Cond.classLink (zcn 5) 26 (zcn 1) ∈ zTb := zTb_in (i := 203) (by decide +kernel) rfl
theorem zo_m5_28 : Cond.methodLink (zcn 5) 28 yX1_init ∈ zTb := zTb_in (i := 205) (by decide +kernel) rfl
theorem zo_k5_33 : Cond.classLink (zcn 5) 33 (zcn 4) ∈ zTb := zTb_in (i := 253) (by decide +kernel) rfl
theorem zo_m5_35 : Cond.methodLink (zcn 5) 35 yX4_init ∈ zTb := zTb_in (i := 255) (by decide +kernel) rfl
set_option maxHeartbeats 4000000 in
set_option maxRecDepth 100000 in
theorem zc_X2 (l : Launch) (D : va_G) (g : zIds) (b r : Nat) : zCt l D g b r 2 yX2_init cX2_init 1 [] (zcrm 1 12 3 120) (zrowB r) := by
  refine Met.ofW (cc := cX2_init) (maxL := 1) (ret := none) (by decide) rfl ?_
  intro p e s m args below meth c s₁ B hml hv9
  obtain ⟨rfl, hK, hsz, hP⟩ := hv9
  have hx := B.exec
  have hb := B.bytes
  have hr := B.returns
  have hlocks := B.notSynchronized
  have hin : meth.name = "<init>" := (name_of_methodNamed B.named B.method).1
  have hts0 := atoms_spec (ws := .code yX2_init cX2_init 1 none :: zTb) B.pre
  have hts : ∀ w ∈ zTb, w.before [.ref (b + r)].toArray s = true := fun w hw => hts0 w (List.mem_cons_of_mem _ hw)
  have hown : s.vm.findClass (zcn 2) = some m.cls := findClass_of_methodNamed B.named
  have hS : va_S (zBs b r) s.heap s.heap [] := va_S.rf
  have hlo : b + r ≤ s.heap.size := by omega
  have hP : zBw D g b r [zraw 2] s.heap := hP
  have hl := lv_entry ([.ref (b + r)]) (n := 1) (Nat.le_of_ble_eq_true rfl)
  rw [lg_entry_eq]
  generalize (lg_sl ([.ref (b + r)]) ++ List.replicate (1 - (lg_sl ([.ref (b + r)])).length) Slot.unset).toArray = ls at hl ⊢
  have hl : lv_has ls 1 [(0, .ref (b + r))] := hl
  have hq : ∀ n k, n = k + 1 → b + r + n = s.heap.size + k := fun n k h => by omega
  refine lv_aload_n hx hb dX2_init_0 rfl (lv_at hl 0 rfl) ?_
  refine zb_obj hx hb hown hts zo_l2 (by rw [hml]; exact hl.1) dX2_init_1 (Nat.le_of_ble_eq_true rfl) (Nat.le_of_ble_eq_true rfl) ?_
  refine lv_aload_n hx hb dX2_init_4 rfl (lv_at hl 0 rfl) ?_
  refine lv_bipush (v := 40) hx hb dX2_init_5 (by decide) ?_
  refine zb_newi (N := 40) hx hb hts hK zar_i (by decide) (by decide) (by decide) hP hS hlo (hq _ _ rfl) (Nat.le_of_ble_eq_true rfl) (Nat.le_of_ble_eq_true rfl) dX2_init_7 (fun H hP hS => ?_)
  have hP : zBw D g b r ([(2, 0, (zraw 2).2.2)] ++ [(20, 40, [])]) _ := hP
  refine zb_putR (ci := 2) (k := 6) (x := r + 1) (n0 := 0) (fs := (zraw 2).2.2) hx hb (by decide) hown hts hK hin rfl (by decide) rfl zo_f2_9 (Nat.add_assoc b r 1) (fun _ => rfl) (fun _ => rfl) hP hS dX2_init_9 (fun H locs hP hS => ?_)
  have hP : zBw D g b r ([(2, 0, ((zraw 2).2.2.set 6 (some (.inl (r + 1)))))] ++ [(20, 40, [])]) _ := hP
  refine lv_aload_n hx hb dX2_init_12 rfl (lv_at hl 0 rfl) ?_
  refine lv_bipush (v := 40) hx hb dX2_init_13 (by decide) ?_
  refine zb_newi (N := 40) hx hb hts hK zar_i (by decide) (by decide) (by decide) hP hS hlo (hq _ _ rfl) (Nat.le_of_ble_eq_true rfl) (Nat.le_of_ble_eq_true rfl) dX2_init_15 (fun H hP hS => ?_)
  have hP : zBw D g b r ([(2, 0, ((zraw 2).2.2.set 6 (some (.inl (r + 1)))))] ++ [(20, 40, [])] ++ [(20, 40, [])]) _ := hP
  refine zb_putR (ci := 2) (k := 7) (x := r + 2) (n0 := 0) (fs := ((zraw 2).2.2.set 6 (some (.inl (r + 1))))) hx hb (by decide) hown hts hK hin rfl (by decide) rfl zo_f2_15 (Nat.add_assoc b r 2) (fun _ => rfl) (fun _ => rfl) hP hS dX2_init_17 (fun H locs hP hS => ?_)
  have hP : zBw D g b r ([(2, 0, (((zraw 2).2.2.set 6 (some (.inl (r + 1)))).set 7 (some (.inl (r + 2)))))] ++ [(20, 40, [])] ++ [(20, 40, [])]) _ := hP
  refine lv_aload_n hx hb dX2_init_20 rfl (lv_at hl 0 rfl) ?_
  refine lv_bipush (v := 40) hx hb dX2_init_21 (by decide) ?_
  refine zb_newi (N := 40) hx hb hts hK zar_i (by decide) (by decide) (by decide) hP hS hlo (hq _ _ rfl) (Nat.le_of_ble_eq_true rfl) (Nat.le_of_ble_eq_true rfl) dX2_init_23 (fun H hP hS => ?_)
  have hP : zBw D g b r ([(2, 0, (((zraw 2).2.2.set 6 (some (.inl (r + 1)))).set 7 (some (.inl (r + 2)))))] ++ [(20, 40, [])] ++ [(20, 40, [])] ++ [(20, 40, [])]) _ := hP
  refine zb_putR (ci := 2) (k := 8) (x := r + 3) (n0 := 0) (fs := (((zraw 2).2.2.set 6 (some (.inl (r + 1)))).set 7 (some (.inl (r + 2))))) hx hb (by decide) hown hts hK hin rfl (by decide) rfl zo_f2_18 (Nat.add_assoc b r 3) (fun _ => rfl) (fun _ => rfl) hP hS dX2_init_25 (fun H locs hP hS => ?_)
  have hP : zBw D g b r ([(2, 0, ((((zraw 2).2.2.set 6 (some (.inl (r + 1)))).set 7 (some (.inl (r + 2)))).set 8 (some (.inl (r + 3)))))] ++ [(20, 40, [])] ++ [(20, 40, [])] ++ [(20, 40, [])]) _ := hP
  refine W.widen (k := (zcrm 1 12 3 120).cells) (n := (zcrm 1 12 3 120).slots) (Nat.le_of_ble_eq_true rfl) (Nat.le_of_ble_eq_true rfl) ?_
  exact W.vret hx hb hr (fun t ht hW => ⟨⟨(), rfl, trivial, by show zBw D g b r (zrowB r) t.heap; rw [ht]; exact hP⟩, hS.F ht⟩) hS.2.2 dX2_init_28
theorem zo_mx : Cond.methodLink (zcn 4) 9 Lib.Math.max.name ∈ zTb := zTb_in (i := 259) (by decide +kernel) rfl
theorem zmx0 {n : Nat} (h : n < 1000) : (if (0 : Int32) < nI n then nI n else 0) = nI n := by
  by_cases h0 : (0 : Int32) < nI n
  · exact if_pos h0
  · rw [if_neg h0]
    rw [iI_lt, iI_n (by omega)] at h0
    have h1 : (0 : Int32).toInt = 0 := by decide
    have h2 : n = 0 := by omega
    subst h2
    rfl
set_option maxHeartbeats 4000000 in
set_option maxRecDepth 100000 in
theorem zc_X4 (l : Launch) (D : va_G) (g : zIds) (b r : Nat) (n : Nat) (hn1 : n < 1000) : zCt l D g b r 4 yX4_init cX4_init 2 [.int (nI n)] (zcrm 1 14 1 n) (ztimB r n) := by
  refine Met.ofW (cc := cX4_init) (maxL := 2) (ret := none) (by decide) rfl ?_
  intro p e s m args below meth c s₁ B hml hv9
  obtain ⟨rfl, hK, hsz, hP⟩ := hv9
  have hx := B.exec
  have hb := B.bytes
  have hr := B.returns
  have hlocks := B.notSynchronized
  have hin : meth.name = "<init>" := (name_of_methodNamed B.named B.method).1
  have hts0 := atoms_spec (ws := .code yX4_init cX4_init 2 none :: zTb) B.pre
  have hts : ∀ w ∈ zTb, w.before [.ref (b + r), .int (nI n)].toArray s = true := fun w hw => hts0 w (List.mem_cons_of_mem _ hw)
  have hown : s.vm.findClass (zcn 4) = some m.cls := findClass_of_methodNamed B.named
  have hS : va_S (zBs b r) s.heap s.heap [] := va_S.rf
  have hlo : b + r ≤ s.heap.size := by omega
  have hP : zBw D g b r [zraw 4] s.heap := hP
  have hl := lv_entry ([.ref (b + r), .int (nI n)]) (n := 2) (Nat.le_of_ble_eq_true rfl)
  rw [lg_entry_eq]
  generalize (lg_sl ([.ref (b + r), .int (nI n)]) ++ List.replicate (2 - (lg_sl ([.ref (b + r), .int (nI n)])).length) Slot.unset).toArray = ls at hl ⊢
  have hl : lv_has ls 2 [(0, .ref (b + r)), (1, .int (nI n))] := hl
  have hq : ∀ n k, n = k + 1 → b + r + n = s.heap.size + k := fun n k h => by omega
  refine lv_aload_n hx hb dX4_init_0 rfl (lv_at hl 0 rfl) ?_
  refine zb_obj hx hb hown hts zo_l4 (by rw [hml]; exact hl.1) dX4_init_1 (Nat.le_of_ble_eq_true rfl) (Nat.le_of_ble_eq_true rfl) ?_
  refine lv_aload_n hx hb dX4_init_4 rfl (lv_at hl 0 rfl) ?_
  refine lv_iconst (v := 0) hx hb dX4_init_5 (by decide) ?_
  refine lv_iload_n hx hb dX4_init_6 rfl (lv_at hl 1 rfl) ?_
  refine va_mmax (x := 0) (y := nI n) hx hb (hml.trans hl.1.symm) hown (hts _ zo_mx) (hts _ (zTb_in zj_max_s rfl)) (hts _ (zTb_in zj_math rfl)) (hts _ (zTb_in zj_max_c rfl)) (Nat.le_of_ble_eq_true rfl) (Nat.le_of_ble_eq_true rfl) (Nat.zero_le _) (Nat.zero_le _) dX4_init_7 ?_
  rw [zmx0 hn1]
  have hslN : 0 + n ≤ (zcrm 1 14 1 n).slots := by show 0 + n ≤ n; omega
  refine zb_newi (N := n) hx hb hts hK zar_i (nI_pos (by omega)) (nI_clamp (by omega)) (by show n * 4 ≤ 536870912; omega) hP hS hlo (hq _ _ rfl) (Nat.le_of_ble_eq_true rfl) hslN dX4_init_10 (fun H hP hS => ?_)
  have hP : zBw D g b r ([(4, 0, (zraw 4).2.2)] ++ [(20, n, [])]) _ := hP
  refine zb_putR (ci := 4) (k := 0) (x := r + 1) (n0 := 0) (fs := (zraw 4).2.2) hx hb (by decide) hown hts hK hin rfl (by decide) rfl zo_f4_15 (Nat.add_assoc b r 1) (fun _ => rfl) (fun _ => rfl) hP hS dX4_init_12 (fun H locs hP hS => ?_)
  have hP : zBw D g b r ([(4, 0, ((zraw 4).2.2.set 0 (some (.inl (r + 1)))))] ++ [(20, n, [])]) _ := hP
  refine W.widen (k := (zcrm 1 14 1 n).cells) (n := (zcrm 1 14 1 n).slots) (Nat.le_of_ble_eq_true rfl) (by show 0 + n ≤ n; omega) ?_
  exact W.vret hx hb hr (fun t ht hW => ⟨⟨(), rfl, trivial, by show zBw D g b r (ztimB r n) t.heap; rw [ht]; exact hP⟩, hS.F ht⟩) hS.2.2 dX4_init_15
theorem zrwsB_succ (r i : Nat) : zrwsB r (i + 1) = zrwsB r i ++ zrowB (r + 4 * i) := by
  unfold zrwsB
  rw [List.range_succ, List.flatMap_append, List.flatMap_singleton]
theorem zrwsB_len (r : Nat) : ∀ i, (zrwsB r i).length = 4 * i := by
  intro i
  induction i with
  | zero => rfl
  | succ i ih =>
    rw [zrwsB_succ, List.length_append, ih]
    show 4 * i + 4 = 4 * (i + 1)
    omega
theorem zshS_len (r i : Nat) : (zshS r i).length = 2 + 4 * i := by
  unfold zshS
  rw [List.length_append, zrwsB_len]
  rfl
theorem zshB_len (r : Nat) : (zshB r).length = 26 := zshS_len r 6
theorem zssB_succ (r i : Nat) : zssB r (i + 1) = zssB r i ++ zshB (r + 26 * i) := by
  unfold zssB
  rw [List.range_succ, List.flatMap_append, List.flatMap_singleton]
theorem zssB_len (r : Nat) : ∀ i, (zssB r i).length = 26 * i := by
  intro i
  induction i with
  | zero => rfl
  | succ i ih =>
    rw [zssB_succ, List.length_append, ih, zshB_len]
    omega
theorem zhiS_len (r i : Nat) : (zhiS r i).length = 2 + 26 * i := by
  unfold zhiS
  rw [List.length_append, zssB_len]
  rfl
theorem zhiB_len (r : Nat) : (zhiB r).length = 314 := zhiS_len r 12
theorem zreB_len (r : Nat) : (zreB r).length = 28 := by
  unfold zreB
  rw [List.length_append, zshB_len]
  rfl
theorem ztimB_len (r n : Nat) : (ztimB r n).length = 2 := rfl
theorem zshS_next (r i : Nat) : (zshS r i ++ zrowB (r + (zshS r i).length)).set 1 (25, i + 1, [some (.inl (r + 2))]) = zshS r (i + 1) := by
  rw [zshS_len]
  unfold zshS
  rw [zrwsB_succ, show r + 2 + 4 * i = r + (2 + 4 * i) by omega]
  rfl
theorem zhiS_next (r i : Nat) : (zhiS r i ++ zshB (r + (zhiS r i).length)).set 1 (26, i + 1, [some (.inl (r + 2))]) = zhiS r (i + 1) := by
  rw [zhiS_len]
  unfold zhiS
  rw [zssB_succ, show r + 2 + 26 * i = r + (2 + 26 * i) by omega]
  rfl
set_option maxHeartbeats 4000000 in
set_option maxRecDepth 100000 in
theorem zc_X3 (l : Launch) (D : va_G) (g : zIds) (b r : Nat) : zCt l D g b r 3 yX3_init cX3_init 2 [] (zcrm 2 32 25 780) (zshB r) := by
  refine Met.ofW (cc := cX3_init) (maxL := 2) (ret := none) (by decide) rfl ?_
  intro p e s m args below meth c s₁ B hml hv9
  obtain ⟨rfl, hK, hsz, hP⟩ := hv9
  have hx := B.exec
  have hb := B.bytes
  have hr := B.returns
  have hlocks := B.notSynchronized
  have hin : meth.name = "<init>" := (name_of_methodNamed B.named B.method).1
  have hts0 := atoms_spec (ws := .code yX3_init cX3_init 2 none :: zTb) B.pre
  have hts : ∀ w ∈ zTb, w.before [.ref (b + r)].toArray s = true := fun w hw => hts0 w (List.mem_cons_of_mem _ hw)
  have hown : s.vm.findClass (zcn 3) = some m.cls := findClass_of_methodNamed B.named
  have hS : va_S (zBs b r) s.heap s.heap [] := va_S.rf
  have hlo : b + r ≤ s.heap.size := by omega
  have hP : zBw D g b r [zraw 3] s.heap := hP
  have hl := lv_entry ([.ref (b + r)]) (n := 2) (Nat.le_of_ble_eq_true rfl)
  rw [lg_entry_eq]
  generalize (lg_sl ([.ref (b + r)]) ++ List.replicate (2 - (lg_sl ([.ref (b + r)])).length) Slot.unset).toArray = ls at hl ⊢
  have hl : lv_has ls 2 [(0, .ref (b + r))] := hl
  have hq : ∀ n k, n = k + 1 → b + r + n = s.heap.size + k := fun n k h => by omega
  refine lv_aload_n hx hb dX3_init_0 rfl (lv_at hl 0 rfl) ?_
  refine zb_obj hx hb hown hts zo_l3 (by rw [hml]; exact hl.1) dX3_init_1 (Nat.le_of_ble_eq_true rfl) (Nat.le_of_ble_eq_true rfl) ?_
  refine lv_aload_n hx hb dX3_init_4 rfl (lv_at hl 0 rfl) ?_
  refine lv_bipush (v := 6) hx hb dX3_init_5 (by decide) ?_
  refine zb_newR (r + 2) hx hb hown hts hK zo_k3_9 (by decide) (by decide) hP hS hlo (hq _ _ rfl) (Nat.le_of_ble_eq_true rfl) (Nat.le_of_ble_eq_true rfl) dX3_init_7 (fun H hP hS => ?_)
  refine zb_putR (ci := 3) (k := 1) (x := r + 1) (n0 := 0) (fs := (zraw 3).2.2) hx hb (by decide) hown hts hK hin rfl (by decide) rfl zo_f3_11 (Nat.add_assoc b r 1) (fun _ => rfl) (fun _ => rfl) hP hS dX3_init_10 (fun H locs hP hS => ?_)
  have hP : zBw D g b r (zshS r 0) H := hP
  refine lv_iconst (v := 0) hx hb dX3_init_13 (by decide) ?_
  refine lv_istore_n hx hb dX3_init_14 rfl hl (by decide) rfl (fun ls hl => ?_)
  have loop : ∀ (d i : Nat) (H : Heap) (locs : List Loc) (ls : Array Slot), i + d = 6 → lv_has ls 2 [(1, .int (nI i)), (0, .ref (b + r))] → zBw D g b r (zshS r i) H → va_S (zBs b r) s.heap H locs → W p l e (zcrm 2 32 25 780) s m [.ref (b + r)].toArray below meth c H locs (1 + 4 * i) (6 + 129 * i) (MQ below (va_Qv (fun _ : Unit => True) (fun _ t => zBw D g b r (zshB r) t.heap) (zBs b r)) [.ref (b + r)].toArray s (zcrm 2 32 25 780).cells (zcrm 2 32 25 780).slots (zBs b r)) (F0 m 15 ls []) := by
    intro d
    induction d with
    | zero =>
      intro i H locs ls hi hl hP hS
      have hi : i = 6 := by omega
      subst hi
      refine lv_iload_n hx hb dX3_init_15 rfl (lv_at hl 0 rfl) ?_
      refine lv_bipush (v := 6) hx hb dX3_init_16 (by decide) ?_
      refine lv_icmp_ge (tgt := 40) hx hb dX3_init_18 rfl (fun _ => ?_) (fun q => absurd (by decide) q)
      exact W.vret hx hb hr (fun t ht hW => ⟨⟨(), rfl, trivial, by show zBw D g b r (zshB r) t.heap; rw [ht]; exact hP⟩, hS.F ht⟩) hS.2.2 dX3_init_40
    | succ d ih =>
      intro i H locs ls hi hl hP hS
      have hi6 : i < 6 := by omega
      have hlen := zshS_len r i
      refine lv_iload_n hx hb dX3_init_15 rfl (lv_at hl 0 rfl) ?_
      refine lv_bipush (v := 6) hx hb dX3_init_16 (by decide) ?_
      refine lv_icmp_ge (tgt := 40) hx hb dX3_init_18 rfl (fun q => absurd q (nI_ge (b := 6) hi6 (by decide))) (fun _ => ?_)
      refine lv_aload_n hx hb dX3_init_21 rfl (lv_at hl 1 rfl) ?_
      refine zb_get (ci := 3) (k0 := 0) (k := 1) (n0 := 0) (fs := (zraw 3).2.2.set 1 (some (.inl (r + 1)))) (v := some (.inl (r + 1))) hx hb (by decide) hown hts hK rfl (by decide) zo_f3_11 rfl hP dX3_init_22 ?_
      refine lv_iload_n hx hb dX3_init_25 rfl (lv_at hl 0 rfl) ?_
      refine zb_new (ci := 2) hx hb hown hts hK (by decide) zo_k3_9 zo_n2 hP hS hlo (hq _ _ (by rw [hlen]; omega)) (by show 1 + 4 * i + 1 ≤ 25; omega) (by show 6 + 129 * i + 9 ≤ 780; omega) dX3_init_26 (fun H hP hS => ?_)
      refine lv_dup hx hb dX3_init_29 rfl ?_
      refine zb_call (sys := zshS r i) (ci := 2) (ex := []) (exr := []) (n := 0) hx hb (hml.trans hl.1.symm) hown hts hK (zc_X2 l D g b _) (by decide) rfl rfl zo_m3_17 zo_i2 zo_c2 (by decide +kernel) rfl rfl (Nat.le_of_ble_eq_true rfl) (Nat.le_of_ble_eq_true rfl) (Nat.le_of_ble_eq_true rfl) hP hS (hq _ _ (by rw [hlen]; omega)) (by show 1 + 4 * i + 1 + 3 ≤ 25; omega) (by show 6 + 129 * i + 9 + 120 ≤ 780; omega) dX3_init_30 (fun H locs hP hS => ?_)
      refine zb_astR (k0 := 1) (qk := (zshS r i).length) (i := i) (st := r + 2) (n0 := 0) hx hb hK rfl (by rw [List.getElem?_append_right (Nat.le_refl _), Nat.sub_self]; rfl) (by rw [hlen]; omega) hi6 hP hS dX3_init_33 (fun H locs hP hS => ?_)
      rw [zshS_next] at hP
      refine lv_iinc (k := 0) (v := nI (i + 1)) hx hb dX3_init_34 hl rfl (nI_1 i) (by decide) rfl (fun ls hl => ?_)
      refine lv_goto (tgt := 15) hx hb dX3_init_37 rfl ?_
      refine W.widen (k := 1 + 4 * (i + 1)) (n := 6 + 129 * (i + 1)) (by show 1 + 4 * i + 1 + 3 ≤ _; omega) (by show 6 + 129 * i + 9 + 120 ≤ _; omega) ?_
      exact ih (i + 1) H locs ls (by omega) hl hP hS
  exact loop 6 0 _ _ ls (by omega) hl hP hS
set_option maxHeartbeats 4000000 in
set_option maxRecDepth 100000 in
theorem zc_X0 (l : Launch) (D : va_G) (g : zIds) (b r : Nat) : zCt l D g b r 0 yX0_init cX0_init 2 [] (zcrm 3 53 313 9396) (zhiB r) := by
  refine Met.ofW (cc := cX0_init) (maxL := 2) (ret := none) (by decide) rfl ?_
  intro p e s m args below meth c s₁ B hml hv9
  obtain ⟨rfl, hK, hsz, hP⟩ := hv9
  have hx := B.exec
  have hb := B.bytes
  have hr := B.returns
  have hlocks := B.notSynchronized
  have hin : meth.name = "<init>" := (name_of_methodNamed B.named B.method).1
  have hts0 := atoms_spec (ws := .code yX0_init cX0_init 2 none :: zTb) B.pre
  have hts : ∀ w ∈ zTb, w.before [.ref (b + r)].toArray s = true := fun w hw => hts0 w (List.mem_cons_of_mem _ hw)
  have hown : s.vm.findClass (zcn 0) = some m.cls := findClass_of_methodNamed B.named
  have hS : va_S (zBs b r) s.heap s.heap [] := va_S.rf
  have hlo : b + r ≤ s.heap.size := by omega
  have hP : zBw D g b r [zraw 0] s.heap := hP
  have hl := lv_entry ([.ref (b + r)]) (n := 2) (Nat.le_of_ble_eq_true rfl)
  rw [lg_entry_eq]
  generalize (lg_sl ([.ref (b + r)]) ++ List.replicate (2 - (lg_sl ([.ref (b + r)])).length) Slot.unset).toArray = ls at hl ⊢
  have hl : lv_has ls 2 [(0, .ref (b + r))] := hl
  have hq : ∀ n k, n = k + 1 → b + r + n = s.heap.size + k := fun n k h => by omega
  refine lv_aload_n hx hb dX0_init_0 rfl (lv_at hl 0 rfl) ?_
  refine zb_obj hx hb hown hts zo_l0 (by rw [hml]; exact hl.1) dX0_init_1 (Nat.le_of_ble_eq_true rfl) (Nat.le_of_ble_eq_true rfl) ?_
  refine lv_aload_n hx hb dX0_init_4 rfl (lv_at hl 0 rfl) ?_
  refine lv_bipush (v := 12) hx hb dX0_init_5 (by decide) ?_
  refine zb_newS (r + 2) hx hb hown hts hK zo_k0_9 (by decide) (by decide) hP hS hlo (hq _ _ rfl) (Nat.le_of_ble_eq_true rfl) (Nat.le_of_ble_eq_true rfl) dX0_init_7 (fun H hP hS => ?_)
  refine zb_putR (ci := 0) (k := 0) (x := r + 1) (n0 := 0) (fs := (zraw 0).2.2) hx hb (by decide) hown hts hK hin rfl (by decide) rfl zo_f0_11 (Nat.add_assoc b r 1) (fun _ => rfl) (fun _ => rfl) hP hS dX0_init_10 (fun H locs hP hS => ?_)
  have hP : zBw D g b r (zhiS r 0) H := hP
  refine lv_iconst (v := 0) hx hb dX0_init_13 (by decide) ?_
  refine lv_istore_n hx hb dX0_init_14 rfl hl (by decide) rfl (fun ls hl => ?_)
  have loop : ∀ (d i : Nat) (H : Heap) (locs : List Loc) (ls : Array Slot), i + d = 12 → lv_has ls 2 [(1, .int (nI i)), (0, .ref (b + r))] → zBw D g b r (zhiS r i) H → va_S (zBs b r) s.heap H locs → W p l e (zcrm 3 53 313 9396) s m [.ref (b + r)].toArray below meth c H locs (1 + 26 * i) (12 + 782 * i) (MQ below (va_Qv (fun _ : Unit => True) (fun _ t => zBw D g b r (zhiB r) t.heap) (zBs b r)) [.ref (b + r)].toArray s (zcrm 3 53 313 9396).cells (zcrm 3 53 313 9396).slots (zBs b r)) (F0 m 15 ls []) := by
    intro d
    induction d with
    | zero =>
      intro i H locs ls hi hl hP hS
      have hi : i = 12 := by omega
      subst hi
      refine lv_iload_n hx hb dX0_init_15 rfl (lv_at hl 0 rfl) ?_
      refine lv_bipush (v := 12) hx hb dX0_init_16 (by decide) ?_
      refine lv_icmp_ge (tgt := 40) hx hb dX0_init_18 rfl (fun _ => ?_) (fun q => absurd (by decide) q)
      exact W.vret hx hb hr (fun t ht hW => ⟨⟨(), rfl, trivial, by show zBw D g b r (zhiB r) t.heap; rw [ht]; exact hP⟩, hS.F ht⟩) hS.2.2 dX0_init_40
    | succ d ih =>
      intro i H locs ls hi hl hP hS
      have hi6 : i < 12 := by omega
      have hlen := zhiS_len r i
      refine lv_iload_n hx hb dX0_init_15 rfl (lv_at hl 0 rfl) ?_
      refine lv_bipush (v := 12) hx hb dX0_init_16 (by decide) ?_
      refine lv_icmp_ge (tgt := 40) hx hb dX0_init_18 rfl (fun q => absurd q (nI_ge (b := 12) hi6 (by decide))) (fun _ => ?_)
      refine lv_aload_n hx hb dX0_init_21 rfl (lv_at hl 1 rfl) ?_
      refine zb_get (ci := 0) (k0 := 0) (k := 0) (n0 := 0) (fs := (zraw 0).2.2.set 0 (some (.inl (r + 1)))) (v := some (.inl (r + 1))) hx hb (by decide) hown hts hK rfl (by decide) zo_f0_11 rfl hP dX0_init_22 ?_
      refine lv_iload_n hx hb dX0_init_25 rfl (lv_at hl 0 rfl) ?_
      refine zb_new (ci := 3) hx hb hown hts hK (by decide) zo_k0_9 zo_n3 hP hS hlo (hq _ _ (by rw [hlen]; omega)) (by show 1 + 26 * i + 1 ≤ 313; omega) (by show 12 + 782 * i + 2 ≤ 9396; omega) dX0_init_26 (fun H hP hS => ?_)
      refine lv_dup hx hb dX0_init_29 rfl ?_
      refine zb_call (sys := zhiS r i) (ci := 3) (ex := []) (exr := []) (n := 0) hx hb (hml.trans hl.1.symm) hown hts hK (zc_X3 l D g b _) (by decide) rfl rfl zo_m0_17 zo_i3 zo_c3 (by decide +kernel) rfl rfl (Nat.le_of_ble_eq_true rfl) (Nat.le_of_ble_eq_true rfl) (Nat.le_of_ble_eq_true rfl) hP hS (hq _ _ (by rw [hlen]; omega)) (by show 1 + 26 * i + 1 + 25 ≤ 313; omega) (by show 12 + 782 * i + 2 + 780 ≤ 9396; omega) dX0_init_30 (fun H locs hP hS => ?_)
      refine zb_astS (k0 := 1) (qk := (zhiS r i).length) (i := i) (st := r + 2) (n0 := 0) hx hb hK rfl (by rw [List.getElem?_append_right (Nat.le_refl _), Nat.sub_self]; rfl) (by rw [hlen]; omega) hi6 hP hS dX0_init_33 (fun H locs hP hS => ?_)
      rw [zhiS_next] at hP
      refine lv_iinc (k := 0) (v := nI (i + 1)) hx hb dX0_init_34 hl rfl (nI_1 i) (by decide) rfl (fun ls hl => ?_)
      refine lv_goto (tgt := 15) hx hb dX0_init_37 rfl ?_
      refine W.widen (k := 1 + 26 * (i + 1)) (n := 12 + 782 * (i + 1)) (by show 1 + 26 * i + 1 + 25 ≤ _; omega) (by show 12 + 782 * i + 2 + 780 ≤ _; omega) ?_
      exact ih (i + 1) H locs ls (by omega) hl hP hS
  exact loop 12 0 _ _ ls (by omega) hl hP hS
theorem zc_X4_480 (l : Launch) (D : va_G) (g : zIds) (b r : Nat) : zCt l D g b r 4 yX4_init cX4_init 2 [.int 480] (zcrm 1 14 1 480) (ztimB r 480) := zc_X4 l D g b r 480 (by decide)
theorem zc_X4_80 (l : Launch) (D : va_G) (g : zIds) (b r : Nat) : zCt l D g b r 4 yX4_init cX4_init 2 [.int 80] (zcrm 1 14 1 80) (ztimB r 80) := zc_X4 l D g b r 80 (by decide)
set_option maxHeartbeats 4000000 in
set_option maxRecDepth 100000 in
theorem zc_X1 (l : Launch) (D : va_G) (g : zIds) (b r : Nat) : zCt l D g b r 1 yX1_init cX1_init 1 [] (zcrm 3 53 27 1182) (zreB r) := by
  refine Met.ofW (cc := cX1_init) (maxL := 1) (ret := none) (by decide) rfl ?_
  intro p e s m args below meth c s₁ B hml hv9
  obtain ⟨rfl, hK, hsz, hP⟩ := hv9
  have hx := B.exec
  have hb := B.bytes
  have hr := B.returns
  have hlocks := B.notSynchronized
  have hin : meth.name = "<init>" := (name_of_methodNamed B.named B.method).1
  have hts0 := atoms_spec (ws := .code yX1_init cX1_init 1 none :: zTb) B.pre
  have hts : ∀ w ∈ zTb, w.before [.ref (b + r)].toArray s = true := fun w hw => hts0 w (List.mem_cons_of_mem _ hw)
  have hown : s.vm.findClass (zcn 1) = some m.cls := findClass_of_methodNamed B.named
  have hS : va_S (zBs b r) s.heap s.heap [] := va_S.rf
  have hlo : b + r ≤ s.heap.size := by omega
  have hP : zBw D g b r [zraw 1] s.heap := hP
  have hl := lv_entry ([.ref (b + r)]) (n := 1) (Nat.le_of_ble_eq_true rfl)
  rw [lg_entry_eq]
  generalize (lg_sl ([.ref (b + r)]) ++ List.replicate (1 - (lg_sl ([.ref (b + r)])).length) Slot.unset).toArray = ls at hl ⊢
  have hl : lv_has ls 1 [(0, .ref (b + r))] := hl
  have hq : ∀ n k, n = k + 1 → b + r + n = s.heap.size + k := fun n k h => by omega
  refine lv_aload_n hx hb dX1_init_0 rfl (lv_at hl 0 rfl) ?_
  refine zb_obj hx hb hown hts zo_l1 (by rw [hml]; exact hl.1) dX1_init_1 (Nat.le_of_ble_eq_true rfl) (Nat.le_of_ble_eq_true rfl) ?_
  refine lv_aload_n hx hb dX1_init_4 rfl (lv_at hl 0 rfl) ?_
  refine lv_sipush (v := 400) hx hb dX1_init_5 (by decide) ?_
  refine zb_newb (N := 400) hx hb hts hK zar_b (by decide) (by decide) (by decide) hP hS hlo (hq _ _ rfl) (Nat.le_of_ble_eq_true rfl) (Nat.le_of_ble_eq_true rfl) dX1_init_8 (fun H hP hS => ?_)
  have hP : zBw D g b r ([(1, 0, (zraw 1).2.2)] ++ [(27, 400, [])]) _ := hP
  refine zb_putR (ci := 1) (k := 0) (x := r + 1) (n0 := 0) (fs := (zraw 1).2.2) hx hb (by decide) hown hts hK hin rfl (by decide) rfl zo_f1_9 (Nat.add_assoc b r 1) (fun _ => rfl) (fun _ => rfl) hP hS dX1_init_10 (fun H locs hP hS => ?_)
  have hP : zBw D g b r ([(1, 0, ((zraw 1).2.2.set 0 (some (.inl (r + 1)))))] ++ [(27, 400, [])]) _ := hP
  refine lv_aload_n hx hb dX1_init_13 rfl (lv_at hl 0 rfl) ?_
  refine zb_new (ci := 3) hx hb hown hts hK (by decide) zo_k1_15 zo_n3 hP hS hlo (hq _ _ rfl) (Nat.le_of_ble_eq_true rfl) (Nat.le_of_ble_eq_true rfl) dX1_init_14 (fun H hP hS => ?_)
  refine lv_dup hx hb dX1_init_17 rfl ?_
  refine zb_call (sys := ([(1, 0, ((zraw 1).2.2.set 0 (some (.inl (r + 1)))))] ++ [(27, 400, [])])) (ci := 3) (ex := []) (exr := []) (n := 0) hx hb (hml.trans hl.1.symm) hown hts hK (zc_X3 l D g b _) (by decide) rfl rfl zo_m1_17 zo_i3 zo_c3 (by decide +kernel) rfl rfl (Nat.le_of_ble_eq_true rfl) (Nat.le_of_ble_eq_true rfl) (Nat.le_of_ble_eq_true rfl) hP hS (hq _ _ rfl) (Nat.le_of_ble_eq_true rfl) (Nat.le_of_ble_eq_true rfl) dX1_init_18 (fun H locs hP hS => ?_)
  have hP : zBw D g b r (([(1, 0, ((zraw 1).2.2.set 0 (some (.inl (r + 1)))))] ++ [(27, 400, [])]) ++ zshB (r + 2)) H := hP
  have hP : zBw D g b r ([(1, 0, ((zraw 1).2.2.set 0 (some (.inl (r + 1)))))] ++ [(27, 400, [])] ++ zshB (r + 2)) _ := hP
  refine zb_putR (ci := 1) (k := 2) (x := r + 2) (n0 := 0) (fs := ((zraw 1).2.2.set 0 (some (.inl (r + 1))))) hx hb (by decide) hown hts hK hin rfl (by decide) rfl zo_f1_18 (Nat.add_assoc b r 2) (fun _ => rfl) (fun _ => rfl) hP hS dX1_init_21 (fun H locs hP hS => ?_)
  have hP : zBw D g b r ([(1, 0, (((zraw 1).2.2.set 0 (some (.inl (r + 1)))).set 2 (some (.inl (r + 2)))))] ++ [(27, 400, [])] ++ zshB (r + 2)) _ := hP
  refine lv_aload_n hx hb dX1_init_24 rfl (lv_at hl 0 rfl) ?_
  refine lv_iconst (v := -1) hx hb dX1_init_25 (by decide) ?_
  refine zb_putI (ci := 1) (k := 4) (x := -1) (n0 := 0) (fs := (((zraw 1).2.2.set 0 (some (.inl (r + 1)))).set 2 (some (.inl (r + 2))))) hx hb (by decide) hown hts hK hin rfl (by decide) rfl zo_f1_22 rfl rfl hP hS dX1_init_26 (fun H locs hP hS => ?_)
  have hP : zBw D g b r ([(1, 0, ((((zraw 1).2.2.set 0 (some (.inl (r + 1)))).set 2 (some (.inl (r + 2)))).set 4 (some (.inr (-1)))))] ++ [(27, 400, [])] ++ zshB (r + 2)) _ := hP
  refine W.widen (k := (zcrm 3 53 27 1182).cells) (n := (zcrm 3 53 27 1182).slots) (Nat.le_of_ble_eq_true rfl) (Nat.le_of_ble_eq_true rfl) ?_
  exact W.vret hx hb hr (fun t ht hW => ⟨⟨(), rfl, trivial, by show zBw D g b r (zreB r) t.heap; rw [ht]; exact hP⟩, hS.F ht⟩) hS.2.2 dX1_init_29
def zspB (r : Nat) : List zSy := [(5, 0, ((((((((zraw 5).2.2.set 0 (some (.inl (r + 1)))).set 1 (some (.inl (r + 27)))).set 3 (some (.inl (r + 53)))).set 4 (some (.inl (r + 367)))).set 5 (some (.inl (r + 395)))).set 6 (some (.inl (r + 397)))).set 7 (some (.inl (r + 399)))).set 8 (some (.inl (r + 401))))] ++ zshB (r + 1) ++ zshB (r + 27) ++ zhiB (r + 53) ++ zreB (r + 367) ++ ztimB (r + 395) 480 ++ ztimB (r + 397) 80 ++ ztimB (r + 399) 80 ++ [(20, 81, [])]
set_option maxHeartbeats 4000000 in
set_option maxRecDepth 100000 in
theorem zc_X5 (l : Launch) (D : va_G) (g : zIds) (b r : Nat) : zCt l D g b r 5 yX5_init cX5_init 1 [] (zcrm 4 74 401 12884) (zspB r) := by
  refine Met.ofW (cc := cX5_init) (maxL := 1) (ret := none) (by decide) rfl ?_
  intro p e s m args below meth c s₁ B hml hv9
  obtain ⟨rfl, hK, hsz, hP⟩ := hv9
  have hx := B.exec
  have hb := B.bytes
  have hr := B.returns
  have hlocks := B.notSynchronized
  have hin : meth.name = "<init>" := (name_of_methodNamed B.named B.method).1
  have hts0 := atoms_spec (ws := .code yX5_init cX5_init 1 none :: zTb) B.pre
  have hts : ∀ w ∈ zTb, w.before [.ref (b + r)].toArray s = true := fun w hw => hts0 w (List.mem_cons_of_mem _ hw)
  have hown : s.vm.findClass (zcn 5) = some m.cls := findClass_of_methodNamed B.named
  have hS : va_S (zBs b r) s.heap s.heap [] := va_S.rf
  have hlo : b + r ≤ s.heap.size := by omega
  have hP : zBw D g b r [zraw 5] s.heap := hP
  have hl := lv_entry ([.ref (b + r)]) (n := 1) (Nat.le_of_ble_eq_true rfl)
  rw [lg_entry_eq]
  generalize (lg_sl ([.ref (b + r)]) ++ List.replicate (1 - (lg_sl ([.ref (b + r)])).length) Slot.unset).toArray = ls at hl ⊢
  have hl : lv_has ls 1 [(0, .ref (b + r))] := hl
  have hq : ∀ n k, n = k + 1 → b + r + n = s.heap.size + k := fun n k h => by omega
  refine lv_aload_n hx hb dX5_init_0 rfl (lv_at hl 0 rfl) ?_
  refine zb_obj hx hb hown hts zo_l5 (by rw [hml]; exact hl.1) dX5_init_1 (Nat.le_of_ble_eq_true rfl) (Nat.le_of_ble_eq_true rfl) ?_
  refine lv_aload_n hx hb dX5_init_4 rfl (lv_at hl 0 rfl) ?_
  refine zb_new (ci := 3) hx hb hown hts hK (by decide) zo_k5_9 zo_n3 hP hS hlo (hq _ _ rfl) (Nat.le_of_ble_eq_true rfl) (Nat.le_of_ble_eq_true rfl) dX5_init_5 (fun H hP hS => ?_)
  refine lv_dup hx hb dX5_init_8 rfl ?_
  refine zb_call (sys := [(5, 0, (zraw 5).2.2)]) (ci := 3) (ex := []) (exr := []) (n := 0) hx hb (hml.trans hl.1.symm) hown hts hK (zc_X3 l D g b _) (by decide) rfl rfl zo_m5_11 zo_i3 zo_c3 (by decide +kernel) rfl rfl (Nat.le_of_ble_eq_true rfl) (Nat.le_of_ble_eq_true rfl) (Nat.le_of_ble_eq_true rfl) hP hS (hq _ _ rfl) (Nat.le_of_ble_eq_true rfl) (Nat.le_of_ble_eq_true rfl) dX5_init_9 (fun H locs hP hS => ?_)
  have hP : zBw D g b r ([(5, 0, (zraw 5).2.2)] ++ zshB (r + 1)) H := hP
  have hP : zBw D g b r ([(5, 0, (zraw 5).2.2)] ++ zshB (r + 1)) _ := hP
  refine zb_putR (ci := 5) (k := 0) (x := r + 1) (n0 := 0) (fs := (zraw 5).2.2) hx hb (by decide) hown hts hK hin rfl (by decide) rfl zo_f5_12 (Nat.add_assoc b r 1) (fun _ => rfl) (fun _ => rfl) hP hS dX5_init_12 (fun H locs hP hS => ?_)
  have hP : zBw D g b r ([(5, 0, ((zraw 5).2.2.set 0 (some (.inl (r + 1)))))] ++ zshB (r + 1)) _ := hP
  refine lv_aload_n hx hb dX5_init_15 rfl (lv_at hl 0 rfl) ?_
  refine zb_new (ci := 3) hx hb hown hts hK (by decide) zo_k5_9 zo_n3 hP hS hlo (hq _ _ rfl) (Nat.le_of_ble_eq_true rfl) (Nat.le_of_ble_eq_true rfl) dX5_init_16 (fun H hP hS => ?_)
  refine lv_dup hx hb dX5_init_19 rfl ?_
  refine zb_call (sys := ([(5, 0, ((zraw 5).2.2.set 0 (some (.inl (r + 1)))))] ++ zshB (r + 1))) (ci := 3) (ex := []) (exr := []) (n := 0) hx hb (hml.trans hl.1.symm) hown hts hK (zc_X3 l D g b _) (by decide) rfl rfl zo_m5_11 zo_i3 zo_c3 (by decide +kernel) rfl rfl (Nat.le_of_ble_eq_true rfl) (Nat.le_of_ble_eq_true rfl) (Nat.le_of_ble_eq_true rfl) hP hS (hq _ _ rfl) (Nat.le_of_ble_eq_true rfl) (Nat.le_of_ble_eq_true rfl) dX5_init_20 (fun H locs hP hS => ?_)
  have hP : zBw D g b r (([(5, 0, ((zraw 5).2.2.set 0 (some (.inl (r + 1)))))] ++ zshB (r + 1)) ++ zshB (r + 27)) H := hP
  have hP : zBw D g b r ([(5, 0, ((zraw 5).2.2.set 0 (some (.inl (r + 1)))))] ++ zshB (r + 1) ++ zshB (r + 27)) _ := hP
  refine zb_putR (ci := 5) (k := 1) (x := r + 27) (n0 := 0) (fs := ((zraw 5).2.2.set 0 (some (.inl (r + 1))))) hx hb (by decide) hown hts hK hin rfl (by decide) rfl zo_f5_16 (Nat.add_assoc b r 27) (fun _ => rfl) (fun _ => rfl) hP hS dX5_init_23 (fun H locs hP hS => ?_)
  have hP : zBw D g b r ([(5, 0, (((zraw 5).2.2.set 0 (some (.inl (r + 1)))).set 1 (some (.inl (r + 27)))))] ++ zshB (r + 1) ++ zshB (r + 27)) _ := hP
  refine lv_aload_n hx hb dX5_init_26 rfl (lv_at hl 0 rfl) ?_
  refine zb_new (ci := 0) hx hb hown hts hK (by decide) zo_k5_19 zo_n0 hP hS hlo (hq _ _ rfl) (Nat.le_of_ble_eq_true rfl) (Nat.le_of_ble_eq_true rfl) dX5_init_27 (fun H hP hS => ?_)
  refine lv_dup hx hb dX5_init_30 rfl ?_
  refine zb_call (sys := ([(5, 0, (((zraw 5).2.2.set 0 (some (.inl (r + 1)))).set 1 (some (.inl (r + 27)))))] ++ zshB (r + 1) ++ zshB (r + 27))) (ci := 0) (ex := []) (exr := []) (n := 0) hx hb (hml.trans hl.1.symm) hown hts hK (zc_X0 l D g b _) (by decide) rfl rfl zo_m5_21 zo_i0 zo_c0 (by decide +kernel) rfl rfl (Nat.le_of_ble_eq_true rfl) (Nat.le_of_ble_eq_true rfl) (Nat.le_of_ble_eq_true rfl) hP hS (hq _ _ rfl) (Nat.le_of_ble_eq_true rfl) (Nat.le_of_ble_eq_true rfl) dX5_init_31 (fun H locs hP hS => ?_)
  have hP : zBw D g b r (([(5, 0, (((zraw 5).2.2.set 0 (some (.inl (r + 1)))).set 1 (some (.inl (r + 27)))))] ++ zshB (r + 1) ++ zshB (r + 27)) ++ zhiB (r + 53)) H := hP
  have hP : zBw D g b r ([(5, 0, (((zraw 5).2.2.set 0 (some (.inl (r + 1)))).set 1 (some (.inl (r + 27)))))] ++ zshB (r + 1) ++ zshB (r + 27) ++ zhiB (r + 53)) _ := hP
  refine zb_putR (ci := 5) (k := 3) (x := r + 53) (n0 := 0) (fs := (((zraw 5).2.2.set 0 (some (.inl (r + 1)))).set 1 (some (.inl (r + 27))))) hx hb (by decide) hown hts hK hin rfl (by decide) rfl zo_f5_22 (Nat.add_assoc b r 53) (fun _ => rfl) (fun _ => rfl) hP hS dX5_init_34 (fun H locs hP hS => ?_)
  have hP : zBw D g b r ([(5, 0, ((((zraw 5).2.2.set 0 (some (.inl (r + 1)))).set 1 (some (.inl (r + 27)))).set 3 (some (.inl (r + 53)))))] ++ zshB (r + 1) ++ zshB (r + 27) ++ zhiB (r + 53)) _ := hP
  refine lv_aload_n hx hb dX5_init_37 rfl (lv_at hl 0 rfl) ?_
  refine zb_new (ci := 1) hx hb hown hts hK (by decide) zo_k5_26 zo_n1 hP hS hlo (hq _ _ (by simp only [List.length_append, List.length_cons, List.length_nil, zshB_len, zhiB_len, zreB_len, ztimB_len]; rfl)) (Nat.le_of_ble_eq_true rfl) (Nat.le_of_ble_eq_true rfl) dX5_init_38 (fun H hP hS => ?_)
  refine lv_dup hx hb dX5_init_41 rfl ?_
  refine zb_call (sys := ([(5, 0, ((((zraw 5).2.2.set 0 (some (.inl (r + 1)))).set 1 (some (.inl (r + 27)))).set 3 (some (.inl (r + 53)))))] ++ zshB (r + 1) ++ zshB (r + 27) ++ zhiB (r + 53))) (ci := 1) (ex := []) (exr := []) (n := 0) hx hb (hml.trans hl.1.symm) hown hts hK (zc_X1 l D g b _) (by decide) rfl rfl zo_m5_28 zo_i1 zo_c1 (by decide +kernel) rfl rfl (Nat.le_of_ble_eq_true rfl) (Nat.le_of_ble_eq_true rfl) (Nat.le_of_ble_eq_true rfl) hP hS (hq _ _ (by simp only [List.length_append, List.length_cons, List.length_nil, zshB_len, zhiB_len, zreB_len, ztimB_len]; rfl)) (Nat.le_of_ble_eq_true rfl) (Nat.le_of_ble_eq_true rfl) dX5_init_42 (fun H locs hP hS => ?_)
  have hP : zBw D g b r (([(5, 0, ((((zraw 5).2.2.set 0 (some (.inl (r + 1)))).set 1 (some (.inl (r + 27)))).set 3 (some (.inl (r + 53)))))] ++ zshB (r + 1) ++ zshB (r + 27) ++ zhiB (r + 53)) ++ zreB (r + 367)) H := by simpa only [List.length_append, List.length_cons, List.length_nil, zshB_len, zhiB_len, zreB_len, ztimB_len, Nat.zero_add, Nat.reduceAdd] using hP
  have hP : zBw D g b r ([(5, 0, ((((zraw 5).2.2.set 0 (some (.inl (r + 1)))).set 1 (some (.inl (r + 27)))).set 3 (some (.inl (r + 53)))))] ++ zshB (r + 1) ++ zshB (r + 27) ++ zhiB (r + 53) ++ zreB (r + 367)) _ := hP
  refine zb_putR (ci := 5) (k := 4) (x := r + 367) (n0 := 0) (fs := ((((zraw 5).2.2.set 0 (some (.inl (r + 1)))).set 1 (some (.inl (r + 27)))).set 3 (some (.inl (r + 53))))) hx hb (by decide) hown hts hK hin rfl (by decide) rfl zo_f5_29 (by simp only [List.length_append, List.length_cons, List.length_nil, zshB_len, zhiB_len, zreB_len, ztimB_len]; omega) (fun _ => rfl) (fun _ => rfl) hP hS dX5_init_45 (fun H locs hP hS => ?_)
  have hP : zBw D g b r ([(5, 0, (((((zraw 5).2.2.set 0 (some (.inl (r + 1)))).set 1 (some (.inl (r + 27)))).set 3 (some (.inl (r + 53)))).set 4 (some (.inl (r + 367)))))] ++ zshB (r + 1) ++ zshB (r + 27) ++ zhiB (r + 53) ++ zreB (r + 367)) _ := hP
  refine lv_aload_n hx hb dX5_init_48 rfl (lv_at hl 0 rfl) ?_
  refine zb_new (ci := 4) hx hb hown hts hK (by decide) zo_k5_33 zo_n4 hP hS hlo (hq _ _ (by simp only [List.length_append, List.length_cons, List.length_nil, zshB_len, zhiB_len, zreB_len, ztimB_len]; rfl)) (Nat.le_of_ble_eq_true rfl) (Nat.le_of_ble_eq_true rfl) dX5_init_49 (fun H hP hS => ?_)
  refine lv_dup hx hb dX5_init_52 rfl ?_
  refine lv_sipush (v := 480) hx hb dX5_init_53 (by decide) ?_
  refine zb_call (sys := ([(5, 0, (((((zraw 5).2.2.set 0 (some (.inl (r + 1)))).set 1 (some (.inl (r + 27)))).set 3 (some (.inl (r + 53)))).set 4 (some (.inl (r + 367)))))] ++ zshB (r + 1) ++ zshB (r + 27) ++ zhiB (r + 53) ++ zreB (r + 367))) (ci := 4) (ex := [.int 480]) (exr := [.int 480]) (n := 1) hx hb (hml.trans hl.1.symm) hown hts hK (zc_X4_480 l D g b _) (by decide) rfl rfl zo_m5_35 zo_i4 zo_c4 (by decide +kernel) rfl rfl (Nat.le_of_ble_eq_true rfl) (Nat.le_of_ble_eq_true rfl) (Nat.le_of_ble_eq_true rfl) hP hS (hq _ _ (by simp only [List.length_append, List.length_cons, List.length_nil, zshB_len, zhiB_len, zreB_len, ztimB_len]; rfl)) (Nat.le_of_ble_eq_true rfl) (Nat.le_of_ble_eq_true rfl) dX5_init_56 (fun H locs hP hS => ?_)
  have hP : zBw D g b r (([(5, 0, (((((zraw 5).2.2.set 0 (some (.inl (r + 1)))).set 1 (some (.inl (r + 27)))).set 3 (some (.inl (r + 53)))).set 4 (some (.inl (r + 367)))))] ++ zshB (r + 1) ++ zshB (r + 27) ++ zhiB (r + 53) ++ zreB (r + 367)) ++ ztimB (r + 395) 480) H := by simpa only [List.length_append, List.length_cons, List.length_nil, zshB_len, zhiB_len, zreB_len, ztimB_len, Nat.zero_add, Nat.reduceAdd] using hP
  have hP : zBw D g b r ([(5, 0, (((((zraw 5).2.2.set 0 (some (.inl (r + 1)))).set 1 (some (.inl (r + 27)))).set 3 (some (.inl (r + 53)))).set 4 (some (.inl (r + 367)))))] ++ zshB (r + 1) ++ zshB (r + 27) ++ zhiB (r + 53) ++ zreB (r + 367) ++ ztimB (r + 395) 480) _ := hP
  refine zb_putR (ci := 5) (k := 5) (x := r + 395) (n0 := 0) (fs := (((((zraw 5).2.2.set 0 (some (.inl (r + 1)))).set 1 (some (.inl (r + 27)))).set 3 (some (.inl (r + 53)))).set 4 (some (.inl (r + 367))))) hx hb (by decide) hown hts hK hin rfl (by decide) rfl zo_f5_38 (by simp only [List.length_append, List.length_cons, List.length_nil, zshB_len, zhiB_len, zreB_len, ztimB_len]; omega) (fun _ => rfl) (fun _ => rfl) hP hS dX5_init_59 (fun H locs hP hS => ?_)
  have hP : zBw D g b r ([(5, 0, ((((((zraw 5).2.2.set 0 (some (.inl (r + 1)))).set 1 (some (.inl (r + 27)))).set 3 (some (.inl (r + 53)))).set 4 (some (.inl (r + 367)))).set 5 (some (.inl (r + 395)))))] ++ zshB (r + 1) ++ zshB (r + 27) ++ zhiB (r + 53) ++ zreB (r + 367) ++ ztimB (r + 395) 480) _ := hP
  refine lv_aload_n hx hb dX5_init_62 rfl (lv_at hl 0 rfl) ?_
  refine zb_new (ci := 4) hx hb hown hts hK (by decide) zo_k5_33 zo_n4 hP hS hlo (hq _ _ (by simp only [List.length_append, List.length_cons, List.length_nil, zshB_len, zhiB_len, zreB_len, ztimB_len]; rfl)) (Nat.le_of_ble_eq_true rfl) (Nat.le_of_ble_eq_true rfl) dX5_init_63 (fun H hP hS => ?_)
  refine lv_dup hx hb dX5_init_66 rfl ?_
  refine lv_bipush (v := 80) hx hb dX5_init_67 (by decide) ?_
  refine zb_call (sys := ([(5, 0, ((((((zraw 5).2.2.set 0 (some (.inl (r + 1)))).set 1 (some (.inl (r + 27)))).set 3 (some (.inl (r + 53)))).set 4 (some (.inl (r + 367)))).set 5 (some (.inl (r + 395)))))] ++ zshB (r + 1) ++ zshB (r + 27) ++ zhiB (r + 53) ++ zreB (r + 367) ++ ztimB (r + 395) 480)) (ci := 4) (ex := [.int 80]) (exr := [.int 80]) (n := 1) hx hb (hml.trans hl.1.symm) hown hts hK (zc_X4_80 l D g b _) (by decide) rfl rfl zo_m5_35 zo_i4 zo_c4 (by decide +kernel) rfl rfl (Nat.le_of_ble_eq_true rfl) (Nat.le_of_ble_eq_true rfl) (Nat.le_of_ble_eq_true rfl) hP hS (hq _ _ (by simp only [List.length_append, List.length_cons, List.length_nil, zshB_len, zhiB_len, zreB_len, ztimB_len]; rfl)) (Nat.le_of_ble_eq_true rfl) (Nat.le_of_ble_eq_true rfl) dX5_init_69 (fun H locs hP hS => ?_)
  have hP : zBw D g b r (([(5, 0, ((((((zraw 5).2.2.set 0 (some (.inl (r + 1)))).set 1 (some (.inl (r + 27)))).set 3 (some (.inl (r + 53)))).set 4 (some (.inl (r + 367)))).set 5 (some (.inl (r + 395)))))] ++ zshB (r + 1) ++ zshB (r + 27) ++ zhiB (r + 53) ++ zreB (r + 367) ++ ztimB (r + 395) 480) ++ ztimB (r + 397) 80) H := by simpa only [List.length_append, List.length_cons, List.length_nil, zshB_len, zhiB_len, zreB_len, ztimB_len, Nat.zero_add, Nat.reduceAdd] using hP
  have hP : zBw D g b r ([(5, 0, ((((((zraw 5).2.2.set 0 (some (.inl (r + 1)))).set 1 (some (.inl (r + 27)))).set 3 (some (.inl (r + 53)))).set 4 (some (.inl (r + 367)))).set 5 (some (.inl (r + 395)))))] ++ zshB (r + 1) ++ zshB (r + 27) ++ zhiB (r + 53) ++ zreB (r + 367) ++ ztimB (r + 395) 480 ++ ztimB (r + 397) 80) _ := hP
  refine zb_putR (ci := 5) (k := 6) (x := r + 397) (n0 := 0) (fs := ((((((zraw 5).2.2.set 0 (some (.inl (r + 1)))).set 1 (some (.inl (r + 27)))).set 3 (some (.inl (r + 53)))).set 4 (some (.inl (r + 367)))).set 5 (some (.inl (r + 395))))) hx hb (by decide) hown hts hK hin rfl (by decide) rfl zo_f5_42 (by simp only [List.length_append, List.length_cons, List.length_nil, zshB_len, zhiB_len, zreB_len, ztimB_len]; omega) (fun _ => rfl) (fun _ => rfl) hP hS dX5_init_72 (fun H locs hP hS => ?_)
  have hP : zBw D g b r ([(5, 0, (((((((zraw 5).2.2.set 0 (some (.inl (r + 1)))).set 1 (some (.inl (r + 27)))).set 3 (some (.inl (r + 53)))).set 4 (some (.inl (r + 367)))).set 5 (some (.inl (r + 395)))).set 6 (some (.inl (r + 397)))))] ++ zshB (r + 1) ++ zshB (r + 27) ++ zhiB (r + 53) ++ zreB (r + 367) ++ ztimB (r + 395) 480 ++ ztimB (r + 397) 80) _ := hP
  refine lv_aload_n hx hb dX5_init_75 rfl (lv_at hl 0 rfl) ?_
  refine zb_new (ci := 4) hx hb hown hts hK (by decide) zo_k5_33 zo_n4 hP hS hlo (hq _ _ (by simp only [List.length_append, List.length_cons, List.length_nil, zshB_len, zhiB_len, zreB_len, ztimB_len]; rfl)) (Nat.le_of_ble_eq_true rfl) (Nat.le_of_ble_eq_true rfl) dX5_init_76 (fun H hP hS => ?_)
  refine lv_dup hx hb dX5_init_79 rfl ?_
  refine lv_bipush (v := 80) hx hb dX5_init_80 (by decide) ?_
  refine zb_call (sys := ([(5, 0, (((((((zraw 5).2.2.set 0 (some (.inl (r + 1)))).set 1 (some (.inl (r + 27)))).set 3 (some (.inl (r + 53)))).set 4 (some (.inl (r + 367)))).set 5 (some (.inl (r + 395)))).set 6 (some (.inl (r + 397)))))] ++ zshB (r + 1) ++ zshB (r + 27) ++ zhiB (r + 53) ++ zreB (r + 367) ++ ztimB (r + 395) 480 ++ ztimB (r + 397) 80)) (ci := 4) (ex := [.int 80]) (exr := [.int 80]) (n := 1) hx hb (hml.trans hl.1.symm) hown hts hK (zc_X4_80 l D g b _) (by decide) rfl rfl zo_m5_35 zo_i4 zo_c4 (by decide +kernel) rfl rfl (Nat.le_of_ble_eq_true rfl) (Nat.le_of_ble_eq_true rfl) (Nat.le_of_ble_eq_true rfl) hP hS (hq _ _ (by simp only [List.length_append, List.length_cons, List.length_nil, zshB_len, zhiB_len, zreB_len, ztimB_len]; rfl)) (Nat.le_of_ble_eq_true rfl) (Nat.le_of_ble_eq_true rfl) dX5_init_82 (fun H locs hP hS => ?_)
  have hP : zBw D g b r (([(5, 0, (((((((zraw 5).2.2.set 0 (some (.inl (r + 1)))).set 1 (some (.inl (r + 27)))).set 3 (some (.inl (r + 53)))).set 4 (some (.inl (r + 367)))).set 5 (some (.inl (r + 395)))).set 6 (some (.inl (r + 397)))))] ++ zshB (r + 1) ++ zshB (r + 27) ++ zhiB (r + 53) ++ zreB (r + 367) ++ ztimB (r + 395) 480 ++ ztimB (r + 397) 80) ++ ztimB (r + 399) 80) H := by simpa only [List.length_append, List.length_cons, List.length_nil, zshB_len, zhiB_len, zreB_len, ztimB_len, Nat.zero_add, Nat.reduceAdd] using hP
  have hP : zBw D g b r ([(5, 0, (((((((zraw 5).2.2.set 0 (some (.inl (r + 1)))).set 1 (some (.inl (r + 27)))).set 3 (some (.inl (r + 53)))).set 4 (some (.inl (r + 367)))).set 5 (some (.inl (r + 395)))).set 6 (some (.inl (r + 397)))))] ++ zshB (r + 1) ++ zshB (r + 27) ++ zhiB (r + 53) ++ zreB (r + 367) ++ ztimB (r + 395) 480 ++ ztimB (r + 397) 80 ++ ztimB (r + 399) 80) _ := hP
  refine zb_putR (ci := 5) (k := 7) (x := r + 399) (n0 := 0) (fs := (((((((zraw 5).2.2.set 0 (some (.inl (r + 1)))).set 1 (some (.inl (r + 27)))).set 3 (some (.inl (r + 53)))).set 4 (some (.inl (r + 367)))).set 5 (some (.inl (r + 395)))).set 6 (some (.inl (r + 397))))) hx hb (by decide) hown hts hK hin rfl (by decide) rfl zo_f5_45 (by simp only [List.length_append, List.length_cons, List.length_nil, zshB_len, zhiB_len, zreB_len, ztimB_len]; omega) (fun _ => rfl) (fun _ => rfl) hP hS dX5_init_85 (fun H locs hP hS => ?_)
  have hP : zBw D g b r ([(5, 0, ((((((((zraw 5).2.2.set 0 (some (.inl (r + 1)))).set 1 (some (.inl (r + 27)))).set 3 (some (.inl (r + 53)))).set 4 (some (.inl (r + 367)))).set 5 (some (.inl (r + 395)))).set 6 (some (.inl (r + 397)))).set 7 (some (.inl (r + 399)))))] ++ zshB (r + 1) ++ zshB (r + 27) ++ zhiB (r + 53) ++ zreB (r + 367) ++ ztimB (r + 395) 480 ++ ztimB (r + 397) 80 ++ ztimB (r + 399) 80) _ := hP
  refine lv_aload_n hx hb dX5_init_88 rfl (lv_at hl 0 rfl) ?_
  refine lv_bipush (v := 81) hx hb dX5_init_89 (by decide) ?_
  refine zb_newi (N := 81) hx hb hts hK zar_i (by decide) (by decide) (by decide) hP hS hlo (hq _ _ (by simp only [List.length_append, List.length_cons, List.length_nil, zshB_len, zhiB_len, zreB_len, ztimB_len]; rfl)) (Nat.le_of_ble_eq_true rfl) (Nat.le_of_ble_eq_true rfl) dX5_init_91 (fun H hP hS => ?_)
  have hP : zBw D g b r ([(5, 0, ((((((((zraw 5).2.2.set 0 (some (.inl (r + 1)))).set 1 (some (.inl (r + 27)))).set 3 (some (.inl (r + 53)))).set 4 (some (.inl (r + 367)))).set 5 (some (.inl (r + 395)))).set 6 (some (.inl (r + 397)))).set 7 (some (.inl (r + 399)))))] ++ zshB (r + 1) ++ zshB (r + 27) ++ zhiB (r + 53) ++ zreB (r + 367) ++ ztimB (r + 395) 480 ++ ztimB (r + 397) 80 ++ ztimB (r + 399) 80 ++ [(20, 81, [])]) _ := hP
  refine zb_putR (ci := 5) (k := 8) (x := r + 401) (n0 := 0) (fs := ((((((((zraw 5).2.2.set 0 (some (.inl (r + 1)))).set 1 (some (.inl (r + 27)))).set 3 (some (.inl (r + 53)))).set 4 (some (.inl (r + 367)))).set 5 (some (.inl (r + 395)))).set 6 (some (.inl (r + 397)))).set 7 (some (.inl (r + 399))))) hx hb (by decide) hown hts hK hin rfl (by decide) rfl zo_f5_48 (by simp only [List.length_append, List.length_cons, List.length_nil, zshB_len, zhiB_len, zreB_len, ztimB_len]; omega) (fun _ => rfl) (fun _ => rfl) hP hS dX5_init_93 (fun H locs hP hS => ?_)
  have hP : zBw D g b r ([(5, 0, (((((((((zraw 5).2.2.set 0 (some (.inl (r + 1)))).set 1 (some (.inl (r + 27)))).set 3 (some (.inl (r + 53)))).set 4 (some (.inl (r + 367)))).set 5 (some (.inl (r + 395)))).set 6 (some (.inl (r + 397)))).set 7 (some (.inl (r + 399)))).set 8 (some (.inl (r + 401)))))] ++ zshB (r + 1) ++ zshB (r + 27) ++ zhiB (r + 53) ++ zreB (r + 367) ++ ztimB (r + 395) 480 ++ ztimB (r + 397) 80 ++ ztimB (r + 399) 80 ++ [(20, 81, [])]) _ := hP
  refine W.widen (k := (zcrm 4 74 401 12884).cells) (n := (zcrm 4 74 401 12884).slots) (Nat.le_of_ble_eq_true rfl) (Nat.le_of_ble_eq_true rfl) ?_
  exact W.vret hx hb hr (fun t ht hW => ⟨⟨(), rfl, trivial, by show zBw D g b r (zspB r) t.heap; rw [ht]; exact hP⟩, hS.F ht⟩) hS.2.2 dX5_init_96
def zmoB (r : Nat) : List zSy := [(6, 0, (((((((((((((zraw 6).2.2.set 1 (some (.inl (r + 1)))).set 2 (some (.inl (r + 2)))).set 3 (some (.inl (r + 3)))).set 4 (some (.inl (r + 4)))).set 5 (some (.inl (r + 5)))).set 8 (some (.inl (r + 6)))).set 9 (some (.inl (r + 7)))).set 16 (some (.inr (-1)))).set 17 (some (.inl (r + 8)))).set 18 (some (.inl (r + 9)))).set 19 (some (.inl (r + 10)))).set 20 (some (.inl (r + 11)))))] ++ [(20, 3, [])] ++ [(20, 745, [])] ++ [(20, 745, [])] ++ [(20, 745, [])] ++ [(20, 8940, [])] ++ [(27, 400, [])] ++ [(27, 400, [])] ++ [(20, 80, [])] ++ [(20, 80, [])] ++ [(20, 6561, [])] ++ [(20, 6561, [])]
set_option maxHeartbeats 4000000 in
set_option maxRecDepth 100000 in
theorem zc_X6 (l : Launch) (D : va_G) (g : zIds) (b r : Nat) : zCt l D g b r 6 yX6_init cX6_init 1 [] (zcrm 1 12 11 25260) (zmoB r) := by
  refine Met.ofW (cc := cX6_init) (maxL := 1) (ret := none) (by decide) rfl ?_
  intro p e s m args below meth c s₁ B hml hv9
  obtain ⟨rfl, hK, hsz, hP⟩ := hv9
  have hx := B.exec
  have hb := B.bytes
  have hr := B.returns
  have hlocks := B.notSynchronized
  have hin : meth.name = "<init>" := (name_of_methodNamed B.named B.method).1
  have hts0 := atoms_spec (ws := .code yX6_init cX6_init 1 none :: zTb) B.pre
  have hts : ∀ w ∈ zTb, w.before [.ref (b + r)].toArray s = true := fun w hw => hts0 w (List.mem_cons_of_mem _ hw)
  have hown : s.vm.findClass (zcn 6) = some m.cls := findClass_of_methodNamed B.named
  have hS : va_S (zBs b r) s.heap s.heap [] := va_S.rf
  have hlo : b + r ≤ s.heap.size := by omega
  have hP : zBw D g b r [zraw 6] s.heap := hP
  have hl := lv_entry ([.ref (b + r)]) (n := 1) (Nat.le_of_ble_eq_true rfl)
  rw [lg_entry_eq]
  generalize (lg_sl ([.ref (b + r)]) ++ List.replicate (1 - (lg_sl ([.ref (b + r)])).length) Slot.unset).toArray = ls at hl ⊢
  have hl : lv_has ls 1 [(0, .ref (b + r))] := hl
  have hq : ∀ n k, n = k + 1 → b + r + n = s.heap.size + k := fun n k h => by omega
  refine lv_aload_n hx hb dX6_init_0 rfl (lv_at hl 0 rfl) ?_
  refine zb_obj hx hb hown hts zo_l6 (by rw [hml]; exact hl.1) dX6_init_1 (Nat.le_of_ble_eq_true rfl) (Nat.le_of_ble_eq_true rfl) ?_
  refine lv_aload_n hx hb dX6_init_4 rfl (lv_at hl 0 rfl) ?_
  refine lv_iconst (v := 3) hx hb dX6_init_5 (by decide) ?_
  refine zb_newi (N := 3) hx hb hts hK zar_i (by decide) (by decide) (by decide) hP hS hlo (hq _ _ rfl) (Nat.le_of_ble_eq_true rfl) (Nat.le_of_ble_eq_true rfl) dX6_init_6 (fun H hP hS => ?_)
  have hP : zBw D g b r ([(6, 0, (zraw 6).2.2)] ++ [(20, 3, [])]) _ := hP
  refine zb_putR (ci := 6) (k := 1) (x := r + 1) (n0 := 0) (fs := (zraw 6).2.2) hx hb (by decide) hown hts hK hin rfl (by decide) rfl zo_f6_7 (Nat.add_assoc b r 1) (fun _ => rfl) (fun _ => rfl) hP hS dX6_init_8 (fun H locs hP hS => ?_)
  have hP : zBw D g b r ([(6, 0, ((zraw 6).2.2.set 1 (some (.inl (r + 1)))))] ++ [(20, 3, [])]) _ := hP
  refine lv_aload_n hx hb dX6_init_11 rfl (lv_at hl 0 rfl) ?_
  refine lv_sipush (v := 745) hx hb dX6_init_12 (by decide) ?_
  refine zb_newi (N := 745) hx hb hts hK zar_i (by decide) (by decide) (by decide) hP hS hlo (hq _ _ rfl) (Nat.le_of_ble_eq_true rfl) (Nat.le_of_ble_eq_true rfl) dX6_init_15 (fun H hP hS => ?_)
  have hP : zBw D g b r ([(6, 0, ((zraw 6).2.2.set 1 (some (.inl (r + 1)))))] ++ [(20, 3, [])] ++ [(20, 745, [])]) _ := hP
  refine zb_putR (ci := 6) (k := 2) (x := r + 2) (n0 := 0) (fs := ((zraw 6).2.2.set 1 (some (.inl (r + 1))))) hx hb (by decide) hown hts hK hin rfl (by decide) rfl zo_f6_17 (Nat.add_assoc b r 2) (fun _ => rfl) (fun _ => rfl) hP hS dX6_init_17 (fun H locs hP hS => ?_)
  have hP : zBw D g b r ([(6, 0, (((zraw 6).2.2.set 1 (some (.inl (r + 1)))).set 2 (some (.inl (r + 2)))))] ++ [(20, 3, [])] ++ [(20, 745, [])]) _ := hP
  refine lv_aload_n hx hb dX6_init_20 rfl (lv_at hl 0 rfl) ?_
  refine lv_sipush (v := 745) hx hb dX6_init_21 (by decide) ?_
  refine zb_newi (N := 745) hx hb hts hK zar_i (by decide) (by decide) (by decide) hP hS hlo (hq _ _ rfl) (Nat.le_of_ble_eq_true rfl) (Nat.le_of_ble_eq_true rfl) dX6_init_24 (fun H hP hS => ?_)
  have hP : zBw D g b r ([(6, 0, (((zraw 6).2.2.set 1 (some (.inl (r + 1)))).set 2 (some (.inl (r + 2)))))] ++ [(20, 3, [])] ++ [(20, 745, [])] ++ [(20, 745, [])]) _ := hP
  refine zb_putR (ci := 6) (k := 3) (x := r + 3) (n0 := 0) (fs := (((zraw 6).2.2.set 1 (some (.inl (r + 1)))).set 2 (some (.inl (r + 2))))) hx hb (by decide) hown hts hK hin rfl (by decide) rfl zo_f6_20 (Nat.add_assoc b r 3) (fun _ => rfl) (fun _ => rfl) hP hS dX6_init_26 (fun H locs hP hS => ?_)
  have hP : zBw D g b r ([(6, 0, ((((zraw 6).2.2.set 1 (some (.inl (r + 1)))).set 2 (some (.inl (r + 2)))).set 3 (some (.inl (r + 3)))))] ++ [(20, 3, [])] ++ [(20, 745, [])] ++ [(20, 745, [])]) _ := hP
  refine lv_aload_n hx hb dX6_init_29 rfl (lv_at hl 0 rfl) ?_
  refine lv_sipush (v := 745) hx hb dX6_init_30 (by decide) ?_
  refine zb_newi (N := 745) hx hb hts hK zar_i (by decide) (by decide) (by decide) hP hS hlo (hq _ _ rfl) (Nat.le_of_ble_eq_true rfl) (Nat.le_of_ble_eq_true rfl) dX6_init_33 (fun H hP hS => ?_)
  have hP : zBw D g b r ([(6, 0, ((((zraw 6).2.2.set 1 (some (.inl (r + 1)))).set 2 (some (.inl (r + 2)))).set 3 (some (.inl (r + 3)))))] ++ [(20, 3, [])] ++ [(20, 745, [])] ++ [(20, 745, [])] ++ [(20, 745, [])]) _ := hP
  refine zb_putR (ci := 6) (k := 4) (x := r + 4) (n0 := 0) (fs := ((((zraw 6).2.2.set 1 (some (.inl (r + 1)))).set 2 (some (.inl (r + 2)))).set 3 (some (.inl (r + 3))))) hx hb (by decide) hown hts hK hin rfl (by decide) rfl zo_f6_23 (Nat.add_assoc b r 4) (fun _ => rfl) (fun _ => rfl) hP hS dX6_init_35 (fun H locs hP hS => ?_)
  have hP : zBw D g b r ([(6, 0, (((((zraw 6).2.2.set 1 (some (.inl (r + 1)))).set 2 (some (.inl (r + 2)))).set 3 (some (.inl (r + 3)))).set 4 (some (.inl (r + 4)))))] ++ [(20, 3, [])] ++ [(20, 745, [])] ++ [(20, 745, [])] ++ [(20, 745, [])]) _ := hP
  refine lv_aload_n hx hb dX6_init_38 rfl (lv_at hl 0 rfl) ?_
  refine lv_sipush (v := 8940) hx hb dX6_init_39 (by decide) ?_
  refine zb_newi (N := 8940) hx hb hts hK zar_i (by decide) (by decide) (by decide) hP hS hlo (hq _ _ rfl) (Nat.le_of_ble_eq_true rfl) (Nat.le_of_ble_eq_true rfl) dX6_init_42 (fun H hP hS => ?_)
  have hP : zBw D g b r ([(6, 0, (((((zraw 6).2.2.set 1 (some (.inl (r + 1)))).set 2 (some (.inl (r + 2)))).set 3 (some (.inl (r + 3)))).set 4 (some (.inl (r + 4)))))] ++ [(20, 3, [])] ++ [(20, 745, [])] ++ [(20, 745, [])] ++ [(20, 745, [])] ++ [(20, 8940, [])]) _ := hP
  refine zb_putR (ci := 6) (k := 5) (x := r + 5) (n0 := 0) (fs := (((((zraw 6).2.2.set 1 (some (.inl (r + 1)))).set 2 (some (.inl (r + 2)))).set 3 (some (.inl (r + 3)))).set 4 (some (.inl (r + 4))))) hx hb (by decide) hown hts hK hin rfl (by decide) rfl zo_f6_26 (Nat.add_assoc b r 5) (fun _ => rfl) (fun _ => rfl) hP hS dX6_init_44 (fun H locs hP hS => ?_)
  have hP : zBw D g b r ([(6, 0, ((((((zraw 6).2.2.set 1 (some (.inl (r + 1)))).set 2 (some (.inl (r + 2)))).set 3 (some (.inl (r + 3)))).set 4 (some (.inl (r + 4)))).set 5 (some (.inl (r + 5)))))] ++ [(20, 3, [])] ++ [(20, 745, [])] ++ [(20, 745, [])] ++ [(20, 745, [])] ++ [(20, 8940, [])]) _ := hP
  refine lv_aload_n hx hb dX6_init_47 rfl (lv_at hl 0 rfl) ?_
  refine lv_sipush (v := 400) hx hb dX6_init_48 (by decide) ?_
  refine zb_newb (N := 400) hx hb hts hK zar_b (by decide) (by decide) (by decide) hP hS hlo (hq _ _ rfl) (Nat.le_of_ble_eq_true rfl) (Nat.le_of_ble_eq_true rfl) dX6_init_51 (fun H hP hS => ?_)
  have hP : zBw D g b r ([(6, 0, ((((((zraw 6).2.2.set 1 (some (.inl (r + 1)))).set 2 (some (.inl (r + 2)))).set 3 (some (.inl (r + 3)))).set 4 (some (.inl (r + 4)))).set 5 (some (.inl (r + 5)))))] ++ [(20, 3, [])] ++ [(20, 745, [])] ++ [(20, 745, [])] ++ [(20, 745, [])] ++ [(20, 8940, [])] ++ [(27, 400, [])]) _ := hP
  refine zb_putR (ci := 6) (k := 8) (x := r + 6) (n0 := 0) (fs := ((((((zraw 6).2.2.set 1 (some (.inl (r + 1)))).set 2 (some (.inl (r + 2)))).set 3 (some (.inl (r + 3)))).set 4 (some (.inl (r + 4)))).set 5 (some (.inl (r + 5))))) hx hb (by decide) hown hts hK hin rfl (by decide) rfl zo_f6_29 (Nat.add_assoc b r 6) (fun _ => rfl) (fun _ => rfl) hP hS dX6_init_53 (fun H locs hP hS => ?_)
  have hP : zBw D g b r ([(6, 0, (((((((zraw 6).2.2.set 1 (some (.inl (r + 1)))).set 2 (some (.inl (r + 2)))).set 3 (some (.inl (r + 3)))).set 4 (some (.inl (r + 4)))).set 5 (some (.inl (r + 5)))).set 8 (some (.inl (r + 6)))))] ++ [(20, 3, [])] ++ [(20, 745, [])] ++ [(20, 745, [])] ++ [(20, 745, [])] ++ [(20, 8940, [])] ++ [(27, 400, [])]) _ := hP
  refine lv_aload_n hx hb dX6_init_56 rfl (lv_at hl 0 rfl) ?_
  refine lv_sipush (v := 400) hx hb dX6_init_57 (by decide) ?_
  refine zb_newb (N := 400) hx hb hts hK zar_b (by decide) (by decide) (by decide) hP hS hlo (hq _ _ rfl) (Nat.le_of_ble_eq_true rfl) (Nat.le_of_ble_eq_true rfl) dX6_init_60 (fun H hP hS => ?_)
  have hP : zBw D g b r ([(6, 0, (((((((zraw 6).2.2.set 1 (some (.inl (r + 1)))).set 2 (some (.inl (r + 2)))).set 3 (some (.inl (r + 3)))).set 4 (some (.inl (r + 4)))).set 5 (some (.inl (r + 5)))).set 8 (some (.inl (r + 6)))))] ++ [(20, 3, [])] ++ [(20, 745, [])] ++ [(20, 745, [])] ++ [(20, 745, [])] ++ [(20, 8940, [])] ++ [(27, 400, [])] ++ [(27, 400, [])]) _ := hP
  refine zb_putR (ci := 6) (k := 9) (x := r + 7) (n0 := 0) (fs := (((((((zraw 6).2.2.set 1 (some (.inl (r + 1)))).set 2 (some (.inl (r + 2)))).set 3 (some (.inl (r + 3)))).set 4 (some (.inl (r + 4)))).set 5 (some (.inl (r + 5)))).set 8 (some (.inl (r + 6))))) hx hb (by decide) hown hts hK hin rfl (by decide) rfl zo_f6_33 (Nat.add_assoc b r 7) (fun _ => rfl) (fun _ => rfl) hP hS dX6_init_62 (fun H locs hP hS => ?_)
  have hP : zBw D g b r ([(6, 0, ((((((((zraw 6).2.2.set 1 (some (.inl (r + 1)))).set 2 (some (.inl (r + 2)))).set 3 (some (.inl (r + 3)))).set 4 (some (.inl (r + 4)))).set 5 (some (.inl (r + 5)))).set 8 (some (.inl (r + 6)))).set 9 (some (.inl (r + 7)))))] ++ [(20, 3, [])] ++ [(20, 745, [])] ++ [(20, 745, [])] ++ [(20, 745, [])] ++ [(20, 8940, [])] ++ [(27, 400, [])] ++ [(27, 400, [])]) _ := hP
  refine lv_aload_n hx hb dX6_init_65 rfl (lv_at hl 0 rfl) ?_
  refine lv_iconst (v := -1) hx hb dX6_init_66 (by decide) ?_
  refine zb_putI (ci := 6) (k := 16) (x := -1) (n0 := 0) (fs := ((((((((zraw 6).2.2.set 1 (some (.inl (r + 1)))).set 2 (some (.inl (r + 2)))).set 3 (some (.inl (r + 3)))).set 4 (some (.inl (r + 4)))).set 5 (some (.inl (r + 5)))).set 8 (some (.inl (r + 6)))).set 9 (some (.inl (r + 7))))) hx hb (by decide) hown hts hK hin rfl (by decide) rfl zo_f6_36 rfl rfl hP hS dX6_init_67 (fun H locs hP hS => ?_)
  have hP : zBw D g b r ([(6, 0, (((((((((zraw 6).2.2.set 1 (some (.inl (r + 1)))).set 2 (some (.inl (r + 2)))).set 3 (some (.inl (r + 3)))).set 4 (some (.inl (r + 4)))).set 5 (some (.inl (r + 5)))).set 8 (some (.inl (r + 6)))).set 9 (some (.inl (r + 7)))).set 16 (some (.inr (-1)))))] ++ [(20, 3, [])] ++ [(20, 745, [])] ++ [(20, 745, [])] ++ [(20, 745, [])] ++ [(20, 8940, [])] ++ [(27, 400, [])] ++ [(27, 400, [])]) _ := hP
  refine lv_aload_n hx hb dX6_init_70 rfl (lv_at hl 0 rfl) ?_
  refine lv_bipush (v := 80) hx hb dX6_init_71 (by decide) ?_
  refine zb_newi (N := 80) hx hb hts hK zar_i (by decide) (by decide) (by decide) hP hS hlo (hq _ _ rfl) (Nat.le_of_ble_eq_true rfl) (Nat.le_of_ble_eq_true rfl) dX6_init_73 (fun H hP hS => ?_)
  have hP : zBw D g b r ([(6, 0, (((((((((zraw 6).2.2.set 1 (some (.inl (r + 1)))).set 2 (some (.inl (r + 2)))).set 3 (some (.inl (r + 3)))).set 4 (some (.inl (r + 4)))).set 5 (some (.inl (r + 5)))).set 8 (some (.inl (r + 6)))).set 9 (some (.inl (r + 7)))).set 16 (some (.inr (-1)))))] ++ [(20, 3, [])] ++ [(20, 745, [])] ++ [(20, 745, [])] ++ [(20, 745, [])] ++ [(20, 8940, [])] ++ [(27, 400, [])] ++ [(27, 400, [])] ++ [(20, 80, [])]) _ := hP
  refine zb_putR (ci := 6) (k := 17) (x := r + 8) (n0 := 0) (fs := (((((((((zraw 6).2.2.set 1 (some (.inl (r + 1)))).set 2 (some (.inl (r + 2)))).set 3 (some (.inl (r + 3)))).set 4 (some (.inl (r + 4)))).set 5 (some (.inl (r + 5)))).set 8 (some (.inl (r + 6)))).set 9 (some (.inl (r + 7)))).set 16 (some (.inr (-1))))) hx hb (by decide) hown hts hK hin rfl (by decide) rfl zo_f6_39 (Nat.add_assoc b r 8) (fun _ => rfl) (fun _ => rfl) hP hS dX6_init_75 (fun H locs hP hS => ?_)
  have hP : zBw D g b r ([(6, 0, ((((((((((zraw 6).2.2.set 1 (some (.inl (r + 1)))).set 2 (some (.inl (r + 2)))).set 3 (some (.inl (r + 3)))).set 4 (some (.inl (r + 4)))).set 5 (some (.inl (r + 5)))).set 8 (some (.inl (r + 6)))).set 9 (some (.inl (r + 7)))).set 16 (some (.inr (-1)))).set 17 (some (.inl (r + 8)))))] ++ [(20, 3, [])] ++ [(20, 745, [])] ++ [(20, 745, [])] ++ [(20, 745, [])] ++ [(20, 8940, [])] ++ [(27, 400, [])] ++ [(27, 400, [])] ++ [(20, 80, [])]) _ := hP
  refine lv_aload_n hx hb dX6_init_78 rfl (lv_at hl 0 rfl) ?_
  refine lv_bipush (v := 80) hx hb dX6_init_79 (by decide) ?_
  refine zb_newi (N := 80) hx hb hts hK zar_i (by decide) (by decide) (by decide) hP hS hlo (hq _ _ rfl) (Nat.le_of_ble_eq_true rfl) (Nat.le_of_ble_eq_true rfl) dX6_init_81 (fun H hP hS => ?_)
  have hP : zBw D g b r ([(6, 0, ((((((((((zraw 6).2.2.set 1 (some (.inl (r + 1)))).set 2 (some (.inl (r + 2)))).set 3 (some (.inl (r + 3)))).set 4 (some (.inl (r + 4)))).set 5 (some (.inl (r + 5)))).set 8 (some (.inl (r + 6)))).set 9 (some (.inl (r + 7)))).set 16 (some (.inr (-1)))).set 17 (some (.inl (r + 8)))))] ++ [(20, 3, [])] ++ [(20, 745, [])] ++ [(20, 745, [])] ++ [(20, 745, [])] ++ [(20, 8940, [])] ++ [(27, 400, [])] ++ [(27, 400, [])] ++ [(20, 80, [])] ++ [(20, 80, [])]) _ := hP
  refine zb_putR (ci := 6) (k := 18) (x := r + 9) (n0 := 0) (fs := ((((((((((zraw 6).2.2.set 1 (some (.inl (r + 1)))).set 2 (some (.inl (r + 2)))).set 3 (some (.inl (r + 3)))).set 4 (some (.inl (r + 4)))).set 5 (some (.inl (r + 5)))).set 8 (some (.inl (r + 6)))).set 9 (some (.inl (r + 7)))).set 16 (some (.inr (-1)))).set 17 (some (.inl (r + 8))))) hx hb (by decide) hown hts hK hin rfl (by decide) rfl zo_f6_42 (Nat.add_assoc b r 9) (fun _ => rfl) (fun _ => rfl) hP hS dX6_init_83 (fun H locs hP hS => ?_)
  have hP : zBw D g b r ([(6, 0, (((((((((((zraw 6).2.2.set 1 (some (.inl (r + 1)))).set 2 (some (.inl (r + 2)))).set 3 (some (.inl (r + 3)))).set 4 (some (.inl (r + 4)))).set 5 (some (.inl (r + 5)))).set 8 (some (.inl (r + 6)))).set 9 (some (.inl (r + 7)))).set 16 (some (.inr (-1)))).set 17 (some (.inl (r + 8)))).set 18 (some (.inl (r + 9)))))] ++ [(20, 3, [])] ++ [(20, 745, [])] ++ [(20, 745, [])] ++ [(20, 745, [])] ++ [(20, 8940, [])] ++ [(27, 400, [])] ++ [(27, 400, [])] ++ [(20, 80, [])] ++ [(20, 80, [])]) _ := hP
  refine lv_aload_n hx hb dX6_init_86 rfl (lv_at hl 0 rfl) ?_
  refine lv_sipush (v := 6561) hx hb dX6_init_87 (by decide) ?_
  refine zb_newi (N := 6561) hx hb hts hK zar_i (by decide) (by decide) (by decide) hP hS hlo (hq _ _ rfl) (Nat.le_of_ble_eq_true rfl) (Nat.le_of_ble_eq_true rfl) dX6_init_90 (fun H hP hS => ?_)
  have hP : zBw D g b r ([(6, 0, (((((((((((zraw 6).2.2.set 1 (some (.inl (r + 1)))).set 2 (some (.inl (r + 2)))).set 3 (some (.inl (r + 3)))).set 4 (some (.inl (r + 4)))).set 5 (some (.inl (r + 5)))).set 8 (some (.inl (r + 6)))).set 9 (some (.inl (r + 7)))).set 16 (some (.inr (-1)))).set 17 (some (.inl (r + 8)))).set 18 (some (.inl (r + 9)))))] ++ [(20, 3, [])] ++ [(20, 745, [])] ++ [(20, 745, [])] ++ [(20, 745, [])] ++ [(20, 8940, [])] ++ [(27, 400, [])] ++ [(27, 400, [])] ++ [(20, 80, [])] ++ [(20, 80, [])] ++ [(20, 6561, [])]) _ := hP
  refine zb_putR (ci := 6) (k := 19) (x := r + 10) (n0 := 0) (fs := (((((((((((zraw 6).2.2.set 1 (some (.inl (r + 1)))).set 2 (some (.inl (r + 2)))).set 3 (some (.inl (r + 3)))).set 4 (some (.inl (r + 4)))).set 5 (some (.inl (r + 5)))).set 8 (some (.inl (r + 6)))).set 9 (some (.inl (r + 7)))).set 16 (some (.inr (-1)))).set 17 (some (.inl (r + 8)))).set 18 (some (.inl (r + 9))))) hx hb (by decide) hown hts hK hin rfl (by decide) rfl zo_f6_45 (Nat.add_assoc b r 10) (fun _ => rfl) (fun _ => rfl) hP hS dX6_init_92 (fun H locs hP hS => ?_)
  have hP : zBw D g b r ([(6, 0, ((((((((((((zraw 6).2.2.set 1 (some (.inl (r + 1)))).set 2 (some (.inl (r + 2)))).set 3 (some (.inl (r + 3)))).set 4 (some (.inl (r + 4)))).set 5 (some (.inl (r + 5)))).set 8 (some (.inl (r + 6)))).set 9 (some (.inl (r + 7)))).set 16 (some (.inr (-1)))).set 17 (some (.inl (r + 8)))).set 18 (some (.inl (r + 9)))).set 19 (some (.inl (r + 10)))))] ++ [(20, 3, [])] ++ [(20, 745, [])] ++ [(20, 745, [])] ++ [(20, 745, [])] ++ [(20, 8940, [])] ++ [(27, 400, [])] ++ [(27, 400, [])] ++ [(20, 80, [])] ++ [(20, 80, [])] ++ [(20, 6561, [])]) _ := hP
  refine lv_aload_n hx hb dX6_init_95 rfl (lv_at hl 0 rfl) ?_
  refine lv_sipush (v := 6561) hx hb dX6_init_96 (by decide) ?_
  refine zb_newi (N := 6561) hx hb hts hK zar_i (by decide) (by decide) (by decide) hP hS hlo (hq _ _ rfl) (Nat.le_of_ble_eq_true rfl) (Nat.le_of_ble_eq_true rfl) dX6_init_99 (fun H hP hS => ?_)
  have hP : zBw D g b r ([(6, 0, ((((((((((((zraw 6).2.2.set 1 (some (.inl (r + 1)))).set 2 (some (.inl (r + 2)))).set 3 (some (.inl (r + 3)))).set 4 (some (.inl (r + 4)))).set 5 (some (.inl (r + 5)))).set 8 (some (.inl (r + 6)))).set 9 (some (.inl (r + 7)))).set 16 (some (.inr (-1)))).set 17 (some (.inl (r + 8)))).set 18 (some (.inl (r + 9)))).set 19 (some (.inl (r + 10)))))] ++ [(20, 3, [])] ++ [(20, 745, [])] ++ [(20, 745, [])] ++ [(20, 745, [])] ++ [(20, 8940, [])] ++ [(27, 400, [])] ++ [(27, 400, [])] ++ [(20, 80, [])] ++ [(20, 80, [])] ++ [(20, 6561, [])] ++ [(20, 6561, [])]) _ := hP
  refine zb_putR (ci := 6) (k := 20) (x := r + 11) (n0 := 0) (fs := ((((((((((((zraw 6).2.2.set 1 (some (.inl (r + 1)))).set 2 (some (.inl (r + 2)))).set 3 (some (.inl (r + 3)))).set 4 (some (.inl (r + 4)))).set 5 (some (.inl (r + 5)))).set 8 (some (.inl (r + 6)))).set 9 (some (.inl (r + 7)))).set 16 (some (.inr (-1)))).set 17 (some (.inl (r + 8)))).set 18 (some (.inl (r + 9)))).set 19 (some (.inl (r + 10))))) hx hb (by decide) hown hts hK hin rfl (by decide) rfl zo_f6_48 (Nat.add_assoc b r 11) (fun _ => rfl) (fun _ => rfl) hP hS dX6_init_101 (fun H locs hP hS => ?_)
  have hP : zBw D g b r ([(6, 0, (((((((((((((zraw 6).2.2.set 1 (some (.inl (r + 1)))).set 2 (some (.inl (r + 2)))).set 3 (some (.inl (r + 3)))).set 4 (some (.inl (r + 4)))).set 5 (some (.inl (r + 5)))).set 8 (some (.inl (r + 6)))).set 9 (some (.inl (r + 7)))).set 16 (some (.inr (-1)))).set 17 (some (.inl (r + 8)))).set 18 (some (.inl (r + 9)))).set 19 (some (.inl (r + 10)))).set 20 (some (.inl (r + 11)))))] ++ [(20, 3, [])] ++ [(20, 745, [])] ++ [(20, 745, [])] ++ [(20, 745, [])] ++ [(20, 8940, [])] ++ [(27, 400, [])] ++ [(27, 400, [])] ++ [(20, 80, [])] ++ [(20, 80, [])] ++ [(20, 6561, [])] ++ [(20, 6561, [])]) _ := hP
  refine W.widen (k := (zcrm 1 12 11 25260).cells) (n := (zcrm 1 12 11 25260).slots) (Nat.le_of_ble_eq_true rfl) (Nat.le_of_ble_eq_true rfl) ?_
  exact W.vret hx hb hr (fun t ht hW => ⟨⟨(), rfl, trivial, by show zBw D g b r (zmoB r) t.heap; rw [ht]; exact hP⟩, hS.F ht⟩) hS.2.2 dX6_init_104
