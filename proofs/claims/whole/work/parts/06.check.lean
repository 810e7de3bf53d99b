def zxn (a : Nat) : String := match a with
  | 0 => "java/util/NoSuchElementException"
  | 1 => "java/lang/IllegalArgumentException"
  | _ => "java/lang/IllegalStateException"
/-- place, class, entry, which exception, its constructor's entry -/
def zXL : List (Nat × Nat × Nat × Nat × Nat) := [(374, 5, 312, 1, 314), (704, 5, 309, 0, 311), (733, 5, 315, 2, 317)]
theorem zXL_ok : zXL.all (fun q => decide (lw_tbl[q.1]? = some (Cond.classLink (zcn q.2.1) q.2.2.1 (zxn q.2.2.2.1)))) = true := by decide +kernel
/-- the methods with a long among their variables (in the place 1) -/
def zlong (j : Nat) : Bool := Nat.beq j 120 || Nat.beq j 243
def zst (j a : Nat) : Bool := Nat.ble (a + 1) (zP j).2 && !(zlong j && (Nat.beq a 2 || Nat.beq a 1))
def zck (j pc : Nat) (ins : Instr) (nx a b : Nat) (c : Int32) (ts : List Nat) : Bool := match ins with
  | .iconst n => Nat.beq nx (pc + 1) && decide (Int32.ofInt n = c)
  | .bipush n => Nat.beq nx (pc + 2) && decide ((Int8.ofInt n).toInt32 = c)
  | .sipush n => Nat.beq nx (pc + 3) && decide ((Int16.ofInt n).toInt32 = c)
  | .ldc i => Nat.beq nx (pc + 2) && (match a with
    | 0 => zKC.any (fun q => Nat.beq q.2.1 (zown j) && Nat.beq q.2.2.1 i && decide (q.2.2.2 = c))
    | _ => zSL.any (fun q => Nat.beq q.2.1 (zown j) && Nat.beq q.2.2.1 i && Nat.beq q.2.2.2 b))
  | .ldc_w i => Nat.beq nx (pc + 3) && zKC.any (fun q => Nat.beq q.2.1 (zown j) && Nat.beq q.2.2.1 i && decide (q.2.2.2 = c))
  | .ldc2_w i => Nat.beq nx (pc + 3) && zKJ.any (fun q => Nat.beq q.2.1 (zown j) && Nat.beq q.2.2.1 i && Nat.beq q.2.2.2 a)
  | .lconst n => Nat.beq nx (pc + 1) && Nat.beq n.val a
  | .iload i => Nat.beq nx (pc + 2) && Nat.beq i a
  | .aload i => Nat.beq nx (pc + 2) && Nat.beq i a
  | .iload_n k => Nat.beq nx (pc + 1) && Nat.beq k.val a
  | .aload_n k => Nat.beq nx (pc + 1) && Nat.beq k.val a
  | .lload_n k => Nat.beq nx (pc + 1) && Nat.beq k.val a
  | .istore i => Nat.beq nx (pc + 2) && Nat.beq i a && zst j a
  | .astore i => Nat.beq nx (pc + 2) && Nat.beq i a && zst j a
  | .istore_n k => Nat.beq nx (pc + 1) && Nat.beq k.val a && zst j a
  | .astore_n k => Nat.beq nx (pc + 1) && Nat.beq k.val a && zst j a
  | .lstore_n k => Nat.beq nx (pc + 1) && Nat.beq k.val a && Nat.beq a 1 && zlong j && Nat.ble 3 (zP j).2
  | .iinc i n => Nat.beq nx (pc + 3) && Nat.beq i a && decide (Int32.ofInt n = c) && zst j a
  | .goto off => Nat.beq nx (pc + 3) && decide ((pc : Int) + off = (a : Int))
  | .if_icmp _ off => Nat.beq nx (pc + 3) && decide ((pc : Int) + off = (a : Int))
  | .ifCond _ off => Nat.beq nx (pc + 3) && decide ((pc : Int) + off = (a : Int))
  | .ifnonnull off => Nat.beq nx (pc + 3) && decide ((pc : Int) + off = (a : Int))
  | .tableswitch d lo hi offs => decide ((pc : Int) + d = (a : Int)) && decide (c = 0) && decide (lo = 0) && decide (hi + 1 = (ts.length : Int)) && Nat.ble ts.length 100 && decide (offs.toList = ts.map (fun (t : Nat) => (t : Int) - (pc : Int)))
  | .getfield i => Nat.beq nx (pc + 3) && zFL.any (fun q => Nat.beq q.2.1 (zown j) && Nat.beq q.2.2.1 i && Nat.beq q.2.2.2.1 a && Nat.beq q.2.2.2.2 b) && Nat.ble (b + 1) (zNf a) && Nat.ble a 6
  | .putfield i => Nat.beq nx (pc + 3) && zFL.any (fun q => Nat.beq q.2.1 (zown j) && Nat.beq q.2.2.1 i && Nat.beq q.2.2.2.1 a && Nat.beq q.2.2.2.2 b) && Nat.ble (b + 1) (zNf a) && Nat.ble a 6 && !(zT a b).2.2.2 && decide (zTy a b = bif zbl a b then FieldType.boolean else FieldType.int)
  | .new i => decide (decode (zcc j) (pc + 3) = .ok (.dup, 1)) && decide (decode (zcc j) (pc + 7) = .ok (.athrow, 1)) && zXL.any (fun q => Nat.beq q.2.1 (zown j) && Nat.beq q.2.2.1 i && Nat.beq q.2.2.2.1 a && decide (decode (zcc j) (pc + 4) = .ok (.invokespecial q.2.2.2.2, 3))) && Nat.ble a 2 && Nat.beq (zown j) 5 && Nat.ble 6 (zfr j) && Nat.ble 89 (zlo j) && Nat.beq nx (pc + 3)
  | .invokestatic i => Nat.beq nx (pc + 3) && (bif Nat.ble 1000 a then Nat.ble a 1003 && zJL.any (fun q => Nat.beq q.2.1 (zown j) && Nat.beq q.2.2.1 i && Nat.beq q.2.2.2 a) && Nat.ble 2 (zfr j) && Nat.ble 40 (zlo j) && (Nat.ble a 1002 || Nat.ble 100 (zlo j))
    else Nat.ble (a + 1) 245 && zML.any (fun q => Nat.beq q.2.1 (zown j) && Nat.beq q.2.2.1 i && Nat.beq q.2.2.2 a) && (match zMW[a]? with
      | some q => q.1
      | none => false) && decide ((parseMethodDescriptor (zy a).desc).map (fun d => d.parameters.length) = some b) && Nat.ble (zfr a + 1) (zfr j) && Nat.ble (8 + ((zP a).2 + 11) + zlo a) (zlo j) && Nat.beq (zown a) (zown j) && Nat.ble b (zP a).2)
  | .invokevirtual i => Nat.beq nx (pc + 3) && (bif Nat.ble 1000 a then Nat.ble 1010 a && Nat.ble a 1011 && zJL.any (fun q => Nat.beq q.2.1 (zown j) && Nat.beq q.2.2.1 i && Nat.beq q.2.2.2 a) && Nat.ble 6 (zfr j) && Nat.ble 130 (zlo j)
    else Nat.ble (a + 1) 245 && zML.any (fun q => Nat.beq q.2.1 (zown j) && Nat.beq q.2.2.1 i && Nat.beq q.2.2.2 a) && (match zMW[a]? with
      | some q => !q.1
      | none => false) && decide ((parseMethodDescriptor (zy a).desc).map (fun d => d.parameters.length) = some b) && Nat.ble (zfr a + 1) (zfr j) && Nat.ble (8 + ((zP a).2 + 11) + zlo a) (zlo j) && Nat.beq (10 + zown a) (ts.getD 1 0) && Nat.ble (b + 1) (zP a).2)
  | .ireturn => Nat.beq nx (pc + 1) && decide (zret j = bif Nat.beq a 0 then some FieldType.int else some FieldType.boolean)
  | .lreturn => Nat.beq nx (pc + 1) && decide (zret j = some FieldType.long)
  | .areturn => Nat.beq nx (pc + 1) && decide (zret j = some (FieldType.object "SpeechTiers$Row"))
  | .return_ => Nat.beq nx (pc + 1) && decide (zret j = none)
  | .aaload => Nat.beq nx (pc + 1)
  | .aconst_null => Nat.beq nx (pc + 1)
  | .arraylength => Nat.beq nx (pc + 1)
  | .baload => Nat.beq nx (pc + 1)
  | .bastore => Nat.beq nx (pc + 1)
  | .dup => Nat.beq nx (pc + 1)
  | .dup2 => Nat.beq nx (pc + 1)
  | .i2b => Nat.beq nx (pc + 1)
  | .i2l => Nat.beq nx (pc + 1)
  | .iadd => Nat.beq nx (pc + 1)
  | .iaload => Nat.beq nx (pc + 1)
  | .iand => Nat.beq nx (pc + 1)
  | .iastore => Nat.beq nx (pc + 1)
  | .idiv => Nat.beq nx (pc + 1)
  | .imul => Nat.beq nx (pc + 1)
  | .ior => Nat.beq nx (pc + 1)
  | .irem => Nat.beq nx (pc + 1)
  | .ishl => Nat.beq nx (pc + 1)
  | .ishr => Nat.beq nx (pc + 1)
  | .isub => Nat.beq nx (pc + 1)
  | .ladd => Nat.beq nx (pc + 1)
  | .lcmp => Nat.beq nx (pc + 1)
  | .lmul => Nat.beq nx (pc + 1)
  | .pop => Nat.beq nx (pc + 1)
  | _ => false
def zchk (j pc : Nat) (e : zEnt) : Bool := decide (decode (zcc j) pc = .ok (e.1, e.2.1 - pc)) && zck j pc e.1 e.2.1 e.2.2.1 e.2.2.2.1 e.2.2.2.2.1 e.2.2.2.2.2
def zchkM (j N : Nat) : Bool := Nat.ble (zMI j).2.2.2.2.2 6 && decide ((zy j).cls = zcn (zown j)) && plainName (zy j).cls && (List.range N).all (fun pc => match (zP j).1 pc with
  | none => true
  | some e => zchk j pc e)
set_option maxRecDepth 100000 in
theorem zc_0 : zchkM 0 11 = true := by decide +kernel
set_option maxRecDepth 100000 in
theorem zc_1 : zchkM 1 54 = true := by decide +kernel
set_option maxRecDepth 100000 in
theorem zc_2 : zchkM 2 56 = true := by decide +kernel
set_option maxRecDepth 100000 in
theorem zc_3 : zchkM 3 47 = true := by decide +kernel
set_option maxRecDepth 100000 in
theorem zc_4 : zchkM 4 120 = true := by decide +kernel
set_option maxRecDepth 100000 in
theorem zc_5 : zchkM 5 12 = true := by decide +kernel
set_option maxRecDepth 100000 in
theorem zc_6 : zchkM 6 125 = true := by decide +kernel
set_option maxRecDepth 100000 in
theorem zc_7 : zchkM 7 102 = true := by decide +kernel
set_option maxRecDepth 100000 in
theorem zc_8 : zchkM 8 80 = true := by decide +kernel
set_option maxRecDepth 100000 in
theorem zc_9 : zchkM 9 18 = true := by decide +kernel
set_option maxRecDepth 100000 in
theorem zc_10 : zchkM 10 18 = true := by decide +kernel
set_option maxRecDepth 100000 in
theorem zc_11 : zchkM 11 39 = true := by decide +kernel
set_option maxRecDepth 100000 in
theorem zc_12 : zchkM 12 60 = true := by decide +kernel
set_option maxRecDepth 100000 in
theorem zc_13 : zchkM 13 22 = true := by decide +kernel
set_option maxRecDepth 100000 in
theorem zc_14 : zchkM 14 19 = true := by decide +kernel
set_option maxRecDepth 100000 in
theorem zc_15 : zchkM 15 50 = true := by decide +kernel
set_option maxRecDepth 100000 in
theorem zc_16 : zchkM 16 46 = true := by decide +kernel
set_option maxRecDepth 100000 in
theorem zc_17 : zchkM 17 54 = true := by decide +kernel
set_option maxRecDepth 100000 in
theorem zc_18 : zchkM 18 54 = true := by decide +kernel
set_option maxRecDepth 100000 in
theorem zc_19 : zchkM 19 136 = true := by decide +kernel
set_option maxRecDepth 100000 in
theorem zc_20 : zchkM 20 54 = true := by decide +kernel
set_option maxRecDepth 100000 in
theorem zc_21 : zchkM 21 153 = true := by decide +kernel
set_option maxRecDepth 100000 in
theorem zc_22 : zchkM 22 150 = true := by decide +kernel
set_option maxRecDepth 100000 in
theorem zc_23 : zchkM 23 67 = true := by decide +kernel
set_option maxRecDepth 100000 in
theorem zc_24 : zchkM 24 73 = true := by decide +kernel
set_option maxRecDepth 100000 in
theorem zc_25 : zchkM 25 94 = true := by decide +kernel
set_option maxRecDepth 100000 in
theorem zc_26 : zchkM 26 15 = true := by decide +kernel
set_option maxRecDepth 100000 in
theorem zc_27 : zchkM 27 18 = true := by decide +kernel
set_option maxRecDepth 100000 in
theorem zc_28 : zchkM 28 14 = true := by decide +kernel
set_option maxRecDepth 100000 in
theorem zc_29 : zchkM 29 28 = true := by decide +kernel
set_option maxRecDepth 100000 in
theorem zc_30 : zchkM 30 126 = true := by decide +kernel
set_option maxRecDepth 100000 in
theorem zc_31 : zchkM 31 80 = true := by decide +kernel
set_option maxRecDepth 100000 in
theorem zc_32 : zchkM 32 43 = true := by decide +kernel
set_option maxRecDepth 100000 in
theorem zc_33 : zchkM 33 44 = true := by decide +kernel
set_option maxRecDepth 100000 in
theorem zc_34 : zchkM 34 40 = true := by decide +kernel
set_option maxRecDepth 100000 in
theorem zc_35 : zchkM 35 26 = true := by decide +kernel
set_option maxRecDepth 100000 in
theorem zc_36 : zchkM 36 60 = true := by decide +kernel
set_option maxRecDepth 100000 in
theorem zc_37 : zchkM 37 30 = true := by decide +kernel
set_option maxRecDepth 100000 in
theorem zc_38 : zchkM 38 26 = true := by decide +kernel
set_option maxRecDepth 100000 in
theorem zc_39 : zchkM 39 89 = true := by decide +kernel
set_option maxRecDepth 100000 in
theorem zc_40 : zchkM 40 50 = true := by decide +kernel
set_option maxRecDepth 100000 in
theorem zc_41 : zchkM 41 40 = true := by decide +kernel
set_option maxRecDepth 100000 in
theorem zc_42 : zchkM 42 40 = true := by decide +kernel
set_option maxRecDepth 100000 in
theorem zc_43 : zchkM 43 45 = true := by decide +kernel
set_option maxRecDepth 100000 in
theorem zc_44 : zchkM 44 37 = true := by decide +kernel
set_option maxRecDepth 100000 in
theorem zc_45 : zchkM 45 10 = true := by decide +kernel
set_option maxRecDepth 100000 in
theorem zc_46 : zchkM 46 54 = true := by decide +kernel
set_option maxRecDepth 100000 in
theorem zc_47 : zchkM 47 51 = true := by decide +kernel
set_option maxRecDepth 100000 in
theorem zc_48 : zchkM 48 57 = true := by decide +kernel
set_option maxRecDepth 100000 in
theorem zc_49 : zchkM 49 6 = true := by decide +kernel
set_option maxRecDepth 100000 in
theorem zc_50 : zchkM 50 40 = true := by decide +kernel
set_option maxRecDepth 100000 in
theorem zc_51 : zchkM 51 18 = true := by decide +kernel
set_option maxRecDepth 100000 in
theorem zc_52 : zchkM 52 33 = true := by decide +kernel
set_option maxRecDepth 100000 in
theorem zc_53 : zchkM 53 32 = true := by decide +kernel
set_option maxRecDepth 100000 in
theorem zc_54 : zchkM 54 6 = true := by decide +kernel
set_option maxRecDepth 100000 in
theorem zc_55 : zchkM 55 36 = true := by decide +kernel
set_option maxRecDepth 100000 in
theorem zc_56 : zchkM 56 176 = true := by decide +kernel
set_option maxRecDepth 100000 in
theorem zc_57 : zchkM 57 52 = true := by decide +kernel
set_option maxRecDepth 100000 in
theorem zc_58 : zchkM 58 57 = true := by decide +kernel
set_option maxRecDepth 100000 in
theorem zc_59 : zchkM 59 53 = true := by decide +kernel
set_option maxRecDepth 100000 in
theorem zc_60 : zchkM 60 21 = true := by decide +kernel
set_option maxRecDepth 100000 in
theorem zc_61 : zchkM 61 77 = true := by decide +kernel
set_option maxRecDepth 100000 in
theorem zc_62 : zchkM 62 35 = true := by decide +kernel
set_option maxRecDepth 100000 in
theorem zc_63 : zchkM 63 62 = true := by decide +kernel
set_option maxRecDepth 100000 in
theorem zc_64 : zchkM 64 41 = true := by decide +kernel
set_option maxRecDepth 100000 in
theorem zc_65 : zchkM 65 57 = true := by decide +kernel
set_option maxRecDepth 100000 in
theorem zc_66 : zchkM 66 50 = true := by decide +kernel
set_option maxRecDepth 100000 in
theorem zc_67 : zchkM 67 61 = true := by decide +kernel
set_option maxRecDepth 100000 in
theorem zc_68 : zchkM 68 51 = true := by decide +kernel
set_option maxRecDepth 100000 in
theorem zc_69 : zchkM 69 118 = true := by decide +kernel
set_option maxRecDepth 100000 in
theorem zc_70 : zchkM 70 49 = true := by decide +kernel
set_option maxRecDepth 100000 in
theorem zc_71 : zchkM 71 49 = true := by decide +kernel
set_option maxRecDepth 100000 in
theorem zc_72 : zchkM 72 87 = true := by decide +kernel
set_option maxRecDepth 100000 in
theorem zc_73 : zchkM 73 42 = true := by decide +kernel
set_option maxRecDepth 100000 in
theorem zc_74 : zchkM 74 58 = true := by decide +kernel
set_option maxRecDepth 100000 in
theorem zc_75 : zchkM 75 70 = true := by decide +kernel
set_option maxRecDepth 100000 in
theorem zc_76 : zchkM 76 67 = true := by decide +kernel
set_option maxRecDepth 100000 in
theorem zc_77 : zchkM 77 44 = true := by decide +kernel
set_option maxRecDepth 100000 in
theorem zc_78 : zchkM 78 50 = true := by decide +kernel
set_option maxRecDepth 100000 in
theorem zc_79 : zchkM 79 134 = true := by decide +kernel
set_option maxRecDepth 100000 in
theorem zc_80 : zchkM 80 136 = true := by decide +kernel
set_option maxRecDepth 100000 in
theorem zc_81 : zchkM 81 26 = true := by decide +kernel
set_option maxRecDepth 100000 in
theorem zc_82 : zchkM 82 55 = true := by decide +kernel
set_option maxRecDepth 100000 in
theorem zc_83 : zchkM 83 72 = true := by decide +kernel
set_option maxRecDepth 100000 in
theorem zc_84 : zchkM 84 58 = true := by decide +kernel
set_option maxRecDepth 100000 in
theorem zc_85 : zchkM 85 28 = true := by decide +kernel
set_option maxRecDepth 100000 in
theorem zc_86 : zchkM 86 6 = true := by decide +kernel
set_option maxRecDepth 100000 in
theorem zc_87 : zchkM 87 60 = true := by decide +kernel
set_option maxRecDepth 100000 in
theorem zc_88 : zchkM 88 30 = true := by decide +kernel
set_option maxRecDepth 100000 in
theorem zc_89 : zchkM 89 85 = true := by decide +kernel
set_option maxRecDepth 100000 in
theorem zc_90 : zchkM 90 66 = true := by decide +kernel
set_option maxRecDepth 100000 in
theorem zc_91 : zchkM 91 68 = true := by decide +kernel
set_option maxRecDepth 100000 in
theorem zc_92 : zchkM 92 64 = true := by decide +kernel
set_option maxRecDepth 100000 in
theorem zc_93 : zchkM 93 8 = true := by decide +kernel
set_option maxRecDepth 100000 in
theorem zc_94 : zchkM 94 66 = true := by decide +kernel
set_option maxRecDepth 100000 in
theorem zc_95 : zchkM 95 73 = true := by decide +kernel
set_option maxRecDepth 100000 in
theorem zc_96 : zchkM 96 115 = true := by decide +kernel
set_option maxRecDepth 100000 in
theorem zc_97 : zchkM 97 112 = true := by decide +kernel
set_option maxRecDepth 100000 in
theorem zc_98 : zchkM 98 52 = true := by decide +kernel
set_option maxRecDepth 100000 in
theorem zc_99 : zchkM 99 63 = true := by decide +kernel
set_option maxRecDepth 100000 in
theorem zc_100 : zchkM 100 62 = true := by decide +kernel
set_option maxRecDepth 100000 in
theorem zc_101 : zchkM 101 62 = true := by decide +kernel
set_option maxRecDepth 100000 in
theorem zc_102 : zchkM 102 118 = true := by decide +kernel
set_option maxRecDepth 100000 in
theorem zc_103 : zchkM 103 148 = true := by decide +kernel
set_option maxRecDepth 100000 in
theorem zc_104 : zchkM 104 26 = true := by decide +kernel
set_option maxRecDepth 100000 in
theorem zc_105 : zchkM 105 24 = true := by decide +kernel
set_option maxRecDepth 100000 in
theorem zc_106 : zchkM 106 103 = true := by decide +kernel
set_option maxRecDepth 100000 in
theorem zc_107 : zchkM 107 139 = true := by decide +kernel
set_option maxRecDepth 100000 in
theorem zc_108 : zchkM 108 148 = true := by decide +kernel
set_option maxRecDepth 100000 in
theorem zc_109 : zchkM 109 24 = true := by decide +kernel
set_option maxRecDepth 100000 in
theorem zc_110 : zchkM 110 125 = true := by decide +kernel
set_option maxRecDepth 100000 in
theorem zc_111 : zchkM 111 157 = true := by decide +kernel
set_option maxRecDepth 100000 in
theorem zc_112 : zchkM 112 64 = true := by decide +kernel
set_option maxRecDepth 100000 in
theorem zc_113 : zchkM 113 129 = true := by decide +kernel
set_option maxRecDepth 100000 in
theorem zc_114 : zchkM 114 144 = true := by decide +kernel
set_option maxRecDepth 100000 in
theorem zc_115 : zchkM 115 122 = true := by decide +kernel
set_option maxRecDepth 100000 in
theorem zc_116 : zchkM 116 57 = true := by decide +kernel
set_option maxRecDepth 100000 in
theorem zc_117 : zchkM 117 55 = true := by decide +kernel
set_option maxRecDepth 100000 in
theorem zc_118 : zchkM 118 109 = true := by decide +kernel
set_option maxRecDepth 100000 in
theorem zc_119 : zchkM 119 105 = true := by decide +kernel
set_option maxRecDepth 100000 in
theorem zc_120 : zchkM 120 107 = true := by decide +kernel
set_option maxRecDepth 100000 in
theorem zc_121 : zchkM 121 45 = true := by decide +kernel
set_option maxRecDepth 100000 in
theorem zc_122 : zchkM 122 11 = true := by decide +kernel
set_option maxRecDepth 100000 in
theorem zc_123 : zchkM 123 11 = true := by decide +kernel
set_option maxRecDepth 100000 in
theorem zc_124 : zchkM 124 23 = true := by decide +kernel
set_option maxRecDepth 100000 in
theorem zc_125 : zchkM 125 16 = true := by decide +kernel
set_option maxRecDepth 100000 in
theorem zc_126 : zchkM 126 26 = true := by decide +kernel
set_option maxRecDepth 100000 in
theorem zc_127 : zchkM 127 33 = true := by decide +kernel
set_option maxRecDepth 100000 in
theorem zc_128 : zchkM 128 15 = true := by decide +kernel
set_option maxRecDepth 100000 in
theorem zc_129 : zchkM 129 10 = true := by decide +kernel
set_option maxRecDepth 100000 in
theorem zc_130 : zchkM 130 20 = true := by decide +kernel
set_option maxRecDepth 100000 in
theorem zc_131 : zchkM 131 55 = true := by decide +kernel
set_option maxRecDepth 100000 in
theorem zc_132 : zchkM 132 42 = true := by decide +kernel
set_option maxRecDepth 100000 in
theorem zc_133 : zchkM 133 63 = true := by decide +kernel
set_option maxRecDepth 100000 in
theorem zc_134 : zchkM 134 166 = true := by decide +kernel
set_option maxRecDepth 100000 in
theorem zc_135 : zchkM 135 5 = true := by decide +kernel
set_option maxRecDepth 100000 in
theorem zc_136 : zchkM 136 39 = true := by decide +kernel
set_option maxRecDepth 100000 in
theorem zc_137 : zchkM 137 16 = true := by decide +kernel
set_option maxRecDepth 100000 in
theorem zc_138 : zchkM 138 7 = true := by decide +kernel
set_option maxRecDepth 100000 in
theorem zc_139 : zchkM 139 9 = true := by decide +kernel
set_option maxRecDepth 100000 in
theorem zc_140 : zchkM 140 11 = true := by decide +kernel
set_option maxRecDepth 100000 in
theorem zc_141 : zchkM 141 11 = true := by decide +kernel
set_option maxRecDepth 100000 in
theorem zc_142 : zchkM 142 11 = true := by decide +kernel
set_option maxRecDepth 100000 in
theorem zc_143 : zchkM 143 15 = true := by decide +kernel
set_option maxRecDepth 100000 in
theorem zc_144 : zchkM 144 12 = true := by decide +kernel
set_option maxRecDepth 100000 in
theorem zc_145 : zchkM 145 12 = true := by decide +kernel
set_option maxRecDepth 100000 in
theorem zc_146 : zchkM 146 12 = true := by decide +kernel
set_option maxRecDepth 100000 in
theorem zc_147 : zchkM 147 22 = true := by decide +kernel
set_option maxRecDepth 100000 in
theorem zc_148 : zchkM 148 22 = true := by decide +kernel
set_option maxRecDepth 100000 in
theorem zc_149 : zchkM 149 27 = true := by decide +kernel
set_option maxRecDepth 100000 in
theorem zc_150 : zchkM 150 29 = true := by decide +kernel
set_option maxRecDepth 100000 in
theorem zc_151 : zchkM 151 73 = true := by decide +kernel
set_option maxRecDepth 100000 in
theorem zc_152 : zchkM 152 46 = true := by decide +kernel
set_option maxRecDepth 100000 in
theorem zc_153 : zchkM 153 131 = true := by decide +kernel
set_option maxRecDepth 100000 in
theorem zc_154 : zchkM 154 58 = true := by decide +kernel
set_option maxRecDepth 100000 in
theorem zc_155 : zchkM 155 45 = true := by decide +kernel
set_option maxRecDepth 100000 in
theorem zc_156 : zchkM 156 58 = true := by decide +kernel
set_option maxRecDepth 100000 in
theorem zc_157 : zchkM 157 41 = true := by decide +kernel
set_option maxRecDepth 100000 in
theorem zc_158 : zchkM 158 39 = true := by decide +kernel
set_option maxRecDepth 100000 in
theorem zc_159 : zchkM 159 58 = true := by decide +kernel
set_option maxRecDepth 100000 in
theorem zc_160 : zchkM 160 70 = true := by decide +kernel
set_option maxRecDepth 100000 in
theorem zc_161 : zchkM 161 82 = true := by decide +kernel
set_option maxRecDepth 100000 in
theorem zc_162 : zchkM 162 41 = true := by decide +kernel
set_option maxRecDepth 100000 in
theorem zc_163 : zchkM 163 63 = true := by decide +kernel
set_option maxRecDepth 100000 in
theorem zc_164 : zchkM 164 51 = true := by decide +kernel
set_option maxRecDepth 100000 in
theorem zc_165 : zchkM 165 57 = true := by decide +kernel
set_option maxRecDepth 100000 in
theorem zc_166 : zchkM 166 52 = true := by decide +kernel
set_option maxRecDepth 100000 in
theorem zc_167 : zchkM 167 37 = true := by decide +kernel
set_option maxRecDepth 100000 in
theorem zc_168 : zchkM 168 19 = true := by decide +kernel
set_option maxRecDepth 100000 in
theorem zc_169 : zchkM 169 63 = true := by decide +kernel
set_option maxRecDepth 100000 in
theorem zc_170 : zchkM 170 36 = true := by decide +kernel
set_option maxRecDepth 100000 in
theorem zc_171 : zchkM 171 96 = true := by decide +kernel
set_option maxRecDepth 100000 in
theorem zc_172 : zchkM 172 128 = true := by decide +kernel
set_option maxRecDepth 100000 in
theorem zc_173 : zchkM 173 29 = true := by decide +kernel
set_option maxRecDepth 100000 in
theorem zc_174 : zchkM 174 148 = true := by decide +kernel
set_option maxRecDepth 100000 in
theorem zc_175 : zchkM 175 30 = true := by decide +kernel
set_option maxRecDepth 100000 in
theorem zc_176 : zchkM 176 56 = true := by decide +kernel
set_option maxRecDepth 100000 in
theorem zc_177 : zchkM 177 323 = true := by decide +kernel
set_option maxRecDepth 100000 in
theorem zc_178 : zchkM 178 18 = true := by decide +kernel
set_option maxRecDepth 100000 in
theorem zc_179 : zchkM 179 107 = true := by decide +kernel
set_option maxRecDepth 100000 in
theorem zc_180 : zchkM 180 86 = true := by decide +kernel
set_option maxRecDepth 100000 in
theorem zc_181 : zchkM 181 137 = true := by decide +kernel
set_option maxRecDepth 100000 in
theorem zc_182 : zchkM 182 51 = true := by decide +kernel
set_option maxRecDepth 100000 in
theorem zc_183 : zchkM 183 85 = true := by decide +kernel
set_option maxRecDepth 100000 in
theorem zc_184 : zchkM 184 140 = true := by decide +kernel
set_option maxRecDepth 100000 in
theorem zc_185 : zchkM 185 29 = true := by decide +kernel
set_option maxRecDepth 100000 in
theorem zc_186 : zchkM 186 194 = true := by decide +kernel
set_option maxRecDepth 100000 in
theorem zc_187 : zchkM 187 10 = true := by decide +kernel
set_option maxRecDepth 100000 in
theorem zc_188 : zchkM 188 97 = true := by decide +kernel
set_option maxRecDepth 100000 in
theorem zc_189 : zchkM 189 18 = true := by decide +kernel
set_option maxRecDepth 100000 in
theorem zc_190 : zchkM 190 41 = true := by decide +kernel
set_option maxRecDepth 100000 in
theorem zc_191 : zchkM 191 98 = true := by decide +kernel
set_option maxRecDepth 100000 in
theorem zc_192 : zchkM 192 78 = true := by decide +kernel
set_option maxRecDepth 100000 in
theorem zc_193 : zchkM 193 44 = true := by decide +kernel
set_option maxRecDepth 100000 in
theorem zc_194 : zchkM 194 35 = true := by decide +kernel
set_option maxRecDepth 100000 in
theorem zc_195 : zchkM 195 61 = true := by decide +kernel
set_option maxRecDepth 100000 in
theorem zc_196 : zchkM 196 187 = true := by decide +kernel
set_option maxRecDepth 100000 in
theorem zc_197 : zchkM 197 68 = true := by decide +kernel
set_option maxRecDepth 100000 in
theorem zc_198 : zchkM 198 107 = true := by decide +kernel
set_option maxRecDepth 100000 in
theorem zc_199 : zchkM 199 115 = true := by decide +kernel
set_option maxRecDepth 100000 in
theorem zc_200 : zchkM 200 126 = true := by decide +kernel
set_option maxRecDepth 100000 in
theorem zc_201 : zchkM 201 27 = true := by decide +kernel
set_option maxRecDepth 100000 in
theorem zc_202 : zchkM 202 32 = true := by decide +kernel
set_option maxRecDepth 100000 in
theorem zc_203 : zchkM 203 39 = true := by decide +kernel
set_option maxRecDepth 100000 in
theorem zc_204 : zchkM 204 103 = true := by decide +kernel
set_option maxRecDepth 100000 in
theorem zc_205 : zchkM 205 83 = true := by decide +kernel
set_option maxRecDepth 100000 in
theorem zc_206 : zchkM 206 64 = true := by decide +kernel
set_option maxRecDepth 100000 in
theorem zc_207 : zchkM 207 48 = true := by decide +kernel
set_option maxRecDepth 100000 in
theorem zc_208 : zchkM 208 187 = true := by decide +kernel
set_option maxRecDepth 100000 in
theorem zc_209 : zchkM 209 49 = true := by decide +kernel
set_option maxRecDepth 100000 in
theorem zc_210 : zchkM 210 56 = true := by decide +kernel
set_option maxRecDepth 100000 in
theorem zc_211 : zchkM 211 130 = true := by decide +kernel
set_option maxRecDepth 100000 in
theorem zc_212 : zchkM 212 92 = true := by decide +kernel
set_option maxRecDepth 100000 in
theorem zc_213 : zchkM 213 26 = true := by decide +kernel
set_option maxRecDepth 100000 in
theorem zc_214 : zchkM 214 104 = true := by decide +kernel
set_option maxRecDepth 100000 in
theorem zc_215 : zchkM 215 47 = true := by decide +kernel
set_option maxRecDepth 100000 in
theorem zc_216 : zchkM 216 257 = true := by decide +kernel
set_option maxRecDepth 100000 in
theorem zc_217 : zchkM 217 176 = true := by decide +kernel
set_option maxRecDepth 100000 in
theorem zc_218 : zchkM 218 65 = true := by decide +kernel
set_option maxRecDepth 100000 in
theorem zc_219 : zchkM 219 30 = true := by decide +kernel
set_option maxRecDepth 100000 in
theorem zc_220 : zchkM 220 37 = true := by decide +kernel
set_option maxRecDepth 100000 in
theorem zc_221 : zchkM 221 105 = true := by decide +kernel
set_option maxRecDepth 100000 in
theorem zc_222 : zchkM 222 37 = true := by decide +kernel
set_option maxRecDepth 100000 in
theorem zc_223 : zchkM 223 37 = true := by decide +kernel
set_option maxRecDepth 100000 in
theorem zc_224 : zchkM 224 36 = true := by decide +kernel
set_option maxRecDepth 100000 in
theorem zc_225 : zchkM 225 143 = true := by decide +kernel
set_option maxRecDepth 100000 in
theorem zc_226 : zchkM 226 75 = true := by decide +kernel
set_option maxRecDepth 100000 in
theorem zc_227 : zchkM 227 139 = true := by decide +kernel
set_option maxRecDepth 100000 in
theorem zc_228 : zchkM 228 41 = true := by decide +kernel
set_option maxRecDepth 100000 in
theorem zc_229 : zchkM 229 239 = true := by decide +kernel
set_option maxRecDepth 100000 in
theorem zc_230 : zchkM 230 204 = true := by decide +kernel
set_option maxRecDepth 100000 in
theorem zc_231 : zchkM 231 65 = true := by decide +kernel
set_option maxRecDepth 100000 in
theorem zc_232 : zchkM 232 159 = true := by decide +kernel
set_option maxRecDepth 100000 in
theorem zc_233 : zchkM 233 193 = true := by decide +kernel
set_option maxRecDepth 100000 in
theorem zc_234 : zchkM 234 64 = true := by decide +kernel
set_option maxRecDepth 100000 in
theorem zc_235 : zchkM 235 63 = true := by decide +kernel
set_option maxRecDepth 100000 in
theorem zc_236 : zchkM 236 30 = true := by decide +kernel
set_option maxRecDepth 100000 in
theorem zc_237 : zchkM 237 47 = true := by decide +kernel
set_option maxRecDepth 100000 in
theorem zc_238 : zchkM 238 170 = true := by decide +kernel
set_option maxRecDepth 100000 in
theorem zc_239 : zchkM 239 101 = true := by decide +kernel
set_option maxRecDepth 100000 in
theorem zc_240 : zchkM 240 143 = true := by decide +kernel
set_option maxRecDepth 100000 in
theorem zc_241 : zchkM 241 50 = true := by decide +kernel
set_option maxRecDepth 100000 in
theorem zc_242 : zchkM 242 168 = true := by decide +kernel
set_option maxRecDepth 100000 in
theorem zc_243 : zchkM 243 86 = true := by decide +kernel
set_option maxRecDepth 100000 in
theorem zc_244 : zchkM 244 25 = true := by decide +kernel
