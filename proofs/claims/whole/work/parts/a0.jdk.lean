/-! the methods of a text that the launch holds as code -/
def RJ0 : String := "java/lang/String"
def RJ1 : String := "java/lang/StringLatin1"
def RJ3 : String := "jdk/internal/util/Preconditions"
abbrev cJ0_length_8abf5 : ByteArray := prog_17_method_54_code
def yJ0_length_8abf5 : MethodName := ⟨RJ0, "length", "()I"⟩
abbrev cJ0_coder_7d493 : ByteArray := prog_17_method_152_code
def yJ0_coder_7d493 : MethodName := ⟨RJ0, "coder", "()B"⟩
abbrev cJ0_charAt_5068e : ByteArray := prog_17_method_56_code
def yJ0_charAt_5068e : MethodName := ⟨RJ0, "charAt", "(I)C"⟩
abbrev cJ0_isLatin1_aae02 : ByteArray := prog_17_method_154_code
def yJ0_isLatin1_aae02 : MethodName := ⟨RJ0, "isLatin1", "()Z"⟩
abbrev cJ1_charAt_3b067 : ByteArray := prog_18_method_2_code
def yJ1_charAt_3b067 : MethodName := ⟨RJ1, "charAt", "([BI)C"⟩
abbrev cJ0_checkIndex_df160 : ByteArray := prog_17_method_155_code
def yJ0_checkIndex_df160 : MethodName := ⟨RJ0, "checkIndex", "(II)V"⟩
abbrev cJ3_checkIndex_8e157 : ByteArray := prog_25_method_11_code
def yJ3_checkIndex_8e157 : MethodName := ⟨RJ3, "checkIndex", "(IILjava/util/function/BiFunction;)I"⟩
theorem dJ0_length_8abf5_0 : decode cJ0_length_8abf5 0 = .ok (.aload_n 0, 1) := by decide +kernel
theorem dJ0_length_8abf5_1 : decode cJ0_length_8abf5 1 = .ok (.getfield 9, 3) := by decide +kernel
theorem dJ0_length_8abf5_4 : decode cJ0_length_8abf5 4 = .ok (.arraylength, 1) := by decide +kernel
theorem dJ0_length_8abf5_5 : decode cJ0_length_8abf5 5 = .ok (.aload_n 0, 1) := by decide +kernel
theorem dJ0_length_8abf5_6 : decode cJ0_length_8abf5 6 = .ok (.invokevirtual 335, 3) := by decide +kernel
theorem dJ0_length_8abf5_9 : decode cJ0_length_8abf5 9 = .ok (.ishr, 1) := by decide +kernel
theorem dJ0_length_8abf5_10 : decode cJ0_length_8abf5 10 = .ok (.ireturn, 1) := by decide +kernel
theorem dJ0_coder_7d493_0 : decode cJ0_coder_7d493 0 = .ok (.getstatic 38, 3) := by decide +kernel
theorem dJ0_coder_7d493_3 : decode cJ0_coder_7d493 3 = .ok (.ifCond .eq 10, 3) := by decide +kernel
theorem dJ0_coder_7d493_6 : decode cJ0_coder_7d493 6 = .ok (.aload_n 0, 1) := by decide +kernel
theorem dJ0_coder_7d493_7 : decode cJ0_coder_7d493 7 = .ok (.getfield 15, 3) := by decide +kernel
theorem dJ0_coder_7d493_10 : decode cJ0_coder_7d493 10 = .ok (.goto 4, 3) := by decide +kernel
theorem dJ0_coder_7d493_13 : decode cJ0_coder_7d493 13 = .ok (.iconst 1, 1) := by decide +kernel
theorem dJ0_coder_7d493_14 : decode cJ0_coder_7d493 14 = .ok (.ireturn, 1) := by decide +kernel
theorem dJ0_charAt_5068e_0 : decode cJ0_charAt_5068e 0 = .ok (.aload_n 0, 1) := by decide +kernel
theorem dJ0_charAt_5068e_1 : decode cJ0_charAt_5068e 1 = .ok (.invokevirtual 492, 3) := by decide +kernel
theorem dJ0_charAt_5068e_4 : decode cJ0_charAt_5068e 4 = .ok (.ifCond .eq 12, 3) := by decide +kernel
theorem dJ0_charAt_5068e_7 : decode cJ0_charAt_5068e 7 = .ok (.aload_n 0, 1) := by decide +kernel
theorem dJ0_charAt_5068e_8 : decode cJ0_charAt_5068e 8 = .ok (.getfield 9, 3) := by decide +kernel
theorem dJ0_charAt_5068e_11 : decode cJ0_charAt_5068e 11 = .ok (.iload_n 1, 1) := by decide +kernel
theorem dJ0_charAt_5068e_12 : decode cJ0_charAt_5068e 12 = .ok (.invokestatic 495, 3) := by decide +kernel
theorem dJ0_charAt_5068e_15 : decode cJ0_charAt_5068e 15 = .ok (.ireturn, 1) := by decide +kernel
theorem dJ0_charAt_5068e_16 : decode cJ0_charAt_5068e 16 = .ok (.aload_n 0, 1) := by decide +kernel
theorem dJ0_charAt_5068e_17 : decode cJ0_charAt_5068e 17 = .ok (.getfield 9, 3) := by decide +kernel
theorem dJ0_charAt_5068e_20 : decode cJ0_charAt_5068e 20 = .ok (.iload_n 1, 1) := by decide +kernel
theorem dJ0_charAt_5068e_21 : decode cJ0_charAt_5068e 21 = .ok (.invokestatic 498, 3) := by decide +kernel
theorem dJ0_charAt_5068e_24 : decode cJ0_charAt_5068e 24 = .ok (.ireturn, 1) := by decide +kernel
theorem dJ0_isLatin1_aae02_0 : decode cJ0_isLatin1_aae02 0 = .ok (.getstatic 38, 3) := by decide +kernel
theorem dJ0_isLatin1_aae02_3 : decode cJ0_isLatin1_aae02 3 = .ok (.ifCond .eq 14, 3) := by decide +kernel
theorem dJ0_isLatin1_aae02_6 : decode cJ0_isLatin1_aae02 6 = .ok (.aload_n 0, 1) := by decide +kernel
theorem dJ0_isLatin1_aae02_7 : decode cJ0_isLatin1_aae02 7 = .ok (.getfield 15, 3) := by decide +kernel
theorem dJ0_isLatin1_aae02_10 : decode cJ0_isLatin1_aae02 10 = .ok (.ifCond .ne 7, 3) := by decide +kernel
theorem dJ0_isLatin1_aae02_13 : decode cJ0_isLatin1_aae02 13 = .ok (.iconst 1, 1) := by decide +kernel
theorem dJ0_isLatin1_aae02_14 : decode cJ0_isLatin1_aae02 14 = .ok (.goto 4, 3) := by decide +kernel
theorem dJ0_isLatin1_aae02_17 : decode cJ0_isLatin1_aae02 17 = .ok (.iconst 0, 1) := by decide +kernel
theorem dJ0_isLatin1_aae02_18 : decode cJ0_isLatin1_aae02 18 = .ok (.ireturn, 1) := by decide +kernel
theorem dJ1_charAt_3b067_0 : decode cJ1_charAt_3b067 0 = .ok (.iload_n 1, 1) := by decide +kernel
theorem dJ1_charAt_3b067_1 : decode cJ1_charAt_3b067 1 = .ok (.aload_n 0, 1) := by decide +kernel
theorem dJ1_charAt_3b067_2 : decode cJ1_charAt_3b067 2 = .ok (.arraylength, 1) := by decide +kernel
theorem dJ1_charAt_3b067_3 : decode cJ1_charAt_3b067 3 = .ok (.invokestatic 9, 3) := by decide +kernel
theorem dJ1_charAt_3b067_6 : decode cJ1_charAt_3b067 6 = .ok (.aload_n 0, 1) := by decide +kernel
theorem dJ1_charAt_3b067_7 : decode cJ1_charAt_3b067 7 = .ok (.iload_n 1, 1) := by decide +kernel
theorem dJ1_charAt_3b067_8 : decode cJ1_charAt_3b067 8 = .ok (.baload, 1) := by decide +kernel
theorem dJ1_charAt_3b067_9 : decode cJ1_charAt_3b067 9 = .ok (.sipush 255, 3) := by decide +kernel
theorem dJ1_charAt_3b067_12 : decode cJ1_charAt_3b067 12 = .ok (.iand, 1) := by decide +kernel
theorem dJ1_charAt_3b067_13 : decode cJ1_charAt_3b067 13 = .ok (.i2c, 1) := by decide +kernel
theorem dJ1_charAt_3b067_14 : decode cJ1_charAt_3b067 14 = .ok (.ireturn, 1) := by decide +kernel
theorem dJ0_checkIndex_df160_0 : decode cJ0_checkIndex_df160 0 = .ok (.iload_n 0, 1) := by decide +kernel
theorem dJ0_checkIndex_df160_1 : decode cJ0_checkIndex_df160 1 = .ok (.iload_n 1, 1) := by decide +kernel
theorem dJ0_checkIndex_df160_2 : decode cJ0_checkIndex_df160 2 = .ok (.getstatic 1053, 3) := by decide +kernel
theorem dJ0_checkIndex_df160_5 : decode cJ0_checkIndex_df160 5 = .ok (.invokestatic 1059, 3) := by decide +kernel
theorem dJ0_checkIndex_df160_8 : decode cJ0_checkIndex_df160 8 = .ok (.pop, 1) := by decide +kernel
theorem dJ0_checkIndex_df160_9 : decode cJ0_checkIndex_df160 9 = .ok (.return_, 1) := by decide +kernel
theorem dJ3_checkIndex_8e157_0 : decode cJ3_checkIndex_8e157 0 = .ok (.iload_n 0, 1) := by decide +kernel
theorem dJ3_checkIndex_8e157_1 : decode cJ3_checkIndex_8e157 1 = .ok (.ifCond .lt 8, 3) := by decide +kernel
theorem dJ3_checkIndex_8e157_4 : decode cJ3_checkIndex_8e157 4 = .ok (.iload_n 0, 1) := by decide +kernel
theorem dJ3_checkIndex_8e157_5 : decode cJ3_checkIndex_8e157 5 = .ok (.iload_n 1, 1) := by decide +kernel
theorem dJ3_checkIndex_8e157_6 : decode cJ3_checkIndex_8e157 6 = .ok (.if_icmp .lt 10, 3) := by decide +kernel
theorem dJ3_checkIndex_8e157_9 : decode cJ3_checkIndex_8e157 9 = .ok (.aload_n 2, 1) := by decide +kernel
theorem dJ3_checkIndex_8e157_10 : decode cJ3_checkIndex_8e157 10 = .ok (.iload_n 0, 1) := by decide +kernel
theorem dJ3_checkIndex_8e157_11 : decode cJ3_checkIndex_8e157 11 = .ok (.iload_n 1, 1) := by decide +kernel
theorem dJ3_checkIndex_8e157_12 : decode cJ3_checkIndex_8e157 12 = .ok (.invokestatic 95, 3) := by decide +kernel
theorem dJ3_checkIndex_8e157_15 : decode cJ3_checkIndex_8e157 15 = .ok (.athrow, 1) := by decide +kernel
theorem dJ3_checkIndex_8e157_16 : decode cJ3_checkIndex_8e157 16 = .ok (.iload_n 0, 1) := by decide +kernel
theorem dJ3_checkIndex_8e157_17 : decode cJ3_checkIndex_8e157 17 = .ok (.ireturn, 1) := by decide +kernel
theorem zq_s0 : Cond.initialized RJ0 ∈ zTb := zTb_in (i := 96) (by decide +kernel) rfl
theorem zq_s1 : Cond.initialized RJ1 ∈ zTb := zTb_in (i := 97) (by decide +kernel) rfl
theorem zq_s3 : Cond.initialized RJ3 ∈ zTb := zTb_in (i := 98) (by decide +kernel) rfl
theorem zq_len_i : Cond.instanceMethod yJ0_length_8abf5 ∈ zTb := zTb_in (i := 473) (by decide +kernel) rfl
theorem zq_len_s : Cond.selects RJ0 yJ0_length_8abf5 yJ0_length_8abf5 ∈ zTb := zTb_in (i := 474) (by decide +kernel) rfl
theorem zq_len_c : Cond.code yJ0_length_8abf5 cJ0_length_8abf5 1 (some .int) ∈ zTb := zTb_in (i := 475) (by decide +kernel) rfl
theorem zq_co_l : Cond.methodLink RJ0 335 yJ0_coder_7d493 ∈ zTb := zTb_in (i := 476) (by decide +kernel) rfl
theorem zq_co_i : Cond.instanceMethod yJ0_coder_7d493 ∈ zTb := zTb_in (i := 477) (by decide +kernel) rfl
theorem zq_co_s : Cond.selects RJ0 yJ0_coder_7d493 yJ0_coder_7d493 ∈ zTb := zTb_in (i := 478) (by decide +kernel) rfl
theorem zq_co_c : Cond.code yJ0_coder_7d493 cJ0_coder_7d493 1 (some .byte) ∈ zTb := zTb_in (i := 479) (by decide +kernel) rfl
theorem zq_cs : Cond.fieldLink RJ0 38 "java/lang/String" "COMPACT_STRINGS" "Z" ∈ zTb := zTb_in (i := 480) (by decide +kernel) rfl
theorem zq_ch_i : Cond.instanceMethod yJ0_charAt_5068e ∈ zTb := zTb_in (i := 483) (by decide +kernel) rfl
theorem zq_ch_s : Cond.selects RJ0 yJ0_charAt_5068e yJ0_charAt_5068e ∈ zTb := zTb_in (i := 484) (by decide +kernel) rfl
theorem zq_ch_c : Cond.code yJ0_charAt_5068e cJ0_charAt_5068e 2 (some .char) ∈ zTb := zTb_in (i := 485) (by decide +kernel) rfl
theorem zq_la_l : Cond.methodLink RJ0 492 yJ0_isLatin1_aae02 ∈ zTb := zTb_in (i := 486) (by decide +kernel) rfl
theorem zq_la_i : Cond.instanceMethod yJ0_isLatin1_aae02 ∈ zTb := zTb_in (i := 487) (by decide +kernel) rfl
theorem zq_la_s : Cond.selects RJ0 yJ0_isLatin1_aae02 yJ0_isLatin1_aae02 ∈ zTb := zTb_in (i := 488) (by decide +kernel) rfl
theorem zq_la_c : Cond.code yJ0_isLatin1_aae02 cJ0_isLatin1_aae02 1 (some .boolean) ∈ zTb := zTb_in (i := 489) (by decide +kernel) rfl
theorem zq_c1_l : Cond.methodLink RJ0 495 yJ1_charAt_3b067 ∈ zTb := zTb_in (i := 490) (by decide +kernel) rfl
theorem zq_c1_s : Cond.static yJ1_charAt_3b067 ∈ zTb := zTb_in (i := 491) (by decide +kernel) rfl
theorem zq_c1_c : Cond.code yJ1_charAt_3b067 cJ1_charAt_3b067 2 (some .char) ∈ zTb := zTb_in (i := 492) (by decide +kernel) rfl
theorem zq_ci_l : Cond.methodLink RJ1 9 yJ0_checkIndex_df160 ∈ zTb := zTb_in (i := 493) (by decide +kernel) rfl
theorem zq_ci_s : Cond.static yJ0_checkIndex_df160 ∈ zTb := zTb_in (i := 494) (by decide +kernel) rfl
theorem zq_ci_c : Cond.code yJ0_checkIndex_df160 cJ0_checkIndex_df160 2 none ∈ zTb := zTb_in (i := 495) (by decide +kernel) rfl
theorem zq_si : Cond.fieldLink RJ0 1053 "jdk/internal/util/Preconditions" "SIOOBE_FORMATTER" "Ljava/util/function/BiFunction;" ∈ zTb := zTb_in (i := 496) (by decide +kernel) rfl
theorem zq_pi_l : Cond.methodLink RJ0 1059 yJ3_checkIndex_8e157 ∈ zTb := zTb_in (i := 498) (by decide +kernel) rfl
theorem zq_pi_s : Cond.static yJ3_checkIndex_8e157 ∈ zTb := zTb_in (i := 499) (by decide +kernel) rfl
theorem zq_pi_c : Cond.code yJ3_checkIndex_8e157 cJ3_checkIndex_8e157 3 (some .int) ∈ zTb := zTb_in (i := 500) (by decide +kernel) rfl
theorem zq_va : Cond.fieldLink RJ0 9 "java/lang/String" "value" "[B" ∈ zTb := zTb_in (i := 1661) (by decide +kernel) rfl
theorem zq_cd : Cond.fieldLink RJ0 15 "java/lang/String" "coder" "B" ∈ zTb := zTb_in (i := 1662) (by decide +kernel) rfl
/-- nothing is changed, nothing made -/
abbrev zno : Addr → Prop := fun _ => False
def zjrm (f n : Nat) : Room := { frames := f, cells := 0, slots := 0, locals := n }
/-- the texts, and what their methods read of the machine -/
def zOq (adr : Nat → Nat → Nat) (adV : Nat → Nat) (U : State) : Prop := vk_S 9 zlens zbyts (fun i => adr 1 i) adV zno U U.heap ∧ va_Z "java/lang/String" "COMPACT_STRINGS" "Z" (.int 1) zno U U.heap ∧ va_Zq "jdk/internal/util/Preconditions" "SIOOBE_FORMATTER" "Ljava/util/function/BiFunction;" zno U U.heap
theorem zOq_moved {adr : Nat → Nat → Nat} {adV : Nat → Nat} {u U : State} (hh : U.heap = u.heap) (hvm : u.vm.Alike U.vm) (h : zOq adr adV u) : zOq adr adV U := by
  unfold zOq
  rw [hh]
  exact ⟨vk_S.moved hvm h.1, va_Z.moved hvm h.2.1, va_Zq.moved hvm h.2.2⟩
theorem zOq_step {adr : Nat → Nat → Nat} {adV : Nat → Nat} {u U : State} (hh : ∀ q : Nat, q < u.heap.size → U.heap[q]? = u.heap[q]?) (hvm : u.vm.Alike U.vm) (h : zOq adr adV u) : zOq adr adV U :=
  ⟨(vk_S.moved hvm h.1).kept (fun q hq _ => hh q hq), (va_Z.moved hvm h.2.1).kept (fun q hq _ => hh q hq), (va_Zq.moved hvm h.2.2).kept (fun q hq _ => hh q hq)⟩
abbrev zQi (n : Int32) : Array Value → State → Outcome → State → Prop := va_Qi (fun r (_ : Unit) => r = n) (fun _ _ => True) zno
theorem zGs {own : String} {idx : Nat} {y : MethodName} {b : ByteArray} {n : Nat} {r : Option FieldType} (h1 : Cond.methodLink own idx y ∈ zTb) (h2 : Cond.static y ∈ zTb) (h3 : Cond.initialized y.cls ∈ zTb) (h4 : Cond.code y b n r ∈ zTb) : GoodIn zTb (va_wsS own idx y (Cond.code y b n r :: zTb)) := zGoodIn (fun w hw => by
  rcases List.mem_append.mp hw with hw | hw
  · simp only [List.mem_cons, List.not_mem_nil, or_false] at hw
    rcases hw with rfl | rfl | rfl
    · exact h1
    · exact h2
    · exact h3
  · rcases List.mem_cons.mp hw with rfl | hw
    · exact h4
    · exact hw)
theorem zGv {own C : String} {idx : Nat} {y : MethodName} {b : ByteArray} {n : Nat} {r : Option FieldType} (h1 : Cond.methodLink own idx y ∈ zTb) (h2 : Cond.instanceMethod y ∈ zTb) (h3 : Cond.selects C y y ∈ zTb) (h5 : Cond.initialized C ∈ zTb) (h4 : Cond.code y b n r ∈ zTb) : GoodIn zTb (wsV own idx C y (Cond.code y b n r :: zTb)) := zGoodIn (fun w hw => by
  rcases List.mem_append.mp hw with hw | hw
  · simp only [List.mem_cons, List.not_mem_nil, or_false] at hw
    rcases hw with rfl | rfl | rfl | rfl
    · exact h1
    · exact h2
    · exact h3
    · exact h5
  · rcases List.mem_cons.mp hw with rfl | hw
    · exact h4
    · exact hw)
set_option maxHeartbeats 4000000 in
/-- Preconditions.checkIndex -/
theorem zj_pre (l : Launch) {i n : Int32} {v : Value} (h0 : ¬ i < 0) (h1 : i < n) (hv : v = .null ∨ ∃ t, v = .ref t) : Met l yJ3_checkIndex_8e157 (.code yJ3_checkIndex_8e157 cJ3_checkIndex_8e157 3 (some .int) :: zTb) (zjrm 0 0) (va_Pc [.int i, .int n, v] (fun _ => True)) (zQi i) 0 0 zno := by
  refine Met.ofW (cc := cJ3_checkIndex_8e157) (maxL := 3) (ret := some .int) (by decide) rfl ?_
  intro p e s m args below meth c s₁ B hml hv9
  obtain ⟨rfl, -⟩ := hv9
  have hx := B.exec
  have hb := B.bytes
  have hr := B.returns
  have hlocks := B.notSynchronized
  have key : ∀ ls : Array Slot, lv_has ls 3 [(0, .int i), (1, .int n)] → W p l e (zjrm 0 0) s m [.int i, .int n, v].toArray below meth c s.heap [] 0 0 (MQ below (zQi i) [.int i, .int n, v].toArray s 0 0 zno) (F0 m 0 ls []) := by
    intro ls hl
    refine lv_iload_n hx hb dJ3_checkIndex_8e157_0 rfl (lv_at hl 0 rfl) ?_
    refine lv_if_lt hx hb dJ3_checkIndex_8e157_1 rfl (fun q => absurd q h0) (fun _ => ?_)
    refine lv_iload_n hx hb dJ3_checkIndex_8e157_4 rfl (lv_at hl 0 rfl) ?_
    refine lv_iload_n hx hb dJ3_checkIndex_8e157_5 rfl (lv_at hl 1 rfl) ?_
    refine lv_icmp_lt (tgt := 16) hx hb dJ3_checkIndex_8e157_6 rfl (fun _ => ?_) (fun q => absurd h1 q)
    refine lv_iload_n hx hb dJ3_checkIndex_8e157_16 rfl (lv_at hl 0 rfl) ?_
    exact W.iret hx hb hr (fun t ht hW => ⟨⟨i, (), rfl, rfl, trivial⟩, va_S.rf.F ht⟩) (fun _ h => by cases h) dJ3_checkIndex_8e157_17
  rcases hv with rfl | ⟨t, rfl⟩
  · have hl := lv_entry ([.int i, .int n, .null]) (n := 3) (Nat.le_of_ble_eq_true rfl)
    rw [lg_entry_eq]
    exact key _ (lv_sub hl [0, 1] rfl)
  · have hl := lv_entry ([.int i, .int n, .ref t]) (n := 3) (Nat.le_of_ble_eq_true rfl)
    rw [lg_entry_eq]
    exact key _ (lv_sub hl [0, 1] rfl)
theorem zOq_call {adr : Nat → Nat → Nat} {adV : Nat → Nat} {s U : State} {H : Heap} {locs : List Loc} (h : zOq adr adV s) (hS : va_S zno s.heap H locs) (hU : U.heap = H) (hW : s.WarmedH U.vm) : zOq adr adV U :=
  zOq_step (fun q hq => by rw [hU]; exact hS.2.1 q hq (fun z => z)) hW.alike h
theorem zOq_blind {adr : Nat → Nat → Nat} {adV : Nat → Nat} {av : List Value} : FrameBlind (va_Pc av (zOq adr adV)) := fun a U g mk q => ⟨q.1, zOq_moved (u := U) (U := U.calling g mk a) rfl (Vm.Alike.refl U.vm) q.2⟩
set_option maxHeartbeats 4000000 in
/-- String.checkIndex -/
theorem zj_ci (l : Launch) {adr : Nat → Nat → Nat} {adV : Nat → Nat} {i n : Int32} (h0 : ¬ i < 0) (h1 : i < n) : Met l yJ0_checkIndex_df160 (.code yJ0_checkIndex_df160 cJ0_checkIndex_df160 2 none :: zTb) (zjrm 1 22) (va_Pc [.int i, .int n] (zOq adr adV)) (va_Qv (fun _ : Unit => True) (fun _ _ => True) zno) 0 0 zno := by
  refine Met.ofW (cc := cJ0_checkIndex_df160) (maxL := 2) (ret := none) (by decide) rfl ?_
  intro p e s m args below meth c s₁ B hml hv9
  obtain ⟨rfl, hO⟩ := hv9
  have hx := B.exec
  have hb := B.bytes
  have hr := B.returns
  have hlocks := B.notSynchronized
  have hts0 := atoms_spec (ws := .code yJ0_checkIndex_df160 cJ0_checkIndex_df160 2 none :: zTb) B.pre
  have hts : ∀ w ∈ zTb, w.before [.int i, .int n].toArray s = true := fun w hw => hts0 w (List.mem_cons_of_mem _ hw)
  have hown : s.vm.findClass RJ0 = some m.cls := findClass_of_methodNamed B.named
  have hS : va_S zno s.heap s.heap [] := va_S.rf
  have hl := lv_entry ([.int i, .int n]) (n := 2) (Nat.le_of_ble_eq_true rfl)
  rw [lg_entry_eq]
  generalize (lg_sl ([.int i, .int n]) ++ List.replicate (2 - (lg_sl ([.int i, .int n])).length) Slot.unset).toArray = ls at hl ⊢
  have hl : lv_has ls 2 [(0, .int i), (1, .int n)] := hl
  have key : ∀ v : Value, (v = .null ∨ ∃ t, v = .ref t) → W p l e (zjrm 1 22) s m [.int i, .int n].toArray below meth c s.heap [] 0 0 (MQ below (va_Qv (fun _ : Unit => True) (fun _ _ => True) zno) [.int i, .int n].toArray s 0 0 zno) (F0 m 5 ls [v, .int n, .int i]) := by
    intro v hv
    refine va_calli (va_runS (As := [.int i, .int n, v]) (rest := []) ⟨hx, hb, hml, hown, hts⟩ (zj_pre l h0 h1 hv) (va_cwS 3 hts (zGs zq_pi_l zq_pi_s zq_s3 zq_pi_c) rfl rfl rfl (by decide +kernel) ⟨Nat.le_of_ble_eq_true rfl, Nat.le_of_ble_eq_true rfl⟩) ⟨fun a U g mk q => ⟨q.1, trivial⟩, fun U hU hW => ⟨rfl, trivial⟩⟩ rfl rfl hl.1 rfl (lv_room (Nat.le_of_ble_eq_true rfl)) dJ0_checkIndex_df160_5 ⟨Nat.le_refl _, Nat.le_refl _⟩) hS (fun _ _ h => h.elim) (fun _ h => h.elim) (fun r u t H1 locs1 ht hvm hr1 hB hz hk hS1 => ?_)
    refine lv_pop hx hb dJ0_checkIndex_df160_8 rfl ?_
    exact W.vret hx hb hr (fun t ht hW => ⟨⟨(), rfl, trivial, trivial⟩, hS1.F ht⟩) hS1.2.2 dJ0_checkIndex_df160_9
  refine lv_iload_n hx hb dJ0_checkIndex_df160_0 rfl (lv_at hl 0 rfl) ?_
  refine lv_iload_n hx hb dJ0_checkIndex_df160_1 rfl (lv_at hl 1 rfl) ?_
  rcases hO.2.2 with hZ | ⟨t, hZ⟩
  · exact va_gets hx hb hZ hS hown (hts _ zq_si) (fun _ h => h) dJ0_checkIndex_df160_2 (key _ (Or.inl rfl))
  · exact va_gets hx hb hZ hS hown (hts _ zq_si) (fun _ h => h) dJ0_checkIndex_df160_2 (key _ (Or.inr ⟨t, rfl⟩))
/-- what charAt makes of a byte -/
def zch (k : Nat) (j : Nat) : Int32 := ((((zbyts.getD k []).getD j 0) &&& 255).toUInt32 % 65536).toInt32
theorem zch_all : ∀ k, k < 9 → ∀ j, j < zlens.getD k 0 → zch k j = (zstr k).getD j 0 := by decide +kernel
theorem zlens_all : ∀ k, k < 9 → zlens.getD k 0 = (zstr k).length ∧ zlens.getD k 0 < 7 ∧ (Int32.ofNat (zlens.getD k 0)) >>> ((0 : Int32) &&& 31) = Int32.ofNat (zstr k).length := by decide +kernel
theorem zj_lt {j : Int32} {n : Nat} (h0 : ¬ j < 0) (h1 : j.toNatClampNeg < n) (hn : n < 2147483648) : j < Int32.ofNat n := by
  have h2 : (Int32.ofNat n).toInt = (n : Int) := iI_n hn
  rw [Int32.lt_iff_toInt_lt, h2]
  have h3 : j.toInt.toNat < n := h1
  omega
set_option maxHeartbeats 4000000 in
/-- StringLatin1.charAt -/
theorem zj_c1 (l : Launch) {adr : Nat → Nat → Nat} {adV : Nat → Nat} {k : Nat} {j : Int32} (hk : k < 9) (h0 : ¬ j < 0) (h1 : j.toNatClampNeg < zlens.getD k 0) : Met l yJ1_charAt_3b067 (.code yJ1_charAt_3b067 cJ1_charAt_3b067 2 (some .char) :: zTb) (zjrm 2 43) (va_Pc [.ref (adV k), .int j] (zOq adr adV)) (zQi (zch k j.toNatClampNeg)) 0 0 zno := by
  refine Met.ofW (cc := cJ1_charAt_3b067) (maxL := 2) (ret := some .char) (by decide) rfl ?_
  intro p e s m args below meth c s₁ B hml hv9
  obtain ⟨rfl, hO⟩ := hv9
  have hx := B.exec
  have hb := B.bytes
  have hr := B.returns
  have hlocks := B.notSynchronized
  have hts0 := atoms_spec (ws := .code yJ1_charAt_3b067 cJ1_charAt_3b067 2 (some .char) :: zTb) B.pre
  have hts : ∀ w ∈ zTb, w.before [.ref (adV k), .int j].toArray s = true := fun w hw => hts0 w (List.mem_cons_of_mem _ hw)
  have hown : s.vm.findClass RJ1 = some m.cls := findClass_of_methodNamed B.named
  have hS : va_S zno s.heap s.heap [] := va_S.rf
  have hl := lv_entry ([.ref (adV k), .int j]) (n := 2) (Nat.le_of_ble_eq_true rfl)
  rw [lg_entry_eq]
  generalize (lg_sl ([.ref (adV k), .int j]) ++ List.replicate (2 - (lg_sl ([.ref (adV k), .int j])).length) Slot.unset).toArray = ls at hl ⊢
  have hl : lv_has ls 2 [(0, .ref (adV k)), (1, .int j)] := hl
  have hlt : j < Int32.ofNat (zlens.getD k 0) := zj_lt h0 h1 (by have := (zlens_all k hk).2.1; omega)
  refine lv_iload_n hx hb dJ1_charAt_3b067_0 rfl (lv_at hl 1 rfl) ?_
  refine lv_aload_n hx hb dJ1_charAt_3b067_1 rfl (lv_at hl 0 rfl) ?_
  refine va_tlen hx hb (hO.1.1 k hk).2.2.2 hS rfl dJ1_charAt_3b067_2 ?_
  refine va_callv (va_runS (As := [.int j, .int (Int32.ofNat (zlens.getD k 0))]) (rest := []) ⟨hx, hb, hml, hown, hts⟩ (zj_ci l (adr := adr) (adV := adV) h0 hlt) (va_cwS 2 hts (zGs zq_ci_l zq_ci_s zq_s0 zq_ci_c) rfl rfl rfl (by decide +kernel) ⟨Nat.le_of_ble_eq_true rfl, Nat.le_of_ble_eq_true rfl⟩) ⟨zOq_blind, fun U hU hW => ⟨rfl, zOq_call hO hS hU hW⟩⟩ rfl rfl hl.1 rfl (lv_room (Nat.le_of_ble_eq_true rfl)) dJ1_charAt_3b067_3 ⟨Nat.le_refl _, Nat.le_refl _⟩) hS (fun _ _ h => h.elim) (fun _ h => h.elim) (fun u t H1 locs1 ht hvm hr1 hB hz hk1 hS1 => ?_)
  refine lv_aload_n hx hb dJ1_charAt_3b067_6 rfl (lv_at hl 0 rfl) ?_
  refine lv_iload_n hx hb dJ1_charAt_3b067_7 rfl (lv_at hl 1 rfl) ?_
  refine va_tb hx hb (hO.1.1 k hk).2.2.2 hS1 (fun q => q.elim h0 (fun q => absurd h1 (Nat.not_lt.mpr q))) rfl dJ1_charAt_3b067_8 ?_
  refine lv_sipush (v := 255) hx hb dJ1_charAt_3b067_9 (by decide) ?_
  refine lv_iand hx hb dJ1_charAt_3b067_12 ?_
  refine lv_i2c hx hb dJ1_charAt_3b067_13 rfl ?_
  exact W.zret hx hb hr (pk_nc _) (fun t ht hW => ⟨⟨_, (), rfl, rfl, trivial⟩, hS1.F ht⟩) hS1.2.2 dJ1_charAt_3b067_14
set_option maxHeartbeats 4000000 in
/-- isLatin1 -/
theorem zj_la (l : Launch) {adr : Nat → Nat → Nat} {adV : Nat → Nat} {k : Nat} (hk : k < 9) : Met l yJ0_isLatin1_aae02 (.code yJ0_isLatin1_aae02 cJ0_isLatin1_aae02 1 (some .boolean) :: zTb) (zjrm 0 0) (va_Pc [.ref (adr 1 k)] (zOq adr adV)) (zQi 1) 0 0 zno := by
  refine Met.ofW (cc := cJ0_isLatin1_aae02) (maxL := 1) (ret := some .boolean) (by decide) rfl ?_
  intro p e s m args below meth c s₁ B hml hv9
  obtain ⟨rfl, hO⟩ := hv9
  have hx := B.exec
  have hb := B.bytes
  have hr := B.returns
  have hlocks := B.notSynchronized
  have hts0 := atoms_spec (ws := .code yJ0_isLatin1_aae02 cJ0_isLatin1_aae02 1 (some .boolean) :: zTb) B.pre
  have hts : ∀ w ∈ zTb, w.before [.ref (adr 1 k)].toArray s = true := fun w hw => hts0 w (List.mem_cons_of_mem _ hw)
  have hown : s.vm.findClass RJ0 = some m.cls := findClass_of_methodNamed B.named
  have hS : va_S zno s.heap s.heap [] := va_S.rf
  have hl := lv_entry ([.ref (adr 1 k)]) (n := 1) (Nat.le_of_ble_eq_true rfl)
  rw [lg_entry_eq]
  generalize (lg_sl ([.ref (adr 1 k)]) ++ List.replicate (1 - (lg_sl ([.ref (adr 1 k)])).length) Slot.unset).toArray = ls at hl ⊢
  have hl : lv_has ls 1 [(0, .ref (adr 1 k))] := hl
  refine va_gets hx hb hO.2.1 hS hown (hts _ zq_cs) (fun _ h => h) dJ0_isLatin1_aae02_0 ?_
  refine lv_if_eq (tgt := 17) hx hb dJ0_isLatin1_aae02_3 rfl (fun q => absurd q (by decide)) (fun _ => ?_)
  refine lv_aload_n hx hb dJ0_isLatin1_aae02_6 rfl (lv_at hl 0 rfl) ?_
  refine vk_getf hx hb (hO.1.1 k hk).2.1 hS hown (hts _ zq_cd) (fun _ h => h) dJ0_isLatin1_aae02_7 ?_
  refine lv_if_ne (tgt := 17) hx hb dJ0_isLatin1_aae02_10 rfl (fun q => absurd rfl q) (fun _ => ?_)
  refine lv_iconst (v := 1) hx hb dJ0_isLatin1_aae02_13 (by decide) ?_
  refine lv_goto (tgt := 18) hx hb dJ0_isLatin1_aae02_14 rfl ?_
  exact W.zret hx hb hr (by decide) (fun t ht hW => ⟨⟨_, (), rfl, rfl, trivial⟩, hS.F ht⟩) hS.2.2 dJ0_isLatin1_aae02_18
set_option maxHeartbeats 4000000 in
/-- coder -/
theorem zj_co (l : Launch) {adr : Nat → Nat → Nat} {adV : Nat → Nat} {k : Nat} (hk : k < 9) : Met l yJ0_coder_7d493 (.code yJ0_coder_7d493 cJ0_coder_7d493 1 (some .byte) :: zTb) (zjrm 0 0) (va_Pc [.ref (adr 1 k)] (zOq adr adV)) (zQi 0) 0 0 zno := by
  refine Met.ofW (cc := cJ0_coder_7d493) (maxL := 1) (ret := some .byte) (by decide) rfl ?_
  intro p e s m args below meth c s₁ B hml hv9
  obtain ⟨rfl, hO⟩ := hv9
  have hx := B.exec
  have hb := B.bytes
  have hr := B.returns
  have hlocks := B.notSynchronized
  have hts0 := atoms_spec (ws := .code yJ0_coder_7d493 cJ0_coder_7d493 1 (some .byte) :: zTb) B.pre
  have hts : ∀ w ∈ zTb, w.before [.ref (adr 1 k)].toArray s = true := fun w hw => hts0 w (List.mem_cons_of_mem _ hw)
  have hown : s.vm.findClass RJ0 = some m.cls := findClass_of_methodNamed B.named
  have hS : va_S zno s.heap s.heap [] := va_S.rf
  have hl := lv_entry ([.ref (adr 1 k)]) (n := 1) (Nat.le_of_ble_eq_true rfl)
  rw [lg_entry_eq]
  generalize (lg_sl ([.ref (adr 1 k)]) ++ List.replicate (1 - (lg_sl ([.ref (adr 1 k)])).length) Slot.unset).toArray = ls at hl ⊢
  have hl : lv_has ls 1 [(0, .ref (adr 1 k))] := hl
  refine va_gets hx hb hO.2.1 hS hown (hts _ zq_cs) (fun _ h => h) dJ0_coder_7d493_0 ?_
  refine lv_if_eq (tgt := 13) hx hb dJ0_coder_7d493_3 rfl (fun q => absurd q (by decide)) (fun _ => ?_)
  refine lv_aload_n hx hb dJ0_coder_7d493_6 rfl (lv_at hl 0 rfl) ?_
  refine vk_getf hx hb (hO.1.1 k hk).2.1 hS hown (hts _ zq_cd) (fun _ h => h) dJ0_coder_7d493_7 ?_
  refine lv_goto (tgt := 14) hx hb dJ0_coder_7d493_10 rfl ?_
  exact W.zret hx hb hr (by decide) (fun t ht hW => ⟨⟨_, (), rfl, rfl, trivial⟩, hS.F ht⟩) hS.2.2 dJ0_coder_7d493_14
set_option maxHeartbeats 4000000 in
/-- length -/
theorem zj_len (l : Launch) {adr : Nat → Nat → Nat} {adV : Nat → Nat} {k : Nat} (hk : k < 9) : Met l yJ0_length_8abf5 (.code yJ0_length_8abf5 cJ0_length_8abf5 1 (some .int) :: zTb) (zjrm 1 20) (va_Pc [.ref (adr 1 k)] (zOq adr adV)) (zQi (Int32.ofNat (zstr k).length)) 0 0 zno := by
  refine Met.ofW (cc := cJ0_length_8abf5) (maxL := 1) (ret := some .int) (by decide) rfl ?_
  intro p e s m args below meth c s₁ B hml hv9
  obtain ⟨rfl, hO⟩ := hv9
  have hx := B.exec
  have hb := B.bytes
  have hr := B.returns
  have hlocks := B.notSynchronized
  have hts0 := atoms_spec (ws := .code yJ0_length_8abf5 cJ0_length_8abf5 1 (some .int) :: zTb) B.pre
  have hts : ∀ w ∈ zTb, w.before [.ref (adr 1 k)].toArray s = true := fun w hw => hts0 w (List.mem_cons_of_mem _ hw)
  have hown : s.vm.findClass RJ0 = some m.cls := findClass_of_methodNamed B.named
  have hS : va_S zno s.heap s.heap [] := va_S.rf
  have hl := lv_entry ([.ref (adr 1 k)]) (n := 1) (Nat.le_of_ble_eq_true rfl)
  rw [lg_entry_eq]
  generalize (lg_sl ([.ref (adr 1 k)]) ++ List.replicate (1 - (lg_sl ([.ref (adr 1 k)])).length) Slot.unset).toArray = ls at hl ⊢
  have hl : lv_has ls 1 [(0, .ref (adr 1 k))] := hl
  refine lv_aload_n hx hb dJ0_length_8abf5_0 rfl (lv_at hl 0 rfl) ?_
  refine vk_getf hx hb (hO.1.1 k hk).2.2.1 hS hown (hts _ zq_va) (fun _ h => h) dJ0_length_8abf5_1 ?_
  refine va_tlen hx hb (hO.1.1 k hk).2.2.2 hS rfl dJ0_length_8abf5_4 ?_
  refine lv_aload_n hx hb dJ0_length_8abf5_5 rfl (lv_at hl 0 rfl) ?_
  refine va_calli (va_runV (As := []) (rest := [.int (Int32.ofNat (zlens.getD k 0))]) (C := RJ0) ⟨hx, hb, hml, hown, hts⟩ (zj_co l (adr := adr) (adV := adV) hk) (cwV 0 hts (zGv zq_co_l zq_co_i zq_co_s zq_s0 zq_co_c) rfl rfl rfl (by decide +kernel) ⟨Nat.le_of_ble_eq_true rfl, Nat.le_of_ble_eq_true rfl⟩) ⟨zOq_blind, vk_recv hO.1 hk hS, fun U hU hW => ⟨rfl, zOq_call hO hS hU hW⟩⟩ rfl rfl hl.1 rfl (lv_room (Nat.le_of_ble_eq_true rfl)) dJ0_length_8abf5_6 ⟨Nat.le_refl _, Nat.le_refl _⟩) hS (fun _ _ h => h.elim) (fun _ h => h.elim) (fun r u t H1 locs1 ht hvm hr1 hB hz hk1 hS1 => ?_)
  subst hr1
  refine lv_ishr hx hb dJ0_length_8abf5_9 ?_
  exact W.iret hx hb hr (fun t ht hW => ⟨⟨_, (), rfl, (zlens_all k hk).2.2, trivial⟩, hS1.F ht⟩) hS1.2.2 dJ0_length_8abf5_10
set_option maxHeartbeats 4000000 in
/-- charAt -/
theorem zj_ca (l : Launch) {adr : Nat → Nat → Nat} {adV : Nat → Nat} {k : Nat} {j : Int32} (hk : k < 9) (h0 : ¬ j < 0) (h1 : j.toNatClampNeg < zlens.getD k 0) : Met l yJ0_charAt_5068e (.code yJ0_charAt_5068e cJ0_charAt_5068e 2 (some .char) :: zTb) (zjrm 3 64) (va_Pc [.ref (adr 1 k), .int j] (zOq adr adV)) (zQi (zch k j.toNatClampNeg)) 0 0 zno := by
  refine Met.ofW (cc := cJ0_charAt_5068e) (maxL := 2) (ret := some .char) (by decide) rfl ?_
  intro p e s m args below meth c s₁ B hml hv9
  obtain ⟨rfl, hO⟩ := hv9
  have hx := B.exec
  have hb := B.bytes
  have hr := B.returns
  have hlocks := B.notSynchronized
  have hts0 := atoms_spec (ws := .code yJ0_charAt_5068e cJ0_charAt_5068e 2 (some .char) :: zTb) B.pre
  have hts : ∀ w ∈ zTb, w.before [.ref (adr 1 k), .int j].toArray s = true := fun w hw => hts0 w (List.mem_cons_of_mem _ hw)
  have hown : s.vm.findClass RJ0 = some m.cls := findClass_of_methodNamed B.named
  have hS : va_S zno s.heap s.heap [] := va_S.rf
  have hl := lv_entry ([.ref (adr 1 k), .int j]) (n := 2) (Nat.le_of_ble_eq_true rfl)
  rw [lg_entry_eq]
  generalize (lg_sl ([.ref (adr 1 k), .int j]) ++ List.replicate (2 - (lg_sl ([.ref (adr 1 k), .int j])).length) Slot.unset).toArray = ls at hl ⊢
  have hl : lv_has ls 2 [(0, .ref (adr 1 k)), (1, .int j)] := hl
  refine lv_aload_n hx hb dJ0_charAt_5068e_0 rfl (lv_at hl 0 rfl) ?_
  refine va_calli (va_runV (As := []) (rest := []) (C := RJ0) ⟨hx, hb, hml, hown, hts⟩ (zj_la l (adr := adr) (adV := adV) hk) (cwV 0 hts (zGv zq_la_l zq_la_i zq_la_s zq_s0 zq_la_c) rfl rfl rfl (by decide +kernel) ⟨Nat.le_of_ble_eq_true rfl, Nat.le_of_ble_eq_true rfl⟩) ⟨zOq_blind, vk_recv hO.1 hk hS, fun U hU hW => ⟨rfl, zOq_call hO hS hU hW⟩⟩ rfl rfl hl.1 rfl (lv_room (Nat.le_of_ble_eq_true rfl)) dJ0_charAt_5068e_1 ⟨Nat.le_refl _, Nat.le_refl _⟩) hS (fun _ _ h => h.elim) (fun _ h => h.elim) (fun r u t H1 locs1 ht hvm hr1 hB hz hk1 hS1 => ?_)
  subst hr1
  refine lv_if_eq (tgt := 16) hx hb dJ0_charAt_5068e_4 rfl (fun q => absurd q (by decide)) (fun _ => ?_)
  refine lv_aload_n hx hb dJ0_charAt_5068e_7 rfl (lv_at hl 0 rfl) ?_
  refine vk_getf hx hb (hO.1.1 k hk).2.2.1 hS1 hown (hts _ zq_va) (fun _ h => h) dJ0_charAt_5068e_8 ?_
  refine lv_iload_n hx hb dJ0_charAt_5068e_11 rfl (lv_at hl 1 rfl) ?_
  refine va_calli (va_runS (As := [.ref (adV k), .int j]) (rest := []) ⟨hx, hb, hml, hown, hts⟩ (zj_c1 l (adr := adr) (adV := adV) hk h0 h1) (va_cwS 2 hts (zGs zq_c1_l zq_c1_s zq_s1 zq_c1_c) rfl rfl rfl (by decide +kernel) ⟨Nat.le_of_ble_eq_true rfl, Nat.le_of_ble_eq_true rfl⟩) ⟨zOq_blind, fun U hU hW => ⟨rfl, zOq_call hO hS1 hU hW⟩⟩ rfl rfl hl.1 rfl (lv_room (Nat.le_of_ble_eq_true rfl)) dJ0_charAt_5068e_12 ⟨Nat.le_refl _, Nat.le_refl _⟩) hS1 (fun _ _ h => h.elim) (fun _ h => h.elim) (fun r u t H2 locs2 ht2 hvm2 hr2 hB2 hz2 hk2 hS2 => ?_)
  subst hr2
  exact W.zret hx hb hr (pk_nc _) (fun t ht hW => ⟨⟨_, (), rfl, rfl, trivial⟩, hS2.F ht⟩) hS2.2.2 dJ0_charAt_5068e_15
theorem zj_str {k : Nat} (h : zvok (.inr (.inr (1, k)))) : k < 9 := by
  rcases h with q | q | q
  · cases q
  · exact q.2
  · exact absurd q (Nat.not_lt_zero k)
section ZJV
variable {l : Launch} {D : va_G} {g : zIds} {adr : Nat → Nat → Nat} {H0 : Heap}
/-- a call of a text's method -/
theorem zj_call {j pc idx n mL f lo : Nat} {y : MethodName} {bt : ByteArray} {rt : Option FieldType} {r : Int32} {L st : List zAV} {As : List zAV} {k : Nat} {σ σ' : zSt} {o : zOut} (hd : decode (zcc j) pc = .ok (.invokevirtual idx, 3)) (hk : k < 9)
    (hM : ∀ adV, Met l y (.code y bt mL rt :: zTb) (zjrm f lo) (va_Pc (.ref (adr 1 k) :: As.map (zval adr)) (zOq adr adV)) (zQi r) 0 0 zno)
    (h1 : Cond.methodLink (zcn (zown j)) idx y ∈ zTb) (h2 : Cond.instanceMethod y ∈ zTb) (h3 : Cond.selects RJ0 y y ∈ zTb) (h4 : Cond.code y bt mL rt ∈ zTb) (hdsc : y.cls = RJ0 ∧ y.cls ≠ "java/lang/invoke/MethodHandle" ∧ y.cls ≠ "java/lang/invoke/VarHandle" ∧ (parseMethodDescriptor y.desc).map (fun d => d.parameters.length) = some n) (hn : As.length = n)
    (hfr : f + 1 ≤ zfr j) (hlo : 8 + (mL + 11) + lo ≤ zlo j) (hst : st.length ≤ 4) (hm : σ.2.2 ≤ σ'.2.2) (ih : zW l D g adr H0 j (pc + 3, L, zI r :: st) σ o σ') : zW l D g adr H0 j (pc, L, As.reverse ++ .inr (.inr (1, k)) :: st) σ o σ' := by
  intro p e s m args below meth c H locs ls n0 hn0 hC hl hP hS
  obtain ⟨⟨⟨adV, hv⟩, hz1, hz2⟩, hwh⟩ := And.intro hC.2.2.2.2.2.2.2.2.1.2.2.1 (zwd_here hC hP hS)
  have hO : ∀ U : State, U.heap = H → s.WarmedH U.vm → zOq adr adV U := fun U hU hW => by
    unfold zOq
    rw [hU]
    exact ⟨((vk_S.moved hW.alike hv).kept (fun q hq _ => hwh.2.2 q hq)).narrow (fun _ h => h.elim), ((va_Z.moved hW.alike hz1).kept (fun q hq _ => hwh.2.2 q hq)).narrow (fun _ h => h.elim), va_Zq.narrow (va_Zq.kept (va_Zq.moved hW.alike hz2) (fun q hq _ => hwh.2.2 q hq)) (fun _ h => h.elim)⟩
  have hrc : vk_S 9 zlens zbyts (fun i => adr 1 i) adV (zA H0) s s.heap := hv.kept (fun q hq _ => hC.2.2.2.2.2.2.2.2.2.2 q hq)
  refine va_calli (va_runV (As := As.map (zval adr)) (rest := st.map (zval adr)) (C := RJ0) (b := adr 1 k) ⟨hC.1, hC.2.1, hC.2.2.2.1, hC.2.2.2.2.1, hC.2.2.2.2.2.1⟩ (hM adV) (cwV n hC.2.2.2.2.2.1 (zGv h1 h2 h3 zq_s0 h4) rfl rfl rfl hdsc ⟨hfr, hlo⟩) ⟨zOq_blind, vk_recv hrc hk hS, fun U hU hW => ⟨rfl, hO U hU hW⟩⟩ rfl (by rw [List.length_map]; exact hn) hl.1 ?_ (lv_room (Nat.le_trans (zcat_le st) (by omega))) hd ⟨?_, ?_⟩) hS (fun _ _ h => h.elim) (fun _ h => h.elim) (fun r1 u t H1 locs1 ht hvm hr1 hB hz hk1 hS1 => ?_)
  · show (As.reverse ++ .inr (.inr (1, k)) :: st).map (zval adr) = (As.map (zval adr)).reverse ++ .ref (adr 1 k) :: st.map (zval adr)
    rw [List.map_append, List.map_reverse, List.map_cons]
    rfl
  · show σ.2.2 - n0 + 0 ≤ σ'.2.2 - n0
    omega
  · show 6 * (σ.2.2 - n0) + 0 ≤ 6 * (σ'.2.2 - n0)
    omega
  · subst hr1
    have hP1 : va_P D vwCl (zwd g adr σ) H1 := fun q e he => (hP q e he).kept (hk1 _ (hP q e he).lt (fun z => z))
    exact ih p e s m args below meth c H1 locs1 ls n0 hn0 hC hl hP1 hS1
set_option maxHeartbeats 4000000 in
theorem zJv_ok : zJv l D g adr H0 := by
  intro j E hE pc nx a b idx c ts L st σ σ' o hlt hk hd hf h
  simp only [zck, hlt, cond_true, Bool.and_eq_true] at hk
  obtain ⟨hnx, ⟨⟨⟨h10, h11⟩, hjl⟩, hfr⟩, hlo⟩ := hk
  have hnx := Nat.eq_of_beq_eq_true hnx
  subst hnx
  rw [show pc + 3 - pc = 3 by omega] at hd
  have hfr := Nat.le_of_ble_eq_true hfr
  have hlo := Nat.le_of_ble_eq_true hlo
  replace h10 := Nat.le_of_ble_eq_true h10
  replace h11 := Nat.le_of_ble_eq_true h11
  cases hb : Nat.ble st.length 5 with
  | false => rw [hb] at h; cases h
  | true =>
    rw [hb] at h
    replace hb := Nat.le_of_ble_eq_true hb
    replace h : zjdk E (pc + 3) L a st σ = some (o, σ') := h
    unfold zjdk at h
    split at h
    · omega
    · omega
    · omega
    · omega
    · rename_i k st
      have hk9 := zj_str (zfok_head hf)
      obtain ⟨r1, r2, r3⟩ := hE _ _ _ _ h (zfok_push (zfok_tail (pc' := pc) hf) trivial)
      simp only [List.length_cons] at hb
      exact ⟨r1, r2, zj_call (As := []) (n := 0) (st := st) hd hk9 (fun adV => zj_len l hk9) (zjlink hjl) zq_len_i zq_len_s zq_len_c (by decide +kernel) rfl (by omega) (by omega) (by omega) r2 r3⟩
    · rename_i i k st
      split at h
      · cases h
      · rename_i hq
        have hf2 := zfok_tail (pc' := pc) hf
        have hk9 := zj_str (zfok_head hf2)
        obtain ⟨r1, r2, r3⟩ := hE _ _ _ _ h (zfok_push (zfok_tail (pc' := pc) hf2) trivial)
        simp only [List.length_cons] at hb
        have h0 : ¬ i < 0 := fun z => hq (Or.inl z)
        have h1 : i.toNatClampNeg < zlens.getD k 0 := by
          rw [(zlens_all k hk9).1]
          exact Nat.not_le.mp (fun z => hq (Or.inr z))
        rw [← zch_all k hk9 _ h1] at r3
        exact ⟨r1, r2, zj_call (As := [zI i]) (n := 1) (st := st) hd hk9 (fun adV => zj_ca l hk9 h0 h1) (zjlink hjl) zq_ch_i zq_ch_s zq_ch_c (by decide +kernel) rfl (by omega) (by omega) (by omega) r2 r3⟩
    · cases h
end ZJV
