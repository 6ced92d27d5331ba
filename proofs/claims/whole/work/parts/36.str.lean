/-! ===== String.length and String.charAt, over the machine ===== -/
def mj_coder : sv_M := (⟨"java/lang/String", "coder", "()B"⟩, prog_17_method_152_code, 1, some .byte, [])
theorem mj_coder_c : Jvm.Cond.code mj_coder.1 mj_coder.2.1 mj_coder.2.2.1 mj_coder.2.2.2.1 ∈ sv_Ts := sv_tm (j := 651) (by decide +kernel) (by decide +kernel)
theorem mj_coder_0 : decode prog_17_method_152_code 0 = .ok (.getstatic 38, 3) := by decide +kernel
theorem mj_coder_3 : decode prog_17_method_152_code 3 = .ok (.ifCond .eq 10, 3) := by decide +kernel
theorem mj_coder_6 : decode prog_17_method_152_code 6 = .ok (.aload_n 0, 1) := by decide +kernel
theorem mj_coder_7 : decode prog_17_method_152_code 7 = .ok (.getfield 15, 3) := by decide +kernel
theorem mj_coder_10 : decode prog_17_method_152_code 10 = .ok (.goto 4, 3) := by decide +kernel
theorem mj_coder_14 : decode prog_17_method_152_code 14 = .ok (.ireturn, 1) := by decide +kernel
abbrev mj_length : sv_M := MJ_length
theorem mj_length_c : Jvm.Cond.code mj_length.1 mj_length.2.1 mj_length.2.2.1 mj_length.2.2.2.1 ∈ sv_Ts := sv_tm (j := 647) (by decide +kernel) (by decide +kernel)
theorem mj_length_0 : decode prog_17_method_54_code 0 = .ok (.aload_n 0, 1) := by decide +kernel
theorem mj_length_1 : decode prog_17_method_54_code 1 = .ok (.getfield 9, 3) := by decide +kernel
theorem mj_length_4 : decode prog_17_method_54_code 4 = .ok (.arraylength, 1) := by decide +kernel
theorem mj_length_5 : decode prog_17_method_54_code 5 = .ok (.aload_n 0, 1) := by decide +kernel
theorem mj_length_6 : decode prog_17_method_54_code 6 = .ok (.invokevirtual 335, 3) := by decide +kernel
theorem mj_length_9 : decode prog_17_method_54_code 9 = .ok (.ishr, 1) := by decide +kernel
theorem mj_length_10 : decode prog_17_method_54_code 10 = .ok (.ireturn, 1) := by decide +kernel
def mj_isLatin1 : sv_M := (⟨"java/lang/String", "isLatin1", "()Z"⟩, prog_17_method_154_code, 1, some .boolean, [])
theorem mj_isLatin1_c : Jvm.Cond.code mj_isLatin1.1 mj_isLatin1.2.1 mj_isLatin1.2.2.1 mj_isLatin1.2.2.2.1 ∈ sv_Ts := sv_tm (j := 661) (by decide +kernel) (by decide +kernel)
theorem mj_isLatin1_0 : decode prog_17_method_154_code 0 = .ok (.getstatic 38, 3) := by decide +kernel
theorem mj_isLatin1_3 : decode prog_17_method_154_code 3 = .ok (.ifCond .eq 14, 3) := by decide +kernel
theorem mj_isLatin1_6 : decode prog_17_method_154_code 6 = .ok (.aload_n 0, 1) := by decide +kernel
theorem mj_isLatin1_7 : decode prog_17_method_154_code 7 = .ok (.getfield 15, 3) := by decide +kernel
theorem mj_isLatin1_10 : decode prog_17_method_154_code 10 = .ok (.ifCond .ne 7, 3) := by decide +kernel
theorem mj_isLatin1_13 : decode prog_17_method_154_code 13 = .ok (.iconst 1, 1) := by decide +kernel
theorem mj_isLatin1_14 : decode prog_17_method_154_code 14 = .ok (.goto 4, 3) := by decide +kernel
theorem mj_isLatin1_18 : decode prog_17_method_154_code 18 = .ok (.ireturn, 1) := by decide +kernel
abbrev mj_charAt : sv_M := MJ_charAt
theorem mj_charAt_c : Jvm.Cond.code mj_charAt.1 mj_charAt.2.1 mj_charAt.2.2.1 mj_charAt.2.2.2.1 ∈ sv_Ts := sv_tm (j := 657) (by decide +kernel) (by decide +kernel)
theorem mj_charAt_0 : decode prog_17_method_56_code 0 = .ok (.aload_n 0, 1) := by decide +kernel
theorem mj_charAt_1 : decode prog_17_method_56_code 1 = .ok (.invokevirtual 492, 3) := by decide +kernel
theorem mj_charAt_4 : decode prog_17_method_56_code 4 = .ok (.ifCond .eq 12, 3) := by decide +kernel
theorem mj_charAt_7 : decode prog_17_method_56_code 7 = .ok (.aload_n 0, 1) := by decide +kernel
theorem mj_charAt_8 : decode prog_17_method_56_code 8 = .ok (.getfield 9, 3) := by decide +kernel
theorem mj_charAt_11 : decode prog_17_method_56_code 11 = .ok (.iload_n 1, 1) := by decide +kernel
theorem mj_charAt_12 : decode prog_17_method_56_code 12 = .ok (.invokestatic 495, 3) := by decide +kernel
theorem mj_charAt_15 : decode prog_17_method_56_code 15 = .ok (.ireturn, 1) := by decide +kernel
def mj_lcharAt : sv_M := (⟨"java/lang/StringLatin1", "charAt", "([BI)C"⟩, prog_18_method_2_code, 2, some .char, [])
theorem mj_lcharAt_c : Jvm.Cond.code mj_lcharAt.1 mj_lcharAt.2.1 mj_lcharAt.2.2.1 mj_lcharAt.2.2.2.1 ∈ sv_Ts := sv_tm (j := 664) (by decide +kernel) (by decide +kernel)
theorem mj_lcharAt_0 : decode prog_18_method_2_code 0 = .ok (.iload_n 1, 1) := by decide +kernel
theorem mj_lcharAt_1 : decode prog_18_method_2_code 1 = .ok (.aload_n 0, 1) := by decide +kernel
theorem mj_lcharAt_2 : decode prog_18_method_2_code 2 = .ok (.arraylength, 1) := by decide +kernel
theorem mj_lcharAt_3 : decode prog_18_method_2_code 3 = .ok (.invokestatic 9, 3) := by decide +kernel
theorem mj_lcharAt_6 : decode prog_18_method_2_code 6 = .ok (.aload_n 0, 1) := by decide +kernel
theorem mj_lcharAt_7 : decode prog_18_method_2_code 7 = .ok (.iload_n 1, 1) := by decide +kernel
theorem mj_lcharAt_8 : decode prog_18_method_2_code 8 = .ok (.baload, 1) := by decide +kernel
theorem mj_lcharAt_9 : decode prog_18_method_2_code 9 = .ok (.sipush 255, 3) := by decide +kernel
theorem mj_lcharAt_12 : decode prog_18_method_2_code 12 = .ok (.iand, 1) := by decide +kernel
theorem mj_lcharAt_13 : decode prog_18_method_2_code 13 = .ok (.i2c, 1) := by decide +kernel
theorem mj_lcharAt_14 : decode prog_18_method_2_code 14 = .ok (.ireturn, 1) := by decide +kernel
def mj_checkIndex : sv_M := (⟨"java/lang/String", "checkIndex", "(II)V"⟩, prog_17_method_155_code, 2, none, [])
theorem mj_checkIndex_c : Jvm.Cond.code mj_checkIndex.1 mj_checkIndex.2.1 mj_checkIndex.2.2.1 mj_checkIndex.2.2.2.1 ∈ sv_Ts := sv_tm (j := 667) (by decide +kernel) (by decide +kernel)
theorem mj_checkIndex_0 : decode prog_17_method_155_code 0 = .ok (.iload_n 0, 1) := by decide +kernel
theorem mj_checkIndex_1 : decode prog_17_method_155_code 1 = .ok (.iload_n 1, 1) := by decide +kernel
theorem mj_checkIndex_2 : decode prog_17_method_155_code 2 = .ok (.getstatic 1053, 3) := by decide +kernel
theorem mj_checkIndex_5 : decode prog_17_method_155_code 5 = .ok (.invokestatic 1059, 3) := by decide +kernel
theorem mj_checkIndex_8 : decode prog_17_method_155_code 8 = .ok (.pop, 1) := by decide +kernel
theorem mj_checkIndex_9 : decode prog_17_method_155_code 9 = .ok (.return_, 1) := by decide +kernel
def mj_pcheck : sv_M := (⟨"jdk/internal/util/Preconditions", "checkIndex", "(IILjava/util/function/BiFunction;)I"⟩, prog_22_method_11_code, 3, some .int, [])
theorem mj_pcheck_c : Jvm.Cond.code mj_pcheck.1 mj_pcheck.2.1 mj_pcheck.2.2.1 mj_pcheck.2.2.2.1 ∈ sv_Ts := sv_tm (j := 672) (by decide +kernel) (by decide +kernel)
theorem mj_pcheck_0 : decode prog_22_method_11_code 0 = .ok (.iload_n 0, 1) := by decide +kernel
theorem mj_pcheck_1 : decode prog_22_method_11_code 1 = .ok (.ifCond .lt 8, 3) := by decide +kernel
theorem mj_pcheck_4 : decode prog_22_method_11_code 4 = .ok (.iload_n 0, 1) := by decide +kernel
theorem mj_pcheck_5 : decode prog_22_method_11_code 5 = .ok (.iload_n 1, 1) := by decide +kernel
theorem mj_pcheck_6 : decode prog_22_method_11_code 6 = .ok (.if_icmp .lt 10, 3) := by decide +kernel
theorem mj_pcheck_16 : decode prog_22_method_11_code 16 = .ok (.iload_n 0, 1) := by decide +kernel
theorem mj_pcheck_17 : decode prog_22_method_11_code 17 = .ok (.ireturn, 1) := by decide +kernel
theorem mj_f9 : Jvm.Cond.fieldLink "java/lang/String" 9 "java/lang/String" "value" "[B" ∈ sv_Ts := sv_tm (j := 2284) (by decide +kernel) (by decide +kernel)
theorem mj_f15 : Jvm.Cond.fieldLink "java/lang/String" 15 "java/lang/String" "coder" "B" ∈ sv_Ts := sv_tm (j := 2285) (by decide +kernel) (by decide +kernel)
theorem mj_f38 : Jvm.Cond.fieldLink "java/lang/String" 38 "java/lang/String" "COMPACT_STRINGS" "Z" ∈ sv_Ts := sv_tm (j := 652) (by decide +kernel) (by decide +kernel)
theorem mj_f1053 : Jvm.Cond.fieldLink "java/lang/String" 1053 "jdk/internal/util/Preconditions" "SIOOBE_FORMATTER" "Ljava/util/function/BiFunction;" ∈ sv_Ts := sv_tm (j := 668) (by decide +kernel) (by decide +kernel)
theorem mj_m335 : Jvm.Cond.methodLink "java/lang/String" 335 ⟨"java/lang/String", "coder", "()B"⟩ ∈ sv_Ts := sv_tm (j := 648) (by decide +kernel) (by decide +kernel)
theorem mj_m492 : Jvm.Cond.methodLink "java/lang/String" 492 ⟨"java/lang/String", "isLatin1", "()Z"⟩ ∈ sv_Ts := sv_tm (j := 658) (by decide +kernel) (by decide +kernel)
theorem mj_m495 : Jvm.Cond.methodLink "java/lang/String" 495 ⟨"java/lang/StringLatin1", "charAt", "([BI)C"⟩ ∈ sv_Ts := sv_tm (j := 662) (by decide +kernel) (by decide +kernel)
theorem mj_m1059 : Jvm.Cond.methodLink "java/lang/String" 1059 ⟨"jdk/internal/util/Preconditions", "checkIndex", "(IILjava/util/function/BiFunction;)I"⟩ ∈ sv_Ts := sv_tm (j := 670) (by decide +kernel) (by decide +kernel)
theorem mj_m9 : Jvm.Cond.methodLink "java/lang/StringLatin1" 9 ⟨"java/lang/String", "checkIndex", "(II)V"⟩ ∈ sv_Ts := sv_tm (j := 665) (by decide +kernel) (by decide +kernel)
theorem mj_coder_i : Jvm.Cond.instanceMethod ⟨"java/lang/String", "coder", "()B"⟩ ∈ sv_Ts := sv_tm (j := 649) (by decide +kernel) (by decide +kernel)
theorem mj_coder_s : Jvm.Cond.selects "java/lang/String" ⟨"java/lang/String", "coder", "()B"⟩ ⟨"java/lang/String", "coder", "()B"⟩ ∈ sv_Ts := sv_tm (j := 650) (by decide +kernel) (by decide +kernel)
theorem mj_isLatin1_i : Jvm.Cond.instanceMethod ⟨"java/lang/String", "isLatin1", "()Z"⟩ ∈ sv_Ts := sv_tm (j := 659) (by decide +kernel) (by decide +kernel)
theorem mj_isLatin1_s : Jvm.Cond.selects "java/lang/String" ⟨"java/lang/String", "isLatin1", "()Z"⟩ ⟨"java/lang/String", "isLatin1", "()Z"⟩ ∈ sv_Ts := sv_tm (j := 660) (by decide +kernel) (by decide +kernel)
theorem mj_lcharAt_t : Jvm.Cond.static ⟨"java/lang/StringLatin1", "charAt", "([BI)C"⟩ ∈ sv_Ts := sv_tm (j := 663) (by decide +kernel) (by decide +kernel)
theorem mj_checkIndex_t : Jvm.Cond.static ⟨"java/lang/String", "checkIndex", "(II)V"⟩ ∈ sv_Ts := sv_tm (j := 666) (by decide +kernel) (by decide +kernel)
theorem mj_pcheck_t : Jvm.Cond.static ⟨"jdk/internal/util/Preconditions", "checkIndex", "(IILjava/util/function/BiFunction;)I"⟩ ∈ sv_Ts := sv_tm (j := 671) (by decide +kernel) (by decide +kernel)
theorem mj_nS : Jvm.Cond.initialized "java/lang/String" ∈ sv_Ts := sv_tm (j := 146) (by decide +kernel) (by decide +kernel)
theorem mj_nL : Jvm.Cond.initialized "java/lang/StringLatin1" ∈ sv_Ts := sv_tm (j := 147) (by decide +kernel) (by decide +kernel)
theorem mj_nP : Jvm.Cond.initialized "jdk/internal/util/Preconditions" ∈ sv_Ts := sv_tm (j := 148) (by decide +kernel) (by decide +kernel)
def sj_Q (v : Option Value) : Array Value → State → Outcome → State → Prop := fun _ st oc t => oc = .returned v ∧ t.heap = st.heap
section SJ
variable {p : Program} {l : Launch} {e : Env} {R : Room} {s : State} {m : MethodId} {args : Array Value} {below : List Frame} {meth : Method} {c : Code} {cells slots : Nat} {Q : State → Prop}
theorem sj_call {H : Heap} {locs : List Loc} {pc : Nat} {ls : Array Slot} {st0 rest : List Value} {v : Option Value} {a : Array Value} (hr : va_Run p l e R s m args below meth c H locs cells slots 0 0 (F0 m pc ls st0) rest (sj_Q v a) (fun _ => False)) (kk : W p l e R s m args below meth c H locs cells slots Q (F0 m (pc + 3) ls (v.toList ++ rest))) : W p l e R s m args below meth c H locs cells slots Q (F0 m pc ls st0) := by
  intro T hT X
  obtain ⟨v', st₀, t, T', L, h0, X', hL, e1, e2, ⟨hv, hh⟩, st⟩ := hr T hT X
  cases hv
  have hL0 : L = [] := by
    cases L with
    | nil => rfl
    | cons q r => exact absurd (hL q List.mem_cons_self) id
  subst hL0
  rw [List.append_nil] at X'
  obtain ⟨t2, a1, b1⟩ := kk T' (by rw [e1, hh, h0]) X'
  exact ⟨t2, st t2 a1, b1⟩
end SJ
theorem sj_pcheck (l : Launch) (i n : Int32) (w : Value) (hi : ¬ i < 0) (hn : i < n) (hw : w.category = 1) : Met l mj_pcheck.1 (sv_ws mj_pcheck) (sv_room 0) (va_Pc [.int i, .int n, w] (fun _ => True)) (sj_Q (some (.int i))) 0 0 (fun _ => False) := by
  refine Met.ofW (cc := mj_pcheck.2.1) (maxL := 3) (ret := some .int) (by decide) rfl ?_
  intro p e s m args below meth c s₁ B hml hv
  obtain ⟨rfl, -⟩ := hv
  have hx := B.exec
  have hb := B.bytes
  have hr := B.returns
  have hlocks := B.notSynchronized
  have hl := lv_entry ([.int i, .int n, w]) (n := 3) (by cases w <;> first | exact Nat.le_of_ble_eq_true rfl | exact absurd hw (by decide) | cases hw)
  rw [lg_entry_eq]
  generalize (lg_sl ([.int i, .int n, w]) ++ List.replicate (3 - (lg_sl ([.int i, .int n, w])).length) Slot.unset).toArray = ls at hl ⊢
  refine lv_iload_n hx hb mj_pcheck_0 rfl (lv_at hl 0 rfl) ?_
  refine lv_if_lt (tgt := 9) hx hb mj_pcheck_1 (by decide) (fun z => absurd z hi) (fun _ => ?_)
  refine lv_iload_n hx hb mj_pcheck_4 rfl (lv_at hl 0 rfl) ?_
  refine lv_iload_n hx hb mj_pcheck_5 rfl (lv_at hl 1 rfl) ?_
  refine lv_icmp_lt (tgt := 16) hx hb mj_pcheck_6 (by decide) (fun _ => ?_) (fun z => absurd hn z)
  refine lv_iload_n hx hb mj_pcheck_16 rfl (lv_at hl 0 rfl) ?_
  exact W.iret hx hb hr (fun t ht hW => ⟨rfl, ht⟩) (fun q hq => by cases hq) mj_pcheck_17
theorem sj_checkIndex {X : Nat × (Nat → Int32)} {nw : List Jvm.Cond} (l : Launch) (ρ : Nat → Nat) (A : Nat → Prop) (i n : Int32) (hi : ¬ i < 0) (hn : i < n) : Met l mj_checkIndex.1 (sv_ws mj_checkIndex) (sv_room 1) (va_Pc [.int i, .int n] (fun U => sv_E X nw ρ A U U.heap)) (sj_Q none) 0 0 (fun _ => False) := by
  refine Met.ofW (cc := mj_checkIndex.2.1) (maxL := 2) (ret := none) (by decide) rfl ?_
  intro p e s m args below meth c s₁ B hml hv
  obtain ⟨rfl, hE⟩ := hv
  have hx := B.exec
  have hb := B.bytes
  have hr := B.returns
  have hlocks := B.notSynchronized
  have hts0 := atoms_spec (ws := sv_ws mj_checkIndex) B.pre
  have hts : ∀ w ∈ sv_Ts, w.before _ s = true := fun w hw => hts0 w (List.mem_cons_of_mem _ hw)
  have hown : s.vm.findClass "java/lang/String" = some m.cls := findClass_of_methodNamed B.named
  have hS : va_S A s.heap s.heap [] := va_S.rf
  have hl := lv_entry ([.int i, .int n]) (n := 2) (Nat.le_of_ble_eq_true rfl)
  rw [lg_entry_eq]
  generalize (lg_sl ([.int i, .int n]) ++ List.replicate (2 - (lg_sl ([.int i, .int n])).length) Slot.unset).toArray = ls at hl ⊢
  refine lv_iload_n hx hb mj_checkIndex_0 rfl (lv_at hl 0 rfl) ?_
  refine lv_iload_n hx hb mj_checkIndex_1 rfl (lv_at hl 1 rfl) ?_
  have key : ∀ w : Value, w.category = 1 → W p l e (headSpec (sv_ws mj_checkIndex) (sv_room 1)).room s m #[Value.int i, Value.int n] below meth c s.heap [] 0 0 (MQ below (sj_Q none) #[Value.int i, Value.int n] s 0 0 (fun _ => False)) (F0 m 5 ls [w, .int n, .int i]) := by
    intro w hw
    refine sj_call (v := some (.int i)) (va_runS (As := [.int i, .int n, w]) (rest := []) (n := 3) ⟨hx, hb, hml, hown, hts⟩ (sj_pcheck l i n w hi hn hw) ⟨callB_of 3 hts (sv_goodIn mj_pcheck mj_pcheck_c) rfl rfl rfl (hts _ mj_nP) (hts _ mj_m1059) (by decide +kernel) ⟨Nat.le_of_ble_eq_true rfl, Nat.le_of_ble_eq_true rfl⟩, hts _ mj_pcheck_t⟩ ⟨fun a U g mk q => q, fun U hU hW => ⟨rfl, trivial⟩⟩ rfl rfl hl.1 rfl (lv_room (Nat.le_of_ble_eq_true rfl)) mj_checkIndex_5 ⟨Nat.zero_le _, Nat.zero_le _⟩) ?_
    refine lv_pop hx hb mj_checkIndex_8 rfl ?_
    exact W.vret hx hb hr (fun t ht hW => ⟨rfl, ht⟩) (fun q hq => by cases hq) mj_checkIndex_9
  rcases hE.2.2.2.1.2 with hz | ⟨t, hz⟩
  · exact va_gets hx hb hz hS hown (hts _ mj_f1053) (fun x h => h) mj_checkIndex_2 (key .null rfl)
  · exact va_gets hx hb hz hS hown (hts _ mj_f1053) (fun x h => h) mj_checkIndex_2 (key (.ref t) rfl)
theorem sj_coder {X : Nat × (Nat → Int32)} {nw : List Jvm.Cond} (l : Launch) (ρ : Nat → Nat) (A : Nat → Prop) (k : Nat) (hk : k < 19) : Met l mj_coder.1 (sv_ws mj_coder) (sv_room 0) (va_Pc [.ref (ρ (1000 + k))] (fun U => sv_E X nw ρ A U U.heap)) (sj_Q (some (.int 0))) 0 0 (fun _ => False) := by
  refine Met.ofW (cc := mj_coder.2.1) (maxL := 1) (ret := some .byte) (by decide) rfl ?_
  intro p e s m args below meth c s₁ B hml hv
  obtain ⟨rfl, hE⟩ := hv
  have hx := B.exec
  have hb := B.bytes
  have hr := B.returns
  have hlocks := B.notSynchronized
  have hts0 := atoms_spec (ws := sv_ws mj_coder) B.pre
  have hts : ∀ w ∈ sv_Ts, w.before _ s = true := fun w hw => hts0 w (List.mem_cons_of_mem _ hw)
  have hown : s.vm.findClass "java/lang/String" = some m.cls := findClass_of_methodNamed B.named
  have hS : va_S A s.heap s.heap [] := va_S.rf
  have hl := lv_entry ([.ref (ρ (1000 + k))]) (n := 1) (Nat.le_of_ble_eq_true rfl)
  rw [lg_entry_eq]
  generalize (lg_sl ([.ref (ρ (1000 + k))]) ++ List.replicate (1 - (lg_sl ([.ref (ρ (1000 + k))])).length) Slot.unset).toArray = ls at hl ⊢
  refine va_gets hx hb hE.2.2.2.1.1 hS hown (hts _ mj_f38) (fun x h => h) mj_coder_0 ?_
  refine lv_if_eq (tgt := 13) hx hb mj_coder_3 (by decide) (fun z => absurd z (by decide)) (fun _ => ?_)
  refine lv_aload_n hx hb mj_coder_6 rfl (lv_at hl 0 rfl) ?_
  refine vk_getf hx hb (hE.2.1 k hk).2.1 hS hown (hts _ mj_f15) (fun x h => h) mj_coder_7 ?_
  refine lv_goto (tgt := 14) hx hb mj_coder_10 (by decide) ?_
  exact W.zret hx hb hr rfl (fun t ht hW => ⟨rfl, ht⟩) (fun q hq => by cases hq) mj_coder_14
theorem sj_isLatin1 {X : Nat × (Nat → Int32)} {nw : List Jvm.Cond} (l : Launch) (ρ : Nat → Nat) (A : Nat → Prop) (k : Nat) (hk : k < 19) : Met l mj_isLatin1.1 (sv_ws mj_isLatin1) (sv_room 0) (va_Pc [.ref (ρ (1000 + k))] (fun U => sv_E X nw ρ A U U.heap)) (sj_Q (some (.int 1))) 0 0 (fun _ => False) := by
  refine Met.ofW (cc := mj_isLatin1.2.1) (maxL := 1) (ret := some .boolean) (by decide) rfl ?_
  intro p e s m args below meth c s₁ B hml hv
  obtain ⟨rfl, hE⟩ := hv
  have hx := B.exec
  have hb := B.bytes
  have hr := B.returns
  have hlocks := B.notSynchronized
  have hts0 := atoms_spec (ws := sv_ws mj_isLatin1) B.pre
  have hts : ∀ w ∈ sv_Ts, w.before _ s = true := fun w hw => hts0 w (List.mem_cons_of_mem _ hw)
  have hown : s.vm.findClass "java/lang/String" = some m.cls := findClass_of_methodNamed B.named
  have hS : va_S A s.heap s.heap [] := va_S.rf
  have hl := lv_entry ([.ref (ρ (1000 + k))]) (n := 1) (Nat.le_of_ble_eq_true rfl)
  rw [lg_entry_eq]
  generalize (lg_sl ([.ref (ρ (1000 + k))]) ++ List.replicate (1 - (lg_sl ([.ref (ρ (1000 + k))])).length) Slot.unset).toArray = ls at hl ⊢
  refine va_gets hx hb hE.2.2.2.1.1 hS hown (hts _ mj_f38) (fun x h => h) mj_isLatin1_0 ?_
  refine lv_if_eq (tgt := 17) hx hb mj_isLatin1_3 (by decide) (fun z => absurd z (by decide)) (fun _ => ?_)
  refine lv_aload_n hx hb mj_isLatin1_6 rfl (lv_at hl 0 rfl) ?_
  refine vk_getf hx hb (hE.2.1 k hk).2.1 hS hown (hts _ mj_f15) (fun x h => h) mj_isLatin1_7 ?_
  refine lv_if_ne (tgt := 17) hx hb mj_isLatin1_10 (by decide) (fun z => absurd rfl z) (fun _ => ?_)
  refine lv_iconst (v := 1) hx hb mj_isLatin1_13 (by decide) ?_
  refine lv_goto (tgt := 18) hx hb mj_isLatin1_14 (by decide) ?_
  exact W.zret hx hb hr rfl (fun t ht hW => ⟨rfl, ht⟩) (fun q hq => by cases hq) mj_isLatin1_18
theorem sj_chr : ∀ k, k < 19 → ∀ j, j < sv_len k → ((sv_chr k j &&& 255).toUInt32 % 65536).toInt32 = sv_chr k j ∧ narrow .char (.int (sv_chr k j)) = .int (sv_chr k j) := by decide +kernel
theorem sj_len : ∀ k, k < 19 → sv_len k < 100 := by decide +kernel
theorem sj_lcharAt {X : Nat × (Nat → Int32)} {nw : List Jvm.Cond} (hn : ∀ w ∈ nw, sv_isN w) (l : Launch) (ρ : Nat → Nat) (A : Nat → Prop) (k t : Nat) (hk : k < 19) (i : Int32) (hi : vp_in i (sv_len k)) : Met l mj_lcharAt.1 (sv_ws mj_lcharAt) (sv_room 2) (va_Pc [.ref t, .int i] (fun U => sv_E X nw ρ A U U.heap ∧ va_T .byte t (sv_len k) (fun j => .int (sv_chr k j)) A U U.heap)) (sj_Q (some (.int (sv_chr k i.toNatClampNeg)))) 0 0 (fun _ => False) := by
  refine Met.ofW (cc := mj_lcharAt.2.1) (maxL := 2) (ret := some .char) (by decide) rfl ?_
  intro p e s m args below meth c s₁ B hml hv
  obtain ⟨rfl, hE, hT⟩ := hv
  have hx := B.exec
  have hb := B.bytes
  have hr := B.returns
  have hlocks := B.notSynchronized
  have hts0 := atoms_spec (ws := sv_ws mj_lcharAt) B.pre
  have hts : ∀ w ∈ sv_Ts, w.before _ s = true := fun w hw => hts0 w (List.mem_cons_of_mem _ hw)
  have hown : s.vm.findClass "java/lang/StringLatin1" = some m.cls := findClass_of_methodNamed B.named
  have hS : va_S A s.heap s.heap [] := va_S.rf
  have hEU : ∀ U : State, U.heap = s.heap → s.WarmedH U.vm → sv_E X nw ρ A U U.heap := by
    intro U hU hW
    rw [hU]
    exact sv_E.go hn hE hW (Nat.le_refl _) (fun _ _ _ => rfl) (fun _ z => z)
  have hlt : i.toNatClampNeg < sv_len k := Nat.not_le.mp fun q => hi (Or.inr q)
  obtain ⟨hc1, hc2⟩ := sj_chr k hk _ hlt
  have h0 : ¬ i < 0 := fun z => hi (Or.inl z)
  have h1 : i < Int32.ofNat (sv_len k) := by
    rw [Int32.lt_iff_toInt_lt]
    have h2 := (vp_in_iff.mp hi).2
    have h3 : (nI (sv_len k)).toInt = sv_len k := nI_toInt (by have := sj_len k hk; omega)
    show i.toInt < (nI (sv_len k)).toInt
    rw [h3]; exact h2
  have hl := lv_entry ([.ref t, .int i]) (n := 2) (Nat.le_of_ble_eq_true rfl)
  rw [lg_entry_eq]
  generalize (lg_sl ([.ref t, .int i]) ++ List.replicate (2 - (lg_sl ([.ref t, .int i])).length) Slot.unset).toArray = ls at hl ⊢
  refine lv_iload_n hx hb mj_lcharAt_0 rfl (lv_at hl 1 rfl) ?_
  refine lv_aload_n hx hb mj_lcharAt_1 rfl (lv_at hl 0 rfl) ?_
  refine va_tlen hx hb hT hS rfl mj_lcharAt_2 ?_
  refine sj_call (v := none) (va_runS (As := [.int i, .int (Int32.ofNat (sv_len k))]) (rest := []) (n := 2) ⟨hx, hb, hml, hown, hts⟩ (sj_checkIndex (X := X) (nw := nw) l ρ A i (Int32.ofNat (sv_len k)) h0 h1) ⟨callB_of 2 hts (sv_goodIn mj_checkIndex mj_checkIndex_c) rfl rfl rfl (hts _ mj_nS) (hts _ mj_m9) (by decide +kernel) ⟨Nat.le_of_ble_eq_true rfl, Nat.le_of_ble_eq_true rfl⟩, hts _ mj_checkIndex_t⟩ ⟨fun a U g mk q => ⟨q.1, sv_E.same (U := U.calling g mk a) hn q.2 rfl rfl⟩, fun U hU hW => ⟨rfl, hEU U hU hW⟩⟩ rfl rfl hl.1 rfl (lv_room (Nat.le_of_ble_eq_true rfl)) mj_lcharAt_3 ⟨Nat.zero_le _, Nat.zero_le _⟩) ?_
  refine lv_aload_n hx hb mj_lcharAt_6 rfl (lv_at hl 0 rfl) ?_
  refine lv_iload_n hx hb mj_lcharAt_7 rfl (lv_at hl 1 rfl) ?_
  refine va_tb hx hb hT hS hi rfl mj_lcharAt_8 ?_
  refine lv_sipush (v := 255) hx hb mj_lcharAt_9 (by decide) ?_
  refine lv_iand hx hb mj_lcharAt_12 ?_
  refine lv_i2c hx hb mj_lcharAt_13 hc1 ?_
  exact W.zret hx hb hr hc2 (fun t ht hW => ⟨rfl, ht⟩) (fun q hq => by cases hq) mj_lcharAt_14
theorem sj_length {X : Nat × (Nat → Int32)} {nw : List Jvm.Cond} (hn : ∀ w ∈ nw, sv_isN w) (l : Launch) (d : Nat) (hd : 5 ≤ d) (cs : List sv_C) (k : Nat) (hk : k < 19) : sv_Met X nw l (d + 1) MJ_length [.ref (1000 + k)] cs (some (.int (nI (sv_len k)))) cs := by
  intro D cA ρ sz
  refine Met.ofW (cc := mj_length.2.1) (maxL := 1) (ret := some .int) (by decide) rfl ?_
  intro p e s m args below meth c s₁ B hml hv
  obtain ⟨rfl, hsz, hP, hK, hD0, hE⟩ := hv
  have hx := B.exec
  have hb := B.bytes
  have hr := B.returns
  have hlocks := B.notSynchronized
  have hts0 := atoms_spec (ws := sv_ws MJ_length) B.pre
  have hts : ∀ w ∈ sv_Ts, w.before _ s = true := fun w hw => hts0 w (List.mem_cons_of_mem _ hw)
  have hown : s.vm.findClass "java/lang/String" = some m.cls := findClass_of_methodNamed B.named
  generalize va_A (sv_w ρ cA cs) sz = A at hE ⊢
  have hS : va_S A s.heap s.heap [] := va_S.rf
  have hEU : ∀ U : State, U.heap = s.heap → s.WarmedH U.vm → sv_E X nw ρ A U U.heap := by
    intro U hU hW
    rw [hU]
    exact sv_E.go hn hE hW (Nat.le_refl _) (fun _ _ _ => rfl) (fun _ z => z)
  obtain ⟨b1, b2, t, b3, b4⟩ := hE.2.1 k hk
  have hl := lv_entry ([.ref (ρ (1000 + k))]) (n := 1) (Nat.le_of_ble_eq_true rfl)
  show W p l e _ s m _ below meth c s.heap [] 0 0 _ (entryFrame m ([.ref (ρ (1000 + k))] : List Value).toArray 1)
  rw [lg_entry_eq]
  generalize (lg_sl ([.ref (ρ (1000 + k))]) ++ List.replicate (1 - (lg_sl ([.ref (ρ (1000 + k))])).length) Slot.unset).toArray = ls at hl ⊢
  refine lv_aload_n hx hb mj_length_0 rfl (lv_at hl 0 rfl) ?_
  refine vk_getf hx hb b3 hS hown (hts _ mj_f9) (fun x h => h) mj_length_1 ?_
  refine va_tlen hx hb b4 hS rfl mj_length_4 ?_
  refine lv_aload_n hx hb mj_length_5 rfl (lv_at hl 0 rfl) ?_
  have hrv : ∃ cellB : Cell, s.heap[ρ (1000 + k)]? = some cellB ∧ cellB.vm.isStatics = false ∧ s.vm.findClass "java/lang/String" = some cellB.cls := by
    obtain ⟨cell, g1, g2, g3, -⟩ := b1
    exact ⟨cell, g1, g2, g3⟩
  refine sj_call (v := some (.int 0)) (va_runV (As := []) (rest := [.int (Int32.ofNat (sv_len k))]) (n := 0) ⟨hx, hb, hml, hown, hts⟩ (sj_coder (X := X) (nw := nw) l ρ A k hk) ⟨callB_of 0 hts (sv_goodIn mj_coder mj_coder_c) rfl rfl rfl (hts _ mj_nS) (hts _ mj_m335) (by decide +kernel) ⟨by show 0 + 1 + 1 ≤ d + 1 + 1; omega, by show 8 + (1 + 11) + 100 * (0 + 1) ≤ 100 * (d + 1 + 1); omega⟩, hts _ mj_coder_i, hts _ mj_coder_s⟩ ⟨fun a U g mk q => ⟨q.1, sv_E.same (U := U.calling g mk a) hn q.2 rfl rfl⟩, hrv, fun U hU hW => ⟨rfl, hEU U hU hW⟩⟩ rfl rfl hl.1 rfl (lv_room (Nat.le_of_ble_eq_true rfl)) mj_length_6 ⟨Nat.zero_le _, Nat.zero_le _⟩) ?_
  refine lv_ishr hx hb mj_length_9 ?_
  have h0 : (Int32.ofNat (sv_len k)) >>> ((0 : Int32) &&& 31) = nI (sv_len k) := by
    have : ∀ k, k < 19 → (Int32.ofNat (sv_len k)) >>> ((0 : Int32) &&& 31) = nI (sv_len k) := by decide +kernel
    exact this k hk
  rw [h0]
  exact W.iret hx hb hr (fun t ht hW => ⟨⟨rfl, by rw [ht]; exact hP⟩, hS.F ht⟩) (fun q hq => by cases hq) mj_length_10
theorem sj_charAt {X : Nat × (Nat → Int32)} {nw : List Jvm.Cond} (hn : ∀ w ∈ nw, sv_isN w) (l : Launch) (d : Nat) (hd : 5 ≤ d) (cs : List sv_C) (k : Nat) (i : Int32) (hk : k < 19) (hi : vp_in i (sv_len k)) : sv_Met X nw l (d + 1) MJ_charAt [.ref (1000 + k), .int i] cs (some (.int (sv_chr k i.toNatClampNeg))) cs := by
  intro D cA ρ sz
  refine Met.ofW (cc := mj_charAt.2.1) (maxL := 2) (ret := some .char) (by decide) rfl ?_
  intro p e s m args below meth c s₁ B hml hv
  obtain ⟨rfl, hsz, hP, hK, hD0, hE⟩ := hv
  have hx := B.exec
  have hb := B.bytes
  have hr := B.returns
  have hlocks := B.notSynchronized
  have hts0 := atoms_spec (ws := sv_ws MJ_charAt) B.pre
  have hts : ∀ w ∈ sv_Ts, w.before _ s = true := fun w hw => hts0 w (List.mem_cons_of_mem _ hw)
  have hown : s.vm.findClass "java/lang/String" = some m.cls := findClass_of_methodNamed B.named
  generalize va_A (sv_w ρ cA cs) sz = A at hE ⊢
  have hS : va_S A s.heap s.heap [] := va_S.rf
  have hEU : ∀ U : State, U.heap = s.heap → s.WarmedH U.vm → sv_E X nw ρ A U U.heap := by
    intro U hU hW
    rw [hU]
    exact sv_E.go hn hE hW (Nat.le_refl _) (fun _ _ _ => rfl) (fun _ z => z)
  obtain ⟨b1, b2, t, b3, b4⟩ := hE.2.1 k hk
  have hTU : ∀ U : State, U.heap = s.heap → s.WarmedH U.vm → va_T .byte t (sv_len k) (fun j => .int (sv_chr k j)) A U U.heap := by
    intro U hU hW
    rw [hU]
    exact b4.moved hW.alike
  have hlt : i.toNatClampNeg < sv_len k := Nat.not_le.mp fun q => hi (Or.inr q)
  obtain ⟨hc1, hc2⟩ := sj_chr k hk _ hlt
  have hl := lv_entry ([.ref (ρ (1000 + k)), .int i]) (n := 2) (Nat.le_of_ble_eq_true rfl)
  show W p l e _ s m _ below meth c s.heap [] 0 0 _ (entryFrame m ([.ref (ρ (1000 + k)), .int i] : List Value).toArray 2)
  rw [lg_entry_eq]
  generalize (lg_sl ([.ref (ρ (1000 + k)), .int i]) ++ List.replicate (2 - (lg_sl ([.ref (ρ (1000 + k)), .int i])).length) Slot.unset).toArray = ls at hl ⊢
  refine lv_aload_n hx hb mj_charAt_0 rfl (lv_at hl 0 rfl) ?_
  have hrv : ∃ cellB : Cell, s.heap[ρ (1000 + k)]? = some cellB ∧ cellB.vm.isStatics = false ∧ s.vm.findClass "java/lang/String" = some cellB.cls := by
    obtain ⟨cell, g1, g2, g3, -⟩ := b1
    exact ⟨cell, g1, g2, g3⟩
  refine sj_call (v := some (.int 1)) (va_runV (As := []) (rest := []) (n := 0) ⟨hx, hb, hml, hown, hts⟩ (sj_isLatin1 (X := X) (nw := nw) l ρ A k hk) ⟨callB_of 0 hts (sv_goodIn mj_isLatin1 mj_isLatin1_c) rfl rfl rfl (hts _ mj_nS) (hts _ mj_m492) (by decide +kernel) ⟨by show 0 + 1 + 1 ≤ d + 1 + 1; omega, by show 8 + (1 + 11) + 100 * (0 + 1) ≤ 100 * (d + 1 + 1); omega⟩, hts _ mj_isLatin1_i, hts _ mj_isLatin1_s⟩ ⟨fun a U g mk q => ⟨q.1, sv_E.same (U := U.calling g mk a) hn q.2 rfl rfl⟩, hrv, fun U hU hW => ⟨rfl, hEU U hU hW⟩⟩ rfl rfl hl.1 rfl (lv_room (Nat.le_of_ble_eq_true rfl)) mj_charAt_1 ⟨Nat.zero_le _, Nat.zero_le _⟩) ?_
  refine lv_if_eq (tgt := 16) hx hb mj_charAt_4 (by decide) (fun z => absurd z (by decide)) (fun _ => ?_)
  refine lv_aload_n hx hb mj_charAt_7 rfl (lv_at hl 0 rfl) ?_
  refine vk_getf hx hb b3 hS hown (hts _ mj_f9) (fun x h => h) mj_charAt_8 ?_
  refine lv_iload_n hx hb mj_charAt_11 rfl (lv_at hl 1 rfl) ?_
  refine sj_call (v := some (.int (sv_chr k i.toNatClampNeg))) (va_runS (As := [.ref t, .int i]) (rest := []) (n := 2) ⟨hx, hb, hml, hown, hts⟩ (sj_lcharAt (X := X) (nw := nw) hn l ρ A k t hk i hi) ⟨callB_of 2 hts (sv_goodIn mj_lcharAt mj_lcharAt_c) rfl rfl rfl (hts _ mj_nL) (hts _ mj_m495) (by decide +kernel) ⟨by show 2 + 1 + 1 ≤ d + 1 + 1; omega, by show 8 + (2 + 11) + 100 * (2 + 1) ≤ 100 * (d + 1 + 1); omega⟩, hts _ mj_lcharAt_t⟩ ⟨fun a U g mk q => ⟨q.1, sv_E.same (U := U.calling g mk a) hn q.2.1 rfl rfl, va_T.moved (u := U) (U := U.calling g mk a) (Vm.Alike.refl U.vm) q.2.2⟩, fun U hU hW => ⟨rfl, hEU U hU hW, hTU U hU hW⟩⟩ rfl rfl hl.1 rfl (lv_room (Nat.le_of_ble_eq_true rfl)) mj_charAt_12 ⟨Nat.zero_le _, Nat.zero_le _⟩) ?_
  exact W.zret hx hb hr hc2 (fun t ht hW => ⟨⟨rfl, by rw [ht]; exact hP⟩, hS.F ht⟩) (fun q hq => by cases hq) mj_charAt_15
theorem sj_C0 {X : Nat × (Nat → Int32)} (l : Launch) : ∀ d M av cs v cs', 5 ≤ d → sv_C0 M av cs v cs' → sv_Met X sv_nw l (d + 1) M av cs v cs' := by
  intro d M av cs v cs' hd h
  rcases h with ⟨rfl, k, hk, rfl, rfl, rfl⟩ | ⟨rfl, k, i, hk, hi, rfl, rfl, rfl⟩
  · exact sj_length sv_nw_ok l d hd cs' k hk
  · exact sj_charAt sv_nw_ok l d hd cs' k i hk hi
/-- every answer of the small machine is the machine's -/
theorem sv_all {X : Nat × (Nat → Int32)} (l : Launch) {d : Nat} {M : sv_M} {av : List Value} {cs : List sv_C} {v : Option Value} {cs' : List sv_C} (h : sv_R X d M av cs v cs') : sv_Met X sv_nw l d M av cs v cs' := sv_Ret_met sv_nw_ok (sj_C0 l) d M av cs v cs' h
