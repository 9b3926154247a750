abbrev m_Pre_checkIndex : cd_M := (⟨"jdk/internal/util/Preconditions", "checkIndex", "(IILjava/util/function/BiFunction;)I"⟩, prog_36_method_11_code, 3, some .int, 1, 20)
theorem d_Pre_checkIndex_0 : decode prog_36_method_11_code 0 = .ok (.iload_n 0, 1) := by decide +kernel
theorem d_Pre_checkIndex_1 : decode prog_36_method_11_code 1 = .ok (.ifCond .lt 8, 3) := by decide +kernel
theorem d_Pre_checkIndex_4 : decode prog_36_method_11_code 4 = .ok (.iload_n 0, 1) := by decide +kernel
theorem d_Pre_checkIndex_5 : decode prog_36_method_11_code 5 = .ok (.iload_n 1, 1) := by decide +kernel
theorem d_Pre_checkIndex_6 : decode prog_36_method_11_code 6 = .ok (.if_icmp .lt 10, 3) := by decide +kernel
theorem d_Pre_checkIndex_16 : decode prog_36_method_11_code 16 = .ok (.iload_n 0, 1) := by decide +kernel
theorem d_Pre_checkIndex_17 : decode prog_36_method_11_code 17 = .ok (.ireturn, 1) := by decide +kernel
theorem g_Pre_checkIndex {X : cd_E} {kc ks : Nat} {h : cd_H} {Q : Option Value → cd_H → Prop} {p1 : Int32} {p2 : Int32} {p3 : Option Nat} (H : (((p1 < 0) → (False)) ∧ ((¬ p1 < 0) → ((((p1 < p2) → (Q (some (.int p1)) h)) ∧ ((¬ p1 < p2) → (False))))))) : cd_W X m_Pre_checkIndex kc ks 0 [some (.int p1), some (.int p2), some (va_rf p3)] [] h Q := by
  refine cd_iload_n (i := 0) d_Pre_checkIndex_0 rfl rfl ?_
  show cd_W X m_Pre_checkIndex kc ks 1 [some (.int p1), some (.int p2), some (va_rf p3)] [.int p1] h Q
  refine cd_if_lt (tgt := 9) d_Pre_checkIndex_1 (by decide) (fun t1 => ?_) (fun t1 => ?_)
  · replace H := H.1 t1
    exact H.elim
  · replace H := H.2 t1
    refine cd_iload_n (i := 0) d_Pre_checkIndex_4 rfl rfl ?_
    refine cd_iload_n (i := 1) d_Pre_checkIndex_5 rfl rfl ?_
    refine cd_icmp_lt (tgt := 16) d_Pre_checkIndex_6 (by decide) (fun t2 => ?_) (fun t2 => ?_)
    · replace H := H.1 t2
      refine cd_iload_n (i := 0) d_Pre_checkIndex_16 rfl rfl ?_
      exact cd_iret d_Pre_checkIndex_17 rfl rfl H
    · replace H := H.2 t2
      exact H.elim

abbrev m_Obj_checkIndex : cd_M := (⟨"java/util/Objects", "checkIndex", "(II)I"⟩, prog_32_method_17_code, 2, some .int, 2, 42)
theorem d_Obj_checkIndex_0 : decode prog_32_method_17_code 0 = .ok (.iload_n 0, 1) := by decide +kernel
theorem d_Obj_checkIndex_1 : decode prog_32_method_17_code 1 = .ok (.iload_n 1, 1) := by decide +kernel
theorem d_Obj_checkIndex_2 : decode prog_32_method_17_code 2 = .ok (.aconst_null, 1) := by decide +kernel
theorem d_Obj_checkIndex_3 : decode prog_32_method_17_code 3 = .ok (.invokestatic 105, 3) := by decide +kernel
theorem kw_2_19 : (Jvm.Cond.methodLink "java/util/Objects" (105 : Nat) ({ cls := "jdk/internal/util/Preconditions", name := "checkIndex", desc := "(IILjava/util/function/BiFunction;)I" } : Jvm.MethodName)) ∈ cd_tbl := tb_2 (List.mem_of_getElem? (i := 19) (by decide +kernel)) (by decide)
theorem kw_2_21 : (Jvm.Cond.code ({ cls := "jdk/internal/util/Preconditions", name := "checkIndex", desc := "(IILjava/util/function/BiFunction;)I" } : Jvm.MethodName) prog_36_method_11_code (3 : Nat) (Option.some Jvm.ClassFile.FieldType.int)) ∈ cd_tbl := tb_2 (List.mem_of_getElem? (i := 21) (by decide +kernel)) (by decide)
theorem kw_1_13 : (Jvm.Cond.initialized "jdk/internal/util/Preconditions") ∈ cd_tbl := tb_1 (List.mem_of_getElem? (i := 13) (by decide +kernel)) (by decide)
theorem kw_2_20 : (Jvm.Cond.static ({ cls := "jdk/internal/util/Preconditions", name := "checkIndex", desc := "(IILjava/util/function/BiFunction;)I" } : Jvm.MethodName)) ∈ cd_tbl := tb_2 (List.mem_of_getElem? (i := 20) (by decide +kernel)) (by decide)
theorem ca_Obj_checkIndex_105 {X : cd_E} : cd_CS X m_Obj_checkIndex m_Pre_checkIndex 105 3 := ⟨⟨by decide, kw_2_21, kw_1_13, ⟨by decide, by decide, by decide +kernel⟩, by decide, by decide⟩, kw_2_20, (Or.inl kw_2_19)⟩
theorem d_Obj_checkIndex_6 : decode prog_32_method_17_code 6 = .ok (.ireturn, 1) := by decide +kernel
theorem g_Obj_checkIndex {X : cd_E} {kc ks : Nat} {h : cd_H} {Q : Option Value → cd_H → Prop} {p1 : Int32} {p2 : Int32} (H : cd_W X m_Pre_checkIndex 0 0 0 [some (.int p1), some (.int p2), some (.null)] [] h (fun r1 h2 => ∃ x3 : Int32, r1 = some (.int x3) ∧ (Q (some (.int x3)) h2))) : cd_W X m_Obj_checkIndex kc ks 0 [some (.int p1), some (.int p2)] [] h Q := by
  refine cd_iload_n (i := 0) d_Obj_checkIndex_0 rfl rfl ?_
  refine cd_iload_n (i := 1) d_Obj_checkIndex_1 rfl rfl ?_
  show cd_W X m_Obj_checkIndex kc ks 2 [some (.int p1), some (.int p2)] [.int p2, .int p1] h Q
  refine cd_null d_Obj_checkIndex_2 ?_
  refine cd_callS (kc := kc) (ks := ks) (kc' := 0) (ks' := 0) (As := [.int p1, .int p2, .null]) (S := []) d_Obj_checkIndex_3 ca_Obj_checkIndex_105 rfl (Nat.le_of_ble_eq_true rfl) (Nat.le_of_ble_eq_true rfl) ?_
  refine cd_W.mono (fun r1 h2 H => ?_) H
  obtain ⟨x3, rfl, H⟩ := H
  show cd_W X m_Obj_checkIndex kc ks 6 [some (.int p1), some (.int p2)] [.int x3] h2 Q
  exact cd_iret d_Obj_checkIndex_6 rfl rfl H

abbrev m_Str_checkIndex : cd_M := (⟨"java/lang/String", "checkIndex", "(II)V"⟩, prog_21_method_155_code, 2, none, 2, 42)
theorem d_Str_checkIndex_0 : decode prog_21_method_155_code 0 = .ok (.iload_n 0, 1) := by decide +kernel
theorem d_Str_checkIndex_1 : decode prog_21_method_155_code 1 = .ok (.iload_n 1, 1) := by decide +kernel
theorem d_Str_checkIndex_2 : decode prog_21_method_155_code 2 = .ok (.getstatic 1053, 3) := by decide +kernel
theorem kw_2_99 : (Jvm.Cond.fieldLink "java/lang/String" (1053 : Nat) "jdk/internal/util/Preconditions" "SIOOBE_FORMATTER" "Ljava/util/function/BiFunction;") ∈ cd_tbl := tb_2 (List.mem_of_getElem? (i := 99) (by decide +kernel)) (by decide)
theorem d_Str_checkIndex_5 : decode prog_21_method_155_code 5 = .ok (.invokestatic 1059, 3) := by decide +kernel
theorem kw_2_101 : (Jvm.Cond.methodLink "java/lang/String" (1059 : Nat) ({ cls := "jdk/internal/util/Preconditions", name := "checkIndex", desc := "(IILjava/util/function/BiFunction;)I" } : Jvm.MethodName)) ∈ cd_tbl := tb_2 (List.mem_of_getElem? (i := 101) (by decide +kernel)) (by decide)
theorem ca_Str_checkIndex_1059 {X : cd_E} : cd_CS X m_Str_checkIndex m_Pre_checkIndex 1059 3 := ⟨⟨by decide, kw_2_21, kw_1_13, ⟨by decide, by decide, by decide +kernel⟩, by decide, by decide⟩, kw_2_20, (Or.inl kw_2_101)⟩
theorem d_Str_checkIndex_8 : decode prog_21_method_155_code 8 = .ok (.pop, 1) := by decide +kernel
theorem d_Str_checkIndex_9 : decode prog_21_method_155_code 9 = .ok (.return_, 1) := by decide +kernel
theorem g_Str_checkIndex {X : cd_E} {kc ks : Nat} {h : cd_H} {Q : Option Value → cd_H → Prop} {p1 : Int32} {p2 : Int32} (H : (∀ o1 : Option Nat, (cd_W X m_Pre_checkIndex 0 0 0 [some (.int p1), some (.int p2), some (va_rf o1)] [] h (fun r2 h3 => ∃ x4 : Int32, r2 = some (.int x4) ∧ (Q none h3))))) : cd_W X m_Str_checkIndex kc ks 0 [some (.int p1), some (.int p2)] [] h Q := by
  refine cd_iload_n (i := 0) d_Str_checkIndex_0 rfl rfl ?_
  show cd_W X m_Str_checkIndex kc ks 1 [some (.int p1), some (.int p2)] [.int p1] h Q
  refine cd_iload_n (i := 1) d_Str_checkIndex_1 rfl rfl ?_
  refine cd_getsQ d_Str_checkIndex_2 kw_2_99 (fun o1 => ?_)
  replace H := H o1
  refine cd_callS (kc := kc) (ks := ks) (kc' := 0) (ks' := 0) (As := [.int p1, .int p2, va_rf o1]) (S := []) d_Str_checkIndex_5 ca_Str_checkIndex_1059 (by simp only [cd_args, cd_args_rf]; rfl) (by simp only [cd_args, cd_args_rf]; exact Nat.le_of_ble_eq_true rfl) (Nat.le_of_ble_eq_true rfl) ?_
  refine cd_W.mono (fun r2 h3 H => ?_) H
  obtain ⟨x4, rfl, H⟩ := H
  show cd_W X m_Str_checkIndex kc ks 8 [some (.int p1), some (.int p2)] [.int x4] h3 Q
  refine cd_pop d_Str_checkIndex_8 rfl ?_
  exact cd_vret d_Str_checkIndex_9 rfl H

abbrev m_Str_coder : cd_M := (⟨"java/lang/String", "coder", "()B"⟩, prog_21_method_152_code, 1, some .byte, 1, 20)
theorem d_Str_coder_0 : decode prog_21_method_152_code 0 = .ok (.getstatic 38, 3) := by decide +kernel
theorem kw_2_83 : (Jvm.Cond.fieldLink "java/lang/String" (38 : Nat) "java/lang/String" "COMPACT_STRINGS" "Z") ∈ cd_tbl := tb_2 (List.mem_of_getElem? (i := 83) (by decide +kernel)) (by decide)
theorem d_Str_coder_3 : decode prog_21_method_152_code 3 = .ok (.ifCond .eq 10, 3) := by decide +kernel
theorem d_Str_coder_6 : decode prog_21_method_152_code 6 = .ok (.aload_n 0, 1) := by decide +kernel
theorem d_Str_coder_7 : decode prog_21_method_152_code 7 = .ok (.getfield 15, 3) := by decide +kernel
theorem kw_3_198 : (Jvm.Cond.fieldLink "java/lang/String" (15 : Nat) "java/lang/String" "coder" "B") ∈ cd_tbl := tb_3 (List.mem_of_getElem? (i := 198) (by decide +kernel)) (by decide)
theorem fl_Str_15 {X : cd_E} : cd_FL X "java/lang/String" 15 13 1 .byte := cd_FL.of rfl rfl (by decide) kw_3_198 (Or.inl rfl)
theorem d_Str_coder_10 : decode prog_21_method_152_code 10 = .ok (.goto 4, 3) := by decide +kernel
theorem d_Str_coder_14 : decode prog_21_method_152_code 14 = .ok (.ireturn, 1) := by decide +kernel
theorem g_Str_coder {X : cd_E} {kc ks : Nat} {h : cd_H} {Q : Option Value → cd_H → Prop} {a0 : Nat} (H : (cd_k h a0 = some (.inl 13)) ∧ ((narrow .byte (.int (cd_i h a0 1)) = .int (cd_i h a0 1)) ∧ (Q (some (.int (cd_i h a0 1))) h))) : cd_W X m_Str_coder kc ks 0 [some (.ref a0)] [] h Q := by
  refine cd_gets (v := .int 1) d_Str_coder_0 (C := "java/lang/String") (n := "COMPACT_STRINGS") (d := "Z") (ref := "java/lang/String") (List.mem_of_getElem? (i := 5) rfl) kw_2_83 (Or.inl rfl) ?_
  show cd_W X m_Str_coder kc ks 3 [some (.ref a0)] [.int 1] h Q
  refine cd_if_eq (tgt := 13) d_Str_coder_3 (by decide) (fun hc => absurd hc (by decide)) (fun _ => ?_)
  refine cd_aload_n (i := 0) (v := .ref a0) d_Str_coder_6 rfl rfl (cd_isr_ref _) ?_
  obtain ⟨c1, H⟩ := H
  refine cd_get (v := .int (cd_i h a0 1)) d_Str_coder_7 fl_Str_15 c1 rfl ?_
  refine cd_goto (tgt := 14) d_Str_coder_10 (by decide) ?_
  obtain ⟨c2, H⟩ := H
  exact cd_iret d_Str_coder_14 rfl c2 H

abbrev m_Str_isLatin1 : cd_M := (⟨"java/lang/String", "isLatin1", "()Z"⟩, prog_21_method_154_code, 1, some .boolean, 1, 20)
theorem d_Str_isLatin1_0 : decode prog_21_method_154_code 0 = .ok (.getstatic 38, 3) := by decide +kernel
theorem d_Str_isLatin1_3 : decode prog_21_method_154_code 3 = .ok (.ifCond .eq 14, 3) := by decide +kernel
theorem d_Str_isLatin1_6 : decode prog_21_method_154_code 6 = .ok (.aload_n 0, 1) := by decide +kernel
theorem d_Str_isLatin1_7 : decode prog_21_method_154_code 7 = .ok (.getfield 15, 3) := by decide +kernel
theorem d_Str_isLatin1_10 : decode prog_21_method_154_code 10 = .ok (.ifCond .ne 7, 3) := by decide +kernel
theorem d_Str_isLatin1_17 : decode prog_21_method_154_code 17 = .ok (.iconst 0, 1) := by decide +kernel
theorem d_Str_isLatin1_18 : decode prog_21_method_154_code 18 = .ok (.ireturn, 1) := by decide +kernel
theorem d_Str_isLatin1_13 : decode prog_21_method_154_code 13 = .ok (.iconst 1, 1) := by decide +kernel
theorem d_Str_isLatin1_14 : decode prog_21_method_154_code 14 = .ok (.goto 4, 3) := by decide +kernel
theorem g_Str_isLatin1 {X : cd_E} {kc ks : Nat} {h : cd_H} {Q : Option Value → cd_H → Prop} {a0 : Nat} (H : (cd_k h a0 = some (.inl 13)) ∧ ((((¬ (cd_i h a0 1) = 0) → (Q (some (.int 0)) h)) ∧ (((cd_i h a0 1) = 0) → (Q (some (.int 1)) h))))) : cd_W X m_Str_isLatin1 kc ks 0 [some (.ref a0)] [] h Q := by
  refine cd_gets (v := .int 1) d_Str_isLatin1_0 (C := "java/lang/String") (n := "COMPACT_STRINGS") (d := "Z") (ref := "java/lang/String") (List.mem_of_getElem? (i := 5) rfl) kw_2_83 (Or.inl rfl) ?_
  refine cd_if_eq (tgt := 17) d_Str_isLatin1_3 (by decide) (fun hc => absurd hc (by decide)) (fun _ => ?_)
  refine cd_aload_n (i := 0) (v := .ref a0) d_Str_isLatin1_6 rfl rfl (cd_isr_ref _) ?_
  obtain ⟨c1, H⟩ := H
  refine cd_get (v := .int (cd_i h a0 1)) d_Str_isLatin1_7 fl_Str_15 c1 rfl ?_
  refine cd_if_ne (tgt := 17) d_Str_isLatin1_10 (by decide) (fun t2 => ?_) (fun t2 => ?_)
  · replace H := H.1 t2
    refine cd_iconst (v := 0) d_Str_isLatin1_17 (by decide) ?_
    show cd_W X m_Str_isLatin1 kc ks 18 [some (.ref a0)] [.int 0] h Q
    exact cd_iret d_Str_isLatin1_18 rfl rfl H
  · replace H := H.2 t2
    refine cd_iconst (v := 1) d_Str_isLatin1_13 (by decide) ?_
    refine cd_goto (tgt := 18) d_Str_isLatin1_14 (by decide) ?_
    exact cd_iret d_Str_isLatin1_18 rfl rfl H

abbrev m_SL1_charAt : cd_M := (⟨"java/lang/StringLatin1", "charAt", "([BI)C"⟩, prog_23_method_2_code, 2, some .char, 3, 63)
theorem d_SL1_charAt_0 : decode prog_23_method_2_code 0 = .ok (.iload_n 1, 1) := by decide +kernel
theorem d_SL1_charAt_1 : decode prog_23_method_2_code 1 = .ok (.aload_n 0, 1) := by decide +kernel
theorem d_SL1_charAt_2 : decode prog_23_method_2_code 2 = .ok (.arraylength, 1) := by decide +kernel
theorem d_SL1_charAt_3 : decode prog_23_method_2_code 3 = .ok (.invokestatic 9, 3) := by decide +kernel
theorem kw_2_96 : (Jvm.Cond.methodLink "java/lang/StringLatin1" (9 : Nat) ({ cls := "java/lang/String", name := "checkIndex", desc := "(II)V" } : Jvm.MethodName)) ∈ cd_tbl := tb_2 (List.mem_of_getElem? (i := 96) (by decide +kernel)) (by decide)
theorem kw_2_98 : (Jvm.Cond.code ({ cls := "java/lang/String", name := "checkIndex", desc := "(II)V" } : Jvm.MethodName) prog_21_method_155_code (2 : Nat) (Option.none : Option Jvm.ClassFile.FieldType)) ∈ cd_tbl := tb_2 (List.mem_of_getElem? (i := 98) (by decide +kernel)) (by decide)
theorem kw_2_97 : (Jvm.Cond.static ({ cls := "java/lang/String", name := "checkIndex", desc := "(II)V" } : Jvm.MethodName)) ∈ cd_tbl := tb_2 (List.mem_of_getElem? (i := 97) (by decide +kernel)) (by decide)
theorem ca_SL1_charAt_9 {X : cd_E} : cd_CS X m_SL1_charAt m_Str_checkIndex 9 2 := ⟨⟨by decide, kw_2_98, kw_1_14, ⟨by decide, by decide, by decide +kernel⟩, by decide, by decide⟩, kw_2_97, (Or.inl kw_2_96)⟩
theorem d_SL1_charAt_6 : decode prog_23_method_2_code 6 = .ok (.aload_n 0, 1) := by decide +kernel
theorem d_SL1_charAt_7 : decode prog_23_method_2_code 7 = .ok (.iload_n 1, 1) := by decide +kernel
theorem d_SL1_charAt_8 : decode prog_23_method_2_code 8 = .ok (.baload, 1) := by decide +kernel
theorem d_SL1_charAt_9 : decode prog_23_method_2_code 9 = .ok (.sipush 255, 3) := by decide +kernel
theorem d_SL1_charAt_12 : decode prog_23_method_2_code 12 = .ok (.iand, 1) := by decide +kernel
theorem d_SL1_charAt_13 : decode prog_23_method_2_code 13 = .ok (.i2c, 1) := by decide +kernel
theorem d_SL1_charAt_14 : decode prog_23_method_2_code 14 = .ok (.ireturn, 1) := by decide +kernel
theorem g_SL1_charAt {X : cd_E} {kc ks : Nat} {h : cd_H} {Q : Option Value → cd_H → Prop} {p1 : Nat} {p2 : Int32} (H : (∃ n1 : Nat, cd_k h p1 = some (.inr (3, n1)) ∧ (cd_W X m_Str_checkIndex 0 0 0 [some (.int p2), some (.int (nI n1))] [] h (fun r3 h4 => (r3 = none) ∧ ((∃ n5 : Nat, cd_k h4 p1 = some (.inr (3, n5)) ∧ ((vp_in p2 n5) ∧ ((narrow .char (.int ((((cd_i h4 p1 p2.toNatClampNeg) &&& 255).toUInt32 % 65536).toInt32)) = .int ((((cd_i h4 p1 p2.toNatClampNeg) &&& 255).toUInt32 % 65536).toInt32)) ∧ (Q (some (.int ((((cd_i h4 p1 p2.toNatClampNeg) &&& 255).toUInt32 % 65536).toInt32))) h4))))))))) : cd_W X m_SL1_charAt kc ks 0 [some (.ref p1), some (.int p2)] [] h Q := by
  refine cd_iload_n (i := 1) d_SL1_charAt_0 rfl rfl ?_
  refine cd_aload_n (i := 0) (v := .ref p1) d_SL1_charAt_1 rfl rfl (cd_isr_ref _) ?_
  obtain ⟨n1, c2, H⟩ := H
  refine cd_alen d_SL1_charAt_2 rfl c2 ?_
  refine cd_callS (kc := kc) (ks := ks) (kc' := 0) (ks' := 0) (As := [.int p2, .int (nI n1)]) (S := []) d_SL1_charAt_3 ca_SL1_charAt_9 rfl (Nat.le_of_ble_eq_true rfl) (Nat.le_of_ble_eq_true rfl) ?_
  refine cd_W.mono (fun r3 h4 H => ?_) H
  obtain ⟨rfl, H⟩ := H
  show cd_W X m_SL1_charAt kc ks 6 [some (.ref p1), some (.int p2)] [] h4 Q
  refine cd_aload_n (i := 0) (v := .ref p1) d_SL1_charAt_6 rfl rfl (cd_isr_ref _) ?_
  show cd_W X m_SL1_charAt kc ks 7 [some (.ref p1), some (.int p2)] [.ref p1] h4 Q
  refine cd_iload_n (i := 1) d_SL1_charAt_7 rfl rfl ?_
  obtain ⟨n5, c6, H⟩ := H
  obtain ⟨c7, H⟩ := H
  refine cd_bald (j := p2) d_SL1_charAt_8 rfl c6 c7 ?_
  refine cd_sipush (v := 255) d_SL1_charAt_9 (by decide) ?_
  refine cd_iand d_SL1_charAt_12 ?_
  refine cd_i2c d_SL1_charAt_13 ?_
  obtain ⟨c8, H⟩ := H
  exact cd_iret d_SL1_charAt_14 rfl c8 H

abbrev m_SL1_canEncode : cd_M := (⟨"java/lang/StringLatin1", "canEncode", "(C)Z"⟩, prog_23_method_3_code, 1, some .boolean, 1, 20)
theorem d_SL1_canEncode_0 : decode prog_23_method_3_code 0 = .ok (.iload_n 0, 1) := by decide +kernel
theorem d_SL1_canEncode_1 : decode prog_23_method_3_code 1 = .ok (.sipush 255, 3) := by decide +kernel
theorem d_SL1_canEncode_4 : decode prog_23_method_3_code 4 = .ok (.if_icmp .gt 7, 3) := by decide +kernel
theorem d_SL1_canEncode_11 : decode prog_23_method_3_code 11 = .ok (.iconst 0, 1) := by decide +kernel
theorem d_SL1_canEncode_12 : decode prog_23_method_3_code 12 = .ok (.ireturn, 1) := by decide +kernel
theorem d_SL1_canEncode_7 : decode prog_23_method_3_code 7 = .ok (.iconst 1, 1) := by decide +kernel
theorem d_SL1_canEncode_8 : decode prog_23_method_3_code 8 = .ok (.goto 4, 3) := by decide +kernel
theorem g_SL1_canEncode {X : cd_E} {kc ks : Nat} {h : cd_H} {Q : Option Value → cd_H → Prop} {p1 : Int32} (H : (((255 < p1) → (Q (some (.int 0)) h)) ∧ ((¬ 255 < p1) → (Q (some (.int 1)) h)))) : cd_W X m_SL1_canEncode kc ks 0 [some (.int p1)] [] h Q := by
  refine cd_iload_n (i := 0) d_SL1_canEncode_0 rfl rfl ?_
  refine cd_sipush (v := 255) d_SL1_canEncode_1 (by decide) ?_
  refine cd_icmp_gt (tgt := 11) d_SL1_canEncode_4 (by decide) (fun t1 => ?_) (fun t1 => ?_)
  · replace H := H.1 t1
    refine cd_iconst (v := 0) d_SL1_canEncode_11 (by decide) ?_
    exact cd_iret d_SL1_canEncode_12 rfl rfl H
  · replace H := H.2 t1
    refine cd_iconst (v := 1) d_SL1_canEncode_7 (by decide) ?_
    refine cd_goto (tgt := 12) d_SL1_canEncode_8 (by decide) ?_
    show cd_W X m_SL1_canEncode kc ks 12 [some (.int p1)] [.int 1] h Q
    exact cd_iret d_SL1_canEncode_12 rfl rfl H

abbrev m_SL1_equals : cd_M := (⟨"java/lang/StringLatin1", "equals", "([B[B)Z"⟩, prog_23_method_13_code, 3, some .boolean, 1, 20)
theorem d_SL1_equals_0 : decode prog_23_method_13_code 0 = .ok (.aload_n 0, 1) := by decide +kernel
theorem d_SL1_equals_1 : decode prog_23_method_13_code 1 = .ok (.arraylength, 1) := by decide +kernel
theorem d_SL1_equals_2 : decode prog_23_method_13_code 2 = .ok (.aload_n 1, 1) := by decide +kernel
theorem d_SL1_equals_3 : decode prog_23_method_13_code 3 = .ok (.arraylength, 1) := by decide +kernel
theorem d_SL1_equals_4 : decode prog_23_method_13_code 4 = .ok (.if_icmp .ne 30, 3) := by decide +kernel
theorem d_SL1_equals_34 : decode prog_23_method_13_code 34 = .ok (.iconst 0, 1) := by decide +kernel
theorem d_SL1_equals_35 : decode prog_23_method_13_code 35 = .ok (.ireturn, 1) := by decide +kernel
theorem d_SL1_equals_7 : decode prog_23_method_13_code 7 = .ok (.iconst 0, 1) := by decide +kernel
theorem d_SL1_equals_8 : decode prog_23_method_13_code 8 = .ok (.istore_n 2, 1) := by decide +kernel
theorem g_SL1_equals {X : cd_E} {kc ks : Nat} {h : cd_H} {Q : Option Value → cd_H → Prop} {p1 : Nat} {p2 : Nat} (H : (∃ n1 : Nat, cd_k h p1 = some (.inr (3, n1)) ∧ ((∃ n3 : Nat, cd_k h p2 = some (.inr (3, n3)) ∧ ((((¬ (nI n1) = (nI n3)) → (Q (some (.int 0)) h)) ∧ (((nI n1) = (nI n3)) → (cd_W X m_SL1_equals kc ks 9 [some (.ref p1), some (.ref p2), some (.int 0)] [] h Q)))))))) : cd_W X m_SL1_equals kc ks 0 [some (.ref p1), some (.ref p2), none] [] h Q := by
  refine cd_aload_n (i := 0) (v := .ref p1) d_SL1_equals_0 rfl rfl (cd_isr_ref _) ?_
  obtain ⟨n1, c2, H⟩ := H
  refine cd_alen d_SL1_equals_1 rfl c2 ?_
  refine cd_aload_n (i := 1) (v := .ref p2) d_SL1_equals_2 rfl rfl (cd_isr_ref _) ?_
  obtain ⟨n3, c4, H⟩ := H
  refine cd_alen d_SL1_equals_3 rfl c4 ?_
  refine cd_icmp_ne (tgt := 34) d_SL1_equals_4 (by decide) (fun t5 => ?_) (fun t5 => ?_)
  · replace H := H.1 t5
    refine cd_iconst (v := 0) d_SL1_equals_34 (by decide) ?_
    exact cd_iret d_SL1_equals_35 rfl rfl H
  · replace H := H.2 t5
    refine cd_iconst (v := 0) d_SL1_equals_7 (by decide) ?_
    show cd_W X m_SL1_equals kc ks 8 [some (.ref p1), some (.ref p2), none] [.int 0] h Q
    refine cd_istore_n (i := 2) d_SL1_equals_8 rfl (by decide) ?_
    show cd_W X m_SL1_equals kc ks 9 [some (.ref p1), some (.ref p2), some (.int 0)] [] h Q
    exact H

theorem d_SL1_equals_9 : decode prog_23_method_13_code 9 = .ok (.iload_n 2, 1) := by decide +kernel
theorem d_SL1_equals_10 : decode prog_23_method_13_code 10 = .ok (.aload_n 0, 1) := by decide +kernel
theorem d_SL1_equals_11 : decode prog_23_method_13_code 11 = .ok (.arraylength, 1) := by decide +kernel
theorem d_SL1_equals_12 : decode prog_23_method_13_code 12 = .ok (.if_icmp .ge 20, 3) := by decide +kernel
theorem d_SL1_equals_32 : decode prog_23_method_13_code 32 = .ok (.iconst 1, 1) := by decide +kernel
theorem d_SL1_equals_33 : decode prog_23_method_13_code 33 = .ok (.ireturn, 1) := by decide +kernel
theorem d_SL1_equals_15 : decode prog_23_method_13_code 15 = .ok (.aload_n 0, 1) := by decide +kernel
theorem d_SL1_equals_16 : decode prog_23_method_13_code 16 = .ok (.iload_n 2, 1) := by decide +kernel
theorem d_SL1_equals_17 : decode prog_23_method_13_code 17 = .ok (.baload, 1) := by decide +kernel
theorem d_SL1_equals_18 : decode prog_23_method_13_code 18 = .ok (.aload_n 1, 1) := by decide +kernel
theorem d_SL1_equals_19 : decode prog_23_method_13_code 19 = .ok (.iload_n 2, 1) := by decide +kernel
theorem d_SL1_equals_20 : decode prog_23_method_13_code 20 = .ok (.baload, 1) := by decide +kernel
theorem d_SL1_equals_21 : decode prog_23_method_13_code 21 = .ok (.if_icmp .eq 5, 3) := by decide +kernel
theorem d_SL1_equals_26 : decode prog_23_method_13_code 26 = .ok (.iinc 2 1, 3) := by decide +kernel
theorem d_SL1_equals_29 : decode prog_23_method_13_code 29 = .ok (.goto (-20), 3) := by decide +kernel
theorem d_SL1_equals_24 : decode prog_23_method_13_code 24 = .ok (.iconst 0, 1) := by decide +kernel
theorem d_SL1_equals_25 : decode prog_23_method_13_code 25 = .ok (.ireturn, 1) := by decide +kernel
theorem g_SL1_equals_9 {X : cd_E} {kc ks : Nat} {h : cd_H} {Q : Option Value → cd_H → Prop} {v0 v1 : Nat} {v2 : Int32} (H : (∃ n1 : Nat, cd_k h v0 = some (.inr (3, n1)) ∧ (((((nI n1) ≤ v2) → (Q (some (.int 1)) h)) ∧ ((¬ (nI n1) ≤ v2) → ((vp_in v2 n1) ∧ ((∃ n5 : Nat, cd_k h v1 = some (.inr (3, n5)) ∧ ((vp_in v2 n5) ∧ (((((cd_i h v0 v2.toNatClampNeg) = (cd_i h v1 v2.toNatClampNeg)) → (cd_W X m_SL1_equals kc ks 9 [some (.ref v0), some (.ref v1), some (.int (v2 + 1))] [] h Q)) ∧ ((¬ (cd_i h v0 v2.toNatClampNeg) = (cd_i h v1 v2.toNatClampNeg)) → (Q (some (.int 0)) h))))))))))))) : cd_W X m_SL1_equals kc ks 9 [some (.ref v0), some (.ref v1), some (.int v2)] [] h Q := by
  refine cd_iload_n (i := 2) d_SL1_equals_9 rfl rfl ?_
  refine cd_aload_n (i := 0) (v := .ref v0) d_SL1_equals_10 rfl rfl (cd_isr_ref _) ?_
  obtain ⟨n1, c2, H⟩ := H
  refine cd_alen d_SL1_equals_11 rfl c2 ?_
  refine cd_icmp_ge (tgt := 32) d_SL1_equals_12 (by decide) (fun t3 => ?_) (fun t3 => ?_)
  · replace H := H.1 t3
    refine cd_iconst (v := 1) d_SL1_equals_32 (by decide) ?_
    exact cd_iret d_SL1_equals_33 rfl rfl H
  · replace H := H.2 t3
    refine cd_aload_n (i := 0) (v := .ref v0) d_SL1_equals_15 rfl rfl (cd_isr_ref _) ?_
    show cd_W X m_SL1_equals kc ks 16 [some (.ref v0), some (.ref v1), some (.int v2)] [.ref v0] h Q
    refine cd_iload_n (i := 2) d_SL1_equals_16 rfl rfl ?_
    obtain ⟨c4, H⟩ := H
    refine cd_bald (j := v2) d_SL1_equals_17 rfl c2 c4 ?_
    refine cd_aload_n (i := 1) (v := .ref v1) d_SL1_equals_18 rfl rfl (cd_isr_ref _) ?_
    refine cd_iload_n (i := 2) d_SL1_equals_19 rfl rfl ?_
    obtain ⟨n5, c6, H⟩ := H
    obtain ⟨c7, H⟩ := H
    refine cd_bald (j := v2) d_SL1_equals_20 rfl c6 c7 ?_
    refine cd_icmp_eq (tgt := 26) d_SL1_equals_21 (by decide) (fun t8 => ?_) (fun t8 => ?_)
    · replace H := H.1 t8
      refine cd_iinc (i := 2) (v := (v2 + 1)) d_SL1_equals_26 rfl (cd_inc1 _) (by decide) ?_
      show cd_W X m_SL1_equals kc ks 29 [some (.ref v0), some (.ref v1), some (.int (v2 + 1))] [] h Q
      refine cd_goto (tgt := 9) d_SL1_equals_29 (by decide) ?_
      exact H
    · replace H := H.2 t8
      refine cd_iconst (v := 0) d_SL1_equals_24 (by decide) ?_
      show cd_W X m_SL1_equals kc ks 25 [some (.ref v0), some (.ref v1), some (.int v2)] [.int 0] h Q
      exact cd_iret d_SL1_equals_25 rfl rfl H

theorem d_Str_length_0 : decode prog_21_method_54_code 0 = .ok (.aload_n 0, 1) := by decide +kernel
theorem d_Str_length_1 : decode prog_21_method_54_code 1 = .ok (.getfield 9, 3) := by decide +kernel
theorem kw_3_197 : (Jvm.Cond.fieldLink "java/lang/String" (9 : Nat) "java/lang/String" "value" "[B") ∈ cd_tbl := tb_3 (List.mem_of_getElem? (i := 197) (by decide +kernel)) (by decide)
theorem fl_Str_9 {X : cd_E} : cd_FL X "java/lang/String" 9 13 0 (.array .byte) := cd_FL.of rfl rfl (by decide) kw_3_197 (Or.inl rfl)
theorem d_Str_length_4 : decode prog_21_method_54_code 4 = .ok (.arraylength, 1) := by decide +kernel
theorem d_Str_length_5 : decode prog_21_method_54_code 5 = .ok (.aload_n 0, 1) := by decide +kernel
theorem d_Str_length_6 : decode prog_21_method_54_code 6 = .ok (.invokevirtual 335, 3) := by decide +kernel
theorem kw_2_79 : (Jvm.Cond.methodLink "java/lang/String" (335 : Nat) ({ cls := "java/lang/String", name := "coder", desc := "()B" } : Jvm.MethodName)) ∈ cd_tbl := tb_2 (List.mem_of_getElem? (i := 79) (by decide +kernel)) (by decide)
theorem kw_2_82 : (Jvm.Cond.code ({ cls := "java/lang/String", name := "coder", desc := "()B" } : Jvm.MethodName) prog_21_method_152_code (1 : Nat) (Option.some Jvm.ClassFile.FieldType.byte)) ∈ cd_tbl := tb_2 (List.mem_of_getElem? (i := 82) (by decide +kernel)) (by decide)
theorem kw_2_80 : (Jvm.Cond.instanceMethod ({ cls := "java/lang/String", name := "coder", desc := "()B" } : Jvm.MethodName)) ∈ cd_tbl := tb_2 (List.mem_of_getElem? (i := 80) (by decide +kernel)) (by decide)
theorem kw_2_81 : (Jvm.Cond.selects "java/lang/String" ({ cls := "java/lang/String", name := "coder", desc := "()B" } : Jvm.MethodName) ({ cls := "java/lang/String", name := "coder", desc := "()B" } : Jvm.MethodName)) ∈ cd_tbl := tb_2 (List.mem_of_getElem? (i := 81) (by decide +kernel)) (by decide)
theorem ca_Str_length_335 {X : cd_E} : cd_CV X m_Str_length m_Str_coder 335 0 13 := ⟨⟨by decide, kw_2_82, kw_1_14, ⟨by decide, by decide, by decide +kernel⟩, by decide, by decide⟩, ⟨_, rfl, rfl⟩, kw_2_80, kw_2_81, (Or.inl kw_2_79)⟩
theorem d_Str_length_9 : decode prog_21_method_54_code 9 = .ok (.ishr, 1) := by decide +kernel
theorem d_Str_length_10 : decode prog_21_method_54_code 10 = .ok (.ireturn, 1) := by decide +kernel
theorem g_Str_length {X : cd_E} {kc ks : Nat} {h : cd_H} {Q : Option Value → cd_H → Prop} {a0 : Nat} (H : (cd_k h a0 = some (.inl 13)) ∧ ((∃ b2 : Nat, (cd_r h a0 0) = some b2 ∧ ((∃ n4 : Nat, cd_k h b2 = some (.inr (3, n4)) ∧ (cd_W X m_Str_coder 0 0 0 [some (.ref a0)] [] h (fun r6 h7 => ∃ x8 : Int32, r6 = some (.int x8) ∧ (Q (some (.int ((nI n4) >>> (x8 &&& 31)))) h7)))))))) : cd_W X m_Str_length kc ks 0 [some (.ref a0)] [] h Q := by
  refine cd_aload_n (i := 0) (v := .ref a0) d_Str_length_0 rfl rfl (cd_isr_ref _) ?_
  show cd_W X m_Str_length kc ks 1 [some (.ref a0)] [.ref a0] h Q
  obtain ⟨c1, H⟩ := H
  refine cd_get (v := va_rf (cd_r h a0 0)) d_Str_length_1 fl_Str_9 c1 rfl ?_
  obtain ⟨b2, e3, H⟩ := H
  rw [cd_rfs e3]
  obtain ⟨n4, c5, H⟩ := H
  refine cd_alen d_Str_length_4 rfl c5 ?_
  refine cd_aload_n (i := 0) (v := .ref a0) d_Str_length_5 rfl rfl (cd_isr_ref _) ?_
  refine cd_callV (kc := kc) (ks := ks) (kc' := 0) (ks' := 0) (As := []) (S := [.int (nI n4)]) d_Str_length_6 ca_Str_length_335 c1 rfl (Nat.le_of_ble_eq_true rfl) (Nat.le_of_ble_eq_true rfl) ?_
  refine cd_W.mono (fun r6 h7 H => ?_) H
  obtain ⟨x8, rfl, H⟩ := H
  show cd_W X m_Str_length kc ks 9 [some (.ref a0)] [.int x8, .int (nI n4)] h7 Q
  refine cd_ishr d_Str_length_9 ?_
  exact cd_iret d_Str_length_10 rfl rfl H

theorem d_Str_charAt_0 : decode prog_21_method_56_code 0 = .ok (.aload_n 0, 1) := by decide +kernel
theorem d_Str_charAt_1 : decode prog_21_method_56_code 1 = .ok (.invokevirtual 492, 3) := by decide +kernel
theorem kw_2_89 : (Jvm.Cond.methodLink "java/lang/String" (492 : Nat) ({ cls := "java/lang/String", name := "isLatin1", desc := "()Z" } : Jvm.MethodName)) ∈ cd_tbl := tb_2 (List.mem_of_getElem? (i := 89) (by decide +kernel)) (by decide)
theorem kw_2_92 : (Jvm.Cond.code ({ cls := "java/lang/String", name := "isLatin1", desc := "()Z" } : Jvm.MethodName) prog_21_method_154_code (1 : Nat) (Option.some Jvm.ClassFile.FieldType.boolean)) ∈ cd_tbl := tb_2 (List.mem_of_getElem? (i := 92) (by decide +kernel)) (by decide)
theorem kw_2_90 : (Jvm.Cond.instanceMethod ({ cls := "java/lang/String", name := "isLatin1", desc := "()Z" } : Jvm.MethodName)) ∈ cd_tbl := tb_2 (List.mem_of_getElem? (i := 90) (by decide +kernel)) (by decide)
theorem kw_2_91 : (Jvm.Cond.selects "java/lang/String" ({ cls := "java/lang/String", name := "isLatin1", desc := "()Z" } : Jvm.MethodName) ({ cls := "java/lang/String", name := "isLatin1", desc := "()Z" } : Jvm.MethodName)) ∈ cd_tbl := tb_2 (List.mem_of_getElem? (i := 91) (by decide +kernel)) (by decide)
theorem ca_Str_charAt_492 {X : cd_E} : cd_CV X m_Str_charAt m_Str_isLatin1 492 0 13 := ⟨⟨by decide, kw_2_92, kw_1_14, ⟨by decide, by decide, by decide +kernel⟩, by decide, by decide⟩, ⟨_, rfl, rfl⟩, kw_2_90, kw_2_91, (Or.inl kw_2_89)⟩
theorem d_Str_charAt_4 : decode prog_21_method_56_code 4 = .ok (.ifCond .eq 12, 3) := by decide +kernel
theorem d_Str_charAt_7 : decode prog_21_method_56_code 7 = .ok (.aload_n 0, 1) := by decide +kernel
theorem d_Str_charAt_8 : decode prog_21_method_56_code 8 = .ok (.getfield 9, 3) := by decide +kernel
theorem d_Str_charAt_11 : decode prog_21_method_56_code 11 = .ok (.iload_n 1, 1) := by decide +kernel
theorem d_Str_charAt_12 : decode prog_21_method_56_code 12 = .ok (.invokestatic 495, 3) := by decide +kernel
theorem kw_2_93 : (Jvm.Cond.methodLink "java/lang/String" (495 : Nat) ({ cls := "java/lang/StringLatin1", name := "charAt", desc := "([BI)C" } : Jvm.MethodName)) ∈ cd_tbl := tb_2 (List.mem_of_getElem? (i := 93) (by decide +kernel)) (by decide)
theorem kw_2_95 : (Jvm.Cond.code ({ cls := "java/lang/StringLatin1", name := "charAt", desc := "([BI)C" } : Jvm.MethodName) prog_23_method_2_code (2 : Nat) (Option.some Jvm.ClassFile.FieldType.char)) ∈ cd_tbl := tb_2 (List.mem_of_getElem? (i := 95) (by decide +kernel)) (by decide)
theorem kw_1_15 : (Jvm.Cond.initialized "java/lang/StringLatin1") ∈ cd_tbl := tb_1 (List.mem_of_getElem? (i := 15) (by decide +kernel)) (by decide)
theorem kw_2_94 : (Jvm.Cond.static ({ cls := "java/lang/StringLatin1", name := "charAt", desc := "([BI)C" } : Jvm.MethodName)) ∈ cd_tbl := tb_2 (List.mem_of_getElem? (i := 94) (by decide +kernel)) (by decide)
theorem ca_Str_charAt_495 {X : cd_E} : cd_CS X m_Str_charAt m_SL1_charAt 495 2 := ⟨⟨by decide, kw_2_95, kw_1_15, ⟨by decide, by decide, by decide +kernel⟩, by decide, by decide⟩, kw_2_94, (Or.inl kw_2_93)⟩
theorem d_Str_charAt_15 : decode prog_21_method_56_code 15 = .ok (.ireturn, 1) := by decide +kernel
theorem g_Str_charAt {X : cd_E} {kc ks : Nat} {h : cd_H} {Q : Option Value → cd_H → Prop} {a0 : Nat} {p1 : Int32} (H : (cd_k h a0 = some (.inl 13)) ∧ (cd_W X m_Str_isLatin1 0 0 0 [some (.ref a0)] [] h (fun r2 h3 => ∃ x4 : Int32, r2 = some (.int x4) ∧ ((((x4 = 0) → (False)) ∧ ((¬ x4 = 0) → ((cd_k h3 a0 = some (.inl 13)) ∧ ((∃ b7 : Nat, (cd_r h3 a0 0) = some b7 ∧ (cd_W X m_SL1_charAt 0 0 0 [some (.ref b7), some (.int p1)] [] h3 (fun r9 h10 => ∃ x11 : Int32, r9 = some (.int x11) ∧ ((narrow .char (.int x11) = .int x11) ∧ (Q (some (.int x11)) h10))))))))))))) : cd_W X m_Str_charAt kc ks 0 [some (.ref a0), some (.int p1)] [] h Q := by
  refine cd_aload_n (i := 0) (v := .ref a0) d_Str_charAt_0 rfl rfl (cd_isr_ref _) ?_
  show cd_W X m_Str_charAt kc ks 1 [some (.ref a0), some (.int p1)] [.ref a0] h Q
  obtain ⟨c1, H⟩ := H
  refine cd_callV (kc := kc) (ks := ks) (kc' := 0) (ks' := 0) (As := []) (S := []) d_Str_charAt_1 ca_Str_charAt_492 c1 rfl (Nat.le_of_ble_eq_true rfl) (Nat.le_of_ble_eq_true rfl) ?_
  refine cd_W.mono (fun r2 h3 H => ?_) H
  obtain ⟨x4, rfl, H⟩ := H
  show cd_W X m_Str_charAt kc ks 4 [some (.ref a0), some (.int p1)] [.int x4] h3 Q
  refine cd_if_eq (tgt := 16) d_Str_charAt_4 (by decide) (fun t5 => ?_) (fun t5 => ?_)
  · replace H := H.1 t5
    exact H.elim
  · replace H := H.2 t5
    refine cd_aload_n (i := 0) (v := .ref a0) d_Str_charAt_7 rfl rfl (cd_isr_ref _) ?_
    obtain ⟨c6, H⟩ := H
    refine cd_get (v := va_rf (cd_r h3 a0 0)) d_Str_charAt_8 fl_Str_9 c6 rfl ?_
    refine cd_iload_n (i := 1) d_Str_charAt_11 rfl rfl ?_
    obtain ⟨b7, e8, H⟩ := H
    rw [cd_rfs e8]
    refine cd_callS (kc := kc) (ks := ks) (kc' := 0) (ks' := 0) (As := [.ref b7, .int p1]) (S := []) d_Str_charAt_12 ca_Str_charAt_495 rfl (Nat.le_of_ble_eq_true rfl) (Nat.le_of_ble_eq_true rfl) ?_
    refine cd_W.mono (fun r9 h10 H => ?_) H
    obtain ⟨x11, rfl, H⟩ := H
    show cd_W X m_Str_charAt kc ks 15 [some (.ref a0), some (.int p1)] [.int x11] h10 Q
    obtain ⟨c12, H⟩ := H
    exact cd_iret d_Str_charAt_15 rfl c12 H

theorem d_Str_equals_0 : decode prog_21_method_66_code 0 = .ok (.aload_n 0, 1) := by decide +kernel
theorem d_Str_equals_1 : decode prog_21_method_66_code 1 = .ok (.aload_n 1, 1) := by decide +kernel
theorem d_Str_equals_2 : decode prog_21_method_66_code 2 = .ok (.if_acmp .ne 5, 3) := by decide +kernel
theorem d_Str_equals_7 : decode prog_21_method_66_code 7 = .ok (.aload_n 1, 1) := by decide +kernel
theorem d_Str_equals_8 : decode prog_21_method_66_code 8 = .ok (.instanceof 10, 3) := by decide +kernel
theorem kw_3_217 : (Jvm.Cond.classLink "java/lang/String" (10 : Nat) "java/lang/String") ∈ cd_tbl := tb_3 (List.mem_of_getElem? (i := 217) (by decide +kernel)) (by decide)
theorem kw_3_156 : (Jvm.Cond.instantiable "java/lang/String" (4 : Nat)) ∈ cd_tbl := tb_3 (List.mem_of_getElem? (i := 156) (by decide +kernel)) (by decide)
theorem d_Str_equals_11 : decode prog_21_method_66_code 11 = .ok (.ifCond .eq 43, 3) := by decide +kernel
theorem d_Str_equals_14 : decode prog_21_method_66_code 14 = .ok (.aload_n 1, 1) := by decide +kernel
theorem d_Str_equals_15 : decode prog_21_method_66_code 15 = .ok (.checkcast 10, 3) := by decide +kernel
theorem d_Str_equals_18 : decode prog_21_method_66_code 18 = .ok (.astore_n 2, 1) := by decide +kernel
theorem d_Str_equals_19 : decode prog_21_method_66_code 19 = .ok (.getstatic 38, 3) := by decide +kernel
theorem d_Str_equals_22 : decode prog_21_method_66_code 22 = .ok (.ifCond .eq 14, 3) := by decide +kernel
theorem d_Str_equals_25 : decode prog_21_method_66_code 25 = .ok (.aload_n 0, 1) := by decide +kernel
theorem d_Str_equals_26 : decode prog_21_method_66_code 26 = .ok (.getfield 15, 3) := by decide +kernel
theorem d_Str_equals_29 : decode prog_21_method_66_code 29 = .ok (.aload_n 2, 1) := by decide +kernel
theorem d_Str_equals_30 : decode prog_21_method_66_code 30 = .ok (.getfield 15, 3) := by decide +kernel
theorem d_Str_equals_33 : decode prog_21_method_66_code 33 = .ok (.if_icmp .ne 21, 3) := by decide +kernel
theorem d_Str_equals_54 : decode prog_21_method_66_code 54 = .ok (.iconst 0, 1) := by decide +kernel
theorem d_Str_equals_55 : decode prog_21_method_66_code 55 = .ok (.ireturn, 1) := by decide +kernel
theorem d_Str_equals_36 : decode prog_21_method_66_code 36 = .ok (.aload_n 0, 1) := by decide +kernel
theorem d_Str_equals_37 : decode prog_21_method_66_code 37 = .ok (.getfield 9, 3) := by decide +kernel
theorem d_Str_equals_40 : decode prog_21_method_66_code 40 = .ok (.aload_n 2, 1) := by decide +kernel
theorem d_Str_equals_41 : decode prog_21_method_66_code 41 = .ok (.getfield 9, 3) := by decide +kernel
theorem d_Str_equals_44 : decode prog_21_method_66_code 44 = .ok (.invokestatic 541, 3) := by decide +kernel
theorem kw_3_218 : (Jvm.Cond.methodLink "java/lang/String" (541 : Nat) ({ cls := "java/lang/StringLatin1", name := "equals", desc := "([B[B)Z" } : Jvm.MethodName)) ∈ cd_tbl := tb_3 (List.mem_of_getElem? (i := 218) (by decide +kernel)) (by decide)
theorem kw_3_220 : (Jvm.Cond.code ({ cls := "java/lang/StringLatin1", name := "equals", desc := "([B[B)Z" } : Jvm.MethodName) prog_23_method_13_code (3 : Nat) (Option.some Jvm.ClassFile.FieldType.boolean)) ∈ cd_tbl := tb_3 (List.mem_of_getElem? (i := 220) (by decide +kernel)) (by decide)
theorem kw_3_219 : (Jvm.Cond.static ({ cls := "java/lang/StringLatin1", name := "equals", desc := "([B[B)Z" } : Jvm.MethodName)) ∈ cd_tbl := tb_3 (List.mem_of_getElem? (i := 219) (by decide +kernel)) (by decide)
theorem ca_Str_equals_541 {X : cd_E} : cd_CS X m_Str_equals m_SL1_equals 541 2 := ⟨⟨by decide, kw_3_220, kw_1_15, ⟨by decide, by decide, by decide +kernel⟩, by decide, by decide⟩, kw_3_219, (Or.inl kw_3_218)⟩
theorem d_Str_equals_47 : decode prog_21_method_66_code 47 = .ok (.ifCond .eq 7, 3) := by decide +kernel
theorem d_Str_equals_50 : decode prog_21_method_66_code 50 = .ok (.iconst 1, 1) := by decide +kernel
theorem d_Str_equals_51 : decode prog_21_method_66_code 51 = .ok (.goto 4, 3) := by decide +kernel
theorem d_Str_equals_5 : decode prog_21_method_66_code 5 = .ok (.iconst 1, 1) := by decide +kernel
theorem d_Str_equals_6 : decode prog_21_method_66_code 6 = .ok (.ireturn, 1) := by decide +kernel
theorem g_Str_equals {X : cd_E} {kc ks : Nat} {h : cd_H} {Q : Option Value → cd_H → Prop} {a0 : Nat} {p1 : Nat} (H : (cd_apart (some a0) (some p1)) ∧ ((((¬ (some a0) = (some p1)) → ((cd_k h p1 = some (.inl 13)) ∧ ((cd_k h a0 = some (.inl 13)) ∧ ((((¬ (cd_i h a0 1) = (cd_i h p1 1)) → (Q (some (.int 0)) h)) ∧ (((cd_i h a0 1) = (cd_i h p1 1)) → ((∃ b6 : Nat, (cd_r h a0 0) = some b6 ∧ ((∃ b8 : Nat, (cd_r h p1 0) = some b8 ∧ (cd_W X m_SL1_equals 0 0 0 [some (.ref b6), some (.ref b8), none] [] h (fun r10 h11 => ∃ x12 : Int32, r10 = some (.int x12) ∧ ((((x12 = 0) → (Q (some (.int 0)) h11)) ∧ ((¬ x12 = 0) → (Q (some (.int 1)) h11)))))))))))))))) ∧ (((some a0) = (some p1)) → (Q (some (.int 1)) h))))) : cd_W X m_Str_equals kc ks 0 [some (.ref a0), some (.ref p1), none] [] h Q := by
  refine cd_aload_n (i := 0) (v := .ref a0) d_Str_equals_0 rfl rfl (cd_isr_ref _) ?_
  refine cd_aload_n (i := 1) (v := .ref p1) d_Str_equals_1 rfl rfl (cd_isr_ref _) ?_
  show cd_W X m_Str_equals kc ks 2 [some (.ref a0), some (.ref p1), none] [.ref p1, .ref a0] h Q
  obtain ⟨c1, H⟩ := H
  refine cd_acmp_ne (rx := (some a0)) (ry := (some p1)) (tgt := 7) d_Str_equals_2 (by decide) c1 (fun t2 => ?_) (fun t2 => ?_)
  · replace H := H.1 t2
    refine cd_aload_n (i := 1) (v := .ref p1) d_Str_equals_7 rfl rfl (cd_isr_ref _) ?_
    obtain ⟨c3, H⟩ := H
    refine cd_inst d_Str_equals_8 rfl ⟨kw_3_217, kw_3_156⟩ c3 ?_
    refine cd_if_eq (tgt := 54) d_Str_equals_11 (by decide) (fun hc => absurd hc (by decide)) (fun _ => ?_)
    refine cd_aload_n (i := 1) (v := .ref p1) d_Str_equals_14 rfl rfl (cd_isr_ref _) ?_
    refine cd_cast d_Str_equals_15 rfl ⟨kw_3_217, kw_3_156⟩ c3 ?_
    refine cd_astore_n (i := 2) d_Str_equals_18 rfl (by decide) (cd_isr_ref _) ?_
    show cd_W X m_Str_equals kc ks 19 [some (.ref a0), some (.ref p1), some (.ref p1)] [] h Q
    refine cd_gets (v := .int 1) d_Str_equals_19 (C := "java/lang/String") (n := "COMPACT_STRINGS") (d := "Z") (ref := "java/lang/String") (List.mem_of_getElem? (i := 5) rfl) kw_2_83 (Or.inl rfl) ?_
    show cd_W X m_Str_equals kc ks 22 [some (.ref a0), some (.ref p1), some (.ref p1)] [.int 1] h Q
    refine cd_if_eq (tgt := 36) d_Str_equals_22 (by decide) (fun hc => absurd hc (by decide)) (fun _ => ?_)
    refine cd_aload_n (i := 0) (v := .ref a0) d_Str_equals_25 rfl rfl (cd_isr_ref _) ?_
    obtain ⟨c4, H⟩ := H
    refine cd_get (v := .int (cd_i h a0 1)) d_Str_equals_26 fl_Str_15 c4 rfl ?_
    refine cd_aload_n (i := 2) (v := .ref p1) d_Str_equals_29 rfl rfl (cd_isr_ref _) ?_
    refine cd_get (v := .int (cd_i h p1 1)) d_Str_equals_30 fl_Str_15 c3 rfl ?_
    refine cd_icmp_ne (tgt := 54) d_Str_equals_33 (by decide) (fun t5 => ?_) (fun t5 => ?_)
    · replace H := H.1 t5
      refine cd_iconst (v := 0) d_Str_equals_54 (by decide) ?_
      exact cd_iret d_Str_equals_55 rfl rfl H
    · replace H := H.2 t5
      refine cd_aload_n (i := 0) (v := .ref a0) d_Str_equals_36 rfl rfl (cd_isr_ref _) ?_
      show cd_W X m_Str_equals kc ks 37 [some (.ref a0), some (.ref p1), some (.ref p1)] [.ref a0] h Q
      refine cd_get (v := va_rf (cd_r h a0 0)) d_Str_equals_37 fl_Str_9 c4 rfl ?_
      refine cd_aload_n (i := 2) (v := .ref p1) d_Str_equals_40 rfl rfl (cd_isr_ref _) ?_
      refine cd_get (v := va_rf (cd_r h p1 0)) d_Str_equals_41 fl_Str_9 c3 rfl ?_
      obtain ⟨b6, e7, H⟩ := H
      rw [cd_rfs e7]
      obtain ⟨b8, e9, H⟩ := H
      rw [cd_rfs e9]
      refine cd_callS (kc := kc) (ks := ks) (kc' := 0) (ks' := 0) (As := [.ref b6, .ref b8]) (S := []) d_Str_equals_44 ca_Str_equals_541 rfl (Nat.le_of_ble_eq_true rfl) (Nat.le_of_ble_eq_true rfl) ?_
      refine cd_W.mono (fun r10 h11 H => ?_) H
      obtain ⟨x12, rfl, H⟩ := H
      show cd_W X m_Str_equals kc ks 47 [some (.ref a0), some (.ref p1), some (.ref p1)] [.int x12] h11 Q
      refine cd_if_eq (tgt := 54) d_Str_equals_47 (by decide) (fun t13 => ?_) (fun t13 => ?_)
      · replace H := H.1 t13
        refine cd_iconst (v := 0) d_Str_equals_54 (by decide) ?_
        exact cd_iret d_Str_equals_55 rfl rfl H
      · replace H := H.2 t13
        refine cd_iconst (v := 1) d_Str_equals_50 (by decide) ?_
        show cd_W X m_Str_equals kc ks 51 [some (.ref a0), some (.ref p1), some (.ref p1)] [.int 1] h11 Q
        refine cd_goto (tgt := 55) d_Str_equals_51 (by decide) ?_
        exact cd_iret d_Str_equals_55 rfl rfl H
  · replace H := H.2 t2
    refine cd_iconst (v := 1) d_Str_equals_5 (by decide) ?_
    exact cd_iret d_Str_equals_6 rfl rfl H

abbrev m_AbC_init : cd_M := (⟨"java/util/AbstractCollection", "<init>", "()V"⟩, prog_26_method_1_code, 1, none, 1, 20)
theorem d_AbC_init_0 : decode prog_26_method_1_code 0 = .ok (.aload_n 0, 1) := by decide +kernel
theorem d_AbC_init_1 : decode prog_26_method_1_code 1 = .ok (.invokespecial 1, 3) := by decide +kernel
theorem kw_1_127 : (Jvm.Cond.methodLink "java/util/AbstractCollection" (1 : Nat) ({ cls := "java/lang/Object", name := "<init>", desc := "()V" } : Jvm.MethodName)) ∈ cd_tbl := tb_1 (List.mem_of_getElem? (i := 127) (by decide +kernel)) (by decide)
theorem d_AbC_init_4 : decode prog_26_method_1_code 4 = .ok (.return_, 1) := by decide +kernel
theorem g_AbC_init {X : cd_E} {kc ks : Nat} {h : cd_H} {Q : Option Value → cd_H → Prop} {a0 : Nat} (H : Q none h) : cd_W X m_AbC_init kc ks 0 [some (.ref a0)] [] h Q := by
  refine cd_aload_n (i := 0) (v := .ref a0) d_AbC_init_0 rfl rfl (cd_isr_ref _) ?_
  refine cd_objInit d_AbC_init_1 kw_1_127 kw_1_35 kw_1_36 (by decide) (by decide) (Nat.le_of_ble_eq_true rfl) ?_
  exact cd_vret d_AbC_init_4 rfl H

abbrev m_AbL_init : cd_M := (⟨"java/util/AbstractList", "<init>", "()V"⟩, prog_27_method_1_code, 1, none, 2, 40)
theorem d_AbL_init_0 : decode prog_27_method_1_code 0 = .ok (.aload_n 0, 1) := by decide +kernel
theorem d_AbL_init_1 : decode prog_27_method_1_code 1 = .ok (.invokespecial 1, 3) := by decide +kernel
theorem kw_1_124 : (Jvm.Cond.methodLink "java/util/AbstractList" (1 : Nat) ({ cls := "java/util/AbstractCollection", name := "<init>", desc := "()V" } : Jvm.MethodName)) ∈ cd_tbl := tb_1 (List.mem_of_getElem? (i := 124) (by decide +kernel)) (by decide)
theorem kw_1_126 : (Jvm.Cond.code ({ cls := "java/util/AbstractCollection", name := "<init>", desc := "()V" } : Jvm.MethodName) prog_26_method_1_code (1 : Nat) (Option.none : Option Jvm.ClassFile.FieldType)) ∈ cd_tbl := tb_1 (List.mem_of_getElem? (i := 126) (by decide +kernel)) (by decide)
theorem kw_1_7 : (Jvm.Cond.initialized "java/util/AbstractCollection") ∈ cd_tbl := tb_1 (List.mem_of_getElem? (i := 7) (by decide +kernel)) (by decide)
theorem kw_1_125 : (Jvm.Cond.instanceMethod ({ cls := "java/util/AbstractCollection", name := "<init>", desc := "()V" } : Jvm.MethodName)) ∈ cd_tbl := tb_1 (List.mem_of_getElem? (i := 125) (by decide +kernel)) (by decide)
theorem ca_AbL_init_1 {X : cd_E} : cd_CI X m_AbL_init m_AbC_init 1 0 := ⟨⟨by decide, kw_1_126, kw_1_7, ⟨by decide, by decide, by decide +kernel⟩, by decide, by decide⟩, rfl, rfl, kw_1_125, (Or.inl kw_1_124)⟩
theorem d_AbL_init_4 : decode prog_27_method_1_code 4 = .ok (.aload_n 0, 1) := by decide +kernel
theorem d_AbL_init_5 : decode prog_27_method_1_code 5 = .ok (.iconst 0, 1) := by decide +kernel
theorem d_AbL_init_6 : decode prog_27_method_1_code 6 = .ok (.putfield 7, 3) := by decide +kernel
theorem kw_1_132 : (Jvm.Cond.fieldLink "java/util/AbstractList" (7 : Nat) "java/util/AbstractList" "modCount" "I") ∈ cd_tbl := tb_1 (List.mem_of_getElem? (i := 132) (by decide +kernel)) (by decide)
theorem fp_AbL_init_7 {X : cd_E} : cd_FP X m_AbL_init 7 12 2 .int := cd_FP.of cl_12 rfl rfl (by decide) kw_1_132 (Or.inl rfl) (Or.inl rfl)
theorem d_AbL_init_9 : decode prog_27_method_1_code 9 = .ok (.return_, 1) := by decide +kernel
theorem g_AbL_init {X : cd_E} {kc ks : Nat} {h : cd_H} {Q : Option Value → cd_H → Prop} {a0 : Nat} (H : cd_W X m_AbC_init 0 0 0 [some (.ref a0)] [] h (fun r1 h2 => (r1 = none) ∧ ((cd_k h2 a0 = some (.inl 12)) ∧ ((64 ≤ a0) ∧ (Q none (cd_si h2 a0 2 0)))))) : cd_W X m_AbL_init kc ks 0 [some (.ref a0)] [] h Q := by
  refine cd_aload_n (i := 0) (v := .ref a0) d_AbL_init_0 rfl rfl (cd_isr_ref _) ?_
  show cd_W X m_AbL_init kc ks 1 [some (.ref a0)] [.ref a0] h Q
  refine cd_callI (kc := kc) (ks := ks) (kc' := 0) (ks' := 0) (As := []) (S := []) d_AbL_init_1 ca_AbL_init_1 rfl (Nat.le_of_ble_eq_true rfl) (Nat.le_of_ble_eq_true rfl) ?_
  refine cd_W.mono (fun r1 h2 H => ?_) H
  obtain ⟨rfl, H⟩ := H
  show cd_W X m_AbL_init kc ks 4 [some (.ref a0)] [] h2 Q
  refine cd_aload_n (i := 0) (v := .ref a0) d_AbL_init_4 rfl rfl (cd_isr_ref _) ?_
  refine cd_iconst (v := 0) d_AbL_init_5 (by decide) ?_
  obtain ⟨c3, H⟩ := H
  obtain ⟨c4, H⟩ := H
  refine cd_putI d_AbL_init_6 fp_AbL_init_7 (fun _ _ _ => rfl) c3 c4 rfl rfl ?_
  exact cd_vret d_AbL_init_9 rfl H

theorem d_AL_init_V_0 : decode prog_28_method_2_code 0 = .ok (.aload_n 0, 1) := by decide +kernel
theorem d_AL_init_V_1 : decode prog_28_method_2_code 1 = .ok (.invokespecial 1, 3) := by decide +kernel
theorem kw_1_121 : (Jvm.Cond.methodLink "java/util/ArrayList" (1 : Nat) ({ cls := "java/util/AbstractList", name := "<init>", desc := "()V" } : Jvm.MethodName)) ∈ cd_tbl := tb_1 (List.mem_of_getElem? (i := 121) (by decide +kernel)) (by decide)
theorem kw_1_123 : (Jvm.Cond.code ({ cls := "java/util/AbstractList", name := "<init>", desc := "()V" } : Jvm.MethodName) prog_27_method_1_code (1 : Nat) (Option.none : Option Jvm.ClassFile.FieldType)) ∈ cd_tbl := tb_1 (List.mem_of_getElem? (i := 123) (by decide +kernel)) (by decide)
theorem kw_1_8 : (Jvm.Cond.initialized "java/util/AbstractList") ∈ cd_tbl := tb_1 (List.mem_of_getElem? (i := 8) (by decide +kernel)) (by decide)
theorem kw_1_122 : (Jvm.Cond.instanceMethod ({ cls := "java/util/AbstractList", name := "<init>", desc := "()V" } : Jvm.MethodName)) ∈ cd_tbl := tb_1 (List.mem_of_getElem? (i := 122) (by decide +kernel)) (by decide)
theorem ca_AL_init_V_1 {X : cd_E} : cd_CI X m_AL_init_V m_AbL_init 1 0 := ⟨⟨by decide, kw_1_123, kw_1_8, ⟨by decide, by decide, by decide +kernel⟩, by decide, by decide⟩, rfl, rfl, kw_1_122, (Or.inl kw_1_121)⟩
theorem d_AL_init_V_4 : decode prog_28_method_2_code 4 = .ok (.aload_n 0, 1) := by decide +kernel
theorem d_AL_init_V_5 : decode prog_28_method_2_code 5 = .ok (.getstatic 39, 3) := by decide +kernel
theorem kw_1_128 : (Jvm.Cond.fieldLink "java/util/ArrayList" (39 : Nat) "java/util/ArrayList" "DEFAULTCAPACITY_EMPTY_ELEMENTDATA" "[Ljava/lang/Object;") ∈ cd_tbl := tb_1 (List.mem_of_getElem? (i := 128) (by decide +kernel)) (by decide)
theorem d_AL_init_V_8 : decode prog_28_method_2_code 8 = .ok (.putfield 9, 3) := by decide +kernel
theorem kw_1_130 : (Jvm.Cond.fieldLink "java/util/ArrayList" (9 : Nat) "java/util/ArrayList" "elementData" "[Ljava/lang/Object;") ∈ cd_tbl := tb_1 (List.mem_of_getElem? (i := 130) (by decide +kernel)) (by decide)
theorem fp_AL_init_V_9 {X : cd_E} : cd_FP X m_AL_init_V 9 12 0 (.array (.object "java/lang/Object")) := cd_FP.of cl_12 rfl rfl (by decide) kw_1_130 (Or.inl rfl) (Or.inl rfl)
theorem d_AL_init_V_11 : decode prog_28_method_2_code 11 = .ok (.return_, 1) := by decide +kernel
theorem g_AL_init_V {X : cd_E} {kc ks : Nat} {h : cd_H} {Q : Option Value → cd_H → Prop} {a0 : Nat} (H : cd_W X m_AbL_init 0 0 0 [some (.ref a0)] [] h (fun r1 h2 => (r1 = none) ∧ ((cd_k h2 a0 = some (.inl 12)) ∧ ((64 ≤ a0) ∧ (Q none (cd_sr h2 a0 0 (some 0))))))) : cd_W X m_AL_init_V kc ks 0 [some (.ref a0)] [] h Q := by
  refine cd_aload_n (i := 0) (v := .ref a0) d_AL_init_V_0 rfl rfl (cd_isr_ref _) ?_
  show cd_W X m_AL_init_V kc ks 1 [some (.ref a0)] [.ref a0] h Q
  refine cd_callI (kc := kc) (ks := ks) (kc' := 0) (ks' := 0) (As := []) (S := []) d_AL_init_V_1 ca_AL_init_V_1 rfl (Nat.le_of_ble_eq_true rfl) (Nat.le_of_ble_eq_true rfl) ?_
  refine cd_W.mono (fun r1 h2 H => ?_) H
  obtain ⟨rfl, H⟩ := H
  show cd_W X m_AL_init_V kc ks 4 [some (.ref a0)] [] h2 Q
  refine cd_aload_n (i := 0) (v := .ref a0) d_AL_init_V_4 rfl rfl (cd_isr_ref _) ?_
  refine cd_gets (v := .ref 0) d_AL_init_V_5 (C := "java/util/ArrayList") (n := "DEFAULTCAPACITY_EMPTY_ELEMENTDATA") (d := "[Ljava/lang/Object;") (ref := "java/util/ArrayList") (List.mem_of_getElem? (i := 0) rfl) kw_1_128 (Or.inl rfl) ?_
  obtain ⟨c3, H⟩ := H
  obtain ⟨c4, H⟩ := H
  refine cd_putR (o := (some 0)) d_AL_init_V_8 fp_AL_init_V_9 (Or.inr ⟨_, rfl⟩) c3 c4 ?_
  exact cd_vret d_AL_init_V_11 rfl H

theorem d_AL_size_0 : decode prog_28_method_8_code 0 = .ok (.aload_n 0, 1) := by decide +kernel
theorem d_AL_size_1 : decode prog_28_method_8_code 1 = .ok (.getfield 48, 3) := by decide +kernel
theorem kw_1_131 : (Jvm.Cond.fieldLink "java/util/ArrayList" (48 : Nat) "java/util/ArrayList" "size" "I") ∈ cd_tbl := tb_1 (List.mem_of_getElem? (i := 131) (by decide +kernel)) (by decide)
theorem fl_AL_48 {X : cd_E} : cd_FL X "java/util/ArrayList" 48 12 1 .int := cd_FL.of rfl rfl (by decide) kw_1_131 (Or.inl rfl)
theorem d_AL_size_4 : decode prog_28_method_8_code 4 = .ok (.ireturn, 1) := by decide +kernel
theorem g_AL_size {X : cd_E} {kc ks : Nat} {h : cd_H} {Q : Option Value → cd_H → Prop} {a0 : Nat} (H : (cd_k h a0 = some (.inl 12)) ∧ (Q (some (.int (cd_i h a0 1))) h)) : cd_W X m_AL_size kc ks 0 [some (.ref a0)] [] h Q := by
  refine cd_aload_n (i := 0) (v := .ref a0) d_AL_size_0 rfl rfl (cd_isr_ref _) ?_
  obtain ⟨c1, H⟩ := H
  refine cd_get (v := .int (cd_i h a0 1)) d_AL_size_1 fl_AL_48 c1 rfl ?_
  exact cd_iret d_AL_size_4 rfl rfl H

abbrev m_AL_elementData : cd_M := (⟨"java/util/ArrayList", "elementData", "(I)Ljava/lang/Object;"⟩, prog_28_method_18_code, 2, some (.object "java/lang/Object"), 1, 20)
theorem d_AL_elementData_0 : decode prog_28_method_18_code 0 = .ok (.aload_n 0, 1) := by decide +kernel
theorem d_AL_elementData_1 : decode prog_28_method_18_code 1 = .ok (.getfield 9, 3) := by decide +kernel
theorem fl_AL_9 {X : cd_E} : cd_FL X "java/util/ArrayList" 9 12 0 (.array (.object "java/lang/Object")) := cd_FL.of rfl rfl (by decide) kw_1_130 (Or.inl rfl)
theorem d_AL_elementData_4 : decode prog_28_method_18_code 4 = .ok (.iload_n 1, 1) := by decide +kernel
theorem d_AL_elementData_5 : decode prog_28_method_18_code 5 = .ok (.aaload, 1) := by decide +kernel
theorem d_AL_elementData_6 : decode prog_28_method_18_code 6 = .ok (.areturn, 1) := by decide +kernel
theorem g_AL_elementData {X : cd_E} {kc ks : Nat} {h : cd_H} {Q : Option Value → cd_H → Prop} {a0 : Nat} {p1 : Int32} (H : (cd_k h a0 = some (.inl 12)) ∧ ((∃ b2 : Nat, (cd_r h a0 0) = some b2 ∧ ((∃ n4 : Nat, cd_k h b2 = some (.inr (5, n4)) ∧ ((vp_in p1 n4) ∧ (Q (some (va_rf (cd_r h b2 p1.toNatClampNeg))) h))))))) : cd_W X m_AL_elementData kc ks 0 [some (.ref a0), some (.int p1)] [] h Q := by
  refine cd_aload_n (i := 0) (v := .ref a0) d_AL_elementData_0 rfl rfl (cd_isr_ref _) ?_
  obtain ⟨c1, H⟩ := H
  refine cd_get (v := va_rf (cd_r h a0 0)) d_AL_elementData_1 fl_AL_9 c1 rfl ?_
  show cd_W X m_AL_elementData kc ks 4 [some (.ref a0), some (.int p1)] [va_rf (cd_r h a0 0)] h Q
  refine cd_iload_n (i := 1) d_AL_elementData_4 rfl rfl ?_
  obtain ⟨b2, e3, H⟩ := H
  rw [cd_rfs e3]
  obtain ⟨n4, c5, H⟩ := H
  obtain ⟨c6, H⟩ := H
  refine cd_aald (j := p1) d_AL_elementData_5 rfl c5 c6 ?_
  exact cd_aret d_AL_elementData_6 rfl (Or.inl ⟨_, rfl⟩) (cd_isr_rf _) H

theorem d_AL_get_0 : decode prog_28_method_20_code 0 = .ok (.iload_n 1, 1) := by decide +kernel
theorem d_AL_get_1 : decode prog_28_method_20_code 1 = .ok (.aload_n 0, 1) := by decide +kernel
theorem d_AL_get_2 : decode prog_28_method_20_code 2 = .ok (.getfield 48, 3) := by decide +kernel
theorem d_AL_get_5 : decode prog_28_method_20_code 5 = .ok (.invokestatic 118, 3) := by decide +kernel
theorem kw_2_16 : (Jvm.Cond.methodLink "java/util/ArrayList" (118 : Nat) ({ cls := "java/util/Objects", name := "checkIndex", desc := "(II)I" } : Jvm.MethodName)) ∈ cd_tbl := tb_2 (List.mem_of_getElem? (i := 16) (by decide +kernel)) (by decide)
theorem kw_2_18 : (Jvm.Cond.code ({ cls := "java/util/Objects", name := "checkIndex", desc := "(II)I" } : Jvm.MethodName) prog_32_method_17_code (2 : Nat) (Option.some Jvm.ClassFile.FieldType.int)) ∈ cd_tbl := tb_2 (List.mem_of_getElem? (i := 18) (by decide +kernel)) (by decide)
theorem kw_1_12 : (Jvm.Cond.initialized "java/util/Objects") ∈ cd_tbl := tb_1 (List.mem_of_getElem? (i := 12) (by decide +kernel)) (by decide)
theorem kw_2_17 : (Jvm.Cond.static ({ cls := "java/util/Objects", name := "checkIndex", desc := "(II)I" } : Jvm.MethodName)) ∈ cd_tbl := tb_2 (List.mem_of_getElem? (i := 17) (by decide +kernel)) (by decide)
theorem ca_AL_get_118 {X : cd_E} : cd_CS X m_AL_get m_Obj_checkIndex 118 2 := ⟨⟨by decide, kw_2_18, kw_1_12, ⟨by decide, by decide, by decide +kernel⟩, by decide, by decide⟩, kw_2_17, (Or.inl kw_2_16)⟩
theorem d_AL_get_8 : decode prog_28_method_20_code 8 = .ok (.pop, 1) := by decide +kernel
theorem d_AL_get_9 : decode prog_28_method_20_code 9 = .ok (.aload_n 0, 1) := by decide +kernel
theorem d_AL_get_10 : decode prog_28_method_20_code 10 = .ok (.iload_n 1, 1) := by decide +kernel
theorem d_AL_get_11 : decode prog_28_method_20_code 11 = .ok (.invokevirtual 123, 3) := by decide +kernel
theorem kw_2_22 : (Jvm.Cond.methodLink "java/util/ArrayList" (123 : Nat) ({ cls := "java/util/ArrayList", name := "elementData", desc := "(I)Ljava/lang/Object;" } : Jvm.MethodName)) ∈ cd_tbl := tb_2 (List.mem_of_getElem? (i := 22) (by decide +kernel)) (by decide)
theorem kw_2_25 : (Jvm.Cond.code ({ cls := "java/util/ArrayList", name := "elementData", desc := "(I)Ljava/lang/Object;" } : Jvm.MethodName) prog_28_method_18_code (2 : Nat) (Option.some (Jvm.ClassFile.FieldType.object "java/lang/Object"))) ∈ cd_tbl := tb_2 (List.mem_of_getElem? (i := 25) (by decide +kernel)) (by decide)
theorem kw_2_23 : (Jvm.Cond.instanceMethod ({ cls := "java/util/ArrayList", name := "elementData", desc := "(I)Ljava/lang/Object;" } : Jvm.MethodName)) ∈ cd_tbl := tb_2 (List.mem_of_getElem? (i := 23) (by decide +kernel)) (by decide)
theorem kw_2_24 : (Jvm.Cond.selects "java/util/ArrayList" ({ cls := "java/util/ArrayList", name := "elementData", desc := "(I)Ljava/lang/Object;" } : Jvm.MethodName) ({ cls := "java/util/ArrayList", name := "elementData", desc := "(I)Ljava/lang/Object;" } : Jvm.MethodName)) ∈ cd_tbl := tb_2 (List.mem_of_getElem? (i := 24) (by decide +kernel)) (by decide)
theorem ca_AL_get_123 {X : cd_E} : cd_CV X m_AL_get m_AL_elementData 123 1 12 := ⟨⟨by decide, kw_2_25, kw_1_9, ⟨by decide, by decide, by decide +kernel⟩, by decide, by decide⟩, ⟨_, rfl, rfl⟩, kw_2_23, kw_2_24, (Or.inl kw_2_22)⟩
theorem d_AL_get_14 : decode prog_28_method_20_code 14 = .ok (.areturn, 1) := by decide +kernel
theorem g_AL_get {X : cd_E} {kc ks : Nat} {h : cd_H} {Q : Option Value → cd_H → Prop} {a0 : Nat} {p1 : Int32} (H : (cd_k h a0 = some (.inl 12)) ∧ (cd_W X m_Obj_checkIndex 0 0 0 [some (.int p1), some (.int (cd_i h a0 1))] [] h (fun r2 h3 => ∃ x4 : Int32, r2 = some (.int x4) ∧ ((cd_k h3 a0 = some (.inl 12)) ∧ (cd_W X m_AL_elementData 0 0 0 [some (.ref a0), some (.int p1)] [] h3 (fun r6 h7 => ∃ o8 : Option Nat, r6 = some (va_rf o8) ∧ (Q (some (va_rf o8)) h7))))))) : cd_W X m_AL_get kc ks 0 [some (.ref a0), some (.int p1)] [] h Q := by
  refine cd_iload_n (i := 1) d_AL_get_0 rfl rfl ?_
  refine cd_aload_n (i := 0) (v := .ref a0) d_AL_get_1 rfl rfl (cd_isr_ref _) ?_
  obtain ⟨c1, H⟩ := H
  refine cd_get (v := .int (cd_i h a0 1)) d_AL_get_2 fl_AL_48 c1 rfl ?_
  refine cd_callS (kc := kc) (ks := ks) (kc' := 0) (ks' := 0) (As := [.int p1, .int (cd_i h a0 1)]) (S := []) d_AL_get_5 ca_AL_get_118 rfl (Nat.le_of_ble_eq_true rfl) (Nat.le_of_ble_eq_true rfl) ?_
  refine cd_W.mono (fun r2 h3 H => ?_) H
  obtain ⟨x4, rfl, H⟩ := H
  show cd_W X m_AL_get kc ks 8 [some (.ref a0), some (.int p1)] [.int x4] h3 Q
  refine cd_pop d_AL_get_8 rfl ?_
  refine cd_aload_n (i := 0) (v := .ref a0) d_AL_get_9 rfl rfl (cd_isr_ref _) ?_
  show cd_W X m_AL_get kc ks 10 [some (.ref a0), some (.int p1)] [.ref a0] h3 Q
  refine cd_iload_n (i := 1) d_AL_get_10 rfl rfl ?_
  obtain ⟨c5, H⟩ := H
  refine cd_callV (kc := kc) (ks := ks) (kc' := 0) (ks' := 0) (As := [.int p1]) (S := []) d_AL_get_11 ca_AL_get_123 c5 rfl (Nat.le_of_ble_eq_true rfl) (Nat.le_of_ble_eq_true rfl) ?_
  refine cd_W.mono (fun r6 h7 H => ?_) H
  obtain ⟨o8, rfl, H⟩ := H
  show cd_W X m_AL_get kc ks 14 [some (.ref a0), some (.int p1)] [va_rf o8] h7 Q
  exact cd_aret d_AL_get_14 rfl (Or.inl ⟨_, rfl⟩) (cd_isr_rf _) H

abbrev m_ASu_newLength : cd_M := (⟨"jdk/internal/util/ArraysSupport", "newLength", "(III)I"⟩, prog_35_method_27_code, 4, some .int, 1, 21)
theorem d_ASu_newLength_0 : decode prog_35_method_27_code 0 = .ok (.iload_n 0, 1) := by decide +kernel
theorem d_ASu_newLength_1 : decode prog_35_method_27_code 1 = .ok (.iload_n 1, 1) := by decide +kernel
theorem d_ASu_newLength_2 : decode prog_35_method_27_code 2 = .ok (.iload_n 2, 1) := by decide +kernel
theorem d_ASu_newLength_3 : decode prog_35_method_27_code 3 = .ok (.invokestatic 194, 3) := by decide +kernel
theorem kw_2_186 : (Jvm.Cond.methodLink "jdk/internal/util/ArraysSupport" (194 : Nat) ({ cls := "java/lang/Math", name := "max", desc := "(II)I" } : Jvm.MethodName)) ∈ cd_tbl := tb_2 (List.mem_of_getElem? (i := 186) (by decide +kernel)) (by decide)
theorem kw_2_187 : (Jvm.Cond.static ({ cls := "java/lang/Math", name := "max", desc := "(II)I" } : Jvm.MethodName)) ∈ cd_tbl := tb_2 (List.mem_of_getElem? (i := 187) (by decide +kernel)) (by decide)
theorem kw_1_21 : (Jvm.Cond.initialized "java/lang/Math") ∈ cd_tbl := tb_1 (List.mem_of_getElem? (i := 21) (by decide +kernel)) (by decide)
theorem kw_2_188 : (Jvm.Cond.code ({ cls := "java/lang/Math", name := "max", desc := "(II)I" } : Jvm.MethodName) prog_20_method_65_code (2 : Nat) (Option.some Jvm.ClassFile.FieldType.int)) ∈ cd_tbl := tb_2 (List.mem_of_getElem? (i := 188) (by decide +kernel)) (by decide)
theorem d_ASu_newLength_6 : decode prog_35_method_27_code 6 = .ok (.iadd, 1) := by decide +kernel
theorem d_ASu_newLength_7 : decode prog_35_method_27_code 7 = .ok (.istore_n 3, 1) := by decide +kernel
theorem d_ASu_newLength_8 : decode prog_35_method_27_code 8 = .ok (.iconst 0, 1) := by decide +kernel
theorem d_ASu_newLength_9 : decode prog_35_method_27_code 9 = .ok (.iload_n 3, 1) := by decide +kernel
theorem d_ASu_newLength_10 : decode prog_35_method_27_code 10 = .ok (.if_icmp .ge 11, 3) := by decide +kernel
theorem d_ASu_newLength_13 : decode prog_35_method_27_code 13 = .ok (.iload_n 3, 1) := by decide +kernel
theorem d_ASu_newLength_14 : decode prog_35_method_27_code 14 = .ok (.ldc 200, 2) := by decide +kernel
theorem kw_2_189 : (Jvm.Cond.constant "jdk/internal/util/ArraysSupport" (200 : Nat) (2147483639 : Int32)) ∈ cd_tbl := tb_2 (List.mem_of_getElem? (i := 189) (by decide +kernel)) (by decide)
theorem d_ASu_newLength_16 : decode prog_35_method_27_code 16 = .ok (.if_icmp .gt 5, 3) := by decide +kernel
theorem d_ASu_newLength_19 : decode prog_35_method_27_code 19 = .ok (.iload_n 3, 1) := by decide +kernel
theorem d_ASu_newLength_20 : decode prog_35_method_27_code 20 = .ok (.ireturn, 1) := by decide +kernel
theorem g_ASu_newLength {X : cd_E} {kc ks : Nat} {h : cd_H} {Q : Option Value → cd_H → Prop} {p1 : Int32} {p2 : Int32} {p3 : Int32} (H : ((((p1 + (if p2 < p3 then p3 else p2)) ≤ 0) → (False)) ∧ ((¬ (p1 + (if p2 < p3 then p3 else p2)) ≤ 0) → ((((2147483639 < (p1 + (if p2 < p3 then p3 else p2))) → (False)) ∧ ((¬ 2147483639 < (p1 + (if p2 < p3 then p3 else p2))) → (Q (some (.int (p1 + (if p2 < p3 then p3 else p2)))) h))))))) : cd_W X m_ASu_newLength kc ks 0 [some (.int p1), some (.int p2), some (.int p3), none] [] h Q := by
  refine cd_iload_n (i := 0) d_ASu_newLength_0 rfl rfl ?_
  show cd_W X m_ASu_newLength kc ks 1 [some (.int p1), some (.int p2), some (.int p3), none] [.int p1] h Q
  refine cd_iload_n (i := 1) d_ASu_newLength_1 rfl rfl ?_
  refine cd_iload_n (i := 2) d_ASu_newLength_2 rfl rfl ?_
  refine cd_mmax d_ASu_newLength_3 kw_2_186 kw_2_187 kw_1_21 kw_2_188 (by decide) (by decide) (Nat.le_of_ble_eq_true rfl) ?_
  refine cd_iadd d_ASu_newLength_6 ?_
  refine cd_istore_n (i := 3) d_ASu_newLength_7 rfl (by decide) ?_
  show cd_W X m_ASu_newLength kc ks 8 [some (.int p1), some (.int p2), some (.int p3), some (.int (p1 + (if p2 < p3 then p3 else p2)))] [] h Q
  refine cd_iconst (v := 0) d_ASu_newLength_8 (by decide) ?_
  refine cd_iload_n (i := 3) d_ASu_newLength_9 rfl rfl ?_
  refine cd_icmp_ge (tgt := 21) d_ASu_newLength_10 (by decide) (fun t1 => ?_) (fun t1 => ?_)
  · replace H := H.1 t1
    exact H.elim
  · replace H := H.2 t1
    refine cd_iload_n (i := 3) d_ASu_newLength_13 rfl rfl ?_
    show cd_W X m_ASu_newLength kc ks 14 [some (.int p1), some (.int p2), some (.int p3), some (.int (p1 + (if p2 < p3 then p3 else p2)))] [.int (p1 + (if p2 < p3 then p3 else p2))] h Q
    refine cd_ldc (v := 2147483639) d_ASu_newLength_14 kw_2_189 ?_
    refine cd_icmp_gt (tgt := 21) d_ASu_newLength_16 (by decide) (fun t2 => ?_) (fun t2 => ?_)
    · replace H := H.1 t2
      exact H.elim
    · replace H := H.2 t2
      refine cd_iload_n (i := 3) d_ASu_newLength_19 rfl rfl ?_
      exact cd_iret d_ASu_newLength_20 rfl rfl H

abbrev m_Arr_copyOf_ALObjectILClassALObject : cd_M := (⟨"java/util/Arrays", "copyOf", "([Ljava/lang/Object;ILjava/lang/Class;)[Ljava/lang/Object;"⟩, prog_29_method_120_code, 4, some (.array (.object "java/lang/Object")), 1, 40)
theorem d_Arr_copyOf_ALObjectILClassALObject_0 : decode prog_29_method_120_code 0 = .ok (.aload_n 2, 1) := by decide +kernel
theorem d_Arr_copyOf_ALObjectILClassALObject_1 : decode prog_29_method_120_code 1 = .ok (.ldc 110, 2) := by decide +kernel
theorem kw_2_218 : (Jvm.Cond.classLink "java/util/Arrays" (110 : Nat) "[Ljava/lang/Object;") ∈ cd_tbl := tb_2 (List.mem_of_getElem? (i := 218) (by decide +kernel)) (by decide)
theorem d_Arr_copyOf_ALObjectILClassALObject_3 : decode prog_29_method_120_code 3 = .ok (.if_acmp .ne 10, 3) := by decide +kernel
theorem d_Arr_copyOf_ALObjectILClassALObject_6 : decode prog_29_method_120_code 6 = .ok (.iload_n 1, 1) := by decide +kernel
theorem d_Arr_copyOf_ALObjectILClassALObject_7 : decode prog_29_method_120_code 7 = .ok (.anewarray 2, 3) := by decide +kernel
theorem kw_2_220 : (Jvm.Cond.classLink "java/util/Arrays" (2 : Nat) "java/lang/Object") ∈ cd_tbl := tb_2 (List.mem_of_getElem? (i := 220) (by decide +kernel)) (by decide)
theorem d_Arr_copyOf_ALObjectILClassALObject_10 : decode prog_29_method_120_code 10 = .ok (.goto 14, 3) := by decide +kernel
theorem d_Arr_copyOf_ALObjectILClassALObject_24 : decode prog_29_method_120_code 24 = .ok (.astore_n 3, 1) := by decide +kernel
theorem d_Arr_copyOf_ALObjectILClassALObject_25 : decode prog_29_method_120_code 25 = .ok (.aload_n 0, 1) := by decide +kernel
theorem d_Arr_copyOf_ALObjectILClassALObject_26 : decode prog_29_method_120_code 26 = .ok (.iconst 0, 1) := by decide +kernel
theorem d_Arr_copyOf_ALObjectILClassALObject_27 : decode prog_29_method_120_code 27 = .ok (.aload_n 3, 1) := by decide +kernel
theorem d_Arr_copyOf_ALObjectILClassALObject_28 : decode prog_29_method_120_code 28 = .ok (.iconst 0, 1) := by decide +kernel
theorem d_Arr_copyOf_ALObjectILClassALObject_29 : decode prog_29_method_120_code 29 = .ok (.aload_n 0, 1) := by decide +kernel
theorem d_Arr_copyOf_ALObjectILClassALObject_30 : decode prog_29_method_120_code 30 = .ok (.arraylength, 1) := by decide +kernel
theorem d_Arr_copyOf_ALObjectILClassALObject_31 : decode prog_29_method_120_code 31 = .ok (.iload_n 1, 1) := by decide +kernel
theorem d_Arr_copyOf_ALObjectILClassALObject_32 : decode prog_29_method_120_code 32 = .ok (.invokestatic 304, 3) := by decide +kernel
theorem kw_2_221 : (Jvm.Cond.methodLink "java/util/Arrays" (304 : Nat) ({ cls := "java/lang/Math", name := "min", desc := "(II)I" } : Jvm.MethodName)) ∈ cd_tbl := tb_2 (List.mem_of_getElem? (i := 221) (by decide +kernel)) (by decide)
theorem kw_2_222 : (Jvm.Cond.static ({ cls := "java/lang/Math", name := "min", desc := "(II)I" } : Jvm.MethodName)) ∈ cd_tbl := tb_2 (List.mem_of_getElem? (i := 222) (by decide +kernel)) (by decide)
theorem kw_2_223 : (Jvm.Cond.code ({ cls := "java/lang/Math", name := "min", desc := "(II)I" } : Jvm.MethodName) prog_20_method_69_code (2 : Nat) (Option.some Jvm.ClassFile.FieldType.int)) ∈ cd_tbl := tb_2 (List.mem_of_getElem? (i := 223) (by decide +kernel)) (by decide)
theorem g_Arr_copyOf_ALObjectILClassALObject {X : cd_E} {kc ks : Nat} {h : cd_H} {Q : Option Value → cd_H → Prop} {p1 : Nat} {p2 : Int32} {p3 : Nat} (H : (cd_apart (some p3) (some (cd_mr X))) ∧ ((((¬ (some p3) = (some (cd_mr X))) → (False)) ∧ (((some p3) = (some (cd_mr X))) → ((∃ N3 : Nat, p2 = nI N3 ∧ N3 ≤ 40 ∧ ((∃ n6 : Nat, cd_k (cd_new h (.inr (5, N3))) p1 = some (.inr (5, n6)) ∧ (cd_W X m_Arr_copyOf_ALObjectILClassALObject kc ks 35 [some (.ref p1), some (.int p2), some (.ref p3), some (.ref (cd_n h))] [.int (if p2 < (nI n6) then p2 else (nI n6)), .int 0, .ref (cd_n h), .int 0, .ref p1] (cd_new h (.inr (5, N3))) Q))))))))) : cd_W X m_Arr_copyOf_ALObjectILClassALObject (kc + 1) (ks + 40) 0 [some (.ref p1), some (.int p2), some (.ref p3), none] [] h Q := by
  refine cd_aload_n (i := 2) (v := .ref p3) d_Arr_copyOf_ALObjectILClassALObject_0 rfl rfl (cd_isr_ref _) ?_
  show cd_W X m_Arr_copyOf_ALObjectILClassALObject (kc + 1) (ks + 40) 1 [some (.ref p1), some (.int p2), some (.ref p3), none] [.ref p3] h Q
  refine cd_ldcM d_Arr_copyOf_ALObjectILClassALObject_1 kw_2_218 ?_
  obtain ⟨c1, H⟩ := H
  refine cd_acmp_ne (rx := (some p3)) (ry := (some (cd_mr X))) (tgt := 13) d_Arr_copyOf_ALObjectILClassALObject_3 (by decide) c1 (fun t2 => ?_) (fun t2 => ?_)
  · replace H := H.1 t2
    exact H.elim
  · replace H := H.2 t2
    refine cd_iload_n (i := 1) d_Arr_copyOf_ALObjectILClassALObject_6 rfl rfl ?_
    obtain ⟨N3, e4, e5, H⟩ := H
    refine cd_W.budget (kc := (kc + 0) + 1) (ks := (ks + 0) + N3) (by omega) (by omega) ?_
    refine cd_anew (z := 5) (N := N3) (kc := (kc + 0)) (ks := (ks + 0)) d_Arr_copyOf_ALObjectILClassALObject_7 rfl kw_2_220 (List.mem_of_getElem? (i := 1) rfl) (by rw [e4]; exact nI_pos (by omega)) (by rw [e4]; exact nI_clamp (by omega)) (by omega) ?_
    refine cd_goto (tgt := 24) d_Arr_copyOf_ALObjectILClassALObject_10 (by decide) ?_
    refine cd_astore_n (i := 3) d_Arr_copyOf_ALObjectILClassALObject_24 rfl (by decide) (cd_isr_ref _) ?_
    show cd_W X m_Arr_copyOf_ALObjectILClassALObject (kc + 0) (ks + 0) 25 [some (.ref p1), some (.int p2), some (.ref p3), some (.ref (cd_n h))] [] (cd_new h (.inr (5, N3))) Q
    refine cd_aload_n (i := 0) (v := .ref p1) d_Arr_copyOf_ALObjectILClassALObject_25 rfl rfl (cd_isr_ref _) ?_
    refine cd_iconst (v := 0) d_Arr_copyOf_ALObjectILClassALObject_26 (by decide) ?_
    show cd_W X m_Arr_copyOf_ALObjectILClassALObject (kc + 0) (ks + 0) 27 [some (.ref p1), some (.int p2), some (.ref p3), some (.ref (cd_n h))] [.int 0, .ref p1] (cd_new h (.inr (5, N3))) Q
    refine cd_aload_n (i := 3) (v := .ref (cd_n h)) d_Arr_copyOf_ALObjectILClassALObject_27 rfl rfl (cd_isr_ref _) ?_
    refine cd_iconst (v := 0) d_Arr_copyOf_ALObjectILClassALObject_28 (by decide) ?_
    refine cd_aload_n (i := 0) (v := .ref p1) d_Arr_copyOf_ALObjectILClassALObject_29 rfl rfl (cd_isr_ref _) ?_
    obtain ⟨n6, c7, H⟩ := H
    refine cd_alen d_Arr_copyOf_ALObjectILClassALObject_30 rfl c7 ?_
    refine cd_iload_n (i := 1) d_Arr_copyOf_ALObjectILClassALObject_31 rfl rfl ?_
    refine cd_mmin d_Arr_copyOf_ALObjectILClassALObject_32 kw_2_221 kw_2_222 kw_1_21 kw_2_223 (by decide) (by decide) (Nat.le_of_ble_eq_true rfl) ?_
    refine cd_W.budget (kc := kc) (ks := ks) (by omega) (by omega) ?_
    exact H

abbrev m_Arr_copyOf_ALObjectIALObject : cd_M := (⟨"java/util/Arrays", "copyOf", "([Ljava/lang/Object;I)[Ljava/lang/Object;"⟩, prog_29_method_119_code, 2, some (.array (.object "java/lang/Object")), 2, 63)
theorem d_Arr_copyOf_ALObjectIALObject_0 : decode prog_29_method_119_code 0 = .ok (.aload_n 0, 1) := by decide +kernel
theorem d_Arr_copyOf_ALObjectIALObject_1 : decode prog_29_method_119_code 1 = .ok (.iload_n 1, 1) := by decide +kernel
theorem d_Arr_copyOf_ALObjectIALObject_2 : decode prog_29_method_119_code 2 = .ok (.aload_n 0, 1) := by decide +kernel
theorem d_Arr_copyOf_ALObjectIALObject_3 : decode prog_29_method_119_code 3 = .ok (.invokevirtual 86, 3) := by decide +kernel
theorem kw_2_196 : (Jvm.Cond.methodLink "java/util/Arrays" (86 : Nat) ({ cls := "java/lang/Object", name := "getClass", desc := "()Ljava/lang/Class;" } : Jvm.MethodName)) ∈ cd_tbl := tb_2 (List.mem_of_getElem? (i := 196) (by decide +kernel)) (by decide)
theorem kw_6_192 : (Jvm.Cond.selects "[Ljava/lang/Object;" ({ cls := "java/lang/Object", name := "getClass", desc := "()Ljava/lang/Class;" } : Jvm.MethodName) ({ cls := "java/lang/Object", name := "getClass", desc := "()Ljava/lang/Class;" } : Jvm.MethodName)) ∈ cd_tbl := tb_6 (List.mem_of_getElem? (i := 192) (by decide +kernel)) (by decide)
theorem kw_2_197 : (Jvm.Cond.instanceMethod ({ cls := "java/lang/Object", name := "getClass", desc := "()Ljava/lang/Class;" } : Jvm.MethodName)) ∈ cd_tbl := tb_2 (List.mem_of_getElem? (i := 197) (by decide +kernel)) (by decide)
theorem kw_2_214 : (Jvm.Cond.native ({ cls := "java/lang/Object", name := "getClass", desc := "()Ljava/lang/Class;" } : Jvm.MethodName)) ∈ cd_tbl := tb_2 (List.mem_of_getElem? (i := 214) (by decide +kernel)) (by decide)
theorem d_Arr_copyOf_ALObjectIALObject_6 : decode prog_29_method_119_code 6 = .ok (.invokestatic 300, 3) := by decide +kernel
theorem kw_2_215 : (Jvm.Cond.methodLink "java/util/Arrays" (300 : Nat) ({ cls := "java/util/Arrays", name := "copyOf", desc := "([Ljava/lang/Object;ILjava/lang/Class;)[Ljava/lang/Object;" } : Jvm.MethodName)) ∈ cd_tbl := tb_2 (List.mem_of_getElem? (i := 215) (by decide +kernel)) (by decide)
theorem kw_2_217 : (Jvm.Cond.code ({ cls := "java/util/Arrays", name := "copyOf", desc := "([Ljava/lang/Object;ILjava/lang/Class;)[Ljava/lang/Object;" } : Jvm.MethodName) prog_29_method_120_code (4 : Nat) (Option.some (Jvm.ClassFile.FieldType.array (Jvm.ClassFile.FieldType.object "java/lang/Object")))) ∈ cd_tbl := tb_2 (List.mem_of_getElem? (i := 217) (by decide +kernel)) (by decide)
theorem kw_1_6 : (Jvm.Cond.initialized "java/util/Arrays") ∈ cd_tbl := tb_1 (List.mem_of_getElem? (i := 6) (by decide +kernel)) (by decide)
theorem kw_2_216 : (Jvm.Cond.static ({ cls := "java/util/Arrays", name := "copyOf", desc := "([Ljava/lang/Object;ILjava/lang/Class;)[Ljava/lang/Object;" } : Jvm.MethodName)) ∈ cd_tbl := tb_2 (List.mem_of_getElem? (i := 216) (by decide +kernel)) (by decide)
theorem ca_Arr_copyOf_ALObjectIALObject_300 {X : cd_E} : cd_CS X m_Arr_copyOf_ALObjectIALObject m_Arr_copyOf_ALObjectILClassALObject 300 3 := ⟨⟨by decide, kw_2_217, kw_1_6, ⟨by decide, by decide, by decide +kernel⟩, by decide, by decide⟩, kw_2_216, (Or.inl kw_2_215)⟩
theorem d_Arr_copyOf_ALObjectIALObject_9 : decode prog_29_method_119_code 9 = .ok (.areturn, 1) := by decide +kernel
theorem g_Arr_copyOf_ALObjectIALObject {X : cd_E} {kc ks : Nat} {h : cd_H} {Q : Option Value → cd_H → Prop} {p1 : Nat} {p2 : Int32} (H : (∃ n1 : Nat, cd_k h p1 = some (.inr (5, n1)) ∧ ((64 ≤ p1) ∧ (cd_W X m_Arr_copyOf_ALObjectILClassALObject 1 40 0 [some (.ref p1), some (.int p2), some (.ref (cd_mr X)), none] [] h (fun r4 h5 => ∃ b6 : Nat, r4 = some (.ref b6) ∧ (Q (some (.ref b6)) h5)))))) : cd_W X m_Arr_copyOf_ALObjectIALObject (kc + 1) (ks + 40) 0 [some (.ref p1), some (.int p2)] [] h Q := by
  refine cd_aload_n (i := 0) (v := .ref p1) d_Arr_copyOf_ALObjectIALObject_0 rfl rfl (cd_isr_ref _) ?_
  show cd_W X m_Arr_copyOf_ALObjectIALObject (kc + 1) (ks + 40) 1 [some (.ref p1), some (.int p2)] [.ref p1] h Q
  refine cd_iload_n (i := 1) d_Arr_copyOf_ALObjectIALObject_1 rfl rfl ?_
  refine cd_aload_n (i := 0) (v := .ref p1) d_Arr_copyOf_ALObjectIALObject_2 rfl rfl (cd_isr_ref _) ?_
  obtain ⟨n1, c2, H⟩ := H
  obtain ⟨c3, H⟩ := H
  refine cd_getC d_Arr_copyOf_ALObjectIALObject_3 rfl c2 c3 kw_2_196 kw_6_192 kw_2_197 kw_2_214 (by decide) (by decide) (Nat.le_of_ble_eq_true rfl) ?_
  refine cd_callS (kc := (kc + 0)) (ks := (ks + 0)) (kc' := 1) (ks' := 40) (As := [.ref p1, .int p2, .ref (cd_mr X)]) (S := []) d_Arr_copyOf_ALObjectIALObject_6 ca_Arr_copyOf_ALObjectIALObject_300 rfl (Nat.le_of_ble_eq_true rfl) (Nat.le_of_ble_eq_true rfl) ?_
  refine cd_W.mono (fun r4 h5 H => ?_) H
  obtain ⟨b6, rfl, H⟩ := H
  show cd_W X m_Arr_copyOf_ALObjectIALObject (kc + 0) (ks + 0) 9 [some (.ref p1), some (.int p2)] [.ref b6] h5 Q
  exact cd_aret d_Arr_copyOf_ALObjectIALObject_9 rfl (Or.inr ⟨_, rfl⟩) (cd_isr_ref _) H

abbrev m_AL_grow_IALObject : cd_M := (⟨"java/util/ArrayList", "grow", "(I)[Ljava/lang/Object;"⟩, prog_28_method_6_code, 4, some (.array (.object "java/lang/Object")), 3, 84)
theorem d_AL_grow_IALObject_0 : decode prog_28_method_6_code 0 = .ok (.aload_n 0, 1) := by decide +kernel
theorem d_AL_grow_IALObject_1 : decode prog_28_method_6_code 1 = .ok (.getfield 9, 3) := by decide +kernel
theorem d_AL_grow_IALObject_4 : decode prog_28_method_6_code 4 = .ok (.arraylength, 1) := by decide +kernel
theorem d_AL_grow_IALObject_5 : decode prog_28_method_6_code 5 = .ok (.istore_n 2, 1) := by decide +kernel
theorem d_AL_grow_IALObject_6 : decode prog_28_method_6_code 6 = .ok (.iload_n 2, 1) := by decide +kernel
theorem d_AL_grow_IALObject_7 : decode prog_28_method_6_code 7 = .ok (.ifCond .gt 13, 3) := by decide +kernel
theorem d_AL_grow_IALObject_20 : decode prog_28_method_6_code 20 = .ok (.iload_n 2, 1) := by decide +kernel
theorem d_AL_grow_IALObject_21 : decode prog_28_method_6_code 21 = .ok (.iload_n 1, 1) := by decide +kernel
theorem d_AL_grow_IALObject_22 : decode prog_28_method_6_code 22 = .ok (.iload_n 2, 1) := by decide +kernel
theorem d_AL_grow_IALObject_23 : decode prog_28_method_6_code 23 = .ok (.isub, 1) := by decide +kernel
theorem d_AL_grow_IALObject_24 : decode prog_28_method_6_code 24 = .ok (.iload_n 2, 1) := by decide +kernel
theorem d_AL_grow_IALObject_25 : decode prog_28_method_6_code 25 = .ok (.iconst 1, 1) := by decide +kernel
theorem d_AL_grow_IALObject_26 : decode prog_28_method_6_code 26 = .ok (.ishr, 1) := by decide +kernel
theorem d_AL_grow_IALObject_27 : decode prog_28_method_6_code 27 = .ok (.invokestatic 73, 3) := by decide +kernel
theorem kw_2_183 : (Jvm.Cond.methodLink "java/util/ArrayList" (73 : Nat) ({ cls := "jdk/internal/util/ArraysSupport", name := "newLength", desc := "(III)I" } : Jvm.MethodName)) ∈ cd_tbl := tb_2 (List.mem_of_getElem? (i := 183) (by decide +kernel)) (by decide)
theorem kw_2_185 : (Jvm.Cond.code ({ cls := "jdk/internal/util/ArraysSupport", name := "newLength", desc := "(III)I" } : Jvm.MethodName) prog_35_method_27_code (4 : Nat) (Option.some Jvm.ClassFile.FieldType.int)) ∈ cd_tbl := tb_2 (List.mem_of_getElem? (i := 185) (by decide +kernel)) (by decide)
theorem kw_1_20 : (Jvm.Cond.initialized "jdk/internal/util/ArraysSupport") ∈ cd_tbl := tb_1 (List.mem_of_getElem? (i := 20) (by decide +kernel)) (by decide)
theorem kw_2_184 : (Jvm.Cond.static ({ cls := "jdk/internal/util/ArraysSupport", name := "newLength", desc := "(III)I" } : Jvm.MethodName)) ∈ cd_tbl := tb_2 (List.mem_of_getElem? (i := 184) (by decide +kernel)) (by decide)
theorem ca_AL_grow_IALObject_73 {X : cd_E} : cd_CS X m_AL_grow_IALObject m_ASu_newLength 73 3 := ⟨⟨by decide, kw_2_185, kw_1_20, ⟨by decide, by decide, by decide +kernel⟩, by decide, by decide⟩, kw_2_184, (Or.inl kw_2_183)⟩
theorem d_AL_grow_IALObject_30 : decode prog_28_method_6_code 30 = .ok (.istore_n 3, 1) := by decide +kernel
theorem d_AL_grow_IALObject_31 : decode prog_28_method_6_code 31 = .ok (.aload_n 0, 1) := by decide +kernel
theorem d_AL_grow_IALObject_32 : decode prog_28_method_6_code 32 = .ok (.aload_n 0, 1) := by decide +kernel
theorem d_AL_grow_IALObject_33 : decode prog_28_method_6_code 33 = .ok (.getfield 9, 3) := by decide +kernel
theorem d_AL_grow_IALObject_36 : decode prog_28_method_6_code 36 = .ok (.iload_n 3, 1) := by decide +kernel
theorem d_AL_grow_IALObject_37 : decode prog_28_method_6_code 37 = .ok (.invokestatic 66, 3) := by decide +kernel
theorem kw_2_193 : (Jvm.Cond.methodLink "java/util/ArrayList" (66 : Nat) ({ cls := "java/util/Arrays", name := "copyOf", desc := "([Ljava/lang/Object;I)[Ljava/lang/Object;" } : Jvm.MethodName)) ∈ cd_tbl := tb_2 (List.mem_of_getElem? (i := 193) (by decide +kernel)) (by decide)
theorem kw_2_195 : (Jvm.Cond.code ({ cls := "java/util/Arrays", name := "copyOf", desc := "([Ljava/lang/Object;I)[Ljava/lang/Object;" } : Jvm.MethodName) prog_29_method_119_code (2 : Nat) (Option.some (Jvm.ClassFile.FieldType.array (Jvm.ClassFile.FieldType.object "java/lang/Object")))) ∈ cd_tbl := tb_2 (List.mem_of_getElem? (i := 195) (by decide +kernel)) (by decide)
theorem kw_2_194 : (Jvm.Cond.static ({ cls := "java/util/Arrays", name := "copyOf", desc := "([Ljava/lang/Object;I)[Ljava/lang/Object;" } : Jvm.MethodName)) ∈ cd_tbl := tb_2 (List.mem_of_getElem? (i := 194) (by decide +kernel)) (by decide)
theorem ca_AL_grow_IALObject_66 {X : cd_E} : cd_CS X m_AL_grow_IALObject m_Arr_copyOf_ALObjectIALObject 66 2 := ⟨⟨by decide, kw_2_195, kw_1_6, ⟨by decide, by decide, by decide +kernel⟩, by decide, by decide⟩, kw_2_194, (Or.inl kw_2_193)⟩
theorem d_AL_grow_IALObject_40 : decode prog_28_method_6_code 40 = .ok (.dup_x1, 1) := by decide +kernel
theorem d_AL_grow_IALObject_41 : decode prog_28_method_6_code 41 = .ok (.putfield 9, 3) := by decide +kernel
theorem fp_AL_grow_IALObject_9 {X : cd_E} : cd_FP X m_AL_grow_IALObject 9 12 0 (.array (.object "java/lang/Object")) := cd_FP.of cl_12 rfl rfl (by decide) kw_1_130 (Or.inl rfl) (Or.inl rfl)
theorem d_AL_grow_IALObject_44 : decode prog_28_method_6_code 44 = .ok (.areturn, 1) := by decide +kernel
theorem d_AL_grow_IALObject_10 : decode prog_28_method_6_code 10 = .ok (.aload_n 0, 1) := by decide +kernel
theorem d_AL_grow_IALObject_11 : decode prog_28_method_6_code 11 = .ok (.getfield 9, 3) := by decide +kernel
theorem d_AL_grow_IALObject_14 : decode prog_28_method_6_code 14 = .ok (.getstatic 39, 3) := by decide +kernel
theorem d_AL_grow_IALObject_17 : decode prog_28_method_6_code 17 = .ok (.if_acmp .eq 28, 3) := by decide +kernel
theorem d_AL_grow_IALObject_45 : decode prog_28_method_6_code 45 = .ok (.aload_n 0, 1) := by decide +kernel
theorem d_AL_grow_IALObject_46 : decode prog_28_method_6_code 46 = .ok (.bipush 10, 2) := by decide +kernel
theorem d_AL_grow_IALObject_48 : decode prog_28_method_6_code 48 = .ok (.iload_n 1, 1) := by decide +kernel
theorem d_AL_grow_IALObject_49 : decode prog_28_method_6_code 49 = .ok (.invokestatic 79, 3) := by decide +kernel
theorem kw_2_227 : (Jvm.Cond.methodLink "java/util/ArrayList" (79 : Nat) ({ cls := "java/lang/Math", name := "max", desc := "(II)I" } : Jvm.MethodName)) ∈ cd_tbl := tb_2 (List.mem_of_getElem? (i := 227) (by decide +kernel)) (by decide)
theorem d_AL_grow_IALObject_52 : decode prog_28_method_6_code 52 = .ok (.anewarray 7, 3) := by decide +kernel
theorem kw_2_228 : (Jvm.Cond.classLink "java/util/ArrayList" (7 : Nat) "java/lang/Object") ∈ cd_tbl := tb_2 (List.mem_of_getElem? (i := 228) (by decide +kernel)) (by decide)
theorem d_AL_grow_IALObject_55 : decode prog_28_method_6_code 55 = .ok (.dup_x1, 1) := by decide +kernel
theorem d_AL_grow_IALObject_56 : decode prog_28_method_6_code 56 = .ok (.putfield 9, 3) := by decide +kernel
theorem d_AL_grow_IALObject_59 : decode prog_28_method_6_code 59 = .ok (.areturn, 1) := by decide +kernel
theorem g_AL_grow_IALObject {X : cd_E} {kc ks : Nat} {h : cd_H} {Q : Option Value → cd_H → Prop} {a0 : Nat} {p1 : Int32} (H : (cd_k h a0 = some (.inl 12)) ∧ ((∃ b2 : Nat, (cd_r h a0 0) = some b2 ∧ ((∃ n4 : Nat, cd_k h b2 = some (.inr (5, n4)) ∧ ((((0 < (nI n4)) → (cd_W X m_ASu_newLength 0 0 0 [some (.int (nI n4)), some (.int (p1 - (nI n4))), some (.int ((nI n4) >>> (1 &&& 31))), none] [] h (fun r7 h8 => ∃ x9 : Int32, r7 = some (.int x9) ∧ ((cd_k h8 a0 = some (.inl 12)) ∧ ((∃ b11 : Nat, (cd_r h8 a0 0) = some b11 ∧ (cd_W X m_Arr_copyOf_ALObjectIALObject 1 40 0 [some (.ref b11), some (.int x9)] [] h8 (fun r13 h14 => ∃ b15 : Nat, r13 = some (.ref b15) ∧ ((cd_k h14 a0 = some (.inl 12)) ∧ ((64 ≤ a0) ∧ (Q (some (.ref b15)) (cd_sr h14 a0 0 (some b15))))))))))))) ∧ ((¬ 0 < (nI n4)) → ((cd_apart (some b2) (some 0)) ∧ (((((some b2) = (some 0)) → ((∃ N20 : Nat, (if 10 < p1 then p1 else 10) = nI N20 ∧ N20 ≤ 40 ∧ ((cd_k (cd_new h (.inr (5, N20))) a0 = some (.inl 12)) ∧ ((64 ≤ a0) ∧ (Q (some (.ref (cd_n h))) (cd_sr (cd_new h (.inr (5, N20))) a0 0 (some (cd_n h))))))))) ∧ ((¬ (some b2) = (some 0)) → (cd_W X m_ASu_newLength 0 0 0 [some (.int (nI n4)), some (.int (p1 - (nI n4))), some (.int ((nI n4) >>> (1 &&& 31))), none] [] h (fun r25 h26 => ∃ x27 : Int32, r25 = some (.int x27) ∧ ((cd_k h26 a0 = some (.inl 12)) ∧ ((∃ b29 : Nat, (cd_r h26 a0 0) = some b29 ∧ (cd_W X m_Arr_copyOf_ALObjectIALObject 1 40 0 [some (.ref b29), some (.int x27)] [] h26 (fun r31 h32 => ∃ b33 : Nat, r31 = some (.ref b33) ∧ ((cd_k h32 a0 = some (.inl 12)) ∧ ((64 ≤ a0) ∧ (Q (some (.ref b33)) (cd_sr h32 a0 0 (some b33)))))))))))))))))))))))) : cd_W X m_AL_grow_IALObject (kc + 1) (ks + 40) 0 [some (.ref a0), some (.int p1), none, none] [] h Q := by
  refine cd_aload_n (i := 0) (v := .ref a0) d_AL_grow_IALObject_0 rfl rfl (cd_isr_ref _) ?_
  obtain ⟨c1, H⟩ := H
  refine cd_get (v := va_rf (cd_r h a0 0)) d_AL_grow_IALObject_1 fl_AL_9 c1 rfl ?_
  obtain ⟨b2, e3, H⟩ := H
  rw [cd_rfs e3]
  obtain ⟨n4, c5, H⟩ := H
  refine cd_alen d_AL_grow_IALObject_4 rfl c5 ?_
  refine cd_istore_n (i := 2) d_AL_grow_IALObject_5 rfl (by decide) ?_
  show cd_W X m_AL_grow_IALObject (kc + 1) (ks + 40) 6 [some (.ref a0), some (.int p1), some (.int (nI n4)), none] [] h Q
  refine cd_iload_n (i := 2) d_AL_grow_IALObject_6 rfl rfl ?_
  show cd_W X m_AL_grow_IALObject (kc + 1) (ks + 40) 7 [some (.ref a0), some (.int p1), some (.int (nI n4)), none] [.int (nI n4)] h Q
  refine cd_if_gt (tgt := 20) d_AL_grow_IALObject_7 (by decide) (fun t6 => ?_) (fun t6 => ?_)
  · replace H := H.1 t6
    refine cd_iload_n (i := 2) d_AL_grow_IALObject_20 rfl rfl ?_
    refine cd_iload_n (i := 1) d_AL_grow_IALObject_21 rfl rfl ?_
    refine cd_iload_n (i := 2) d_AL_grow_IALObject_22 rfl rfl ?_
    refine cd_isub d_AL_grow_IALObject_23 ?_
    refine cd_iload_n (i := 2) d_AL_grow_IALObject_24 rfl rfl ?_
    refine cd_iconst (v := 1) d_AL_grow_IALObject_25 (by decide) ?_
    refine cd_ishr d_AL_grow_IALObject_26 ?_
    show cd_W X m_AL_grow_IALObject (kc + 1) (ks + 40) 27 [some (.ref a0), some (.int p1), some (.int (nI n4)), none] [.int ((nI n4) >>> (1 &&& 31)), .int (p1 - (nI n4)), .int (nI n4)] h Q
    refine cd_callS (kc := (kc + 1)) (ks := (ks + 40)) (kc' := 0) (ks' := 0) (As := [.int (nI n4), .int (p1 - (nI n4)), .int ((nI n4) >>> (1 &&& 31))]) (S := []) d_AL_grow_IALObject_27 ca_AL_grow_IALObject_73 rfl (Nat.le_of_ble_eq_true rfl) (Nat.le_of_ble_eq_true rfl) ?_
    refine cd_W.mono (fun r7 h8 H => ?_) H
    obtain ⟨x9, rfl, H⟩ := H
    show cd_W X m_AL_grow_IALObject (kc + 1) (ks + 40) 30 [some (.ref a0), some (.int p1), some (.int (nI n4)), none] [.int x9] h8 Q
    refine cd_istore_n (i := 3) d_AL_grow_IALObject_30 rfl (by decide) ?_
    show cd_W X m_AL_grow_IALObject (kc + 1) (ks + 40) 31 [some (.ref a0), some (.int p1), some (.int (nI n4)), some (.int x9)] [] h8 Q
    refine cd_aload_n (i := 0) (v := .ref a0) d_AL_grow_IALObject_31 rfl rfl (cd_isr_ref _) ?_
    refine cd_aload_n (i := 0) (v := .ref a0) d_AL_grow_IALObject_32 rfl rfl (cd_isr_ref _) ?_
    obtain ⟨c10, H⟩ := H
    refine cd_get (v := va_rf (cd_r h8 a0 0)) d_AL_grow_IALObject_33 fl_AL_9 c10 rfl ?_
    refine cd_iload_n (i := 3) d_AL_grow_IALObject_36 rfl rfl ?_
    obtain ⟨b11, e12, H⟩ := H
    rw [cd_rfs e12]
    refine cd_callS (kc := (kc + 0)) (ks := (ks + 0)) (kc' := 1) (ks' := 40) (As := [.ref b11, .int x9]) (S := [.ref a0]) d_AL_grow_IALObject_37 ca_AL_grow_IALObject_66 rfl (Nat.le_of_ble_eq_true rfl) (Nat.le_of_ble_eq_true rfl) ?_
    refine cd_W.mono (fun r13 h14 H => ?_) H
    obtain ⟨b15, rfl, H⟩ := H
    show cd_W X m_AL_grow_IALObject (kc + 0) (ks + 0) 40 [some (.ref a0), some (.int p1), some (.int (nI n4)), some (.int x9)] [.ref b15, .ref a0] h14 Q
    refine cd_dup_x1 d_AL_grow_IALObject_40 rfl rfl ?_
    show cd_W X m_AL_grow_IALObject (kc + 0) (ks + 0) 41 [some (.ref a0), some (.int p1), some (.int (nI n4)), some (.int x9)] [.ref b15, .ref a0, .ref b15] h14 Q
    obtain ⟨c16, H⟩ := H
    obtain ⟨c17, H⟩ := H
    refine cd_putR (o := (some b15)) d_AL_grow_IALObject_41 fp_AL_grow_IALObject_9 (Or.inr ⟨_, rfl⟩) c16 c17 ?_
    exact cd_aret d_AL_grow_IALObject_44 rfl (Or.inr ⟨_, rfl⟩) (cd_isr_ref _) H
  · replace H := H.2 t6
    refine cd_aload_n (i := 0) (v := .ref a0) d_AL_grow_IALObject_10 rfl rfl (cd_isr_ref _) ?_
    refine cd_get (v := va_rf (cd_r h a0 0)) d_AL_grow_IALObject_11 fl_AL_9 c1 rfl ?_
    rw [cd_rfs e3]
    refine cd_gets (v := .ref 0) d_AL_grow_IALObject_14 (C := "java/util/ArrayList") (n := "DEFAULTCAPACITY_EMPTY_ELEMENTDATA") (d := "[Ljava/lang/Object;") (ref := "java/util/ArrayList") (List.mem_of_getElem? (i := 0) rfl) kw_1_128 (Or.inl rfl) ?_
    obtain ⟨c18, H⟩ := H
    refine cd_acmp_eq (rx := (some b2)) (ry := (some 0)) (tgt := 45) d_AL_grow_IALObject_17 (by decide) c18 (fun t19 => ?_) (fun t19 => ?_)
    · replace H := H.1 t19
      refine cd_aload_n (i := 0) (v := .ref a0) d_AL_grow_IALObject_45 rfl rfl (cd_isr_ref _) ?_
      refine cd_bipush (v := 10) d_AL_grow_IALObject_46 (by decide) ?_
      show cd_W X m_AL_grow_IALObject (kc + 1) (ks + 40) 48 [some (.ref a0), some (.int p1), some (.int (nI n4)), none] [.int 10, .ref a0] h Q
      refine cd_iload_n (i := 1) d_AL_grow_IALObject_48 rfl rfl ?_
      refine cd_mmax d_AL_grow_IALObject_49 kw_2_227 kw_2_187 kw_1_21 kw_2_188 (by decide) (by decide) (Nat.le_of_ble_eq_true rfl) ?_
      obtain ⟨N20, e21, e22, H⟩ := H
      refine cd_W.budget (kc := (kc + 0) + 1) (ks := (ks + 0) + N20) (by omega) (by omega) ?_
      refine cd_anew (z := 5) (N := N20) (kc := (kc + 0)) (ks := (ks + 0)) d_AL_grow_IALObject_52 rfl kw_2_228 (List.mem_of_getElem? (i := 1) rfl) (by rw [e21]; exact nI_pos (by omega)) (by rw [e21]; exact nI_clamp (by omega)) (by omega) ?_
      refine cd_dup_x1 d_AL_grow_IALObject_55 rfl rfl ?_
      obtain ⟨c23, H⟩ := H
      obtain ⟨c24, H⟩ := H
      refine cd_putR (o := (some (cd_n h))) d_AL_grow_IALObject_56 fp_AL_grow_IALObject_9 (Or.inr ⟨_, rfl⟩) c23 c24 ?_
      exact cd_aret d_AL_grow_IALObject_59 rfl (Or.inr ⟨_, rfl⟩) (cd_isr_ref _) H
    · replace H := H.2 t19
      refine cd_iload_n (i := 2) d_AL_grow_IALObject_20 rfl rfl ?_
      refine cd_iload_n (i := 1) d_AL_grow_IALObject_21 rfl rfl ?_
      show cd_W X m_AL_grow_IALObject (kc + 1) (ks + 40) 22 [some (.ref a0), some (.int p1), some (.int (nI n4)), none] [.int p1, .int (nI n4)] h Q
      refine cd_iload_n (i := 2) d_AL_grow_IALObject_22 rfl rfl ?_
      refine cd_isub d_AL_grow_IALObject_23 ?_
      refine cd_iload_n (i := 2) d_AL_grow_IALObject_24 rfl rfl ?_
      refine cd_iconst (v := 1) d_AL_grow_IALObject_25 (by decide) ?_
      refine cd_ishr d_AL_grow_IALObject_26 ?_
      refine cd_callS (kc := (kc + 1)) (ks := (ks + 40)) (kc' := 0) (ks' := 0) (As := [.int (nI n4), .int (p1 - (nI n4)), .int ((nI n4) >>> (1 &&& 31))]) (S := []) d_AL_grow_IALObject_27 ca_AL_grow_IALObject_73 rfl (Nat.le_of_ble_eq_true rfl) (Nat.le_of_ble_eq_true rfl) ?_
      refine cd_W.mono (fun r25 h26 H => ?_) H
      obtain ⟨x27, rfl, H⟩ := H
      show cd_W X m_AL_grow_IALObject (kc + 1) (ks + 40) 30 [some (.ref a0), some (.int p1), some (.int (nI n4)), none] [.int x27] h26 Q
      refine cd_istore_n (i := 3) d_AL_grow_IALObject_30 rfl (by decide) ?_
      show cd_W X m_AL_grow_IALObject (kc + 1) (ks + 40) 31 [some (.ref a0), some (.int p1), some (.int (nI n4)), some (.int x27)] [] h26 Q
      refine cd_aload_n (i := 0) (v := .ref a0) d_AL_grow_IALObject_31 rfl rfl (cd_isr_ref _) ?_
      show cd_W X m_AL_grow_IALObject (kc + 1) (ks + 40) 32 [some (.ref a0), some (.int p1), some (.int (nI n4)), some (.int x27)] [.ref a0] h26 Q
      refine cd_aload_n (i := 0) (v := .ref a0) d_AL_grow_IALObject_32 rfl rfl (cd_isr_ref _) ?_
      obtain ⟨c28, H⟩ := H
      refine cd_get (v := va_rf (cd_r h26 a0 0)) d_AL_grow_IALObject_33 fl_AL_9 c28 rfl ?_
      refine cd_iload_n (i := 3) d_AL_grow_IALObject_36 rfl rfl ?_
      obtain ⟨b29, e30, H⟩ := H
      rw [cd_rfs e30]
      refine cd_callS (kc := (kc + 0)) (ks := (ks + 0)) (kc' := 1) (ks' := 40) (As := [.ref b29, .int x27]) (S := [.ref a0]) d_AL_grow_IALObject_37 ca_AL_grow_IALObject_66 rfl (Nat.le_of_ble_eq_true rfl) (Nat.le_of_ble_eq_true rfl) ?_
      refine cd_W.mono (fun r31 h32 H => ?_) H
      obtain ⟨b33, rfl, H⟩ := H
      show cd_W X m_AL_grow_IALObject (kc + 0) (ks + 0) 40 [some (.ref a0), some (.int p1), some (.int (nI n4)), some (.int x27)] [.ref b33, .ref a0] h32 Q
      refine cd_dup_x1 d_AL_grow_IALObject_40 rfl rfl ?_
      obtain ⟨c34, H⟩ := H
      obtain ⟨c35, H⟩ := H
      refine cd_putR (o := (some b33)) d_AL_grow_IALObject_41 fp_AL_grow_IALObject_9 (Or.inr ⟨_, rfl⟩) c34 c35 ?_
      exact cd_aret d_AL_grow_IALObject_44 rfl (Or.inr ⟨_, rfl⟩) (cd_isr_ref _) H

abbrev m_AL_grow_ALObject : cd_M := (⟨"java/util/ArrayList", "grow", "()[Ljava/lang/Object;"⟩, prog_28_method_7_code, 1, some (.array (.object "java/lang/Object")), 4, 107)
theorem d_AL_grow_ALObject_0 : decode prog_28_method_7_code 0 = .ok (.aload_n 0, 1) := by decide +kernel
theorem d_AL_grow_ALObject_1 : decode prog_28_method_7_code 1 = .ok (.aload_n 0, 1) := by decide +kernel
theorem d_AL_grow_ALObject_2 : decode prog_28_method_7_code 2 = .ok (.getfield 48, 3) := by decide +kernel
theorem d_AL_grow_ALObject_5 : decode prog_28_method_7_code 5 = .ok (.iconst 1, 1) := by decide +kernel
theorem d_AL_grow_ALObject_6 : decode prog_28_method_7_code 6 = .ok (.iadd, 1) := by decide +kernel
theorem d_AL_grow_ALObject_7 : decode prog_28_method_7_code 7 = .ok (.invokevirtual 69, 3) := by decide +kernel
theorem kw_2_179 : (Jvm.Cond.methodLink "java/util/ArrayList" (69 : Nat) ({ cls := "java/util/ArrayList", name := "grow", desc := "(I)[Ljava/lang/Object;" } : Jvm.MethodName)) ∈ cd_tbl := tb_2 (List.mem_of_getElem? (i := 179) (by decide +kernel)) (by decide)
theorem kw_2_182 : (Jvm.Cond.code ({ cls := "java/util/ArrayList", name := "grow", desc := "(I)[Ljava/lang/Object;" } : Jvm.MethodName) prog_28_method_6_code (4 : Nat) (Option.some (Jvm.ClassFile.FieldType.array (Jvm.ClassFile.FieldType.object "java/lang/Object")))) ∈ cd_tbl := tb_2 (List.mem_of_getElem? (i := 182) (by decide +kernel)) (by decide)
theorem kw_2_181 : (Jvm.Cond.instanceMethod ({ cls := "java/util/ArrayList", name := "grow", desc := "(I)[Ljava/lang/Object;" } : Jvm.MethodName)) ∈ cd_tbl := tb_2 (List.mem_of_getElem? (i := 181) (by decide +kernel)) (by decide)
theorem kp_16 : Cond.selects "java/util/ArrayList" ⟨"java/util/ArrayList", "grow", "(I)[Ljava/lang/Object;"⟩ ⟨"java/util/ArrayList", "grow", "(I)[Ljava/lang/Object;"⟩ ∈ cd_tbl := cd_sel (List.mem_of_getElem? (i := 16) (by decide +kernel)) (by decide)
theorem ca_AL_grow_ALObject_69 {X : cd_E} : cd_CV X m_AL_grow_ALObject m_AL_grow_IALObject 69 1 12 := ⟨⟨by decide, kw_2_182, kw_1_9, ⟨by decide, by decide, by decide +kernel⟩, by decide, by decide⟩, ⟨_, rfl, rfl⟩, kw_2_181, kp_16, (Or.inl kw_2_179)⟩
theorem d_AL_grow_ALObject_10 : decode prog_28_method_7_code 10 = .ok (.areturn, 1) := by decide +kernel
theorem g_AL_grow_ALObject {X : cd_E} {kc ks : Nat} {h : cd_H} {Q : Option Value → cd_H → Prop} {a0 : Nat} (H : (cd_k h a0 = some (.inl 12)) ∧ (cd_W X m_AL_grow_IALObject 1 40 0 [some (.ref a0), some (.int ((cd_i h a0 1) + 1)), none, none] [] h (fun r2 h3 => ∃ b4 : Nat, r2 = some (.ref b4) ∧ (Q (some (.ref b4)) h3)))) : cd_W X m_AL_grow_ALObject (kc + 1) (ks + 40) 0 [some (.ref a0)] [] h Q := by
  refine cd_aload_n (i := 0) (v := .ref a0) d_AL_grow_ALObject_0 rfl rfl (cd_isr_ref _) ?_
  show cd_W X m_AL_grow_ALObject (kc + 1) (ks + 40) 1 [some (.ref a0)] [.ref a0] h Q
  refine cd_aload_n (i := 0) (v := .ref a0) d_AL_grow_ALObject_1 rfl rfl (cd_isr_ref _) ?_
  obtain ⟨c1, H⟩ := H
  refine cd_get (v := .int (cd_i h a0 1)) d_AL_grow_ALObject_2 fl_AL_48 c1 rfl ?_
  refine cd_iconst (v := 1) d_AL_grow_ALObject_5 (by decide) ?_
  refine cd_iadd d_AL_grow_ALObject_6 ?_
  refine cd_callV (kc := (kc + 0)) (ks := (ks + 0)) (kc' := 1) (ks' := 40) (As := [.int ((cd_i h a0 1) + 1)]) (S := []) d_AL_grow_ALObject_7 ca_AL_grow_ALObject_69 c1 rfl (Nat.le_of_ble_eq_true rfl) (Nat.le_of_ble_eq_true rfl) ?_
  refine cd_W.mono (fun r2 h3 H => ?_) H
  obtain ⟨b4, rfl, H⟩ := H
  show cd_W X m_AL_grow_ALObject (kc + 0) (ks + 0) 10 [some (.ref a0)] [.ref b4] h3 Q
  exact cd_aret d_AL_grow_ALObject_10 rfl (Or.inr ⟨_, rfl⟩) (cd_isr_ref _) H

abbrev m_AL_add_LObjectALObjectIV : cd_M := (⟨"java/util/ArrayList", "add", "(Ljava/lang/Object;[Ljava/lang/Object;I)V"⟩, prog_28_method_24_code, 4, none, 5, 127)
theorem d_AL_add_LObjectALObjectIV_0 : decode prog_28_method_24_code 0 = .ok (.iload_n 3, 1) := by decide +kernel
theorem d_AL_add_LObjectALObjectIV_1 : decode prog_28_method_24_code 1 = .ok (.aload_n 2, 1) := by decide +kernel
theorem d_AL_add_LObjectALObjectIV_2 : decode prog_28_method_24_code 2 = .ok (.arraylength, 1) := by decide +kernel
theorem d_AL_add_LObjectALObjectIV_3 : decode prog_28_method_24_code 3 = .ok (.if_icmp .ne 8, 3) := by decide +kernel
theorem d_AL_add_LObjectALObjectIV_11 : decode prog_28_method_24_code 11 = .ok (.aload_n 2, 1) := by decide +kernel
theorem d_AL_add_LObjectALObjectIV_12 : decode prog_28_method_24_code 12 = .ok (.iload_n 3, 1) := by decide +kernel
theorem d_AL_add_LObjectALObjectIV_13 : decode prog_28_method_24_code 13 = .ok (.aload_n 1, 1) := by decide +kernel
theorem d_AL_add_LObjectALObjectIV_14 : decode prog_28_method_24_code 14 = .ok (.aastore, 1) := by decide +kernel
theorem d_AL_add_LObjectALObjectIV_15 : decode prog_28_method_24_code 15 = .ok (.aload_n 0, 1) := by decide +kernel
theorem d_AL_add_LObjectALObjectIV_16 : decode prog_28_method_24_code 16 = .ok (.iload_n 3, 1) := by decide +kernel
theorem d_AL_add_LObjectALObjectIV_17 : decode prog_28_method_24_code 17 = .ok (.iconst 1, 1) := by decide +kernel
theorem d_AL_add_LObjectALObjectIV_18 : decode prog_28_method_24_code 18 = .ok (.iadd, 1) := by decide +kernel
theorem d_AL_add_LObjectALObjectIV_19 : decode prog_28_method_24_code 19 = .ok (.putfield 48, 3) := by decide +kernel
theorem fp_AL_add_LObjectALObjectIV_48 {X : cd_E} : cd_FP X m_AL_add_LObjectALObjectIV 48 12 1 .int := cd_FP.of cl_12 rfl rfl (by decide) kw_1_131 (Or.inl rfl) (Or.inl rfl)
theorem d_AL_add_LObjectALObjectIV_22 : decode prog_28_method_24_code 22 = .ok (.return_, 1) := by decide +kernel
theorem d_AL_add_LObjectALObjectIV_6 : decode prog_28_method_24_code 6 = .ok (.aload_n 0, 1) := by decide +kernel
theorem d_AL_add_LObjectALObjectIV_7 : decode prog_28_method_24_code 7 = .ok (.invokevirtual 129, 3) := by decide +kernel
theorem kw_2_175 : (Jvm.Cond.methodLink "java/util/ArrayList" (129 : Nat) ({ cls := "java/util/ArrayList", name := "grow", desc := "()[Ljava/lang/Object;" } : Jvm.MethodName)) ∈ cd_tbl := tb_2 (List.mem_of_getElem? (i := 175) (by decide +kernel)) (by decide)
theorem kw_2_178 : (Jvm.Cond.code ({ cls := "java/util/ArrayList", name := "grow", desc := "()[Ljava/lang/Object;" } : Jvm.MethodName) prog_28_method_7_code (1 : Nat) (Option.some (Jvm.ClassFile.FieldType.array (Jvm.ClassFile.FieldType.object "java/lang/Object")))) ∈ cd_tbl := tb_2 (List.mem_of_getElem? (i := 178) (by decide +kernel)) (by decide)
theorem kw_2_177 : (Jvm.Cond.instanceMethod ({ cls := "java/util/ArrayList", name := "grow", desc := "()[Ljava/lang/Object;" } : Jvm.MethodName)) ∈ cd_tbl := tb_2 (List.mem_of_getElem? (i := 177) (by decide +kernel)) (by decide)
theorem kp_15 : Cond.selects "java/util/ArrayList" ⟨"java/util/ArrayList", "grow", "()[Ljava/lang/Object;"⟩ ⟨"java/util/ArrayList", "grow", "()[Ljava/lang/Object;"⟩ ∈ cd_tbl := cd_sel (List.mem_of_getElem? (i := 15) (by decide +kernel)) (by decide)
theorem ca_AL_add_LObjectALObjectIV_129 {X : cd_E} : cd_CV X m_AL_add_LObjectALObjectIV m_AL_grow_ALObject 129 0 12 := ⟨⟨by decide, kw_2_178, kw_1_9, ⟨by decide, by decide, by decide +kernel⟩, by decide, by decide⟩, ⟨_, rfl, rfl⟩, kw_2_177, kp_15, (Or.inl kw_2_175)⟩
theorem d_AL_add_LObjectALObjectIV_10 : decode prog_28_method_24_code 10 = .ok (.astore_n 2, 1) := by decide +kernel
theorem g_AL_add_LObjectALObjectIV {X : cd_E} {kc ks : Nat} {h : cd_H} {Q : Option Value → cd_H → Prop} {a0 : Nat} {p1 : Nat} {p2 : Nat} {p3 : Int32} (H : (∃ n1 : Nat, cd_k h p2 = some (.inr (5, n1)) ∧ ((((¬ p3 = (nI n1)) → ((64 ≤ p2) ∧ ((vp_in p3 n1) ∧ ((∃ k6 : Nat, cd_k h p1 = some (.inl k6) ∧ cd_CA X k6 "java/lang/Object" ∧ ((cd_k h a0 = some (.inl 12)) ∧ ((64 ≤ a0) ∧ (Q none (cd_si (cd_sr h p2 p3.toNatClampNeg (some p1)) a0 1 (p3 + 1)))))))))) ∧ ((p3 = (nI n1)) → ((cd_k h a0 = some (.inl 12)) ∧ (cd_W X m_AL_grow_ALObject 1 40 0 [some (.ref a0)] [] h (fun r12 h13 => ∃ b14 : Nat, r12 = some (.ref b14) ∧ ((∃ n15 : Nat, cd_k h13 b14 = some (.inr (5, n15)) ∧ ((64 ≤ b14) ∧ ((vp_in p3 n15) ∧ ((∃ k19 : Nat, cd_k h13 p1 = some (.inl k19) ∧ cd_CA X k19 "java/lang/Object" ∧ ((cd_k h13 a0 = some (.inl 12)) ∧ ((64 ≤ a0) ∧ (Q none (cd_si (cd_sr h13 b14 p3.toNatClampNeg (some p1)) a0 1 (p3 + 1))))))))))))))))))) : cd_W X m_AL_add_LObjectALObjectIV (kc + 1) (ks + 40) 0 [some (.ref a0), some (.ref p1), some (.ref p2), some (.int p3)] [] h Q := by
  refine cd_iload_n (i := 3) d_AL_add_LObjectALObjectIV_0 rfl rfl ?_
  refine cd_aload_n (i := 2) (v := .ref p2) d_AL_add_LObjectALObjectIV_1 rfl rfl (cd_isr_ref _) ?_
  obtain ⟨n1, c2, H⟩ := H
  refine cd_alen d_AL_add_LObjectALObjectIV_2 rfl c2 ?_
  refine cd_icmp_ne (tgt := 11) d_AL_add_LObjectALObjectIV_3 (by decide) (fun t3 => ?_) (fun t3 => ?_)
  · replace H := H.1 t3
    refine cd_aload_n (i := 2) (v := .ref p2) d_AL_add_LObjectALObjectIV_11 rfl rfl (cd_isr_ref _) ?_
    show cd_W X m_AL_add_LObjectALObjectIV (kc + 1) (ks + 40) 12 [some (.ref a0), some (.ref p1), some (.ref p2), some (.int p3)] [.ref p2] h Q
    refine cd_iload_n (i := 3) d_AL_add_LObjectALObjectIV_12 rfl rfl ?_
    refine cd_aload_n (i := 1) (v := .ref p1) d_AL_add_LObjectALObjectIV_13 rfl rfl (cd_isr_ref _) ?_
    obtain ⟨c4, H⟩ := H
    obtain ⟨c5, H⟩ := H
    obtain ⟨k6, c7, c8, H⟩ := H
    refine cd_aast (j := p3) d_AL_add_LObjectALObjectIV_14 rfl c2 c4 c7 c8 c5 ?_
    refine cd_aload_n (i := 0) (v := .ref a0) d_AL_add_LObjectALObjectIV_15 rfl rfl (cd_isr_ref _) ?_
    refine cd_iload_n (i := 3) d_AL_add_LObjectALObjectIV_16 rfl rfl ?_
    refine cd_iconst (v := 1) d_AL_add_LObjectALObjectIV_17 (by decide) ?_
    refine cd_iadd d_AL_add_LObjectALObjectIV_18 ?_
    obtain ⟨c9, H⟩ := H
    obtain ⟨c10, H⟩ := H
    refine cd_putI d_AL_add_LObjectALObjectIV_19 fp_AL_add_LObjectALObjectIV_48 (fun _ _ _ => rfl) c9 c10 rfl rfl ?_
    show cd_W X m_AL_add_LObjectALObjectIV (kc + 1) (ks + 40) 22 [some (.ref a0), some (.ref p1), some (.ref p2), some (.int p3)] [] (cd_si (cd_sr h p2 p3.toNatClampNeg (some p1)) a0 1 (p3 + 1)) Q
    exact cd_vret d_AL_add_LObjectALObjectIV_22 rfl H
  · replace H := H.2 t3
    refine cd_aload_n (i := 0) (v := .ref a0) d_AL_add_LObjectALObjectIV_6 rfl rfl (cd_isr_ref _) ?_
    obtain ⟨c11, H⟩ := H
    refine cd_callV (kc := (kc + 0)) (ks := (ks + 0)) (kc' := 1) (ks' := 40) (As := []) (S := []) d_AL_add_LObjectALObjectIV_7 ca_AL_add_LObjectALObjectIV_129 c11 rfl (Nat.le_of_ble_eq_true rfl) (Nat.le_of_ble_eq_true rfl) ?_
    refine cd_W.mono (fun r12 h13 H => ?_) H
    obtain ⟨b14, rfl, H⟩ := H
    show cd_W X m_AL_add_LObjectALObjectIV (kc + 0) (ks + 0) 10 [some (.ref a0), some (.ref p1), some (.ref p2), some (.int p3)] [.ref b14] h13 Q
    refine cd_astore_n (i := 2) d_AL_add_LObjectALObjectIV_10 rfl (by decide) (cd_isr_ref _) ?_
    show cd_W X m_AL_add_LObjectALObjectIV (kc + 0) (ks + 0) 11 [some (.ref a0), some (.ref p1), some (.ref b14), some (.int p3)] [] h13 Q
    refine cd_aload_n (i := 2) (v := .ref b14) d_AL_add_LObjectALObjectIV_11 rfl rfl (cd_isr_ref _) ?_
    refine cd_iload_n (i := 3) d_AL_add_LObjectALObjectIV_12 rfl rfl ?_
    refine cd_aload_n (i := 1) (v := .ref p1) d_AL_add_LObjectALObjectIV_13 rfl rfl (cd_isr_ref _) ?_
    obtain ⟨n15, c16, H⟩ := H
    obtain ⟨c17, H⟩ := H
    obtain ⟨c18, H⟩ := H
    obtain ⟨k19, c20, c21, H⟩ := H
    refine cd_aast (j := p3) d_AL_add_LObjectALObjectIV_14 rfl c16 c17 c20 c21 c18 ?_
    show cd_W X m_AL_add_LObjectALObjectIV (kc + 0) (ks + 0) 15 [some (.ref a0), some (.ref p1), some (.ref b14), some (.int p3)] [] (cd_sr h13 b14 p3.toNatClampNeg (some p1)) Q
    refine cd_aload_n (i := 0) (v := .ref a0) d_AL_add_LObjectALObjectIV_15 rfl rfl (cd_isr_ref _) ?_
    refine cd_iload_n (i := 3) d_AL_add_LObjectALObjectIV_16 rfl rfl ?_
    refine cd_iconst (v := 1) d_AL_add_LObjectALObjectIV_17 (by decide) ?_
    refine cd_iadd d_AL_add_LObjectALObjectIV_18 ?_
    obtain ⟨c22, H⟩ := H
    obtain ⟨c23, H⟩ := H
    refine cd_putI d_AL_add_LObjectALObjectIV_19 fp_AL_add_LObjectALObjectIV_48 (fun _ _ _ => rfl) c22 c23 rfl rfl ?_
    exact cd_vret d_AL_add_LObjectALObjectIV_22 rfl H

theorem d_AL_add_LObjectZ_0 : decode prog_28_method_25_code 0 = .ok (.aload_n 0, 1) := by decide +kernel
theorem d_AL_add_LObjectZ_1 : decode prog_28_method_25_code 1 = .ok (.dup, 1) := by decide +kernel
theorem d_AL_add_LObjectZ_2 : decode prog_28_method_25_code 2 = .ok (.getfield 63, 3) := by decide +kernel
theorem kw_1_133 : (Jvm.Cond.fieldLink "java/util/ArrayList" (63 : Nat) "java/util/ArrayList" "modCount" "I") ∈ cd_tbl := tb_1 (List.mem_of_getElem? (i := 133) (by decide +kernel)) (by decide)
theorem kw_1_134 : (Jvm.Cond.sameField "java/util/ArrayList" "java/util/AbstractList" "modCount" "I") ∈ cd_tbl := tb_1 (List.mem_of_getElem? (i := 134) (by decide +kernel)) (by decide)
theorem fl_AL_63 {X : cd_E} : cd_FL X "java/util/ArrayList" 63 12 2 .int := cd_FL.of rfl rfl (by decide) kw_1_133 (Or.inr kw_1_134)
theorem d_AL_add_LObjectZ_5 : decode prog_28_method_25_code 5 = .ok (.iconst 1, 1) := by decide +kernel
theorem d_AL_add_LObjectZ_6 : decode prog_28_method_25_code 6 = .ok (.iadd, 1) := by decide +kernel
theorem d_AL_add_LObjectZ_7 : decode prog_28_method_25_code 7 = .ok (.putfield 63, 3) := by decide +kernel
theorem fp_AL_add_LObjectZ_63 {X : cd_E} : cd_FP X m_AL_add_LObjectZ 63 12 2 .int := cd_FP.of cl_12 rfl rfl (by decide) kw_1_133 (Or.inr kw_1_134) (Or.inl rfl)
theorem d_AL_add_LObjectZ_10 : decode prog_28_method_25_code 10 = .ok (.aload_n 0, 1) := by decide +kernel
theorem d_AL_add_LObjectZ_11 : decode prog_28_method_25_code 11 = .ok (.aload_n 1, 1) := by decide +kernel
theorem d_AL_add_LObjectZ_12 : decode prog_28_method_25_code 12 = .ok (.aload_n 0, 1) := by decide +kernel
theorem d_AL_add_LObjectZ_13 : decode prog_28_method_25_code 13 = .ok (.getfield 9, 3) := by decide +kernel
theorem d_AL_add_LObjectZ_16 : decode prog_28_method_25_code 16 = .ok (.aload_n 0, 1) := by decide +kernel
theorem d_AL_add_LObjectZ_17 : decode prog_28_method_25_code 17 = .ok (.getfield 48, 3) := by decide +kernel
theorem d_AL_add_LObjectZ_20 : decode prog_28_method_25_code 20 = .ok (.invokevirtual 131, 3) := by decide +kernel
theorem kw_2_171 : (Jvm.Cond.methodLink "java/util/ArrayList" (131 : Nat) ({ cls := "java/util/ArrayList", name := "add", desc := "(Ljava/lang/Object;[Ljava/lang/Object;I)V" } : Jvm.MethodName)) ∈ cd_tbl := tb_2 (List.mem_of_getElem? (i := 171) (by decide +kernel)) (by decide)
theorem kw_2_174 : (Jvm.Cond.code ({ cls := "java/util/ArrayList", name := "add", desc := "(Ljava/lang/Object;[Ljava/lang/Object;I)V" } : Jvm.MethodName) prog_28_method_24_code (4 : Nat) (Option.none : Option Jvm.ClassFile.FieldType)) ∈ cd_tbl := tb_2 (List.mem_of_getElem? (i := 174) (by decide +kernel)) (by decide)
theorem kw_2_173 : (Jvm.Cond.instanceMethod ({ cls := "java/util/ArrayList", name := "add", desc := "(Ljava/lang/Object;[Ljava/lang/Object;I)V" } : Jvm.MethodName)) ∈ cd_tbl := tb_2 (List.mem_of_getElem? (i := 173) (by decide +kernel)) (by decide)
theorem kp_14 : Cond.selects "java/util/ArrayList" ⟨"java/util/ArrayList", "add", "(Ljava/lang/Object;[Ljava/lang/Object;I)V"⟩ ⟨"java/util/ArrayList", "add", "(Ljava/lang/Object;[Ljava/lang/Object;I)V"⟩ ∈ cd_tbl := cd_sel (List.mem_of_getElem? (i := 14) (by decide +kernel)) (by decide)
theorem ca_AL_add_LObjectZ_131 {X : cd_E} : cd_CV X m_AL_add_LObjectZ m_AL_add_LObjectALObjectIV 131 3 12 := ⟨⟨by decide, kw_2_174, kw_1_9, ⟨by decide, by decide, by decide +kernel⟩, by decide, by decide⟩, ⟨_, rfl, rfl⟩, kw_2_173, kp_14, (Or.inl kw_2_171)⟩
theorem d_AL_add_LObjectZ_23 : decode prog_28_method_25_code 23 = .ok (.iconst 1, 1) := by decide +kernel
theorem d_AL_add_LObjectZ_24 : decode prog_28_method_25_code 24 = .ok (.ireturn, 1) := by decide +kernel
theorem g_AL_add_LObjectZ {X : cd_E} {kc ks : Nat} {h : cd_H} {Q : Option Value → cd_H → Prop} {a0 : Nat} {p1 : Nat} (H : (cd_k h a0 = some (.inl 12)) ∧ ((64 ≤ a0) ∧ ((∃ b3 : Nat, (cd_r (cd_si h a0 2 ((cd_i h a0 2) + 1)) a0 0) = some b3 ∧ (cd_W X m_AL_add_LObjectALObjectIV 1 40 0 [some (.ref a0), some (.ref p1), some (.ref b3), some (.int (cd_i (cd_si h a0 2 ((cd_i h a0 2) + 1)) a0 1))] [] (cd_si h a0 2 ((cd_i h a0 2) + 1)) (fun r5 h6 => (r5 = none) ∧ (Q (some (.int 1)) h6))))))) : cd_W X m_AL_add_LObjectZ (kc + 1) (ks + 40) 0 [some (.ref a0), some (.ref p1)] [] h Q := by
  refine cd_aload_n (i := 0) (v := .ref a0) d_AL_add_LObjectZ_0 rfl rfl (cd_isr_ref _) ?_
  show cd_W X m_AL_add_LObjectZ (kc + 1) (ks + 40) 1 [some (.ref a0), some (.ref p1)] [.ref a0] h Q
  refine cd_dup d_AL_add_LObjectZ_1 rfl ?_
  obtain ⟨c1, H⟩ := H
  refine cd_get (v := .int (cd_i h a0 2)) d_AL_add_LObjectZ_2 fl_AL_63 c1 rfl ?_
  refine cd_iconst (v := 1) d_AL_add_LObjectZ_5 (by decide) ?_
  refine cd_iadd d_AL_add_LObjectZ_6 ?_
  obtain ⟨c2, H⟩ := H
  refine cd_putI d_AL_add_LObjectZ_7 fp_AL_add_LObjectZ_63 (fun _ _ _ => rfl) c1 c2 rfl rfl ?_
  refine cd_aload_n (i := 0) (v := .ref a0) d_AL_add_LObjectZ_10 rfl rfl (cd_isr_ref _) ?_
  refine cd_aload_n (i := 1) (v := .ref p1) d_AL_add_LObjectZ_11 rfl rfl (cd_isr_ref _) ?_
  refine cd_aload_n (i := 0) (v := .ref a0) d_AL_add_LObjectZ_12 rfl rfl (cd_isr_ref _) ?_
  show cd_W X m_AL_add_LObjectZ (kc + 1) (ks + 40) 13 [some (.ref a0), some (.ref p1)] [.ref a0, .ref p1, .ref a0] (cd_si h a0 2 ((cd_i h a0 2) + 1)) Q
  refine cd_get (v := va_rf (cd_r (cd_si h a0 2 ((cd_i h a0 2) + 1)) a0 0)) d_AL_add_LObjectZ_13 fl_AL_9 c1 rfl ?_
  refine cd_aload_n (i := 0) (v := .ref a0) d_AL_add_LObjectZ_16 rfl rfl (cd_isr_ref _) ?_
  refine cd_get (v := .int (cd_i (cd_si h a0 2 ((cd_i h a0 2) + 1)) a0 1)) d_AL_add_LObjectZ_17 fl_AL_48 c1 rfl ?_
  obtain ⟨b3, e4, H⟩ := H
  rw [cd_rfs e4]
  refine cd_callV (kc := (kc + 0)) (ks := (ks + 0)) (kc' := 1) (ks' := 40) (As := [.ref p1, .ref b3, .int (cd_i (cd_si h a0 2 ((cd_i h a0 2) + 1)) a0 1)]) (S := []) d_AL_add_LObjectZ_20 ca_AL_add_LObjectZ_131 c1 rfl (Nat.le_of_ble_eq_true rfl) (Nat.le_of_ble_eq_true rfl) ?_
  refine cd_W.mono (fun r5 h6 H => ?_) H
  obtain ⟨rfl, H⟩ := H
  show cd_W X m_AL_add_LObjectZ (kc + 0) (ks + 0) 23 [some (.ref a0), some (.ref p1)] [] h6 Q
  refine cd_iconst (v := 1) d_AL_add_LObjectZ_23 (by decide) ?_
  exact cd_iret d_AL_add_LObjectZ_24 rfl rfl H

abbrev m_ASB_init : cd_M := (⟨"java/lang/AbstractStringBuilder", "<init>", "(I)V"⟩, prog_16_method_2_code, 2, none, 1, 20)
theorem d_ASB_init_0 : decode prog_16_method_2_code 0 = .ok (.aload_n 0, 1) := by decide +kernel
theorem d_ASB_init_1 : decode prog_16_method_2_code 1 = .ok (.invokespecial 3, 3) := by decide +kernel
theorem kw_3_69 : (Jvm.Cond.methodLink "java/lang/AbstractStringBuilder" (3 : Nat) ({ cls := "java/lang/Object", name := "<init>", desc := "()V" } : Jvm.MethodName)) ∈ cd_tbl := tb_3 (List.mem_of_getElem? (i := 69) (by decide +kernel)) (by decide)
theorem d_ASB_init_4 : decode prog_16_method_2_code 4 = .ok (.getstatic 18, 3) := by decide +kernel
theorem kw_3_70 : (Jvm.Cond.fieldLink "java/lang/AbstractStringBuilder" (18 : Nat) "java/lang/String" "COMPACT_STRINGS" "Z") ∈ cd_tbl := tb_3 (List.mem_of_getElem? (i := 70) (by decide +kernel)) (by decide)
theorem d_ASB_init_7 : decode prog_16_method_2_code 7 = .ok (.ifCond .eq 18, 3) := by decide +kernel
theorem d_ASB_init_10 : decode prog_16_method_2_code 10 = .ok (.aload_n 0, 1) := by decide +kernel
theorem d_ASB_init_11 : decode prog_16_method_2_code 11 = .ok (.iload_n 1, 1) := by decide +kernel
theorem d_ASB_init_12 : decode prog_16_method_2_code 12 = .ok (.newarray .byte, 2) := by decide +kernel
theorem kw_2_166 : (Jvm.Cond.arrayClass Jvm.ClassFile.FieldType.byte) ∈ cd_tbl := tb_2 (List.mem_of_getElem? (i := 166) (by decide +kernel)) (by decide)
theorem d_ASB_init_14 : decode prog_16_method_2_code 14 = .ok (.putfield 15, 3) := by decide +kernel
theorem kw_3_78 : (Jvm.Cond.fieldLink "java/lang/AbstractStringBuilder" (15 : Nat) "java/lang/AbstractStringBuilder" "value" "[B") ∈ cd_tbl := tb_3 (List.mem_of_getElem? (i := 78) (by decide +kernel)) (by decide)
theorem fp_ASB_init_15 {X : cd_E} : cd_FP X m_ASB_init 15 14 0 (.array .byte) := cd_FP.of cl_14 rfl rfl (by decide) kw_3_78 (Or.inl rfl) (Or.inl rfl)
theorem d_ASB_init_17 : decode prog_16_method_2_code 17 = .ok (.aload_n 0, 1) := by decide +kernel
theorem d_ASB_init_18 : decode prog_16_method_2_code 18 = .ok (.iconst 0, 1) := by decide +kernel
theorem d_ASB_init_19 : decode prog_16_method_2_code 19 = .ok (.putfield 22, 3) := by decide +kernel
theorem kw_3_79 : (Jvm.Cond.fieldLink "java/lang/AbstractStringBuilder" (22 : Nat) "java/lang/AbstractStringBuilder" "coder" "B") ∈ cd_tbl := tb_3 (List.mem_of_getElem? (i := 79) (by decide +kernel)) (by decide)
theorem fp_ASB_init_22 {X : cd_E} : cd_FP X m_ASB_init 22 14 1 .byte := cd_FP.of cl_14 rfl rfl (by decide) kw_3_79 (Or.inl rfl) (Or.inl rfl)
theorem d_ASB_init_22 : decode prog_16_method_2_code 22 = .ok (.goto 16, 3) := by decide +kernel
theorem d_ASB_init_38 : decode prog_16_method_2_code 38 = .ok (.return_, 1) := by decide +kernel
theorem g_ASB_init {X : cd_E} {kc ks : Nat} {h : cd_H} {Q : Option Value → cd_H → Prop} {a0 : Nat} {p1 : Int32} (H : (∃ N1 : Nat, p1 = nI N1 ∧ N1 ≤ 16 ∧ ((cd_k (cd_new h (.inr (3, N1))) a0 = some (.inl 14)) ∧ ((64 ≤ a0) ∧ (Q none (cd_si (cd_sr (cd_new h (.inr (3, N1))) a0 0 (some (cd_n h))) a0 1 0)))))) : cd_W X m_ASB_init (kc + 1) (ks + 16) 0 [some (.ref a0), some (.int p1)] [] h Q := by
  refine cd_aload_n (i := 0) (v := .ref a0) d_ASB_init_0 rfl rfl (cd_isr_ref _) ?_
  refine cd_objInit d_ASB_init_1 kw_3_69 kw_1_35 kw_1_36 (by decide) (by decide) (Nat.le_of_ble_eq_true rfl) ?_
  show cd_W X m_ASB_init (kc + 1) (ks + 16) 4 [some (.ref a0), some (.int p1)] [] h Q
  refine cd_gets (v := .int 1) d_ASB_init_4 (C := "java/lang/String") (n := "COMPACT_STRINGS") (d := "Z") (ref := "java/lang/String") (List.mem_of_getElem? (i := 5) rfl) kw_3_70 (Or.inl rfl) ?_
  refine cd_if_eq (tgt := 25) d_ASB_init_7 (by decide) (fun hc => absurd hc (by decide)) (fun _ => ?_)
  refine cd_aload_n (i := 0) (v := .ref a0) d_ASB_init_10 rfl rfl (cd_isr_ref _) ?_
  refine cd_iload_n (i := 1) d_ASB_init_11 rfl rfl ?_
  obtain ⟨N1, e2, e3, H⟩ := H
  refine cd_W.budget (kc := (kc + 0) + 1) (ks := (ks + 0) + N1) (by omega) (by omega) ?_
  refine cd_newa (z := 3) (N := N1) (kc := (kc + 0)) (ks := (ks + 0)) d_ASB_init_12 rfl kw_2_166 rfl (by rw [e2]; exact nI_pos (by omega)) (by rw [e2]; exact nI_clamp (by omega)) (by show N1 * 1 ≤ 536870912; omega) ?_
  obtain ⟨c4, H⟩ := H
  obtain ⟨c5, H⟩ := H
  refine cd_putR (o := (some (cd_n h))) d_ASB_init_14 fp_ASB_init_15 (Or.inr ⟨_, rfl⟩) c4 c5 ?_
  refine cd_aload_n (i := 0) (v := .ref a0) d_ASB_init_17 rfl rfl (cd_isr_ref _) ?_
  refine cd_iconst (v := 0) d_ASB_init_18 (by decide) ?_
  show cd_W X m_ASB_init (kc + 0) (ks + 0) 19 [some (.ref a0), some (.int p1)] [.int 0, .ref a0] (cd_sr (cd_new h (.inr (3, N1))) a0 0 (some (cd_n h))) Q
  refine cd_putI d_ASB_init_19 fp_ASB_init_22 (fun _ _ _ => rfl) c4 c5 rfl (by decide) ?_
  refine cd_goto (tgt := 38) d_ASB_init_22 (by decide) ?_
  exact cd_vret d_ASB_init_38 rfl H

theorem d_SB_init_V_0 : decode prog_22_method_1_code 0 = .ok (.aload_n 0, 1) := by decide +kernel
theorem d_SB_init_V_1 : decode prog_22_method_1_code 1 = .ok (.bipush 16, 2) := by decide +kernel
theorem d_SB_init_V_3 : decode prog_22_method_1_code 3 = .ok (.invokespecial 1, 3) := by decide +kernel
theorem kw_3_66 : (Jvm.Cond.methodLink "java/lang/StringBuilder" (1 : Nat) ({ cls := "java/lang/AbstractStringBuilder", name := "<init>", desc := "(I)V" } : Jvm.MethodName)) ∈ cd_tbl := tb_3 (List.mem_of_getElem? (i := 66) (by decide +kernel)) (by decide)
theorem kw_3_68 : (Jvm.Cond.code ({ cls := "java/lang/AbstractStringBuilder", name := "<init>", desc := "(I)V" } : Jvm.MethodName) prog_16_method_2_code (2 : Nat) (Option.none : Option Jvm.ClassFile.FieldType)) ∈ cd_tbl := tb_3 (List.mem_of_getElem? (i := 68) (by decide +kernel)) (by decide)
theorem kw_1_24 : (Jvm.Cond.initialized "java/lang/AbstractStringBuilder") ∈ cd_tbl := tb_1 (List.mem_of_getElem? (i := 24) (by decide +kernel)) (by decide)
theorem kw_3_67 : (Jvm.Cond.instanceMethod ({ cls := "java/lang/AbstractStringBuilder", name := "<init>", desc := "(I)V" } : Jvm.MethodName)) ∈ cd_tbl := tb_3 (List.mem_of_getElem? (i := 67) (by decide +kernel)) (by decide)
theorem ca_SB_init_V_1 {X : cd_E} : cd_CI X m_SB_init_V m_ASB_init 1 1 := ⟨⟨by decide, kw_3_68, kw_1_24, ⟨by decide, by decide, by decide +kernel⟩, by decide, by decide⟩, rfl, rfl, kw_3_67, (Or.inl kw_3_66)⟩
theorem d_SB_init_V_6 : decode prog_22_method_1_code 6 = .ok (.return_, 1) := by decide +kernel
theorem g_SB_init_V {X : cd_E} {kc ks : Nat} {h : cd_H} {Q : Option Value → cd_H → Prop} {a0 : Nat} (H : cd_W X m_ASB_init 1 16 0 [some (.ref a0), some (.int 16)] [] h (fun r1 h2 => (r1 = none) ∧ (Q none h2))) : cd_W X m_SB_init_V (kc + 1) (ks + 16) 0 [some (.ref a0)] [] h Q := by
  refine cd_aload_n (i := 0) (v := .ref a0) d_SB_init_V_0 rfl rfl (cd_isr_ref _) ?_
  refine cd_bipush (v := 16) d_SB_init_V_1 (by decide) ?_
  refine cd_callI (kc := (kc + 0)) (ks := (ks + 0)) (kc' := 1) (ks' := 16) (As := [.int 16]) (S := []) d_SB_init_V_3 ca_SB_init_V_1 rfl (Nat.le_of_ble_eq_true rfl) (Nat.le_of_ble_eq_true rfl) ?_
  refine cd_W.mono (fun r1 h2 H => ?_) H
  obtain ⟨rfl, H⟩ := H
  show cd_W X m_SB_init_V (kc + 0) (ks + 0) 6 [some (.ref a0)] [] h2 Q
  exact cd_vret d_SB_init_V_6 rfl H

abbrev m_ASB_isLatin1 : cd_M := (⟨"java/lang/AbstractStringBuilder", "isLatin1", "()Z"⟩, prog_16_method_68_code, 1, some .boolean, 1, 20)
theorem d_ASB_isLatin1_0 : decode prog_16_method_68_code 0 = .ok (.getstatic 18, 3) := by decide +kernel
theorem d_ASB_isLatin1_3 : decode prog_16_method_68_code 3 = .ok (.ifCond .eq 14, 3) := by decide +kernel
theorem d_ASB_isLatin1_6 : decode prog_16_method_68_code 6 = .ok (.aload_n 0, 1) := by decide +kernel
theorem d_ASB_isLatin1_7 : decode prog_16_method_68_code 7 = .ok (.getfield 22, 3) := by decide +kernel
theorem fl_ASB_22 {X : cd_E} : cd_FL X "java/lang/AbstractStringBuilder" 22 14 1 .byte := cd_FL.of rfl rfl (by decide) kw_3_79 (Or.inl rfl)
theorem d_ASB_isLatin1_10 : decode prog_16_method_68_code 10 = .ok (.ifCond .ne 7, 3) := by decide +kernel
theorem d_ASB_isLatin1_17 : decode prog_16_method_68_code 17 = .ok (.iconst 0, 1) := by decide +kernel
theorem d_ASB_isLatin1_18 : decode prog_16_method_68_code 18 = .ok (.ireturn, 1) := by decide +kernel
theorem d_ASB_isLatin1_13 : decode prog_16_method_68_code 13 = .ok (.iconst 1, 1) := by decide +kernel
theorem d_ASB_isLatin1_14 : decode prog_16_method_68_code 14 = .ok (.goto 4, 3) := by decide +kernel
theorem g_ASB_isLatin1 {X : cd_E} {kc ks : Nat} {h : cd_H} {Q : Option Value → cd_H → Prop} {a0 : Nat} (H : (cd_k h a0 = some (.inl 14)) ∧ ((((¬ (cd_i h a0 1) = 0) → (Q (some (.int 0)) h)) ∧ (((cd_i h a0 1) = 0) → (Q (some (.int 1)) h))))) : cd_W X m_ASB_isLatin1 kc ks 0 [some (.ref a0)] [] h Q := by
  refine cd_gets (v := .int 1) d_ASB_isLatin1_0 (C := "java/lang/String") (n := "COMPACT_STRINGS") (d := "Z") (ref := "java/lang/String") (List.mem_of_getElem? (i := 5) rfl) kw_3_70 (Or.inl rfl) ?_
  refine cd_if_eq (tgt := 17) d_ASB_isLatin1_3 (by decide) (fun hc => absurd hc (by decide)) (fun _ => ?_)
  refine cd_aload_n (i := 0) (v := .ref a0) d_ASB_isLatin1_6 rfl rfl (cd_isr_ref _) ?_
  obtain ⟨c1, H⟩ := H
  refine cd_get (v := .int (cd_i h a0 1)) d_ASB_isLatin1_7 fl_ASB_22 c1 rfl ?_
  refine cd_if_ne (tgt := 17) d_ASB_isLatin1_10 (by decide) (fun t2 => ?_) (fun t2 => ?_)
  · replace H := H.1 t2
    refine cd_iconst (v := 0) d_ASB_isLatin1_17 (by decide) ?_
    show cd_W X m_ASB_isLatin1 kc ks 18 [some (.ref a0)] [.int 0] h Q
    exact cd_iret d_ASB_isLatin1_18 rfl rfl H
  · replace H := H.2 t2
    refine cd_iconst (v := 1) d_ASB_isLatin1_13 (by decide) ?_
    refine cd_goto (tgt := 18) d_ASB_isLatin1_14 (by decide) ?_
    exact cd_iret d_ASB_isLatin1_18 rfl rfl H

abbrev m_ASB_ensureCapacityInternal : cd_M := (⟨"java/lang/AbstractStringBuilder", "ensureCapacityInternal", "(I)V"⟩, prog_16_method_9_code, 3, none, 1, 20)
theorem d_ASB_ensureCapacityInternal_0 : decode prog_16_method_9_code 0 = .ok (.aload_n 0, 1) := by decide +kernel
theorem d_ASB_ensureCapacityInternal_1 : decode prog_16_method_9_code 1 = .ok (.getfield 15, 3) := by decide +kernel
theorem fl_ASB_15 {X : cd_E} : cd_FL X "java/lang/AbstractStringBuilder" 15 14 0 (.array .byte) := cd_FL.of rfl rfl (by decide) kw_3_78 (Or.inl rfl)
theorem d_ASB_ensureCapacityInternal_4 : decode prog_16_method_9_code 4 = .ok (.arraylength, 1) := by decide +kernel
theorem d_ASB_ensureCapacityInternal_5 : decode prog_16_method_9_code 5 = .ok (.aload_n 0, 1) := by decide +kernel
theorem d_ASB_ensureCapacityInternal_6 : decode prog_16_method_9_code 6 = .ok (.getfield 22, 3) := by decide +kernel
theorem d_ASB_ensureCapacityInternal_9 : decode prog_16_method_9_code 9 = .ok (.ishr, 1) := by decide +kernel
theorem d_ASB_ensureCapacityInternal_10 : decode prog_16_method_9_code 10 = .ok (.istore_n 2, 1) := by decide +kernel
theorem d_ASB_ensureCapacityInternal_11 : decode prog_16_method_9_code 11 = .ok (.iload_n 1, 1) := by decide +kernel
theorem d_ASB_ensureCapacityInternal_12 : decode prog_16_method_9_code 12 = .ok (.iload_n 2, 1) := by decide +kernel
theorem d_ASB_ensureCapacityInternal_13 : decode prog_16_method_9_code 13 = .ok (.isub, 1) := by decide +kernel
theorem d_ASB_ensureCapacityInternal_14 : decode prog_16_method_9_code 14 = .ok (.ifCond .le 24, 3) := by decide +kernel
theorem d_ASB_ensureCapacityInternal_38 : decode prog_16_method_9_code 38 = .ok (.return_, 1) := by decide +kernel
theorem g_ASB_ensureCapacityInternal {X : cd_E} {kc ks : Nat} {h : cd_H} {Q : Option Value → cd_H → Prop} {a0 : Nat} {p1 : Int32} (H : (cd_k h a0 = some (.inl 14)) ∧ ((∃ b2 : Nat, (cd_r h a0 0) = some b2 ∧ ((∃ n4 : Nat, cd_k h b2 = some (.inr (3, n4)) ∧ (((((p1 - ((nI n4) >>> ((cd_i h a0 1) &&& 31))) ≤ 0) → (Q none h)) ∧ ((¬ (p1 - ((nI n4) >>> ((cd_i h a0 1) &&& 31))) ≤ 0) → (False))))))))) : cd_W X m_ASB_ensureCapacityInternal kc ks 0 [some (.ref a0), some (.int p1), none] [] h Q := by
  refine cd_aload_n (i := 0) (v := .ref a0) d_ASB_ensureCapacityInternal_0 rfl rfl (cd_isr_ref _) ?_
  obtain ⟨c1, H⟩ := H
  refine cd_get (v := va_rf (cd_r h a0 0)) d_ASB_ensureCapacityInternal_1 fl_ASB_15 c1 rfl ?_
  obtain ⟨b2, e3, H⟩ := H
  rw [cd_rfs e3]
  obtain ⟨n4, c5, H⟩ := H
  refine cd_alen d_ASB_ensureCapacityInternal_4 rfl c5 ?_
  refine cd_aload_n (i := 0) (v := .ref a0) d_ASB_ensureCapacityInternal_5 rfl rfl (cd_isr_ref _) ?_
  show cd_W X m_ASB_ensureCapacityInternal kc ks 6 [some (.ref a0), some (.int p1), none] [.ref a0, .int (nI n4)] h Q
  refine cd_get (v := .int (cd_i h a0 1)) d_ASB_ensureCapacityInternal_6 fl_ASB_22 c1 rfl ?_
  refine cd_ishr d_ASB_ensureCapacityInternal_9 ?_
  refine cd_istore_n (i := 2) d_ASB_ensureCapacityInternal_10 rfl (by decide) ?_
  show cd_W X m_ASB_ensureCapacityInternal kc ks 11 [some (.ref a0), some (.int p1), some (.int ((nI n4) >>> ((cd_i h a0 1) &&& 31)))] [] h Q
  refine cd_iload_n (i := 1) d_ASB_ensureCapacityInternal_11 rfl rfl ?_
  refine cd_iload_n (i := 2) d_ASB_ensureCapacityInternal_12 rfl rfl ?_
  refine cd_isub d_ASB_ensureCapacityInternal_13 ?_
  refine cd_if_le (tgt := 38) d_ASB_ensureCapacityInternal_14 (by decide) (fun t6 => ?_) (fun t6 => ?_)
  · replace H := H.1 t6
    exact cd_vret d_ASB_ensureCapacityInternal_38 rfl H
  · replace H := H.2 t6
    exact H.elim

abbrev m_ASB_append : cd_M := (⟨"java/lang/AbstractStringBuilder", "append", "(C)Ljava/lang/AbstractStringBuilder;"⟩, prog_16_method_31_code, 2, some (.object "java/lang/AbstractStringBuilder"), 2, 42)
theorem d_ASB_append_0 : decode prog_16_method_31_code 0 = .ok (.aload_n 0, 1) := by decide +kernel
theorem d_ASB_append_1 : decode prog_16_method_31_code 1 = .ok (.aload_n 0, 1) := by decide +kernel
theorem d_ASB_append_2 : decode prog_16_method_31_code 2 = .ok (.getfield 79, 3) := by decide +kernel
theorem kw_3_81 : (Jvm.Cond.fieldLink "java/lang/AbstractStringBuilder" (79 : Nat) "java/lang/AbstractStringBuilder" "count" "I") ∈ cd_tbl := tb_3 (List.mem_of_getElem? (i := 81) (by decide +kernel)) (by decide)
theorem fl_ASB_79 {X : cd_E} : cd_FL X "java/lang/AbstractStringBuilder" 79 14 3 .int := cd_FL.of rfl rfl (by decide) kw_3_81 (Or.inl rfl)
theorem d_ASB_append_5 : decode prog_16_method_31_code 5 = .ok (.iconst 1, 1) := by decide +kernel
theorem d_ASB_append_6 : decode prog_16_method_31_code 6 = .ok (.iadd, 1) := by decide +kernel
theorem d_ASB_append_7 : decode prog_16_method_31_code 7 = .ok (.invokevirtual 100, 3) := by decide +kernel
theorem kw_3_98 : (Jvm.Cond.methodLink "java/lang/AbstractStringBuilder" (100 : Nat) ({ cls := "java/lang/AbstractStringBuilder", name := "ensureCapacityInternal", desc := "(I)V" } : Jvm.MethodName)) ∈ cd_tbl := tb_3 (List.mem_of_getElem? (i := 98) (by decide +kernel)) (by decide)
theorem kw_6_184 : (Jvm.Cond.sameMethod "java/lang/AbstractStringBuilder" "java/lang/AbstractStringBuilder" "ensureCapacityInternal" "(I)V") ∈ cd_tbl := tb_6 (List.mem_of_getElem? (i := 184) (by decide +kernel)) (by decide)
theorem kw_3_101 : (Jvm.Cond.code ({ cls := "java/lang/AbstractStringBuilder", name := "ensureCapacityInternal", desc := "(I)V" } : Jvm.MethodName) prog_16_method_9_code (3 : Nat) (Option.none : Option Jvm.ClassFile.FieldType)) ∈ cd_tbl := tb_3 (List.mem_of_getElem? (i := 101) (by decide +kernel)) (by decide)
theorem kw_3_100 : (Jvm.Cond.instanceMethod ({ cls := "java/lang/AbstractStringBuilder", name := "ensureCapacityInternal", desc := "(I)V" } : Jvm.MethodName)) ∈ cd_tbl := tb_3 (List.mem_of_getElem? (i := 100) (by decide +kernel)) (by decide)
theorem ca_ASB_append_100 : cd_CU m_ASB_append m_ASB_ensureCapacityInternal 100 1 14 ⟨"java/lang/AbstractStringBuilder", "ensureCapacityInternal", "(I)V"⟩ := ⟨⟨by decide, kw_3_101, kw_1_24, ⟨by decide, by decide, by decide +kernel⟩, by decide, by decide⟩, ⟨by decide, by decide, by decide +kernel⟩, kw_3_98, kw_6_184, ⟨_, _, _, kw_3_101⟩, kw_3_100, ⟨_, rfl, cd_selW (cd_xw (List.mem_of_getElem? (i := 0) rfl) (by decide))⟩, kw_3_100⟩
theorem d_ASB_append_10 : decode prog_16_method_31_code 10 = .ok (.aload_n 0, 1) := by decide +kernel
theorem d_ASB_append_11 : decode prog_16_method_31_code 11 = .ok (.invokevirtual 83, 3) := by decide +kernel
theorem kw_3_118 : (Jvm.Cond.methodLink "java/lang/AbstractStringBuilder" (83 : Nat) ({ cls := "java/lang/AbstractStringBuilder", name := "isLatin1", desc := "()Z" } : Jvm.MethodName)) ∈ cd_tbl := tb_3 (List.mem_of_getElem? (i := 118) (by decide +kernel)) (by decide)
theorem kw_3_120 : (Jvm.Cond.sameMethod "java/lang/AbstractStringBuilder" "java/lang/AbstractStringBuilder" "isLatin1" "()Z") ∈ cd_tbl := tb_3 (List.mem_of_getElem? (i := 120) (by decide +kernel)) (by decide)
theorem kw_3_121 : (Jvm.Cond.selects "java/lang/StringBuilder" ({ cls := "java/lang/AbstractStringBuilder", name := "isLatin1", desc := "()Z" } : Jvm.MethodName) ({ cls := "java/lang/AbstractStringBuilder", name := "isLatin1", desc := "()Z" } : Jvm.MethodName)) ∈ cd_tbl := tb_3 (List.mem_of_getElem? (i := 121) (by decide +kernel)) (by decide)
theorem kw_3_122 : (Jvm.Cond.code ({ cls := "java/lang/AbstractStringBuilder", name := "isLatin1", desc := "()Z" } : Jvm.MethodName) prog_16_method_68_code (1 : Nat) (Option.some Jvm.ClassFile.FieldType.boolean)) ∈ cd_tbl := tb_3 (List.mem_of_getElem? (i := 122) (by decide +kernel)) (by decide)
theorem kw_3_119 : (Jvm.Cond.instanceMethod ({ cls := "java/lang/AbstractStringBuilder", name := "isLatin1", desc := "()Z" } : Jvm.MethodName)) ∈ cd_tbl := tb_3 (List.mem_of_getElem? (i := 119) (by decide +kernel)) (by decide)
theorem ca_ASB_append_83 : cd_CU m_ASB_append m_ASB_isLatin1 83 0 14 ⟨"java/lang/AbstractStringBuilder", "isLatin1", "()Z"⟩ := ⟨⟨by decide, kw_3_122, kw_1_24, ⟨by decide, by decide, by decide +kernel⟩, by decide, by decide⟩, ⟨by decide, by decide, by decide +kernel⟩, kw_3_118, kw_3_120, ⟨_, _, _, kw_3_122⟩, kw_3_119, ⟨_, rfl, cd_selW kw_3_121⟩, kw_3_119⟩
theorem d_ASB_append_14 : decode prog_16_method_31_code 14 = .ok (.ifCond .eq 31, 3) := by decide +kernel
theorem d_ASB_append_17 : decode prog_16_method_31_code 17 = .ok (.iload_n 1, 1) := by decide +kernel
theorem d_ASB_append_18 : decode prog_16_method_31_code 18 = .ok (.invokestatic 191, 3) := by decide +kernel
theorem kw_3_123 : (Jvm.Cond.methodLink "java/lang/AbstractStringBuilder" (191 : Nat) ({ cls := "java/lang/StringLatin1", name := "canEncode", desc := "(C)Z" } : Jvm.MethodName)) ∈ cd_tbl := tb_3 (List.mem_of_getElem? (i := 123) (by decide +kernel)) (by decide)
theorem kw_3_125 : (Jvm.Cond.code ({ cls := "java/lang/StringLatin1", name := "canEncode", desc := "(C)Z" } : Jvm.MethodName) prog_23_method_3_code (1 : Nat) (Option.some Jvm.ClassFile.FieldType.boolean)) ∈ cd_tbl := tb_3 (List.mem_of_getElem? (i := 125) (by decide +kernel)) (by decide)
theorem kw_3_124 : (Jvm.Cond.static ({ cls := "java/lang/StringLatin1", name := "canEncode", desc := "(C)Z" } : Jvm.MethodName)) ∈ cd_tbl := tb_3 (List.mem_of_getElem? (i := 124) (by decide +kernel)) (by decide)
theorem ca_ASB_append_191 {X : cd_E} : cd_CS X m_ASB_append m_SL1_canEncode 191 1 := ⟨⟨by decide, kw_3_125, kw_1_15, ⟨by decide, by decide, by decide +kernel⟩, by decide, by decide⟩, kw_3_124, (Or.inl kw_3_123)⟩
theorem d_ASB_append_21 : decode prog_16_method_31_code 21 = .ok (.ifCond .eq 24, 3) := by decide +kernel
theorem d_ASB_append_24 : decode prog_16_method_31_code 24 = .ok (.aload_n 0, 1) := by decide +kernel
theorem d_ASB_append_25 : decode prog_16_method_31_code 25 = .ok (.getfield 15, 3) := by decide +kernel
theorem d_ASB_append_28 : decode prog_16_method_31_code 28 = .ok (.aload_n 0, 1) := by decide +kernel
theorem d_ASB_append_29 : decode prog_16_method_31_code 29 = .ok (.dup, 1) := by decide +kernel
theorem d_ASB_append_30 : decode prog_16_method_31_code 30 = .ok (.getfield 79, 3) := by decide +kernel
theorem d_ASB_append_33 : decode prog_16_method_31_code 33 = .ok (.dup_x1, 1) := by decide +kernel
theorem d_ASB_append_34 : decode prog_16_method_31_code 34 = .ok (.iconst 1, 1) := by decide +kernel
theorem d_ASB_append_35 : decode prog_16_method_31_code 35 = .ok (.iadd, 1) := by decide +kernel
theorem d_ASB_append_36 : decode prog_16_method_31_code 36 = .ok (.putfield 79, 3) := by decide +kernel
theorem fp_ASB_append_79 {X : cd_E} : cd_FP X m_ASB_append 79 14 3 .int := cd_FP.of cl_14 rfl rfl (by decide) kw_3_81 (Or.inl rfl) (Or.inl rfl)
theorem d_ASB_append_39 : decode prog_16_method_31_code 39 = .ok (.iload_n 1, 1) := by decide +kernel
theorem d_ASB_append_40 : decode prog_16_method_31_code 40 = .ok (.i2b, 1) := by decide +kernel
theorem d_ASB_append_41 : decode prog_16_method_31_code 41 = .ok (.bastore, 1) := by decide +kernel
theorem d_ASB_append_42 : decode prog_16_method_31_code 42 = .ok (.goto 33, 3) := by decide +kernel
theorem d_ASB_append_75 : decode prog_16_method_31_code 75 = .ok (.aload_n 0, 1) := by decide +kernel
theorem d_ASB_append_76 : decode prog_16_method_31_code 76 = .ok (.areturn, 1) := by decide +kernel
theorem g_ASB_append {X : cd_E} {kc ks : Nat} {h : cd_H} {Q : Option Value → cd_H → Prop} {a0 : Nat} {p1 : Int32} (H : (cd_k h a0 = some (.inl 14)) ∧ (cd_W X m_ASB_ensureCapacityInternal 0 0 0 [some (.ref a0), some (.int ((cd_i h a0 3) + 1)), none] [] h (fun r2 h3 => (r2 = none) ∧ ((cd_k h3 a0 = some (.inl 14)) ∧ (cd_W X m_ASB_isLatin1 0 0 0 [some (.ref a0)] [] h3 (fun r5 h6 => ∃ x7 : Int32, r5 = some (.int x7) ∧ ((((x7 = 0) → (False)) ∧ ((¬ x7 = 0) → (cd_W X m_SL1_canEncode 0 0 0 [some (.int p1)] [] h6 (fun r9 h10 => ∃ x11 : Int32, r9 = some (.int x11) ∧ ((((x11 = 0) → (False)) ∧ ((¬ x11 = 0) → ((cd_k h10 a0 = some (.inl 14)) ∧ ((64 ≤ a0) ∧ ((∃ b15 : Nat, (cd_r h10 a0 0) = some b15 ∧ ((∃ n17 : Nat, cd_k h10 b15 = some (.inr (3, n17)) ∧ ((64 ≤ b15) ∧ ((vp_in (cd_i h10 a0 3) n17) ∧ (Q (some (.ref a0)) (cd_si (cd_si h10 a0 3 ((cd_i h10 a0 3) + 1)) b15 (cd_i h10 a0 3).toNatClampNeg (vp_nar .byte p1.toInt8.toInt32))))))))))))))))))))))))) : cd_W X m_ASB_append kc ks 0 [some (.ref a0), some (.int p1)] [] h Q := by
  refine cd_aload_n (i := 0) (v := .ref a0) d_ASB_append_0 rfl rfl (cd_isr_ref _) ?_
  refine cd_aload_n (i := 0) (v := .ref a0) d_ASB_append_1 rfl rfl (cd_isr_ref _) ?_
  obtain ⟨c1, H⟩ := H
  refine cd_get (v := .int (cd_i h a0 3)) d_ASB_append_2 fl_ASB_79 c1 rfl ?_
  refine cd_iconst (v := 1) d_ASB_append_5 (by decide) ?_
  show cd_W X m_ASB_append kc ks 6 [some (.ref a0), some (.int p1)] [.int 1, .int (cd_i h a0 3), .ref a0] h Q
  refine cd_iadd d_ASB_append_6 ?_
  refine cd_callU (kc := kc) (ks := ks) (kc' := 0) (ks' := 0) (As := [.int ((cd_i h a0 3) + 1)]) (S := []) d_ASB_append_7 ca_ASB_append_100 c1 rfl (Nat.le_of_ble_eq_true rfl) (Nat.le_of_ble_eq_true rfl) ?_
  refine cd_W.mono (fun r2 h3 H => ?_) H
  obtain ⟨rfl, H⟩ := H
  show cd_W X m_ASB_append kc ks 10 [some (.ref a0), some (.int p1)] [] h3 Q
  refine cd_aload_n (i := 0) (v := .ref a0) d_ASB_append_10 rfl rfl (cd_isr_ref _) ?_
  obtain ⟨c4, H⟩ := H
  refine cd_callU (kc := kc) (ks := ks) (kc' := 0) (ks' := 0) (As := []) (S := []) d_ASB_append_11 ca_ASB_append_83 c4 rfl (Nat.le_of_ble_eq_true rfl) (Nat.le_of_ble_eq_true rfl) ?_
  refine cd_W.mono (fun r5 h6 H => ?_) H
  obtain ⟨x7, rfl, H⟩ := H
  show cd_W X m_ASB_append kc ks 14 [some (.ref a0), some (.int p1)] [.int x7] h6 Q
  refine cd_if_eq (tgt := 45) d_ASB_append_14 (by decide) (fun t8 => ?_) (fun t8 => ?_)
  · replace H := H.1 t8
    exact H.elim
  · replace H := H.2 t8
    refine cd_iload_n (i := 1) d_ASB_append_17 rfl rfl ?_
    refine cd_callS (kc := kc) (ks := ks) (kc' := 0) (ks' := 0) (As := [.int p1]) (S := []) d_ASB_append_18 ca_ASB_append_191 rfl (Nat.le_of_ble_eq_true rfl) (Nat.le_of_ble_eq_true rfl) ?_
    refine cd_W.mono (fun r9 h10 H => ?_) H
    obtain ⟨x11, rfl, H⟩ := H
    show cd_W X m_ASB_append kc ks 21 [some (.ref a0), some (.int p1)] [.int x11] h10 Q
    refine cd_if_eq (tgt := 45) d_ASB_append_21 (by decide) (fun t12 => ?_) (fun t12 => ?_)
    · replace H := H.1 t12
      exact H.elim
    · replace H := H.2 t12
      refine cd_aload_n (i := 0) (v := .ref a0) d_ASB_append_24 rfl rfl (cd_isr_ref _) ?_
      show cd_W X m_ASB_append kc ks 25 [some (.ref a0), some (.int p1)] [.ref a0] h10 Q
      obtain ⟨c13, H⟩ := H
      refine cd_get (v := va_rf (cd_r h10 a0 0)) d_ASB_append_25 fl_ASB_15 c13 rfl ?_
      refine cd_aload_n (i := 0) (v := .ref a0) d_ASB_append_28 rfl rfl (cd_isr_ref _) ?_
      refine cd_dup d_ASB_append_29 rfl ?_
      refine cd_get (v := .int (cd_i h10 a0 3)) d_ASB_append_30 fl_ASB_79 c13 rfl ?_
      refine cd_dup_x1 d_ASB_append_33 rfl rfl ?_
      refine cd_iconst (v := 1) d_ASB_append_34 (by decide) ?_
      refine cd_iadd d_ASB_append_35 ?_
      obtain ⟨c14, H⟩ := H
      refine cd_putI d_ASB_append_36 fp_ASB_append_79 (fun _ _ _ => rfl) c13 c14 rfl rfl ?_
      show cd_W X m_ASB_append kc ks 39 [some (.ref a0), some (.int p1)] [.int (cd_i h10 a0 3), va_rf (cd_r h10 a0 0)] (cd_si h10 a0 3 ((cd_i h10 a0 3) + 1)) Q
      refine cd_iload_n (i := 1) d_ASB_append_39 rfl rfl ?_
      refine cd_i2b d_ASB_append_40 ?_
      obtain ⟨b15, e16, H⟩ := H
      rw [cd_rfs e16]
      obtain ⟨n17, c18, H⟩ := H
      obtain ⟨c19, H⟩ := H
      obtain ⟨c20, H⟩ := H
      refine cd_basto (j := (cd_i h10 a0 3)) d_ASB_append_41 rfl c18 c19 c20 ?_
      refine cd_goto (tgt := 75) d_ASB_append_42 (by decide) ?_
      refine cd_aload_n (i := 0) (v := .ref a0) d_ASB_append_75 rfl rfl (cd_isr_ref _) ?_
      exact cd_aret d_ASB_append_76 rfl (Or.inl ⟨_, rfl⟩) (cd_isr_ref _) H

theorem d_SB_append_CLStringBuilder_0 : decode prog_22_method_14_code 0 = .ok (.aload_n 0, 1) := by decide +kernel
theorem d_SB_append_CLStringBuilder_1 : decode prog_22_method_14_code 1 = .ok (.iload_n 1, 1) := by decide +kernel
theorem d_SB_append_CLStringBuilder_2 : decode prog_22_method_14_code 2 = .ok (.invokespecial 50, 3) := by decide +kernel
theorem kw_3_95 : (Jvm.Cond.methodLink "java/lang/StringBuilder" (50 : Nat) ({ cls := "java/lang/AbstractStringBuilder", name := "append", desc := "(C)Ljava/lang/AbstractStringBuilder;" } : Jvm.MethodName)) ∈ cd_tbl := tb_3 (List.mem_of_getElem? (i := 95) (by decide +kernel)) (by decide)
theorem kw_3_97 : (Jvm.Cond.code ({ cls := "java/lang/AbstractStringBuilder", name := "append", desc := "(C)Ljava/lang/AbstractStringBuilder;" } : Jvm.MethodName) prog_16_method_31_code (2 : Nat) (Option.some (Jvm.ClassFile.FieldType.object "java/lang/AbstractStringBuilder"))) ∈ cd_tbl := tb_3 (List.mem_of_getElem? (i := 97) (by decide +kernel)) (by decide)
theorem kw_6_183 : (Jvm.Cond.sameMethod "java/lang/AbstractStringBuilder" "java/lang/AbstractStringBuilder" "append" "(C)Ljava/lang/AbstractStringBuilder;") ∈ cd_tbl := tb_6 (List.mem_of_getElem? (i := 183) (by decide +kernel)) (by decide)
theorem kw_3_90 : (Jvm.Cond.superclass "java/lang/StringBuilder" "java/lang/AbstractStringBuilder") ∈ cd_tbl := tb_3 (List.mem_of_getElem? (i := 90) (by decide +kernel)) (by decide)
theorem kw_3_96 : (Jvm.Cond.instanceMethod ({ cls := "java/lang/AbstractStringBuilder", name := "append", desc := "(C)Ljava/lang/AbstractStringBuilder;" } : Jvm.MethodName)) ∈ cd_tbl := tb_3 (List.mem_of_getElem? (i := 96) (by decide +kernel)) (by decide)
theorem ca_SB_append_CLStringBuilder_50 : cd_CSU m_SB_append_CLStringBuilder m_ASB_append 50 1 14 := ⟨⟨by decide, kw_3_97, kw_1_24, ⟨by decide, by decide, by decide +kernel⟩, by decide, by decide⟩, kw_3_95, kw_6_183, kw_3_90, kw_3_96, by decide, _, _, rfl, kw_3_62⟩
theorem d_SB_append_CLStringBuilder_5 : decode prog_22_method_14_code 5 = .ok (.pop, 1) := by decide +kernel
theorem d_SB_append_CLStringBuilder_6 : decode prog_22_method_14_code 6 = .ok (.aload_n 0, 1) := by decide +kernel
theorem d_SB_append_CLStringBuilder_7 : decode prog_22_method_14_code 7 = .ok (.areturn, 1) := by decide +kernel
theorem g_SB_append_CLStringBuilder {X : cd_E} {kc ks : Nat} {h : cd_H} {Q : Option Value → cd_H → Prop} {a0 : Nat} {p1 : Int32} (H : (cd_k h a0 = some (.inl 14)) ∧ (cd_W X m_ASB_append 0 0 0 [some (.ref a0), some (.int p1)] [] h (fun r2 h3 => ∃ b4 : Nat, r2 = some (.ref b4) ∧ (Q (some (.ref a0)) h3)))) : cd_W X m_SB_append_CLStringBuilder kc ks 0 [some (.ref a0), some (.int p1)] [] h Q := by
  refine cd_aload_n (i := 0) (v := .ref a0) d_SB_append_CLStringBuilder_0 rfl rfl (cd_isr_ref _) ?_
  show cd_W X m_SB_append_CLStringBuilder kc ks 1 [some (.ref a0), some (.int p1)] [.ref a0] h Q
  refine cd_iload_n (i := 1) d_SB_append_CLStringBuilder_1 rfl rfl ?_
  obtain ⟨c1, H⟩ := H
  refine cd_callSU (kc := kc) (ks := ks) (kc' := 0) (ks' := 0) (As := [.int p1]) (S := []) d_SB_append_CLStringBuilder_2 ca_SB_append_CLStringBuilder_50 c1 rfl (Nat.le_of_ble_eq_true rfl) (Nat.le_of_ble_eq_true rfl) ?_
  refine cd_W.mono (fun r2 h3 H => ?_) H
  obtain ⟨b4, rfl, H⟩ := H
  show cd_W X m_SB_append_CLStringBuilder kc ks 5 [some (.ref a0), some (.int p1)] [.ref b4] h3 Q
  refine cd_pop d_SB_append_CLStringBuilder_5 rfl ?_
  refine cd_aload_n (i := 0) (v := .ref a0) d_SB_append_CLStringBuilder_6 rfl rfl (cd_isr_ref _) ?_
  exact cd_aret d_SB_append_CLStringBuilder_7 rfl (Or.inl ⟨_, rfl⟩) (cd_isr_ref _) H

abbrev m_ASB_getValue : cd_M := (⟨"java/lang/AbstractStringBuilder", "getValue", "()[B"⟩, prog_16_method_64_code, 1, some (.array .byte), 1, 20)
theorem d_ASB_getValue_0 : decode prog_16_method_64_code 0 = .ok (.aload_n 0, 1) := by decide +kernel
theorem d_ASB_getValue_1 : decode prog_16_method_64_code 1 = .ok (.getfield 15, 3) := by decide +kernel
theorem d_ASB_getValue_4 : decode prog_16_method_64_code 4 = .ok (.areturn, 1) := by decide +kernel
theorem g_ASB_getValue {X : cd_E} {kc ks : Nat} {h : cd_H} {Q : Option Value → cd_H → Prop} {a0 : Nat} (H : (cd_k h a0 = some (.inl 14)) ∧ (Q (some (va_rf (cd_r h a0 0))) h)) : cd_W X m_ASB_getValue kc ks 0 [some (.ref a0)] [] h Q := by
  refine cd_aload_n (i := 0) (v := .ref a0) d_ASB_getValue_0 rfl rfl (cd_isr_ref _) ?_
  obtain ⟨c1, H⟩ := H
  refine cd_get (v := va_rf (cd_r h a0 0)) d_ASB_getValue_1 fl_ASB_15 c1 rfl ?_
  exact cd_aret d_ASB_getValue_4 rfl (Or.inr ⟨_, rfl⟩) (cd_isr_rf _) H

abbrev m_ASB_length : cd_M := (⟨"java/lang/AbstractStringBuilder", "length", "()I"⟩, prog_16_method_6_code, 1, some .int, 1, 20)
theorem d_ASB_length_0 : decode prog_16_method_6_code 0 = .ok (.aload_n 0, 1) := by decide +kernel
theorem d_ASB_length_1 : decode prog_16_method_6_code 1 = .ok (.getfield 79, 3) := by decide +kernel
theorem d_ASB_length_4 : decode prog_16_method_6_code 4 = .ok (.ireturn, 1) := by decide +kernel
theorem g_ASB_length {X : cd_E} {kc ks : Nat} {h : cd_H} {Q : Option Value → cd_H → Prop} {a0 : Nat} (H : (cd_k h a0 = some (.inl 14)) ∧ (Q (some (.int (cd_i h a0 3))) h)) : cd_W X m_ASB_length kc ks 0 [some (.ref a0)] [] h Q := by
  refine cd_aload_n (i := 0) (v := .ref a0) d_ASB_length_0 rfl rfl (cd_isr_ref _) ?_
  obtain ⟨c1, H⟩ := H
  refine cd_get (v := .int (cd_i h a0 3)) d_ASB_length_1 fl_ASB_79 c1 rfl ?_
  exact cd_iret d_ASB_length_4 rfl rfl H

abbrev m_SB_length : cd_M := (⟨"java/lang/StringBuilder", "length", "()I"⟩, prog_22_method_93_code, 1, some .int, 2, 40)
theorem d_SB_length_0 : decode prog_22_method_93_code 0 = .ok (.aload_n 0, 1) := by decide +kernel
theorem d_SB_length_1 : decode prog_22_method_93_code 1 = .ok (.invokespecial 343, 3) := by decide +kernel
theorem kw_3_175 : (Jvm.Cond.methodLink "java/lang/StringBuilder" (343 : Nat) ({ cls := "java/lang/AbstractStringBuilder", name := "length", desc := "()I" } : Jvm.MethodName)) ∈ cd_tbl := tb_3 (List.mem_of_getElem? (i := 175) (by decide +kernel)) (by decide)
theorem kw_3_176 : (Jvm.Cond.code ({ cls := "java/lang/AbstractStringBuilder", name := "length", desc := "()I" } : Jvm.MethodName) prog_16_method_6_code (1 : Nat) (Option.some Jvm.ClassFile.FieldType.int)) ∈ cd_tbl := tb_3 (List.mem_of_getElem? (i := 176) (by decide +kernel)) (by decide)
theorem kw_3_171 : (Jvm.Cond.sameMethod "java/lang/AbstractStringBuilder" "java/lang/AbstractStringBuilder" "length" "()I") ∈ cd_tbl := tb_3 (List.mem_of_getElem? (i := 171) (by decide +kernel)) (by decide)
theorem kw_3_170 : (Jvm.Cond.instanceMethod ({ cls := "java/lang/AbstractStringBuilder", name := "length", desc := "()I" } : Jvm.MethodName)) ∈ cd_tbl := tb_3 (List.mem_of_getElem? (i := 170) (by decide +kernel)) (by decide)
theorem ca_SB_length_343 : cd_CSU m_SB_length m_ASB_length 343 0 14 := ⟨⟨by decide, kw_3_176, kw_1_24, ⟨by decide, by decide, by decide +kernel⟩, by decide, by decide⟩, kw_3_175, kw_3_171, kw_3_90, kw_3_170, by decide, _, _, rfl, kw_3_62⟩
theorem d_SB_length_4 : decode prog_22_method_93_code 4 = .ok (.ireturn, 1) := by decide +kernel
theorem g_SB_length {X : cd_E} {kc ks : Nat} {h : cd_H} {Q : Option Value → cd_H → Prop} {a0 : Nat} (H : (cd_k h a0 = some (.inl 14)) ∧ (cd_W X m_ASB_length 0 0 0 [some (.ref a0)] [] h (fun r2 h3 => ∃ x4 : Int32, r2 = some (.int x4) ∧ (Q (some (.int x4)) h3)))) : cd_W X m_SB_length kc ks 0 [some (.ref a0)] [] h Q := by
  refine cd_aload_n (i := 0) (v := .ref a0) d_SB_length_0 rfl rfl (cd_isr_ref _) ?_
  obtain ⟨c1, H⟩ := H
  refine cd_callSU (kc := kc) (ks := ks) (kc' := 0) (ks' := 0) (As := []) (S := []) d_SB_length_1 ca_SB_length_343 c1 rfl (Nat.le_of_ble_eq_true rfl) (Nat.le_of_ble_eq_true rfl) ?_
  refine cd_W.mono (fun r2 h3 H => ?_) H
  obtain ⟨x4, rfl, H⟩ := H
  show cd_W X m_SB_length kc ks 4 [some (.ref a0)] [.int x4] h3 Q
  exact cd_iret d_SB_length_4 rfl rfl H

abbrev m_Arr_checkLength : cd_M := (⟨"java/util/Arrays", "checkLength", "(II)V"⟩, prog_29_method_131_code, 2, none, 1, 20)
theorem d_Arr_checkLength_0 : decode prog_29_method_131_code 0 = .ok (.iload_n 1, 1) := by decide +kernel
theorem d_Arr_checkLength_1 : decode prog_29_method_131_code 1 = .ok (.iload_n 0, 1) := by decide +kernel
theorem d_Arr_checkLength_2 : decode prog_29_method_131_code 2 = .ok (.if_icmp .ge 35, 3) := by decide +kernel
theorem d_Arr_checkLength_37 : decode prog_29_method_131_code 37 = .ok (.return_, 1) := by decide +kernel
theorem g_Arr_checkLength {X : cd_E} {kc ks : Nat} {h : cd_H} {Q : Option Value → cd_H → Prop} {p1 : Int32} {p2 : Int32} (H : (((p1 ≤ p2) → (Q none h)) ∧ ((¬ p1 ≤ p2) → (False)))) : cd_W X m_Arr_checkLength kc ks 0 [some (.int p1), some (.int p2)] [] h Q := by
  refine cd_iload_n (i := 1) d_Arr_checkLength_0 rfl rfl ?_
  refine cd_iload_n (i := 0) d_Arr_checkLength_1 rfl rfl ?_
  refine cd_icmp_ge (tgt := 37) d_Arr_checkLength_2 (by decide) (fun t1 => ?_) (fun t1 => ?_)
  · replace H := H.1 t1
    exact cd_vret d_Arr_checkLength_37 rfl H
  · replace H := H.2 t1
    exact H.elim

abbrev m_Arr_copyOfRangeByte : cd_M := (⟨"java/util/Arrays", "copyOfRangeByte", "([BII)[B"⟩, prog_29_method_133_code, 5, some (.array .byte), 2, 41)
theorem d_Arr_copyOfRangeByte_0 : decode prog_29_method_133_code 0 = .ok (.iload_n 1, 1) := by decide +kernel
theorem d_Arr_copyOfRangeByte_1 : decode prog_29_method_133_code 1 = .ok (.iload_n 2, 1) := by decide +kernel
theorem d_Arr_copyOfRangeByte_2 : decode prog_29_method_133_code 2 = .ok (.invokestatic 343, 3) := by decide +kernel
theorem kw_3_184 : (Jvm.Cond.methodLink "java/util/Arrays" (343 : Nat) ({ cls := "java/util/Arrays", name := "checkLength", desc := "(II)V" } : Jvm.MethodName)) ∈ cd_tbl := tb_3 (List.mem_of_getElem? (i := 184) (by decide +kernel)) (by decide)
theorem kw_3_186 : (Jvm.Cond.code ({ cls := "java/util/Arrays", name := "checkLength", desc := "(II)V" } : Jvm.MethodName) prog_29_method_131_code (2 : Nat) (Option.none : Option Jvm.ClassFile.FieldType)) ∈ cd_tbl := tb_3 (List.mem_of_getElem? (i := 186) (by decide +kernel)) (by decide)
theorem kw_3_185 : (Jvm.Cond.static ({ cls := "java/util/Arrays", name := "checkLength", desc := "(II)V" } : Jvm.MethodName)) ∈ cd_tbl := tb_3 (List.mem_of_getElem? (i := 185) (by decide +kernel)) (by decide)
theorem ca_Arr_copyOfRangeByte_343 {X : cd_E} : cd_CS X m_Arr_copyOfRangeByte m_Arr_checkLength 343 2 := ⟨⟨by decide, kw_3_186, kw_1_6, ⟨by decide, by decide, by decide +kernel⟩, by decide, by decide⟩, kw_3_185, (Or.inl kw_3_184)⟩
theorem d_Arr_copyOfRangeByte_5 : decode prog_29_method_133_code 5 = .ok (.iload_n 2, 1) := by decide +kernel
theorem d_Arr_copyOfRangeByte_6 : decode prog_29_method_133_code 6 = .ok (.iload_n 1, 1) := by decide +kernel
theorem d_Arr_copyOfRangeByte_7 : decode prog_29_method_133_code 7 = .ok (.isub, 1) := by decide +kernel
theorem d_Arr_copyOfRangeByte_8 : decode prog_29_method_133_code 8 = .ok (.istore_n 3, 1) := by decide +kernel
theorem d_Arr_copyOfRangeByte_9 : decode prog_29_method_133_code 9 = .ok (.iload_n 3, 1) := by decide +kernel
theorem d_Arr_copyOfRangeByte_10 : decode prog_29_method_133_code 10 = .ok (.newarray .byte, 2) := by decide +kernel
theorem d_Arr_copyOfRangeByte_12 : decode prog_29_method_133_code 12 = .ok (.astore 4, 2) := by decide +kernel
theorem d_Arr_copyOfRangeByte_14 : decode prog_29_method_133_code 14 = .ok (.aload_n 0, 1) := by decide +kernel
theorem d_Arr_copyOfRangeByte_15 : decode prog_29_method_133_code 15 = .ok (.iload_n 1, 1) := by decide +kernel
theorem d_Arr_copyOfRangeByte_16 : decode prog_29_method_133_code 16 = .ok (.aload 4, 2) := by decide +kernel
theorem d_Arr_copyOfRangeByte_18 : decode prog_29_method_133_code 18 = .ok (.iconst 0, 1) := by decide +kernel
theorem d_Arr_copyOfRangeByte_19 : decode prog_29_method_133_code 19 = .ok (.aload_n 0, 1) := by decide +kernel
theorem d_Arr_copyOfRangeByte_20 : decode prog_29_method_133_code 20 = .ok (.arraylength, 1) := by decide +kernel
theorem d_Arr_copyOfRangeByte_21 : decode prog_29_method_133_code 21 = .ok (.iload_n 1, 1) := by decide +kernel
theorem d_Arr_copyOfRangeByte_22 : decode prog_29_method_133_code 22 = .ok (.isub, 1) := by decide +kernel
theorem d_Arr_copyOfRangeByte_23 : decode prog_29_method_133_code 23 = .ok (.iload_n 3, 1) := by decide +kernel
theorem d_Arr_copyOfRangeByte_24 : decode prog_29_method_133_code 24 = .ok (.invokestatic 304, 3) := by decide +kernel
theorem g_Arr_copyOfRangeByte {X : cd_E} {kc ks : Nat} {h : cd_H} {Q : Option Value → cd_H → Prop} {p1 : Nat} {p2 : Int32} {p3 : Int32} (H : cd_W X m_Arr_checkLength 0 0 0 [some (.int p2), some (.int p3)] [] h (fun r1 h2 => (r1 = none) ∧ ((∃ N3 : Nat, (p3 - p2) = nI N3 ∧ N3 ≤ 12 ∧ ((∃ n6 : Nat, cd_k (cd_new h2 (.inr (3, N3))) p1 = some (.inr (3, n6)) ∧ (cd_W X m_Arr_copyOfRangeByte kc ks 27 [some (.ref p1), some (.int p2), some (.int p3), some (.int (p3 - p2)), some (.ref (cd_n h2))] [.int (if (p3 - p2) < ((nI n6) - p2) then (p3 - p2) else ((nI n6) - p2)), .int 0, .ref (cd_n h2), .int p2, .ref p1] (cd_new h2 (.inr (3, N3))) Q))))))) : cd_W X m_Arr_copyOfRangeByte (kc + 1) (ks + 12) 0 [some (.ref p1), some (.int p2), some (.int p3), none, none] [] h Q := by
  refine cd_iload_n (i := 1) d_Arr_copyOfRangeByte_0 rfl rfl ?_
  refine cd_iload_n (i := 2) d_Arr_copyOfRangeByte_1 rfl rfl ?_
  refine cd_callS (kc := (kc + 1)) (ks := (ks + 12)) (kc' := 0) (ks' := 0) (As := [.int p2, .int p3]) (S := []) d_Arr_copyOfRangeByte_2 ca_Arr_copyOfRangeByte_343 rfl (Nat.le_of_ble_eq_true rfl) (Nat.le_of_ble_eq_true rfl) ?_
  refine cd_W.mono (fun r1 h2 H => ?_) H
  obtain ⟨rfl, H⟩ := H
  show cd_W X m_Arr_copyOfRangeByte (kc + 1) (ks + 12) 5 [some (.ref p1), some (.int p2), some (.int p3), none, none] [] h2 Q
  refine cd_iload_n (i := 2) d_Arr_copyOfRangeByte_5 rfl rfl ?_
  show cd_W X m_Arr_copyOfRangeByte (kc + 1) (ks + 12) 6 [some (.ref p1), some (.int p2), some (.int p3), none, none] [.int p3] h2 Q
  refine cd_iload_n (i := 1) d_Arr_copyOfRangeByte_6 rfl rfl ?_
  refine cd_isub d_Arr_copyOfRangeByte_7 ?_
  refine cd_istore_n (i := 3) d_Arr_copyOfRangeByte_8 rfl (by decide) ?_
  show cd_W X m_Arr_copyOfRangeByte (kc + 1) (ks + 12) 9 [some (.ref p1), some (.int p2), some (.int p3), some (.int (p3 - p2)), none] [] h2 Q
  refine cd_iload_n (i := 3) d_Arr_copyOfRangeByte_9 rfl rfl ?_
  obtain ⟨N3, e4, e5, H⟩ := H
  refine cd_W.budget (kc := (kc + 0) + 1) (ks := (ks + 0) + N3) (by omega) (by omega) ?_
  refine cd_newa (z := 3) (N := N3) (kc := (kc + 0)) (ks := (ks + 0)) d_Arr_copyOfRangeByte_10 rfl kw_2_166 rfl (by rw [e4]; exact nI_pos (by omega)) (by rw [e4]; exact nI_clamp (by omega)) (by show N3 * 1 ≤ 536870912; omega) ?_
  refine cd_astore (i := 4) d_Arr_copyOfRangeByte_12 (by decide) (cd_isr_ref _) ?_
  show cd_W X m_Arr_copyOfRangeByte (kc + 0) (ks + 0) 14 [some (.ref p1), some (.int p2), some (.int p3), some (.int (p3 - p2)), some (.ref (cd_n h2))] [] (cd_new h2 (.inr (3, N3))) Q
  refine cd_aload_n (i := 0) (v := .ref p1) d_Arr_copyOfRangeByte_14 rfl rfl (cd_isr_ref _) ?_
  refine cd_iload_n (i := 1) d_Arr_copyOfRangeByte_15 rfl rfl ?_
  show cd_W X m_Arr_copyOfRangeByte (kc + 0) (ks + 0) 16 [some (.ref p1), some (.int p2), some (.int p3), some (.int (p3 - p2)), some (.ref (cd_n h2))] [.int p2, .ref p1] (cd_new h2 (.inr (3, N3))) Q
  refine cd_aload (i := 4) (v := .ref (cd_n h2)) d_Arr_copyOfRangeByte_16 rfl (cd_isr_ref _) ?_
  refine cd_iconst (v := 0) d_Arr_copyOfRangeByte_18 (by decide) ?_
  refine cd_aload_n (i := 0) (v := .ref p1) d_Arr_copyOfRangeByte_19 rfl rfl (cd_isr_ref _) ?_
  obtain ⟨n6, c7, H⟩ := H
  refine cd_alen d_Arr_copyOfRangeByte_20 rfl c7 ?_
  refine cd_iload_n (i := 1) d_Arr_copyOfRangeByte_21 rfl rfl ?_
  refine cd_isub d_Arr_copyOfRangeByte_22 ?_
  refine cd_iload_n (i := 3) d_Arr_copyOfRangeByte_23 rfl rfl ?_
  refine cd_mmin d_Arr_copyOfRangeByte_24 kw_2_221 kw_2_222 kw_1_21 kw_2_223 (by decide) (by decide) (Nat.le_of_ble_eq_true rfl) ?_
  refine cd_W.budget (kc := kc) (ks := ks) (by omega) (by omega) ?_
  exact H

abbrev m_Arr_copyOfRange : cd_M := (⟨"java/util/Arrays", "copyOfRange", "([BII)[B"⟩, prog_29_method_132_code, 3, some (.array .byte), 3, 65)
theorem d_Arr_copyOfRange_0 : decode prog_29_method_132_code 0 = .ok (.iload_n 1, 1) := by decide +kernel
theorem d_Arr_copyOfRange_1 : decode prog_29_method_132_code 1 = .ok (.ifCond .ne 9, 3) := by decide +kernel
theorem d_Arr_copyOfRange_10 : decode prog_29_method_132_code 10 = .ok (.aload_n 0, 1) := by decide +kernel
theorem d_Arr_copyOfRange_11 : decode prog_29_method_132_code 11 = .ok (.iload_n 1, 1) := by decide +kernel
theorem d_Arr_copyOfRange_12 : decode prog_29_method_132_code 12 = .ok (.iload_n 2, 1) := by decide +kernel
theorem d_Arr_copyOfRange_13 : decode prog_29_method_132_code 13 = .ok (.invokestatic 339, 3) := by decide +kernel
theorem kw_3_181 : (Jvm.Cond.methodLink "java/util/Arrays" (339 : Nat) ({ cls := "java/util/Arrays", name := "copyOfRangeByte", desc := "([BII)[B" } : Jvm.MethodName)) ∈ cd_tbl := tb_3 (List.mem_of_getElem? (i := 181) (by decide +kernel)) (by decide)
theorem kw_3_183 : (Jvm.Cond.code ({ cls := "java/util/Arrays", name := "copyOfRangeByte", desc := "([BII)[B" } : Jvm.MethodName) prog_29_method_133_code (5 : Nat) (Option.some (Jvm.ClassFile.FieldType.array Jvm.ClassFile.FieldType.byte))) ∈ cd_tbl := tb_3 (List.mem_of_getElem? (i := 183) (by decide +kernel)) (by decide)
theorem kw_3_182 : (Jvm.Cond.static ({ cls := "java/util/Arrays", name := "copyOfRangeByte", desc := "([BII)[B" } : Jvm.MethodName)) ∈ cd_tbl := tb_3 (List.mem_of_getElem? (i := 182) (by decide +kernel)) (by decide)
theorem ca_Arr_copyOfRange_339 {X : cd_E} : cd_CS X m_Arr_copyOfRange m_Arr_copyOfRangeByte 339 3 := ⟨⟨by decide, kw_3_183, kw_1_6, ⟨by decide, by decide, by decide +kernel⟩, by decide, by decide⟩, kw_3_182, (Or.inl kw_3_181)⟩
theorem d_Arr_copyOfRange_16 : decode prog_29_method_132_code 16 = .ok (.areturn, 1) := by decide +kernel
theorem d_Arr_copyOfRange_4 : decode prog_29_method_132_code 4 = .ok (.iload_n 2, 1) := by decide +kernel
theorem d_Arr_copyOfRange_5 : decode prog_29_method_132_code 5 = .ok (.aload_n 0, 1) := by decide +kernel
theorem d_Arr_copyOfRange_6 : decode prog_29_method_132_code 6 = .ok (.arraylength, 1) := by decide +kernel
theorem d_Arr_copyOfRange_7 : decode prog_29_method_132_code 7 = .ok (.if_icmp .eq 10, 3) := by decide +kernel
theorem g_Arr_copyOfRange {X : cd_E} {kc ks : Nat} {h : cd_H} {Q : Option Value → cd_H → Prop} {p1 : Nat} {p2 : Int32} {p3 : Int32} (H : (((¬ p2 = 0) → (cd_W X m_Arr_copyOfRangeByte 1 12 0 [some (.ref p1), some (.int p2), some (.int p3), none, none] [] h (fun r2 h3 => ∃ b4 : Nat, r2 = some (.ref b4) ∧ (Q (some (.ref b4)) h3)))) ∧ ((p2 = 0) → ((∃ n5 : Nat, cd_k h p1 = some (.inr (3, n5)) ∧ ((((p3 = (nI n5)) → (False)) ∧ ((¬ p3 = (nI n5)) → (cd_W X m_Arr_copyOfRangeByte 1 12 0 [some (.ref p1), some (.int p2), some (.int p3), none, none] [] h (fun r8 h9 => ∃ b10 : Nat, r8 = some (.ref b10) ∧ (Q (some (.ref b10)) h9))))))))))) : cd_W X m_Arr_copyOfRange (kc + 1) (ks + 12) 0 [some (.ref p1), some (.int p2), some (.int p3)] [] h Q := by
  refine cd_iload_n (i := 1) d_Arr_copyOfRange_0 rfl rfl ?_
  show cd_W X m_Arr_copyOfRange (kc + 1) (ks + 12) 1 [some (.ref p1), some (.int p2), some (.int p3)] [.int p2] h Q
  refine cd_if_ne (tgt := 10) d_Arr_copyOfRange_1 (by decide) (fun t1 => ?_) (fun t1 => ?_)
  · replace H := H.1 t1
    refine cd_aload_n (i := 0) (v := .ref p1) d_Arr_copyOfRange_10 rfl rfl (cd_isr_ref _) ?_
    refine cd_iload_n (i := 1) d_Arr_copyOfRange_11 rfl rfl ?_
    refine cd_iload_n (i := 2) d_Arr_copyOfRange_12 rfl rfl ?_
    refine cd_callS (kc := (kc + 0)) (ks := (ks + 0)) (kc' := 1) (ks' := 12) (As := [.ref p1, .int p2, .int p3]) (S := []) d_Arr_copyOfRange_13 ca_Arr_copyOfRange_339 rfl (Nat.le_of_ble_eq_true rfl) (Nat.le_of_ble_eq_true rfl) ?_
    refine cd_W.mono (fun r2 h3 H => ?_) H
    obtain ⟨b4, rfl, H⟩ := H
    show cd_W X m_Arr_copyOfRange (kc + 0) (ks + 0) 16 [some (.ref p1), some (.int p2), some (.int p3)] [.ref b4] h3 Q
    exact cd_aret d_Arr_copyOfRange_16 rfl (Or.inr ⟨_, rfl⟩) (cd_isr_ref _) H
  · replace H := H.2 t1
    refine cd_iload_n (i := 2) d_Arr_copyOfRange_4 rfl rfl ?_
    refine cd_aload_n (i := 0) (v := .ref p1) d_Arr_copyOfRange_5 rfl rfl (cd_isr_ref _) ?_
    show cd_W X m_Arr_copyOfRange (kc + 1) (ks + 12) 6 [some (.ref p1), some (.int p2), some (.int p3)] [.ref p1, .int p3] h Q
    obtain ⟨n5, c6, H⟩ := H
    refine cd_alen d_Arr_copyOfRange_6 rfl c6 ?_
    refine cd_icmp_eq (tgt := 17) d_Arr_copyOfRange_7 (by decide) (fun t7 => ?_) (fun t7 => ?_)
    · replace H := H.1 t7
      exact H.elim
    · replace H := H.2 t7
      refine cd_aload_n (i := 0) (v := .ref p1) d_Arr_copyOfRange_10 rfl rfl (cd_isr_ref _) ?_
      refine cd_iload_n (i := 1) d_Arr_copyOfRange_11 rfl rfl ?_
      refine cd_iload_n (i := 2) d_Arr_copyOfRange_12 rfl rfl ?_
      refine cd_callS (kc := (kc + 0)) (ks := (ks + 0)) (kc' := 1) (ks' := 12) (As := [.ref p1, .int p2, .int p3]) (S := []) d_Arr_copyOfRange_13 ca_Arr_copyOfRange_339 rfl (Nat.le_of_ble_eq_true rfl) (Nat.le_of_ble_eq_true rfl) ?_
      refine cd_W.mono (fun r8 h9 H => ?_) H
      obtain ⟨b10, rfl, H⟩ := H
      show cd_W X m_Arr_copyOfRange (kc + 0) (ks + 0) 16 [some (.ref p1), some (.int p2), some (.int p3)] [.ref b10] h9 Q
      exact cd_aret d_Arr_copyOfRange_16 rfl (Or.inr ⟨_, rfl⟩) (cd_isr_ref _) H

abbrev m_Str_init_LAbstractStringBuilderLVoidV : cd_M := (⟨"java/lang/String", "<init>", "(Ljava/lang/AbstractStringBuilder;Ljava/lang/Void;)V"⟩, prog_21_method_150_code, 5, none, 4, 87)
theorem d_Str_init_LAbstractStringBuilderLVoidV_0 : decode prog_21_method_150_code 0 = .ok (.aload_n 0, 1) := by decide +kernel
theorem d_Str_init_LAbstractStringBuilderLVoidV_1 : decode prog_21_method_150_code 1 = .ok (.invokespecial 1, 3) := by decide +kernel
theorem kw_3_163 : (Jvm.Cond.methodLink "java/lang/String" (1 : Nat) ({ cls := "java/lang/Object", name := "<init>", desc := "()V" } : Jvm.MethodName)) ∈ cd_tbl := tb_3 (List.mem_of_getElem? (i := 163) (by decide +kernel)) (by decide)
theorem d_Str_init_LAbstractStringBuilderLVoidV_4 : decode prog_21_method_150_code 4 = .ok (.aload_n 1, 1) := by decide +kernel
theorem d_Str_init_LAbstractStringBuilderLVoidV_5 : decode prog_21_method_150_code 5 = .ok (.invokevirtual 552, 3) := by decide +kernel
theorem kw_3_164 : (Jvm.Cond.methodLink "java/lang/String" (552 : Nat) ({ cls := "java/lang/AbstractStringBuilder", name := "getValue", desc := "()[B" } : Jvm.MethodName)) ∈ cd_tbl := tb_3 (List.mem_of_getElem? (i := 164) (by decide +kernel)) (by decide)
theorem kw_3_166 : (Jvm.Cond.sameMethod "java/lang/AbstractStringBuilder" "java/lang/AbstractStringBuilder" "getValue" "()[B") ∈ cd_tbl := tb_3 (List.mem_of_getElem? (i := 166) (by decide +kernel)) (by decide)
theorem kw_3_167 : (Jvm.Cond.selects "java/lang/StringBuilder" ({ cls := "java/lang/AbstractStringBuilder", name := "getValue", desc := "()[B" } : Jvm.MethodName) ({ cls := "java/lang/AbstractStringBuilder", name := "getValue", desc := "()[B" } : Jvm.MethodName)) ∈ cd_tbl := tb_3 (List.mem_of_getElem? (i := 167) (by decide +kernel)) (by decide)
theorem kw_3_168 : (Jvm.Cond.code ({ cls := "java/lang/AbstractStringBuilder", name := "getValue", desc := "()[B" } : Jvm.MethodName) prog_16_method_64_code (1 : Nat) (Option.some (Jvm.ClassFile.FieldType.array Jvm.ClassFile.FieldType.byte))) ∈ cd_tbl := tb_3 (List.mem_of_getElem? (i := 168) (by decide +kernel)) (by decide)
theorem kw_3_165 : (Jvm.Cond.instanceMethod ({ cls := "java/lang/AbstractStringBuilder", name := "getValue", desc := "()[B" } : Jvm.MethodName)) ∈ cd_tbl := tb_3 (List.mem_of_getElem? (i := 165) (by decide +kernel)) (by decide)
theorem ca_Str_init_LAbstractStringBuilderLVoidV_552 : cd_CU m_Str_init_LAbstractStringBuilderLVoidV m_ASB_getValue 552 0 14 ⟨"java/lang/AbstractStringBuilder", "getValue", "()[B"⟩ := ⟨⟨by decide, kw_3_168, kw_1_24, ⟨by decide, by decide, by decide +kernel⟩, by decide, by decide⟩, ⟨by decide, by decide, by decide +kernel⟩, kw_3_164, kw_3_166, ⟨_, _, _, kw_3_168⟩, kw_3_165, ⟨_, rfl, cd_selW kw_3_167⟩, kw_3_165⟩
theorem d_Str_init_LAbstractStringBuilderLVoidV_8 : decode prog_21_method_150_code 8 = .ok (.astore_n 3, 1) := by decide +kernel
theorem d_Str_init_LAbstractStringBuilderLVoidV_9 : decode prog_21_method_150_code 9 = .ok (.aload_n 1, 1) := by decide +kernel
theorem d_Str_init_LAbstractStringBuilderLVoidV_10 : decode prog_21_method_150_code 10 = .ok (.invokevirtual 549, 3) := by decide +kernel
theorem kw_3_169 : (Jvm.Cond.methodLink "java/lang/String" (549 : Nat) ({ cls := "java/lang/AbstractStringBuilder", name := "length", desc := "()I" } : Jvm.MethodName)) ∈ cd_tbl := tb_3 (List.mem_of_getElem? (i := 169) (by decide +kernel)) (by decide)
theorem kw_3_172 : (Jvm.Cond.selects "java/lang/StringBuilder" ({ cls := "java/lang/AbstractStringBuilder", name := "length", desc := "()I" } : Jvm.MethodName) ({ cls := "java/lang/StringBuilder", name := "length", desc := "()I" } : Jvm.MethodName)) ∈ cd_tbl := tb_3 (List.mem_of_getElem? (i := 172) (by decide +kernel)) (by decide)
theorem kw_3_174 : (Jvm.Cond.code ({ cls := "java/lang/StringBuilder", name := "length", desc := "()I" } : Jvm.MethodName) prog_22_method_93_code (1 : Nat) (Option.some Jvm.ClassFile.FieldType.int)) ∈ cd_tbl := tb_3 (List.mem_of_getElem? (i := 174) (by decide +kernel)) (by decide)
theorem kw_3_173 : (Jvm.Cond.instanceMethod ({ cls := "java/lang/StringBuilder", name := "length", desc := "()I" } : Jvm.MethodName)) ∈ cd_tbl := tb_3 (List.mem_of_getElem? (i := 173) (by decide +kernel)) (by decide)
theorem ca_Str_init_LAbstractStringBuilderLVoidV_549 : cd_CU m_Str_init_LAbstractStringBuilderLVoidV m_SB_length 549 0 14 ⟨"java/lang/AbstractStringBuilder", "length", "()I"⟩ := ⟨⟨by decide, kw_3_174, kw_1_25, ⟨by decide, by decide, by decide +kernel⟩, by decide, by decide⟩, ⟨by decide, by decide, by decide +kernel⟩, kw_3_169, kw_3_171, ⟨_, _, _, kw_3_176⟩, kw_3_170, ⟨_, rfl, cd_selW kw_3_172⟩, kw_3_173⟩
theorem d_Str_init_LAbstractStringBuilderLVoidV_13 : decode prog_21_method_150_code 13 = .ok (.istore 4, 2) := by decide +kernel
theorem d_Str_init_LAbstractStringBuilderLVoidV_15 : decode prog_21_method_150_code 15 = .ok (.aload_n 1, 1) := by decide +kernel
theorem d_Str_init_LAbstractStringBuilderLVoidV_16 : decode prog_21_method_150_code 16 = .ok (.invokevirtual 1047, 3) := by decide +kernel
theorem kw_3_177 : (Jvm.Cond.methodLink "java/lang/String" (1047 : Nat) ({ cls := "java/lang/AbstractStringBuilder", name := "isLatin1", desc := "()Z" } : Jvm.MethodName)) ∈ cd_tbl := tb_3 (List.mem_of_getElem? (i := 177) (by decide +kernel)) (by decide)
theorem ca_Str_init_LAbstractStringBuilderLVoidV_1047 : cd_CU m_Str_init_LAbstractStringBuilderLVoidV m_ASB_isLatin1 1047 0 14 ⟨"java/lang/AbstractStringBuilder", "isLatin1", "()Z"⟩ := ⟨⟨by decide, kw_3_122, kw_1_24, ⟨by decide, by decide, by decide +kernel⟩, by decide, by decide⟩, ⟨by decide, by decide, by decide +kernel⟩, kw_3_177, kw_3_120, ⟨_, _, _, kw_3_122⟩, kw_3_119, ⟨_, rfl, cd_selW kw_3_121⟩, kw_3_119⟩
theorem d_Str_init_LAbstractStringBuilderLVoidV_19 : decode prog_21_method_150_code 19 = .ok (.ifCond .eq 22, 3) := by decide +kernel
theorem d_Str_init_LAbstractStringBuilderLVoidV_22 : decode prog_21_method_150_code 22 = .ok (.aload_n 0, 1) := by decide +kernel
theorem d_Str_init_LAbstractStringBuilderLVoidV_23 : decode prog_21_method_150_code 23 = .ok (.iconst 0, 1) := by decide +kernel
theorem d_Str_init_LAbstractStringBuilderLVoidV_24 : decode prog_21_method_150_code 24 = .ok (.putfield 15, 3) := by decide +kernel
theorem kw_3_199 : (Jvm.Cond.laysFinal "java/lang/String" "java/lang/String" "value" "[B") ∈ cd_tbl := tb_3 (List.mem_of_getElem? (i := 199) (by decide +kernel)) (by decide)
theorem kw_3_201 : (Jvm.Cond.laysFinal "java/lang/String" "java/lang/String" "coder" "B") ∈ cd_tbl := tb_3 (List.mem_of_getElem? (i := 201) (by decide +kernel)) (by decide)
theorem cl_13 : cd_CL 13 4 := ⟨_, rfl, List.forall_mem_cons.mpr ⟨kw_3_199, List.forall_mem_cons.mpr ⟨kw_3_201, fun _ h => absurd h List.not_mem_nil⟩⟩, by decide +kernel, by decide +kernel, kw_3_156, kw_1_14, by decide +kernel⟩
theorem fp_Str_init_LAbstractStringBuilderLVoidV_15 {X : cd_E} : cd_FP X m_Str_init_LAbstractStringBuilderLVoidV 15 13 1 .byte := cd_FP.of cl_13 rfl rfl (by decide) kw_3_198 (Or.inl rfl) (Or.inr ⟨rfl, rfl, rfl⟩)
theorem d_Str_init_LAbstractStringBuilderLVoidV_27 : decode prog_21_method_150_code 27 = .ok (.aload_n 0, 1) := by decide +kernel
theorem d_Str_init_LAbstractStringBuilderLVoidV_28 : decode prog_21_method_150_code 28 = .ok (.aload_n 3, 1) := by decide +kernel
theorem d_Str_init_LAbstractStringBuilderLVoidV_29 : decode prog_21_method_150_code 29 = .ok (.iconst 0, 1) := by decide +kernel
theorem d_Str_init_LAbstractStringBuilderLVoidV_30 : decode prog_21_method_150_code 30 = .ok (.iload 4, 2) := by decide +kernel
theorem d_Str_init_LAbstractStringBuilderLVoidV_32 : decode prog_21_method_150_code 32 = .ok (.invokestatic 54, 3) := by decide +kernel
theorem kw_3_178 : (Jvm.Cond.methodLink "java/lang/String" (54 : Nat) ({ cls := "java/util/Arrays", name := "copyOfRange", desc := "([BII)[B" } : Jvm.MethodName)) ∈ cd_tbl := tb_3 (List.mem_of_getElem? (i := 178) (by decide +kernel)) (by decide)
theorem kw_3_180 : (Jvm.Cond.code ({ cls := "java/util/Arrays", name := "copyOfRange", desc := "([BII)[B" } : Jvm.MethodName) prog_29_method_132_code (3 : Nat) (Option.some (Jvm.ClassFile.FieldType.array Jvm.ClassFile.FieldType.byte))) ∈ cd_tbl := tb_3 (List.mem_of_getElem? (i := 180) (by decide +kernel)) (by decide)
theorem kw_3_179 : (Jvm.Cond.static ({ cls := "java/util/Arrays", name := "copyOfRange", desc := "([BII)[B" } : Jvm.MethodName)) ∈ cd_tbl := tb_3 (List.mem_of_getElem? (i := 179) (by decide +kernel)) (by decide)
theorem ca_Str_init_LAbstractStringBuilderLVoidV_54 {X : cd_E} : cd_CS X m_Str_init_LAbstractStringBuilderLVoidV m_Arr_copyOfRange 54 3 := ⟨⟨by decide, kw_3_180, kw_1_6, ⟨by decide, by decide, by decide +kernel⟩, by decide, by decide⟩, kw_3_179, (Or.inl kw_3_178)⟩
theorem d_Str_init_LAbstractStringBuilderLVoidV_35 : decode prog_21_method_150_code 35 = .ok (.putfield 9, 3) := by decide +kernel
theorem fp_Str_init_LAbstractStringBuilderLVoidV_9 {X : cd_E} : cd_FP X m_Str_init_LAbstractStringBuilderLVoidV 9 13 0 (.array .byte) := cd_FP.of cl_13 rfl rfl (by decide) kw_3_197 (Or.inl rfl) (Or.inr ⟨rfl, rfl, rfl⟩)
theorem d_Str_init_LAbstractStringBuilderLVoidV_38 : decode prog_21_method_150_code 38 = .ok (.goto 59, 3) := by decide +kernel
theorem d_Str_init_LAbstractStringBuilderLVoidV_97 : decode prog_21_method_150_code 97 = .ok (.return_, 1) := by decide +kernel
theorem g_Str_init_LAbstractStringBuilderLVoidV {X : cd_E} {kc ks : Nat} {h : cd_H} {Q : Option Value → cd_H → Prop} {a0 : Nat} {p1 : Nat} {p2 : Option Nat} (H : (cd_k h p1 = some (.inl 14)) ∧ (cd_W X m_ASB_getValue 0 0 0 [some (.ref p1)] [] h (fun r2 h3 => ∃ b4 : Nat, r2 = some (.ref b4) ∧ ((cd_k h3 p1 = some (.inl 14)) ∧ (cd_W X m_SB_length 0 0 0 [some (.ref p1)] [] h3 (fun r6 h7 => ∃ x8 : Int32, r6 = some (.int x8) ∧ ((cd_k h7 p1 = some (.inl 14)) ∧ (cd_W X m_ASB_isLatin1 0 0 0 [some (.ref p1)] [] h7 (fun r10 h11 => ∃ x12 : Int32, r10 = some (.int x12) ∧ ((((x12 = 0) → (False)) ∧ ((¬ x12 = 0) → ((cd_k h11 a0 = some (.inl 13)) ∧ ((64 ≤ a0) ∧ (cd_W X m_Arr_copyOfRange 1 12 0 [some (.ref b4), some (.int 0), some (.int x8)] [] (cd_si h11 a0 1 0) (fun r16 h17 => ∃ b18 : Nat, r16 = some (.ref b18) ∧ ((cd_k h17 a0 = some (.inl 13)) ∧ (Q none (cd_sr h17 a0 0 (some b18)))))))))))))))))))) : cd_W X m_Str_init_LAbstractStringBuilderLVoidV (kc + 1) (ks + 12) 0 [some (.ref a0), some (.ref p1), some (va_rf p2), none, none] [] h Q := by
  refine cd_aload_n (i := 0) (v := .ref a0) d_Str_init_LAbstractStringBuilderLVoidV_0 rfl rfl (cd_isr_ref _) ?_
  refine cd_objInit d_Str_init_LAbstractStringBuilderLVoidV_1 kw_3_163 kw_1_35 kw_1_36 (by decide) (by decide) (Nat.le_of_ble_eq_true rfl) ?_
  refine cd_aload_n (i := 1) (v := .ref p1) d_Str_init_LAbstractStringBuilderLVoidV_4 rfl rfl (cd_isr_ref _) ?_
  show cd_W X m_Str_init_LAbstractStringBuilderLVoidV (kc + 1) (ks + 12) 5 [some (.ref a0), some (.ref p1), some (va_rf p2), none, none] [.ref p1] h Q
  obtain ⟨c1, H⟩ := H
  refine cd_callU (kc := (kc + 1)) (ks := (ks + 12)) (kc' := 0) (ks' := 0) (As := []) (S := []) d_Str_init_LAbstractStringBuilderLVoidV_5 ca_Str_init_LAbstractStringBuilderLVoidV_552 c1 rfl (Nat.le_of_ble_eq_true rfl) (Nat.le_of_ble_eq_true rfl) ?_
  refine cd_W.mono (fun r2 h3 H => ?_) H
  obtain ⟨b4, rfl, H⟩ := H
  show cd_W X m_Str_init_LAbstractStringBuilderLVoidV (kc + 1) (ks + 12) 8 [some (.ref a0), some (.ref p1), some (va_rf p2), none, none] [.ref b4] h3 Q
  refine cd_astore_n (i := 3) d_Str_init_LAbstractStringBuilderLVoidV_8 rfl (by decide) (cd_isr_ref _) ?_
  show cd_W X m_Str_init_LAbstractStringBuilderLVoidV (kc + 1) (ks + 12) 9 [some (.ref a0), some (.ref p1), cd_kl (some (va_rf p2)), some (.ref b4), none] [] h3 Q
  rw [cd_kl_rf]
  refine cd_aload_n (i := 1) (v := .ref p1) d_Str_init_LAbstractStringBuilderLVoidV_9 rfl rfl (cd_isr_ref _) ?_
  obtain ⟨c5, H⟩ := H
  refine cd_callU (kc := (kc + 1)) (ks := (ks + 12)) (kc' := 0) (ks' := 0) (As := []) (S := []) d_Str_init_LAbstractStringBuilderLVoidV_10 ca_Str_init_LAbstractStringBuilderLVoidV_549 c5 rfl (Nat.le_of_ble_eq_true rfl) (Nat.le_of_ble_eq_true rfl) ?_
  refine cd_W.mono (fun r6 h7 H => ?_) H
  obtain ⟨x8, rfl, H⟩ := H
  show cd_W X m_Str_init_LAbstractStringBuilderLVoidV (kc + 1) (ks + 12) 13 [some (.ref a0), some (.ref p1), some (va_rf p2), some (.ref b4), none] [.int x8] h7 Q
  refine cd_istore (i := 4) d_Str_init_LAbstractStringBuilderLVoidV_13 (by decide) ?_
  show cd_W X m_Str_init_LAbstractStringBuilderLVoidV (kc + 1) (ks + 12) 15 [some (.ref a0), some (.ref p1), some (va_rf p2), some (.ref b4), some (.int x8)] [] h7 Q
  refine cd_aload_n (i := 1) (v := .ref p1) d_Str_init_LAbstractStringBuilderLVoidV_15 rfl rfl (cd_isr_ref _) ?_
  obtain ⟨c9, H⟩ := H
  refine cd_callU (kc := (kc + 1)) (ks := (ks + 12)) (kc' := 0) (ks' := 0) (As := []) (S := []) d_Str_init_LAbstractStringBuilderLVoidV_16 ca_Str_init_LAbstractStringBuilderLVoidV_1047 c9 rfl (Nat.le_of_ble_eq_true rfl) (Nat.le_of_ble_eq_true rfl) ?_
  refine cd_W.mono (fun r10 h11 H => ?_) H
  obtain ⟨x12, rfl, H⟩ := H
  show cd_W X m_Str_init_LAbstractStringBuilderLVoidV (kc + 1) (ks + 12) 19 [some (.ref a0), some (.ref p1), some (va_rf p2), some (.ref b4), some (.int x8)] [.int x12] h11 Q
  refine cd_if_eq (tgt := 41) d_Str_init_LAbstractStringBuilderLVoidV_19 (by decide) (fun t13 => ?_) (fun t13 => ?_)
  · replace H := H.1 t13
    exact H.elim
  · replace H := H.2 t13
    refine cd_aload_n (i := 0) (v := .ref a0) d_Str_init_LAbstractStringBuilderLVoidV_22 rfl rfl (cd_isr_ref _) ?_
    show cd_W X m_Str_init_LAbstractStringBuilderLVoidV (kc + 1) (ks + 12) 23 [some (.ref a0), some (.ref p1), some (va_rf p2), some (.ref b4), some (.int x8)] [.ref a0] h11 Q
    refine cd_iconst (v := 0) d_Str_init_LAbstractStringBuilderLVoidV_23 (by decide) ?_
    obtain ⟨c14, H⟩ := H
    obtain ⟨c15, H⟩ := H
    refine cd_putI d_Str_init_LAbstractStringBuilderLVoidV_24 fp_Str_init_LAbstractStringBuilderLVoidV_15 (fun _ _ _ => rfl) c14 c15 rfl (by decide) ?_
    refine cd_aload_n (i := 0) (v := .ref a0) d_Str_init_LAbstractStringBuilderLVoidV_27 rfl rfl (cd_isr_ref _) ?_
    refine cd_aload_n (i := 3) (v := .ref b4) d_Str_init_LAbstractStringBuilderLVoidV_28 rfl rfl (cd_isr_ref _) ?_
    refine cd_iconst (v := 0) d_Str_init_LAbstractStringBuilderLVoidV_29 (by decide) ?_
    refine cd_iload (i := 4) d_Str_init_LAbstractStringBuilderLVoidV_30 rfl ?_
    refine cd_callS (kc := (kc + 0)) (ks := (ks + 0)) (kc' := 1) (ks' := 12) (As := [.ref b4, .int 0, .int x8]) (S := [.ref a0]) d_Str_init_LAbstractStringBuilderLVoidV_32 ca_Str_init_LAbstractStringBuilderLVoidV_54 rfl (Nat.le_of_ble_eq_true rfl) (Nat.le_of_ble_eq_true rfl) ?_
    refine cd_W.mono (fun r16 h17 H => ?_) H
    obtain ⟨b18, rfl, H⟩ := H
    show cd_W X m_Str_init_LAbstractStringBuilderLVoidV (kc + 0) (ks + 0) 35 [some (.ref a0), some (.ref p1), some (va_rf p2), some (.ref b4), some (.int x8)] [.ref b18, .ref a0] h17 Q
    obtain ⟨c19, H⟩ := H
    refine cd_putR (o := (some b18)) d_Str_init_LAbstractStringBuilderLVoidV_35 fp_Str_init_LAbstractStringBuilderLVoidV_9 (Or.inr ⟨_, rfl⟩) c19 c15 ?_
    show cd_W X m_Str_init_LAbstractStringBuilderLVoidV (kc + 0) (ks + 0) 38 [some (.ref a0), some (.ref p1), some (va_rf p2), some (.ref b4), some (.int x8)] [] (cd_sr h17 a0 0 (some b18)) Q
    refine cd_goto (tgt := 97) d_Str_init_LAbstractStringBuilderLVoidV_38 (by decide) ?_
    exact cd_vret d_Str_init_LAbstractStringBuilderLVoidV_97 rfl H

abbrev m_Str_init_LStringBuilderV : cd_M := (⟨"java/lang/String", "<init>", "(Ljava/lang/StringBuilder;)V"⟩, prog_21_method_53_code, 2, none, 5, 111)
theorem d_Str_init_LStringBuilderV_0 : decode prog_21_method_53_code 0 = .ok (.aload_n 0, 1) := by decide +kernel
theorem d_Str_init_LStringBuilderV_1 : decode prog_21_method_53_code 1 = .ok (.aload_n 1, 1) := by decide +kernel
theorem d_Str_init_LStringBuilderV_2 : decode prog_21_method_53_code 2 = .ok (.aconst_null, 1) := by decide +kernel
theorem d_Str_init_LStringBuilderV_3 : decode prog_21_method_53_code 3 = .ok (.invokespecial 489, 3) := by decide +kernel
theorem kw_3_160 : (Jvm.Cond.methodLink "java/lang/String" (489 : Nat) ({ cls := "java/lang/String", name := "<init>", desc := "(Ljava/lang/AbstractStringBuilder;Ljava/lang/Void;)V" } : Jvm.MethodName)) ∈ cd_tbl := tb_3 (List.mem_of_getElem? (i := 160) (by decide +kernel)) (by decide)
theorem kw_3_162 : (Jvm.Cond.code ({ cls := "java/lang/String", name := "<init>", desc := "(Ljava/lang/AbstractStringBuilder;Ljava/lang/Void;)V" } : Jvm.MethodName) prog_21_method_150_code (5 : Nat) (Option.none : Option Jvm.ClassFile.FieldType)) ∈ cd_tbl := tb_3 (List.mem_of_getElem? (i := 162) (by decide +kernel)) (by decide)
theorem kw_3_161 : (Jvm.Cond.instanceMethod ({ cls := "java/lang/String", name := "<init>", desc := "(Ljava/lang/AbstractStringBuilder;Ljava/lang/Void;)V" } : Jvm.MethodName)) ∈ cd_tbl := tb_3 (List.mem_of_getElem? (i := 161) (by decide +kernel)) (by decide)
theorem ca_Str_init_LStringBuilderV_489 {X : cd_E} : cd_CI X m_Str_init_LStringBuilderV m_Str_init_LAbstractStringBuilderLVoidV 489 2 := ⟨⟨by decide, kw_3_162, kw_1_14, ⟨by decide, by decide, by decide +kernel⟩, by decide, by decide⟩, rfl, rfl, kw_3_161, (Or.inl kw_3_160)⟩
theorem d_Str_init_LStringBuilderV_6 : decode prog_21_method_53_code 6 = .ok (.return_, 1) := by decide +kernel
theorem g_Str_init_LStringBuilderV {X : cd_E} {kc ks : Nat} {h : cd_H} {Q : Option Value → cd_H → Prop} {a0 : Nat} {p1 : Nat} (H : cd_W X m_Str_init_LAbstractStringBuilderLVoidV 1 12 0 [some (.ref a0), some (.ref p1), some (.null), none, none] [] h (fun r1 h2 => (r1 = none) ∧ (Q none h2))) : cd_W X m_Str_init_LStringBuilderV (kc + 1) (ks + 12) 0 [some (.ref a0), some (.ref p1)] [] h Q := by
  refine cd_aload_n (i := 0) (v := .ref a0) d_Str_init_LStringBuilderV_0 rfl rfl (cd_isr_ref _) ?_
  refine cd_aload_n (i := 1) (v := .ref p1) d_Str_init_LStringBuilderV_1 rfl rfl (cd_isr_ref _) ?_
  show cd_W X m_Str_init_LStringBuilderV (kc + 1) (ks + 12) 2 [some (.ref a0), some (.ref p1)] [.ref p1, .ref a0] h Q
  refine cd_null d_Str_init_LStringBuilderV_2 ?_
  refine cd_callI (kc := (kc + 0)) (ks := (ks + 0)) (kc' := 1) (ks' := 12) (As := [.ref p1, .null]) (S := []) d_Str_init_LStringBuilderV_3 ca_Str_init_LStringBuilderV_489 rfl (Nat.le_of_ble_eq_true rfl) (Nat.le_of_ble_eq_true rfl) ?_
  refine cd_W.mono (fun r1 h2 H => ?_) H
  obtain ⟨rfl, H⟩ := H
  show cd_W X m_Str_init_LStringBuilderV (kc + 0) (ks + 0) 6 [some (.ref a0), some (.ref p1)] [] h2 Q
  exact cd_vret d_Str_init_LStringBuilderV_6 rfl H

theorem d_SB_toString_0 : decode prog_22_method_42_code 0 = .ok (.new 18, 3) := by decide +kernel
theorem kw_3_155 : (Jvm.Cond.classLink "java/lang/StringBuilder" (18 : Nat) "java/lang/String") ∈ cd_tbl := tb_3 (List.mem_of_getElem? (i := 155) (by decide +kernel)) (by decide)
theorem nc_SB_18 : cd_NC "java/lang/StringBuilder" 18 13 4 := cd_NC.of cl_13 rfl kw_3_155
theorem d_SB_toString_3 : decode prog_22_method_42_code 3 = .ok (.dup, 1) := by decide +kernel
theorem d_SB_toString_4 : decode prog_22_method_42_code 4 = .ok (.aload_n 0, 1) := by decide +kernel
theorem d_SB_toString_5 : decode prog_22_method_42_code 5 = .ok (.invokespecial 137, 3) := by decide +kernel
theorem kw_3_157 : (Jvm.Cond.methodLink "java/lang/StringBuilder" (137 : Nat) ({ cls := "java/lang/String", name := "<init>", desc := "(Ljava/lang/StringBuilder;)V" } : Jvm.MethodName)) ∈ cd_tbl := tb_3 (List.mem_of_getElem? (i := 157) (by decide +kernel)) (by decide)
theorem kw_3_159 : (Jvm.Cond.code ({ cls := "java/lang/String", name := "<init>", desc := "(Ljava/lang/StringBuilder;)V" } : Jvm.MethodName) prog_21_method_53_code (2 : Nat) (Option.none : Option Jvm.ClassFile.FieldType)) ∈ cd_tbl := tb_3 (List.mem_of_getElem? (i := 159) (by decide +kernel)) (by decide)
theorem kw_3_158 : (Jvm.Cond.instanceMethod ({ cls := "java/lang/String", name := "<init>", desc := "(Ljava/lang/StringBuilder;)V" } : Jvm.MethodName)) ∈ cd_tbl := tb_3 (List.mem_of_getElem? (i := 158) (by decide +kernel)) (by decide)
theorem ca_SB_toString_137 {X : cd_E} : cd_CI X m_SB_toString m_Str_init_LStringBuilderV 137 1 := ⟨⟨by decide, kw_3_159, kw_1_14, ⟨by decide, by decide, by decide +kernel⟩, by decide, by decide⟩, rfl, rfl, kw_3_158, (Or.inl kw_3_157)⟩
theorem d_SB_toString_8 : decode prog_22_method_42_code 8 = .ok (.areturn, 1) := by decide +kernel
theorem g_SB_toString {X : cd_E} {kc ks : Nat} {h : cd_H} {Q : Option Value → cd_H → Prop} {a0 : Nat} (H : cd_W X m_Str_init_LStringBuilderV 1 12 0 [some (.ref (cd_n h)), some (.ref a0)] [] (cd_new h (.inl 13)) (fun r1 h2 => (r1 = none) ∧ (Q (some (.ref (cd_n h))) h2))) : cd_W X m_SB_toString (kc + 2) (ks + 16) 0 [some (.ref a0)] [] h Q := by
  refine cd_newo (n := 4) (kc := (kc + 1)) (ks := (ks + 12)) d_SB_toString_0 nc_SB_18 ?_
  refine cd_dup d_SB_toString_3 rfl ?_
  show cd_W X m_SB_toString (kc + 1) (ks + 12) 4 [some (.ref a0)] [.ref (cd_n h), .ref (cd_n h)] (cd_new h (.inl 13)) Q
  refine cd_aload_n (i := 0) (v := .ref a0) d_SB_toString_4 rfl rfl (cd_isr_ref _) ?_
  refine cd_callI (kc := (kc + 0)) (ks := (ks + 0)) (kc' := 1) (ks' := 12) (As := [.ref a0]) (S := [.ref (cd_n h)]) d_SB_toString_5 ca_SB_toString_137 rfl (Nat.le_of_ble_eq_true rfl) (Nat.le_of_ble_eq_true rfl) ?_
  refine cd_W.mono (fun r1 h2 H => ?_) H
  obtain ⟨rfl, H⟩ := H
  show cd_W X m_SB_toString (kc + 0) (ks + 0) 8 [some (.ref a0)] [.ref (cd_n h)] h2 Q
  exact cd_aret d_SB_toString_8 rfl (Or.inl ⟨_, rfl⟩) (cd_isr_ref _) H

abbrev m_Arr_fill : cd_M := (⟨"java/util/Arrays", "fill", "([II)V"⟩, prog_29_method_103_code, 4, none, 1, 20)
theorem d_Arr_fill_0 : decode prog_29_method_103_code 0 = .ok (.iconst 0, 1) := by decide +kernel
theorem d_Arr_fill_1 : decode prog_29_method_103_code 1 = .ok (.istore_n 2, 1) := by decide +kernel
theorem d_Arr_fill_2 : decode prog_29_method_103_code 2 = .ok (.aload_n 0, 1) := by decide +kernel
theorem d_Arr_fill_3 : decode prog_29_method_103_code 3 = .ok (.arraylength, 1) := by decide +kernel
theorem d_Arr_fill_4 : decode prog_29_method_103_code 4 = .ok (.istore_n 3, 1) := by decide +kernel
theorem g_Arr_fill {X : cd_E} {kc ks : Nat} {h : cd_H} {Q : Option Value → cd_H → Prop} {p1 : Nat} {p2 : Int32} (H : (∃ n1 : Nat, cd_k h p1 = some (.inr (0, n1)) ∧ (cd_W X m_Arr_fill kc ks 5 [some (.ref p1), some (.int p2), some (.int 0), some (.int (nI n1))] [] h Q))) : cd_W X m_Arr_fill kc ks 0 [some (.ref p1), some (.int p2), none, none] [] h Q := by
  refine cd_iconst (v := 0) d_Arr_fill_0 (by decide) ?_
  refine cd_istore_n (i := 2) d_Arr_fill_1 rfl (by decide) ?_
  show cd_W X m_Arr_fill kc ks 2 [some (.ref p1), some (.int p2), some (.int 0), none] [] h Q
  refine cd_aload_n (i := 0) (v := .ref p1) d_Arr_fill_2 rfl rfl (cd_isr_ref _) ?_
  show cd_W X m_Arr_fill kc ks 3 [some (.ref p1), some (.int p2), some (.int 0), none] [.ref p1] h Q
  obtain ⟨n1, c2, H⟩ := H
  refine cd_alen d_Arr_fill_3 rfl c2 ?_
  refine cd_istore_n (i := 3) d_Arr_fill_4 rfl (by decide) ?_
  show cd_W X m_Arr_fill kc ks 5 [some (.ref p1), some (.int p2), some (.int 0), some (.int (nI n1))] [] h Q
  exact H

theorem d_Arr_fill_5 : decode prog_29_method_103_code 5 = .ok (.iload_n 2, 1) := by decide +kernel
theorem d_Arr_fill_6 : decode prog_29_method_103_code 6 = .ok (.iload_n 3, 1) := by decide +kernel
theorem d_Arr_fill_7 : decode prog_29_method_103_code 7 = .ok (.if_icmp .ge 13, 3) := by decide +kernel
theorem d_Arr_fill_20 : decode prog_29_method_103_code 20 = .ok (.return_, 1) := by decide +kernel
theorem d_Arr_fill_10 : decode prog_29_method_103_code 10 = .ok (.aload_n 0, 1) := by decide +kernel
theorem d_Arr_fill_11 : decode prog_29_method_103_code 11 = .ok (.iload_n 2, 1) := by decide +kernel
theorem d_Arr_fill_12 : decode prog_29_method_103_code 12 = .ok (.iload_n 1, 1) := by decide +kernel
theorem d_Arr_fill_13 : decode prog_29_method_103_code 13 = .ok (.iastore, 1) := by decide +kernel
theorem d_Arr_fill_14 : decode prog_29_method_103_code 14 = .ok (.iinc 2 1, 3) := by decide +kernel
theorem d_Arr_fill_17 : decode prog_29_method_103_code 17 = .ok (.goto (-12), 3) := by decide +kernel
theorem g_Arr_fill_5 {X : cd_E} {kc ks : Nat} {h : cd_H} {Q : Option Value → cd_H → Prop} {v0 : Nat} {v1 v2 v3 : Int32} (H : (((v3 ≤ v2) → (Q none h)) ∧ ((¬ v3 ≤ v2) → ((∃ n2 : Nat, cd_k h v0 = some (.inr (0, n2)) ∧ ((64 ≤ v0) ∧ ((vp_in v2 n2) ∧ (cd_W X m_Arr_fill kc ks 5 [some (.ref v0), some (.int v1), some (.int (v2 + 1)), some (.int v3)] [] (cd_si h v0 v2.toNatClampNeg v1) Q)))))))) : cd_W X m_Arr_fill kc ks 5 [some (.ref v0), some (.int v1), some (.int v2), some (.int v3)] [] h Q := by
  refine cd_iload_n (i := 2) d_Arr_fill_5 rfl rfl ?_
  refine cd_iload_n (i := 3) d_Arr_fill_6 rfl rfl ?_
  refine cd_icmp_ge (tgt := 20) d_Arr_fill_7 (by decide) (fun t1 => ?_) (fun t1 => ?_)
  · replace H := H.1 t1
    exact cd_vret d_Arr_fill_20 rfl H
  · replace H := H.2 t1
    refine cd_aload_n (i := 0) (v := .ref v0) d_Arr_fill_10 rfl rfl (cd_isr_ref _) ?_
    show cd_W X m_Arr_fill kc ks 11 [some (.ref v0), some (.int v1), some (.int v2), some (.int v3)] [.ref v0] h Q
    refine cd_iload_n (i := 2) d_Arr_fill_11 rfl rfl ?_
    refine cd_iload_n (i := 1) d_Arr_fill_12 rfl rfl ?_
    obtain ⟨n2, c3, H⟩ := H
    obtain ⟨c4, H⟩ := H
    obtain ⟨c5, H⟩ := H
    refine cd_iasto (j := v2) d_Arr_fill_13 rfl c3 c4 c5 ?_
    refine cd_iinc (i := 2) (v := (v2 + 1)) d_Arr_fill_14 rfl (cd_inc1 _) (by decide) ?_
    show cd_W X m_Arr_fill kc ks 17 [some (.ref v0), some (.int v1), some (.int (v2 + 1)), some (.int v3)] [] (cd_si h v0 v2.toNatClampNeg v1) Q
    refine cd_goto (tgt := 5) d_Arr_fill_17 (by decide) ?_
    exact H

theorem d_Arr_copyOf_ALObjectILClassALObject_35 : decode prog_29_method_120_code 35 = .ok (.invokestatic 150, 3) := by decide +kernel
theorem d_Arr_copyOf_ALObjectILClassALObject_38 : decode prog_29_method_120_code 38 = .ok (.aload_n 3, 1) := by decide +kernel
theorem d_Arr_copyOf_ALObjectILClassALObject_39 : decode prog_29_method_120_code 39 = .ok (.areturn, 1) := by decide +kernel
theorem d_Arr_copyOfRangeByte_27 : decode prog_29_method_133_code 27 = .ok (.invokestatic 150, 3) := by decide +kernel
theorem d_Arr_copyOfRangeByte_30 : decode prog_29_method_133_code 30 = .ok (.aload 4, 2) := by decide +kernel
theorem d_Arr_copyOfRangeByte_32 : decode prog_29_method_133_code 32 = .ok (.areturn, 1) := by decide +kernel
theorem kw_2_224 : (Jvm.Cond.methodLink "java/util/Arrays" (150 : Nat) ({ cls := "java/lang/System", name := "arraycopy", desc := "(Ljava/lang/Object;ILjava/lang/Object;II)V" } : Jvm.MethodName)) ∈ cd_tbl := tb_2 (List.mem_of_getElem? (i := 224) (by decide +kernel)) (by decide)
theorem jw_link : Cond.methodLink "java/util/Arrays" 150 arraycopyName ∈ cd_tbl := kw_2_224
theorem kw_2_226 : (Jvm.Cond.native ({ cls := "java/lang/System", name := "arraycopy", desc := "(Ljava/lang/Object;ILjava/lang/Object;II)V" } : Jvm.MethodName)) ∈ cd_tbl := tb_2 (List.mem_of_getElem? (i := 226) (by decide +kernel)) (by decide)
theorem jw_nat : Cond.native arraycopyName ∈ cd_tbl := kw_2_226
theorem kw_2_225 : (Jvm.Cond.static ({ cls := "java/lang/System", name := "arraycopy", desc := "(Ljava/lang/Object;ILjava/lang/Object;II)V" } : Jvm.MethodName)) ∈ cd_tbl := tb_2 (List.mem_of_getElem? (i := 225) (by decide +kernel)) (by decide)
theorem jw_stat : Cond.static arraycopyName ∈ cd_tbl := kw_2_225
theorem kw_1_22 : (Jvm.Cond.initialized "java/lang/System") ∈ cd_tbl := tb_1 (List.mem_of_getElem? (i := 22) (by decide +kernel)) (by decide)
theorem jw_init : Cond.initialized "java/lang/System" ∈ cd_tbl := kw_1_22
theorem kw_2_165 : (Jvm.Cond.superclass "CertificateDesk$Account" "java/lang/Object") ∈ cd_tbl := tb_2 (List.mem_of_getElem? (i := 165) (by decide +kernel)) (by decide)
theorem kw_2_198 : (Jvm.Cond.sameMethod "java/lang/Object" "java/lang/Object" "getClass" "()Ljava/lang/Class;") ∈ cd_tbl := tb_2 (List.mem_of_getElem? (i := 198) (by decide +kernel)) (by decide)
theorem cs_1 {X : cd_E} : cd_CA X 1 "java/lang/Object" := cd_CAo rfl kw_2_165 kw_2_198
theorem kw_4_16 : (Jvm.Cond.superclass "CertificateDesk$Authorization" "java/lang/Object") ∈ cd_tbl := tb_4 (List.mem_of_getElem? (i := 16) (by decide +kernel)) (by decide)
theorem cs_2 {X : cd_E} : cd_CA X 2 "java/lang/Object" := cd_CAo rfl kw_4_16 kw_2_198
theorem kw_4_137 : (Jvm.Cond.superclass "CertificateDesk$Certificate" "java/lang/Object") ∈ cd_tbl := tb_4 (List.mem_of_getElem? (i := 137) (by decide +kernel)) (by decide)
theorem cs_3 {X : cd_E} : cd_CA X 3 "java/lang/Object" := cd_CAo rfl kw_4_137 kw_2_198
theorem kw_3_56 : (Jvm.Cond.superclass "CertificateDesk$Order" "java/lang/Object") ∈ cd_tbl := tb_3 (List.mem_of_getElem? (i := 56) (by decide +kernel)) (by decide)
theorem cs_8 {X : cd_E} : cd_CA X 8 "java/lang/Object" := cd_CAo rfl kw_3_56 kw_2_198
